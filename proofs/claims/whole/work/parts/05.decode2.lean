theorem dX10_advance_209 : decode cX10_advance 209 = .ok (.aload_n 0, 1) := by decide +kernel
theorem dX10_advance_210 : decode cX10_advance 210 = .ok (.dup, 1) := by decide +kernel
theorem dX10_advance_211 : decode cX10_advance 211 = .ok (.getfield 23, 3) := by decide +kernel
theorem dX10_advance_214 : decode cX10_advance 214 = .ok (.iconst 1, 1) := by decide +kernel
theorem dX10_advance_215 : decode cX10_advance 215 = .ok (.iadd, 1) := by decide +kernel
theorem dX10_advance_216 : decode cX10_advance 216 = .ok (.putfield 23, 3) := by decide +kernel
theorem dX10_advance_219 : decode cX10_advance 219 = .ok (.goto (-60), 3) := by decide +kernel
theorem dX10_advance_222 : decode cX10_advance 222 = .ok (.aload_n 0, 1) := by decide +kernel
theorem dX10_advance_223 : decode cX10_advance 223 = .ok (.getfield 23, 3) := by decide +kernel
theorem dX10_advance_226 : decode cX10_advance 226 = .ok (.aload_n 0, 1) := by decide +kernel
theorem dX10_advance_227 : decode cX10_advance 227 = .ok (.getfield 32, 3) := by decide +kernel
theorem dX10_advance_230 : decode cX10_advance 230 = .ok (.if_icmp .le 26, 3) := by decide +kernel
theorem dX10_advance_233 : decode cX10_advance 233 = .ok (.aload_n 0, 1) := by decide +kernel
theorem dX10_advance_234 : decode cX10_advance 234 = .ok (.aload_n 0, 1) := by decide +kernel
theorem dX10_advance_235 : decode cX10_advance 235 = .ok (.getfield 23, 3) := by decide +kernel
theorem dX10_advance_238 : decode cX10_advance 238 = .ok (.aload_n 0, 1) := by decide +kernel
theorem dX10_advance_239 : decode cX10_advance 239 = .ok (.getfield 32, 3) := by decide +kernel
theorem dX10_advance_242 : decode cX10_advance 242 = .ok (.isub, 1) := by decide +kernel
theorem dX10_advance_243 : decode cX10_advance 243 = .ok (.iconst 4, 1) := by decide +kernel
theorem dX10_advance_244 : decode cX10_advance 244 = .ok (.if_icmp .gt 7, 3) := by decide +kernel
theorem dX10_advance_247 : decode cX10_advance 247 = .ok (.iconst 2, 1) := by decide +kernel
theorem dX10_advance_248 : decode cX10_advance 248 = .ok (.goto 4, 3) := by decide +kernel
theorem dX10_advance_251 : decode cX10_advance 251 = .ok (.iconst 3, 1) := by decide +kernel
theorem dX10_advance_252 : decode cX10_advance 252 = .ok (.putfield 44, 3) := by decide +kernel
theorem dX10_advance_255 : decode cX10_advance 255 = .ok (.return_, 1) := by decide +kernel
theorem dX10_advance_256 : decode cX10_advance 256 = .ok (.aload_n 0, 1) := by decide +kernel
theorem dX10_advance_257 : decode cX10_advance 257 = .ok (.aload_n 0, 1) := by decide +kernel
theorem dX10_advance_258 : decode cX10_advance 258 = .ok (.getfield 23, 3) := by decide +kernel
theorem dX10_advance_261 : decode cX10_advance 261 = .ok (.aload_n 0, 1) := by decide +kernel
theorem dX10_advance_262 : decode cX10_advance 262 = .ok (.getfield 15, 3) := by decide +kernel
theorem dX10_advance_265 : decode cX10_advance 265 = .ok (.if_icmp .ge 18, 3) := by decide +kernel
theorem dX10_advance_268 : decode cX10_advance 268 = .ok (.aload_n 0, 1) := by decide +kernel
theorem dX10_advance_269 : decode cX10_advance 269 = .ok (.getfield 9, 3) := by decide +kernel
theorem dX10_advance_272 : decode cX10_advance 272 = .ok (.aload_n 0, 1) := by decide +kernel
theorem dX10_advance_273 : decode cX10_advance 273 = .ok (.getfield 23, 3) := by decide +kernel
theorem dX10_advance_276 : decode cX10_advance 276 = .ok (.baload, 1) := by decide +kernel
theorem dX10_advance_277 : decode cX10_advance 277 = .ok (.invokestatic 53, 3) := by decide +kernel
theorem dX10_advance_280 : decode cX10_advance 280 = .ok (.goto 4, 3) := by decide +kernel
theorem dX10_advance_283 : decode cX10_advance 283 = .ok (.iconst 0, 1) := by decide +kernel
theorem dX10_advance_284 : decode cX10_advance 284 = .ok (.putfield 44, 3) := by decide +kernel
theorem dX10_advance_287 : decode cX10_advance 287 = .ok (.aload_n 0, 1) := by decide +kernel
theorem dX10_advance_288 : decode cX10_advance 288 = .ok (.aload_n 0, 1) := by decide +kernel
theorem dX10_advance_289 : decode cX10_advance 289 = .ok (.getfield 23, 3) := by decide +kernel
theorem dX10_advance_292 : decode cX10_advance 292 = .ok (.iconst 1, 1) := by decide +kernel
theorem dX10_advance_293 : decode cX10_advance 293 = .ok (.iadd, 1) := by decide +kernel
theorem dX10_advance_294 : decode cX10_advance 294 = .ok (.aload_n 0, 1) := by decide +kernel
theorem dX10_advance_295 : decode cX10_advance 295 = .ok (.getfield 15, 3) := by decide +kernel
theorem dX10_advance_298 : decode cX10_advance 298 = .ok (.invokestatic 57, 3) := by decide +kernel
theorem dX10_advance_301 : decode cX10_advance 301 = .ok (.putfield 23, 3) := by decide +kernel
theorem dX10_advance_304 : decode cX10_advance 304 = .ok (.return_, 1) := by decide +kernel
theorem dX10_isWord_0 : decode cX10_isWord 0 = .ok (.aload_n 0, 1) := by decide +kernel
theorem dX10_isWord_1 : decode cX10_isWord 1 = .ok (.getfield 23, 3) := by decide +kernel
theorem dX10_isWord_4 : decode cX10_isWord 4 = .ok (.aload_n 0, 1) := by decide +kernel
theorem dX10_isWord_5 : decode cX10_isWord 5 = .ok (.getfield 32, 3) := by decide +kernel
theorem dX10_isWord_8 : decode cX10_isWord 8 = .ok (.isub, 1) := by decide +kernel
theorem dX10_isWord_9 : decode cX10_isWord 9 = .ok (.istore_n 2, 1) := by decide +kernel
theorem dX10_isWord_10 : decode cX10_isWord 10 = .ok (.aload_n 0, 1) := by decide +kernel
theorem dX10_isWord_11 : decode cX10_isWord 11 = .ok (.getfield 44, 3) := by decide +kernel
theorem dX10_isWord_14 : decode cX10_isWord 14 = .ok (.iconst 1, 1) := by decide +kernel
theorem dX10_isWord_15 : decode cX10_isWord 15 = .ok (.if_icmp .ne 11, 3) := by decide +kernel
theorem dX10_isWord_18 : decode cX10_isWord 18 = .ok (.aload_n 1, 1) := by decide +kernel
theorem dX10_isWord_19 : decode cX10_isWord 19 = .ok (.invokevirtual 63, 3) := by decide +kernel
theorem dX10_isWord_22 : decode cX10_isWord 22 = .ok (.iload_n 2, 1) := by decide +kernel
theorem dX10_isWord_23 : decode cX10_isWord 23 = .ok (.if_icmp .eq 5, 3) := by decide +kernel
theorem dX10_isWord_26 : decode cX10_isWord 26 = .ok (.iconst 0, 1) := by decide +kernel
theorem dX10_isWord_27 : decode cX10_isWord 27 = .ok (.ireturn, 1) := by decide +kernel
theorem dX10_isWord_28 : decode cX10_isWord 28 = .ok (.iconst 0, 1) := by decide +kernel
theorem dX10_isWord_29 : decode cX10_isWord 29 = .ok (.istore_n 3, 1) := by decide +kernel
theorem dX10_isWord_30 : decode cX10_isWord 30 = .ok (.iload_n 3, 1) := by decide +kernel
theorem dX10_isWord_31 : decode cX10_isWord 31 = .ok (.iload_n 2, 1) := by decide +kernel
theorem dX10_isWord_32 : decode cX10_isWord 32 = .ok (.if_icmp .ge 30, 3) := by decide +kernel
theorem dX10_isWord_35 : decode cX10_isWord 35 = .ok (.aload_n 0, 1) := by decide +kernel
theorem dX10_isWord_36 : decode cX10_isWord 36 = .ok (.getfield 9, 3) := by decide +kernel
theorem dX10_isWord_39 : decode cX10_isWord 39 = .ok (.aload_n 0, 1) := by decide +kernel
theorem dX10_isWord_40 : decode cX10_isWord 40 = .ok (.getfield 32, 3) := by decide +kernel
theorem dX10_isWord_43 : decode cX10_isWord 43 = .ok (.iload_n 3, 1) := by decide +kernel
theorem dX10_isWord_44 : decode cX10_isWord 44 = .ok (.iadd, 1) := by decide +kernel
theorem dX10_isWord_45 : decode cX10_isWord 45 = .ok (.baload, 1) := by decide +kernel
theorem dX10_isWord_46 : decode cX10_isWord 46 = .ok (.aload_n 1, 1) := by decide +kernel
theorem dX10_isWord_47 : decode cX10_isWord 47 = .ok (.iload_n 3, 1) := by decide +kernel
theorem dX10_isWord_48 : decode cX10_isWord 48 = .ok (.invokevirtual 69, 3) := by decide +kernel
theorem dX10_isWord_51 : decode cX10_isWord 51 = .ok (.if_icmp .eq 5, 3) := by decide +kernel
theorem dX10_isWord_54 : decode cX10_isWord 54 = .ok (.iconst 0, 1) := by decide +kernel
theorem dX10_isWord_55 : decode cX10_isWord 55 = .ok (.ireturn, 1) := by decide +kernel
theorem dX10_isWord_56 : decode cX10_isWord 56 = .ok (.iinc 3 1, 3) := by decide +kernel
theorem dX10_isWord_59 : decode cX10_isWord 59 = .ok (.goto (-29), 3) := by decide +kernel
theorem dX10_isWord_62 : decode cX10_isWord 62 = .ok (.iconst 1, 1) := by decide +kernel
theorem dX10_isWord_63 : decode cX10_isWord 63 = .ok (.ireturn, 1) := by decide +kernel
theorem dX10_ownKind_0 : decode cX10_ownKind 0 = .ok (.iload_n 0, 1) := by decide +kernel
theorem dX10_ownKind_1 : decode cX10_ownKind 1 = .ok (.tableswitch 105 40 61 #[103, 103, 103, 103, 105, 103, 105, 105, 105, 105, 105, 105, 105, 105, 105, 105, 105, 105, 105, 103, 103, 103], 103) := by decide +kernel
theorem dX10_ownKind_104 : decode cX10_ownKind 104 = .ok (.iload_n 0, 1) := by decide +kernel
theorem dX10_ownKind_105 : decode cX10_ownKind 105 = .ok (.ireturn, 1) := by decide +kernel
theorem dX10_ownKind_106 : decode cX10_ownKind 106 = .ok (.iconst 3, 1) := by decide +kernel
theorem dX10_ownKind_107 : decode cX10_ownKind 107 = .ok (.ireturn, 1) := by decide +kernel
theorem dX10_isSign_0 : decode cX10_isSign 0 = .ok (.iload_n 0, 1) := by decide +kernel
theorem dX10_isSign_1 : decode cX10_isSign 1 = .ok (.bipush 10, 2) := by decide +kernel
theorem dX10_isSign_3 : decode cX10_isSign 3 = .ok (.if_icmp .eq 15, 3) := by decide +kernel
theorem dX10_isSign_6 : decode cX10_isSign 6 = .ok (.iload_n 0, 1) := by decide +kernel
theorem dX10_isSign_7 : decode cX10_isSign 7 = .ok (.bipush 32, 2) := by decide +kernel
theorem dX10_isSign_9 : decode cX10_isSign 9 = .ok (.if_icmp .lt 13, 3) := by decide +kernel
theorem dX10_isSign_12 : decode cX10_isSign 12 = .ok (.iload_n 0, 1) := by decide +kernel
theorem dX10_isSign_13 : decode cX10_isSign 13 = .ok (.bipush 126, 2) := by decide +kernel
theorem dX10_isSign_15 : decode cX10_isSign 15 = .ok (.if_icmp .gt 7, 3) := by decide +kernel
theorem dX10_isSign_18 : decode cX10_isSign 18 = .ok (.iconst 1, 1) := by decide +kernel
theorem dX10_isSign_19 : decode cX10_isSign 19 = .ok (.goto 4, 3) := by decide +kernel
theorem dX10_isSign_22 : decode cX10_isSign 22 = .ok (.iconst 0, 1) := by decide +kernel
theorem dX10_isSign_23 : decode cX10_isSign 23 = .ok (.ireturn, 1) := by decide +kernel
theorem dX10_isBlank_0 : decode cX10_isBlank 0 = .ok (.iload_n 0, 1) := by decide +kernel
theorem dX10_isBlank_1 : decode cX10_isBlank 1 = .ok (.bipush 10, 2) := by decide +kernel
theorem dX10_isBlank_3 : decode cX10_isBlank 3 = .ok (.if_icmp .eq 9, 3) := by decide +kernel
theorem dX10_isBlank_6 : decode cX10_isBlank 6 = .ok (.iload_n 0, 1) := by decide +kernel
theorem dX10_isBlank_7 : decode cX10_isBlank 7 = .ok (.bipush 32, 2) := by decide +kernel
theorem dX10_isBlank_9 : decode cX10_isBlank 9 = .ok (.if_icmp .ne 7, 3) := by decide +kernel
theorem dX10_isBlank_12 : decode cX10_isBlank 12 = .ok (.iconst 1, 1) := by decide +kernel
theorem dX10_isBlank_13 : decode cX10_isBlank 13 = .ok (.goto 4, 3) := by decide +kernel
theorem dX10_isBlank_16 : decode cX10_isBlank 16 = .ok (.iconst 0, 1) := by decide +kernel
theorem dX10_isBlank_17 : decode cX10_isBlank 17 = .ok (.ireturn, 1) := by decide +kernel
theorem dX10_isLetter_0 : decode cX10_isLetter 0 = .ok (.iload_n 0, 1) := by decide +kernel
theorem dX10_isLetter_1 : decode cX10_isLetter 1 = .ok (.bipush 97, 2) := by decide +kernel
theorem dX10_isLetter_3 : decode cX10_isLetter 3 = .ok (.if_icmp .lt 13, 3) := by decide +kernel
theorem dX10_isLetter_6 : decode cX10_isLetter 6 = .ok (.iload_n 0, 1) := by decide +kernel
theorem dX10_isLetter_7 : decode cX10_isLetter 7 = .ok (.bipush 122, 2) := by decide +kernel
theorem dX10_isLetter_9 : decode cX10_isLetter 9 = .ok (.if_icmp .gt 7, 3) := by decide +kernel
theorem dX10_isLetter_12 : decode cX10_isLetter 12 = .ok (.iconst 1, 1) := by decide +kernel
theorem dX10_isLetter_13 : decode cX10_isLetter 13 = .ok (.goto 4, 3) := by decide +kernel
theorem dX10_isLetter_16 : decode cX10_isLetter 16 = .ok (.iconst 0, 1) := by decide +kernel
theorem dX10_isLetter_17 : decode cX10_isLetter 17 = .ok (.ireturn, 1) := by decide +kernel
theorem dX10_isDigit_0 : decode cX10_isDigit 0 = .ok (.iload_n 0, 1) := by decide +kernel
theorem dX10_isDigit_1 : decode cX10_isDigit 1 = .ok (.bipush 48, 2) := by decide +kernel
theorem dX10_isDigit_3 : decode cX10_isDigit 3 = .ok (.if_icmp .lt 13, 3) := by decide +kernel
theorem dX10_isDigit_6 : decode cX10_isDigit 6 = .ok (.iload_n 0, 1) := by decide +kernel
theorem dX10_isDigit_7 : decode cX10_isDigit 7 = .ok (.bipush 57, 2) := by decide +kernel
theorem dX10_isDigit_9 : decode cX10_isDigit 9 = .ok (.if_icmp .gt 7, 3) := by decide +kernel
theorem dX10_isDigit_12 : decode cX10_isDigit 12 = .ok (.iconst 1, 1) := by decide +kernel
theorem dX10_isDigit_13 : decode cX10_isDigit 13 = .ok (.goto 4, 3) := by decide +kernel
theorem dX10_isDigit_16 : decode cX10_isDigit 16 = .ok (.iconst 0, 1) := by decide +kernel
theorem dX10_isDigit_17 : decode cX10_isDigit 17 = .ok (.ireturn, 1) := by decide +kernel
theorem dX11_init_0 : decode cX11_init 0 = .ok (.aload_n 0, 1) := by decide +kernel
theorem dX11_init_1 : decode cX11_init 1 = .ok (.invokespecial 1, 3) := by decide +kernel
theorem dX11_init_4 : decode cX11_init 4 = .ok (.aload_n 0, 1) := by decide +kernel
theorem dX11_init_5 : decode cX11_init 5 = .ok (.new 7, 3) := by decide +kernel
theorem dX11_init_8 : decode cX11_init 8 = .ok (.dup, 1) := by decide +kernel
theorem dX11_init_9 : decode cX11_init 9 = .ok (.invokespecial 9, 3) := by decide +kernel
theorem dX11_init_12 : decode cX11_init 12 = .ok (.putfield 10, 3) := by decide +kernel
theorem dX11_init_15 : decode cX11_init 15 = .ok (.aload_n 0, 1) := by decide +kernel
theorem dX11_init_16 : decode cX11_init 16 = .ok (.new 16, 3) := by decide +kernel
theorem dX11_init_19 : decode cX11_init 19 = .ok (.dup, 1) := by decide +kernel
theorem dX11_init_20 : decode cX11_init 20 = .ok (.aload_n 0, 1) := by decide +kernel
theorem dX11_init_21 : decode cX11_init 21 = .ok (.getfield 10, 3) := by decide +kernel
theorem dX11_init_24 : decode cX11_init 24 = .ok (.invokespecial 18, 3) := by decide +kernel
theorem dX11_init_27 : decode cX11_init 27 = .ok (.putfield 21, 3) := by decide +kernel
theorem dX11_init_30 : decode cX11_init 30 = .ok (.aload_n 0, 1) := by decide +kernel
theorem dX11_init_31 : decode cX11_init 31 = .ok (.new 25, 3) := by decide +kernel
theorem dX11_init_34 : decode cX11_init 34 = .ok (.dup, 1) := by decide +kernel
theorem dX11_init_35 : decode cX11_init 35 = .ok (.invokespecial 27, 3) := by decide +kernel
theorem dX11_init_38 : decode cX11_init 38 = .ok (.putfield 28, 3) := by decide +kernel
theorem dX11_init_41 : decode cX11_init 41 = .ok (.aload_n 0, 1) := by decide +kernel
theorem dX11_init_42 : decode cX11_init 42 = .ok (.new 32, 3) := by decide +kernel
theorem dX11_init_45 : decode cX11_init 45 = .ok (.dup, 1) := by decide +kernel
theorem dX11_init_46 : decode cX11_init 46 = .ok (.aload_n 0, 1) := by decide +kernel
theorem dX11_init_47 : decode cX11_init 47 = .ok (.getfield 28, 3) := by decide +kernel
theorem dX11_init_50 : decode cX11_init 50 = .ok (.invokespecial 34, 3) := by decide +kernel
theorem dX11_init_53 : decode cX11_init 53 = .ok (.putfield 37, 3) := by decide +kernel
theorem dX11_init_56 : decode cX11_init 56 = .ok (.aload_n 0, 1) := by decide +kernel
theorem dX11_init_57 : decode cX11_init 57 = .ok (.iconst 4, 1) := by decide +kernel
theorem dX11_init_58 : decode cX11_init 58 = .ok (.anewarray 32, 3) := by decide +kernel
theorem dX11_init_61 : decode cX11_init 61 = .ok (.putfield 41, 3) := by decide +kernel
theorem dX11_init_64 : decode cX11_init 64 = .ok (.aload_n 0, 1) := by decide +kernel
theorem dX11_init_65 : decode cX11_init 65 = .ok (.new 45, 3) := by decide +kernel
theorem dX11_init_68 : decode cX11_init 68 = .ok (.dup, 1) := by decide +kernel
theorem dX11_init_69 : decode cX11_init 69 = .ok (.invokespecial 47, 3) := by decide +kernel
theorem dX11_init_72 : decode cX11_init 72 = .ok (.putfield 48, 3) := by decide +kernel
theorem dX11_init_75 : decode cX11_init 75 = .ok (.aload_n 0, 1) := by decide +kernel
theorem dX11_init_76 : decode cX11_init 76 = .ok (.new 52, 3) := by decide +kernel
theorem dX11_init_79 : decode cX11_init 79 = .ok (.dup, 1) := by decide +kernel
theorem dX11_init_80 : decode cX11_init 80 = .ok (.invokespecial 54, 3) := by decide +kernel
theorem dX11_init_83 : decode cX11_init 83 = .ok (.putfield 55, 3) := by decide +kernel
theorem dX11_init_86 : decode cX11_init 86 = .ok (.aload_n 0, 1) := by decide +kernel
theorem dX11_init_87 : decode cX11_init 87 = .ok (.bipush 7, 2) := by decide +kernel
theorem dX11_init_89 : decode cX11_init 89 = .ok (.newarray .int, 2) := by decide +kernel
theorem dX11_init_91 : decode cX11_init 91 = .ok (.putfield 59, 3) := by decide +kernel
theorem dX11_init_94 : decode cX11_init 94 = .ok (.aload_n 0, 1) := by decide +kernel
theorem dX11_init_95 : decode cX11_init 95 = .ok (.sipush 1024, 3) := by decide +kernel
theorem dX11_init_98 : decode cX11_init 98 = .ok (.newarray .int, 2) := by decide +kernel
theorem dX11_init_100 : decode cX11_init 100 = .ok (.putfield 63, 3) := by decide +kernel
theorem dX11_init_103 : decode cX11_init 103 = .ok (.aload_n 0, 1) := by decide +kernel
theorem dX11_init_104 : decode cX11_init 104 = .ok (.new 66, 3) := by decide +kernel
theorem dX11_init_107 : decode cX11_init 107 = .ok (.dup, 1) := by decide +kernel
theorem dX11_init_108 : decode cX11_init 108 = .ok (.invokespecial 68, 3) := by decide +kernel
theorem dX11_init_111 : decode cX11_init 111 = .ok (.putfield 69, 3) := by decide +kernel
theorem dX11_init_114 : decode cX11_init 114 = .ok (.aload_n 0, 1) := by decide +kernel
theorem dX11_init_115 : decode cX11_init 115 = .ok (.new 66, 3) := by decide +kernel
theorem dX11_init_118 : decode cX11_init 118 = .ok (.dup, 1) := by decide +kernel
theorem dX11_init_119 : decode cX11_init 119 = .ok (.invokespecial 68, 3) := by decide +kernel
theorem dX11_init_122 : decode cX11_init 122 = .ok (.putfield 73, 3) := by decide +kernel
theorem dX11_init_125 : decode cX11_init 125 = .ok (.return_, 1) := by decide +kernel
theorem dX11_feed_0 : decode cX11_feed 0 = .ok (.aload_n 0, 1) := by decide +kernel
theorem dX11_feed_1 : decode cX11_feed 1 = .ok (.getfield 10, 3) := by decide +kernel
theorem dX11_feed_4 : decode cX11_feed 4 = .ok (.lload_n 1, 1) := by decide +kernel
theorem dX11_feed_5 : decode cX11_feed 5 = .ok (.invokevirtual 76, 3) := by decide +kernel
theorem dX11_feed_8 : decode cX11_feed 8 = .ok (.aload_n 0, 1) := by decide +kernel
theorem dX11_feed_9 : decode cX11_feed 9 = .ok (.getfield 10, 3) := by decide +kernel
theorem dX11_feed_12 : decode cX11_feed 12 = .ok (.lload_n 3, 1) := by decide +kernel
theorem dX11_feed_13 : decode cX11_feed 13 = .ok (.invokevirtual 76, 3) := by decide +kernel
theorem dX11_feed_16 : decode cX11_feed 16 = .ok (.aload_n 0, 1) := by decide +kernel
theorem dX11_feed_17 : decode cX11_feed 17 = .ok (.getfield 10, 3) := by decide +kernel
theorem dX11_feed_20 : decode cX11_feed 20 = .ok (.lload 5, 2) := by decide +kernel
theorem dX11_feed_22 : decode cX11_feed 22 = .ok (.invokevirtual 76, 3) := by decide +kernel
theorem dX11_feed_25 : decode cX11_feed 25 = .ok (.aload_n 0, 1) := by decide +kernel
theorem dX11_feed_26 : decode cX11_feed 26 = .ok (.getfield 10, 3) := by decide +kernel
theorem dX11_feed_29 : decode cX11_feed 29 = .ok (.invokevirtual 80, 3) := by decide +kernel
theorem dX11_feed_32 : decode cX11_feed 32 = .ok (.ireturn, 1) := by decide +kernel
theorem dX11_inn_0 : decode cX11_inn 0 = .ok (.aload_n 0, 1) := by decide +kernel
theorem dX11_inn_1 : decode cX11_inn 1 = .ok (.getfield 21, 3) := by decide +kernel
theorem dX11_inn_4 : decode cX11_inn 4 = .ok (.aload_n 0, 1) := by decide +kernel
theorem dX11_inn_5 : decode cX11_inn 5 = .ok (.getfield 73, 3) := by decide +kernel
theorem dX11_inn_8 : decode cX11_inn 8 = .ok (.invokevirtual 84, 3) := by decide +kernel
theorem dX11_inn_11 : decode cX11_inn 11 = .ok (.istore_n 1, 1) := by decide +kernel
theorem dX11_inn_12 : decode cX11_inn 12 = .ok (.aload_n 0, 1) := by decide +kernel
theorem dX11_inn_13 : decode cX11_inn 13 = .ok (.getfield 10, 3) := by decide +kernel
theorem dX11_inn_16 : decode cX11_inn 16 = .ok (.invokevirtual 88, 3) := by decide +kernel
theorem dX11_inn_19 : decode cX11_inn 19 = .ok (.iload_n 1, 1) := by decide +kernel
theorem dX11_inn_20 : decode cX11_inn 20 = .ok (.ifCond .eq 5, 3) := by decide +kernel
theorem dX11_inn_23 : decode cX11_inn 23 = .ok (.iload_n 1, 1) := by decide +kernel
theorem dX11_inn_24 : decode cX11_inn 24 = .ok (.ireturn, 1) := by decide +kernel
theorem dX11_inn_25 : decode cX11_inn 25 = .ok (.aload_n 0, 1) := by decide +kernel
theorem dX11_inn_26 : decode cX11_inn 26 = .ok (.getfield 69, 3) := by decide +kernel
theorem dX11_inn_29 : decode cX11_inn 29 = .ok (.astore_n 2, 1) := by decide +kernel
theorem dX11_inn_30 : decode cX11_inn 30 = .ok (.aload_n 0, 1) := by decide +kernel
theorem dX11_inn_31 : decode cX11_inn 31 = .ok (.aload_n 0, 1) := by decide +kernel
theorem dX11_inn_32 : decode cX11_inn 32 = .ok (.getfield 73, 3) := by decide +kernel
theorem dX11_inn_35 : decode cX11_inn 35 = .ok (.putfield 69, 3) := by decide +kernel
theorem dX11_inn_38 : decode cX11_inn 38 = .ok (.aload_n 0, 1) := by decide +kernel
theorem dX11_inn_39 : decode cX11_inn 39 = .ok (.aload_n 2, 1) := by decide +kernel
theorem dX11_inn_40 : decode cX11_inn 40 = .ok (.putfield 73, 3) := by decide +kernel
theorem dX11_inn_43 : decode cX11_inn 43 = .ok (.aload_n 0, 1) := by decide +kernel
theorem dX11_inn_44 : decode cX11_inn 44 = .ok (.getfield 37, 3) := by decide +kernel
theorem dX11_inn_47 : decode cX11_inn 47 = .ok (.aload_n 0, 1) := by decide +kernel
theorem dX11_inn_48 : decode cX11_inn 48 = .ok (.getfield 69, 3) := by decide +kernel
theorem dX11_inn_51 : decode cX11_inn 51 = .ok (.getfield 91, 3) := by decide +kernel
theorem dX11_inn_54 : decode cX11_inn 54 = .ok (.ifCond .le 7, 3) := by decide +kernel
theorem dX11_inn_57 : decode cX11_inn 57 = .ok (.iconst 0, 1) := by decide +kernel
theorem dX11_inn_58 : decode cX11_inn 58 = .ok (.goto 4, 3) := by decide +kernel
theorem dX11_inn_61 : decode cX11_inn 61 = .ok (.iconst (-1), 1) := by decide +kernel
theorem dX11_inn_62 : decode cX11_inn 62 = .ok (.invokevirtual 95, 3) := by decide +kernel
theorem dX11_inn_65 : decode cX11_inn 65 = .ok (.aload_n 0, 1) := by decide +kernel
theorem dX11_inn_66 : decode cX11_inn 66 = .ok (.iconst 0, 1) := by decide +kernel
theorem dX11_inn_67 : decode cX11_inn 67 = .ok (.putfield 99, 3) := by decide +kernel
theorem dX11_inn_70 : decode cX11_inn 70 = .ok (.iconst 0, 1) := by decide +kernel
theorem dX11_inn_71 : decode cX11_inn 71 = .ok (.ireturn, 1) := by decide +kernel
theorem dX11_room_0 : decode cX11_room 0 = .ok (.aload_n 0, 1) := by decide +kernel
theorem dX11_room_1 : decode cX11_room 1 = .ok (.iload_n 1, 1) := by decide +kernel
theorem dX11_room_2 : decode cX11_room 2 = .ok (.invokevirtual 102, 3) := by decide +kernel
theorem dX11_room_5 : decode cX11_room 5 = .ok (.ifCond .ne 5, 3) := by decide +kernel
theorem dX11_room_8 : decode cX11_room 8 = .ok (.iconst (-1), 1) := by decide +kernel
theorem dX11_room_9 : decode cX11_room 9 = .ok (.ireturn, 1) := by decide +kernel
theorem dX11_room_10 : decode cX11_room 10 = .ok (.iload_n 2, 1) := by decide +kernel
theorem dX11_room_11 : decode cX11_room 11 = .ok (.tableswitch 58 0 2 #[25, 35, 45], 25) := by decide +kernel
theorem dX11_room_36 : decode cX11_room 36 = .ok (.aload_n 0, 1) := by decide +kernel
theorem dX11_room_37 : decode cX11_room 37 = .ok (.getfield 69, 3) := by decide +kernel
theorem dX11_room_40 : decode cX11_room 40 = .ok (.getfield 106, 3) := by decide +kernel
theorem dX11_room_43 : decode cX11_room 43 = .ok (.iload_n 1, 1) := by decide +kernel
theorem dX11_room_44 : decode cX11_room 44 = .ok (.iaload, 1) := by decide +kernel
theorem dX11_room_45 : decode cX11_room 45 = .ok (.ireturn, 1) := by decide +kernel
theorem dX11_room_46 : decode cX11_room 46 = .ok (.aload_n 0, 1) := by decide +kernel
theorem dX11_room_47 : decode cX11_room 47 = .ok (.getfield 69, 3) := by decide +kernel
theorem dX11_room_50 : decode cX11_room 50 = .ok (.getfield 109, 3) := by decide +kernel
theorem dX11_room_53 : decode cX11_room 53 = .ok (.iload_n 1, 1) := by decide +kernel
theorem dX11_room_54 : decode cX11_room 54 = .ok (.iaload, 1) := by decide +kernel
theorem dX11_room_55 : decode cX11_room 55 = .ok (.ireturn, 1) := by decide +kernel
theorem dX11_room_56 : decode cX11_room 56 = .ok (.aload_n 0, 1) := by decide +kernel
theorem dX11_room_57 : decode cX11_room 57 = .ok (.getfield 37, 3) := by decide +kernel
theorem dX11_room_60 : decode cX11_room 60 = .ok (.getfield 112, 3) := by decide +kernel
theorem dX11_room_63 : decode cX11_room 63 = .ok (.getfield 115, 3) := by decide +kernel
theorem dX11_room_66 : decode cX11_room 66 = .ok (.iload_n 1, 1) := by decide +kernel
theorem dX11_room_67 : decode cX11_room 67 = .ok (.iaload, 1) := by decide +kernel
theorem dX11_room_68 : decode cX11_room 68 = .ok (.ireturn, 1) := by decide +kernel
theorem dX11_room_69 : decode cX11_room 69 = .ok (.iconst (-1), 1) := by decide +kernel
theorem dX11_room_70 : decode cX11_room 70 = .ok (.ireturn, 1) := by decide +kernel
theorem dX11_guest_0 : decode cX11_guest 0 = .ok (.aload_n 0, 1) := by decide +kernel
theorem dX11_guest_1 : decode cX11_guest 1 = .ok (.iload_n 1, 1) := by decide +kernel
theorem dX11_guest_2 : decode cX11_guest 2 = .ok (.invokevirtual 118, 3) := by decide +kernel
theorem dX11_guest_5 : decode cX11_guest 5 = .ok (.ifCond .ne 5, 3) := by decide +kernel
theorem dX11_guest_8 : decode cX11_guest 8 = .ok (.iconst (-1), 1) := by decide +kernel
theorem dX11_guest_9 : decode cX11_guest 9 = .ok (.ireturn, 1) := by decide +kernel
theorem dX11_guest_10 : decode cX11_guest 10 = .ok (.iload_n 2, 1) := by decide +kernel
theorem dX11_guest_11 : decode cX11_guest 11 = .ok (.tableswitch 110 0 5 #[37, 47, 59, 71, 84, 97], 37) := by decide +kernel
theorem dX11_guest_48 : decode cX11_guest 48 = .ok (.aload_n 0, 1) := by decide +kernel
theorem dX11_guest_49 : decode cX11_guest 49 = .ok (.getfield 69, 3) := by decide +kernel
theorem dX11_guest_52 : decode cX11_guest 52 = .ok (.getfield 121, 3) := by decide +kernel
theorem dX11_guest_55 : decode cX11_guest 55 = .ok (.iload_n 1, 1) := by decide +kernel
theorem dX11_guest_56 : decode cX11_guest 56 = .ok (.iaload, 1) := by decide +kernel
theorem dX11_guest_57 : decode cX11_guest 57 = .ok (.ireturn, 1) := by decide +kernel
theorem dX11_guest_58 : decode cX11_guest 58 = .ok (.aload_n 0, 1) := by decide +kernel
theorem dX11_guest_59 : decode cX11_guest 59 = .ok (.getfield 69, 3) := by decide +kernel
theorem dX11_guest_62 : decode cX11_guest 62 = .ok (.getfield 124, 3) := by decide +kernel
theorem dX11_guest_65 : decode cX11_guest 65 = .ok (.iload_n 1, 1) := by decide +kernel
theorem dX11_guest_66 : decode cX11_guest 66 = .ok (.invokestatic 127, 3) := by decide +kernel
theorem dX11_guest_69 : decode cX11_guest 69 = .ok (.ireturn, 1) := by decide +kernel
theorem dX11_guest_70 : decode cX11_guest 70 = .ok (.aload_n 0, 1) := by decide +kernel
theorem dX11_guest_71 : decode cX11_guest 71 = .ok (.getfield 69, 3) := by decide +kernel
theorem dX11_guest_74 : decode cX11_guest 74 = .ok (.getfield 131, 3) := by decide +kernel
theorem dX11_guest_77 : decode cX11_guest 77 = .ok (.iload_n 1, 1) := by decide +kernel
theorem dX11_guest_78 : decode cX11_guest 78 = .ok (.invokestatic 127, 3) := by decide +kernel
theorem dX11_guest_81 : decode cX11_guest 81 = .ok (.ireturn, 1) := by decide +kernel
theorem dX11_guest_82 : decode cX11_guest 82 = .ok (.aload_n 0, 1) := by decide +kernel
theorem dX11_guest_83 : decode cX11_guest 83 = .ok (.getfield 37, 3) := by decide +kernel
theorem dX11_guest_86 : decode cX11_guest 86 = .ok (.getfield 112, 3) := by decide +kernel
theorem dX11_guest_89 : decode cX11_guest 89 = .ok (.getfield 134, 3) := by decide +kernel
theorem dX11_guest_92 : decode cX11_guest 92 = .ok (.iload_n 1, 1) := by decide +kernel
theorem dX11_guest_93 : decode cX11_guest 93 = .ok (.iaload, 1) := by decide +kernel
theorem dX11_guest_94 : decode cX11_guest 94 = .ok (.ireturn, 1) := by decide +kernel
theorem dX11_guest_95 : decode cX11_guest 95 = .ok (.aload_n 0, 1) := by decide +kernel
theorem dX11_guest_96 : decode cX11_guest 96 = .ok (.getfield 37, 3) := by decide +kernel
theorem dX11_guest_99 : decode cX11_guest 99 = .ok (.getfield 112, 3) := by decide +kernel
theorem dX11_guest_102 : decode cX11_guest 102 = .ok (.getfield 137, 3) := by decide +kernel
theorem dX11_guest_105 : decode cX11_guest 105 = .ok (.iload_n 1, 1) := by decide +kernel
theorem dX11_guest_106 : decode cX11_guest 106 = .ok (.iaload, 1) := by decide +kernel
theorem dX11_guest_107 : decode cX11_guest 107 = .ok (.ireturn, 1) := by decide +kernel
theorem dX11_guest_108 : decode cX11_guest 108 = .ok (.aload_n 0, 1) := by decide +kernel
theorem dX11_guest_109 : decode cX11_guest 109 = .ok (.getfield 37, 3) := by decide +kernel
theorem dX11_guest_112 : decode cX11_guest 112 = .ok (.getfield 112, 3) := by decide +kernel
theorem dX11_guest_115 : decode cX11_guest 115 = .ok (.getfield 140, 3) := by decide +kernel
theorem dX11_guest_118 : decode cX11_guest 118 = .ok (.iload_n 1, 1) := by decide +kernel
theorem dX11_guest_119 : decode cX11_guest 119 = .ok (.iaload, 1) := by decide +kernel
theorem dX11_guest_120 : decode cX11_guest 120 = .ok (.ireturn, 1) := by decide +kernel
theorem dX11_guest_121 : decode cX11_guest 121 = .ok (.iconst (-1), 1) := by decide +kernel
theorem dX11_guest_122 : decode cX11_guest 122 = .ok (.ireturn, 1) := by decide +kernel
theorem dX11_use_0 : decode cX11_use 0 = .ok (.iload_n 1, 1) := by decide +kernel
theorem dX11_use_1 : decode cX11_use 1 = .ok (.iconst (-1), 1) := by decide +kernel
theorem dX11_use_2 : decode cX11_use 2 = .ok (.if_icmp .eq 13, 3) := by decide +kernel
theorem dX11_use_5 : decode cX11_use 5 = .ok (.aload_n 0, 1) := by decide +kernel
theorem dX11_use_6 : decode cX11_use 6 = .ok (.iload_n 1, 1) := by decide +kernel
theorem dX11_use_7 : decode cX11_use 7 = .ok (.invokevirtual 143, 3) := by decide +kernel
theorem dX11_use_10 : decode cX11_use 10 = .ok (.ifCond .ne 5, 3) := by decide +kernel
theorem dX11_use_13 : decode cX11_use 13 = .ok (.iconst 0, 1) := by decide +kernel
theorem dX11_use_14 : decode cX11_use 14 = .ok (.ireturn, 1) := by decide +kernel
theorem dX11_use_15 : decode cX11_use 15 = .ok (.aload_n 0, 1) := by decide +kernel
theorem dX11_use_16 : decode cX11_use 16 = .ok (.getfield 37, 3) := by decide +kernel
theorem dX11_use_19 : decode cX11_use 19 = .ok (.iload_n 1, 1) := by decide +kernel
theorem dX11_use_20 : decode cX11_use 20 = .ok (.putfield 146, 3) := by decide +kernel
theorem dX11_use_23 : decode cX11_use 23 = .ok (.iconst 1, 1) := by decide +kernel
theorem dX11_use_24 : decode cX11_use 24 = .ok (.ireturn, 1) := by decide +kernel
theorem dX11_gives_0 : decode cX11_gives 0 = .ok (.aload_n 0, 1) := by decide +kernel
theorem dX11_gives_1 : decode cX11_gives 1 = .ok (.iload_n 1, 1) := by decide +kernel
theorem dX11_gives_2 : decode cX11_gives 2 = .ok (.invokevirtual 143, 3) := by decide +kernel
theorem dX11_gives_5 : decode cX11_gives 5 = .ok (.ifCond .eq 19, 3) := by decide +kernel
theorem dX11_gives_8 : decode cX11_gives 8 = .ok (.aload_n 0, 1) := by decide +kernel
theorem dX11_gives_9 : decode cX11_gives 9 = .ok (.iload_n 2, 1) := by decide +kernel
theorem dX11_gives_10 : decode cX11_gives 10 = .ok (.invokevirtual 118, 3) := by decide +kernel
theorem dX11_gives_13 : decode cX11_gives 13 = .ok (.ifCond .eq 11, 3) := by decide +kernel
theorem dX11_gives_16 : decode cX11_gives 16 = .ok (.aload_n 0, 1) := by decide +kernel
theorem dX11_gives_17 : decode cX11_gives 17 = .ok (.iload_n 3, 1) := by decide +kernel
theorem dX11_gives_18 : decode cX11_gives 18 = .ok (.invokevirtual 102, 3) := by decide +kernel
theorem dX11_gives_21 : decode cX11_gives 21 = .ok (.ifCond .ne 13, 3) := by decide +kernel
theorem dX11_gives_24 : decode cX11_gives 24 = .ok (.new 149, 3) := by decide +kernel
theorem dX11_gives_27 : decode cX11_gives 27 = .ok (.dup, 1) := by decide +kernel
theorem dX11_gives_28 : decode cX11_gives 28 = .ok (.ldc 151, 2) := by decide +kernel
theorem dX11_gives_30 : decode cX11_gives 30 = .ok (.invokespecial 153, 3) := by decide +kernel
theorem dX11_gives_33 : decode cX11_gives 33 = .ok (.athrow, 1) := by decide +kernel
theorem dX11_gives_34 : decode cX11_gives 34 = .ok (.aload_n 0, 1) := by decide +kernel
theorem dX11_gives_35 : decode cX11_gives 35 = .ok (.getfield 37, 3) := by decide +kernel
theorem dX11_gives_38 : decode cX11_gives 38 = .ok (.getfield 112, 3) := by decide +kernel
theorem dX11_gives_41 : decode cX11_gives 41 = .ok (.getfield 134, 3) := by decide +kernel
theorem dX11_gives_44 : decode cX11_gives 44 = .ok (.iload_n 2, 1) := by decide +kernel
theorem dX11_gives_45 : decode cX11_gives 45 = .ok (.iaload, 1) := by decide +kernel
theorem dX11_gives_46 : decode cX11_gives 46 = .ok (.istore 4, 2) := by decide +kernel
theorem dX11_gives_48 : decode cX11_gives 48 = .ok (.iload 4, 2) := by decide +kernel
theorem dX11_gives_50 : decode cX11_gives 50 = .ok (.iconst (-1), 1) := by decide +kernel
theorem dX11_gives_51 : decode cX11_gives 51 = .ok (.if_icmp .eq 9, 3) := by decide +kernel
theorem dX11_gives_54 : decode cX11_gives 54 = .ok (.iload 4, 2) := by decide +kernel
theorem dX11_gives_56 : decode cX11_gives 56 = .ok (.iload_n 3, 1) := by decide +kernel
theorem dX11_gives_57 : decode cX11_gives 57 = .ok (.if_icmp .ne 13, 3) := by decide +kernel
theorem dX11_gives_60 : decode cX11_gives 60 = .ok (.new 149, 3) := by decide +kernel
theorem dX11_gives_63 : decode cX11_gives 63 = .ok (.dup, 1) := by decide +kernel
theorem dX11_gives_64 : decode cX11_gives 64 = .ok (.ldc 156, 2) := by decide +kernel
theorem dX11_gives_66 : decode cX11_gives 66 = .ok (.invokespecial 153, 3) := by decide +kernel
theorem dX11_gives_69 : decode cX11_gives 69 = .ok (.athrow, 1) := by decide +kernel
theorem dX11_gives_70 : decode cX11_gives 70 = .ok (.aload_n 0, 1) := by decide +kernel
theorem dX11_gives_71 : decode cX11_gives 71 = .ok (.getfield 28, 3) := by decide +kernel
theorem dX11_gives_74 : decode cX11_gives 74 = .ok (.aload_n 0, 1) := by decide +kernel
theorem dX11_gives_75 : decode cX11_gives 75 = .ok (.getfield 69, 3) := by decide +kernel
theorem dX11_gives_78 : decode cX11_gives 78 = .ok (.iload_n 1, 1) := by decide +kernel
theorem dX11_gives_79 : decode cX11_gives 79 = .ok (.aload_n 0, 1) := by decide +kernel
theorem dX11_gives_80 : decode cX11_gives 80 = .ok (.getfield 37, 3) := by decide +kernel
theorem dX11_gives_83 : decode cX11_gives 83 = .ok (.getfield 112, 3) := by decide +kernel
theorem dX11_gives_86 : decode cX11_gives 86 = .ok (.iload_n 2, 1) := by decide +kernel
theorem dX11_gives_87 : decode cX11_gives 87 = .ok (.iload_n 3, 1) := by decide +kernel
theorem dX11_gives_88 : decode cX11_gives 88 = .ok (.invokevirtual 158, 3) := by decide +kernel
theorem dX11_gives_91 : decode cX11_gives 91 = .ok (.ireturn, 1) := by decide +kernel
theorem dX11_come_0 : decode cX11_come 0 = .ok (.aload_n 0, 1) := by decide +kernel
theorem dX11_come_1 : decode cX11_come 1 = .ok (.iload_n 1, 1) := by decide +kernel
theorem dX11_come_2 : decode cX11_come 2 = .ok (.iload_n 2, 1) := by decide +kernel
theorem dX11_come_3 : decode cX11_come 3 = .ok (.iconst 1, 1) := by decide +kernel
theorem dX11_come_4 : decode cX11_come 4 = .ok (.invokevirtual 162, 3) := by decide +kernel
theorem dX11_come_7 : decode cX11_come 7 = .ok (.istore_n 3, 1) := by decide +kernel
theorem dX11_come_8 : decode cX11_come 8 = .ok (.iload_n 3, 1) := by decide +kernel
theorem dX11_come_9 : decode cX11_come 9 = .ok (.ifCond .ne 16, 3) := by decide +kernel
theorem dX11_come_12 : decode cX11_come 12 = .ok (.aload_n 0, 1) := by decide +kernel
theorem dX11_come_13 : decode cX11_come 13 = .ok (.getfield 37, 3) := by decide +kernel
theorem dX11_come_16 : decode cX11_come 16 = .ok (.aload_n 0, 1) := by decide +kernel
theorem dX11_come_17 : decode cX11_come 17 = .ok (.getfield 69, 3) := by decide +kernel
theorem dX11_come_20 : decode cX11_come 20 = .ok (.iload_n 1, 1) := by decide +kernel
theorem dX11_come_21 : decode cX11_come 21 = .ok (.iload_n 2, 1) := by decide +kernel
theorem dX11_come_22 : decode cX11_come 22 = .ok (.invokevirtual 166, 3) := by decide +kernel
theorem dX11_come_25 : decode cX11_come 25 = .ok (.iload_n 3, 1) := by decide +kernel
theorem dX11_come_26 : decode cX11_come 26 = .ok (.ireturn, 1) := by decide +kernel
theorem dX11_leave_0 : decode cX11_leave 0 = .ok (.aload_n 0, 1) := by decide +kernel
theorem dX11_leave_1 : decode cX11_leave 1 = .ok (.iload_n 1, 1) := by decide +kernel
theorem dX11_leave_2 : decode cX11_leave 2 = .ok (.iload_n 2, 1) := by decide +kernel
theorem dX11_leave_3 : decode cX11_leave 3 = .ok (.iconst 0, 1) := by decide +kernel
theorem dX11_leave_4 : decode cX11_leave 4 = .ok (.invokevirtual 162, 3) := by decide +kernel
theorem dX11_leave_7 : decode cX11_leave 7 = .ok (.istore_n 3, 1) := by decide +kernel
theorem dX11_leave_8 : decode cX11_leave 8 = .ok (.iload_n 3, 1) := by decide +kernel
theorem dX11_leave_9 : decode cX11_leave 9 = .ok (.ifCond .ne 16, 3) := by decide +kernel
theorem dX11_leave_12 : decode cX11_leave 12 = .ok (.aload_n 0, 1) := by decide +kernel
theorem dX11_leave_13 : decode cX11_leave 13 = .ok (.getfield 37, 3) := by decide +kernel
theorem dX11_leave_16 : decode cX11_leave 16 = .ok (.aload_n 0, 1) := by decide +kernel
theorem dX11_leave_17 : decode cX11_leave 17 = .ok (.getfield 69, 3) := by decide +kernel
theorem dX11_leave_20 : decode cX11_leave 20 = .ok (.iload_n 1, 1) := by decide +kernel
theorem dX11_leave_21 : decode cX11_leave 21 = .ok (.iload_n 2, 1) := by decide +kernel
theorem dX11_leave_22 : decode cX11_leave 22 = .ok (.invokevirtual 170, 3) := by decide +kernel
theorem dX11_leave_25 : decode cX11_leave 25 = .ok (.iload_n 3, 1) := by decide +kernel
theorem dX11_leave_26 : decode cX11_leave 26 = .ok (.ireturn, 1) := by decide +kernel
theorem dX11_over_0 : decode cX11_over 0 = .ok (.aload_n 0, 1) := by decide +kernel
theorem dX11_over_1 : decode cX11_over 1 = .ok (.getfield 37, 3) := by decide +kernel
theorem dX11_over_4 : decode cX11_over 4 = .ok (.getfield 173, 3) := by decide +kernel
theorem dX11_over_7 : decode cX11_over 7 = .ok (.getfield 177, 3) := by decide +kernel
theorem dX11_over_10 : decode cX11_over 10 = .ok (.ireturn, 1) := by decide +kernel
theorem dX11_sum_0 : decode cX11_sum 0 = .ok (.iload_n 1, 1) := by decide +kernel
theorem dX11_sum_1 : decode cX11_sum 1 = .ok (.tableswitch 75 0 3 #[31, 42, 53, 64], 31) := by decide +kernel
theorem dX11_sum_32 : decode cX11_sum 32 = .ok (.aload_n 0, 1) := by decide +kernel
theorem dX11_sum_33 : decode cX11_sum 33 = .ok (.getfield 37, 3) := by decide +kernel
theorem dX11_sum_36 : decode cX11_sum 36 = .ok (.getfield 112, 3) := by decide +kernel
theorem dX11_sum_39 : decode cX11_sum 39 = .ok (.getfield 182, 3) := by decide +kernel
theorem dX11_sum_42 : decode cX11_sum 42 = .ok (.ireturn, 1) := by decide +kernel
theorem dX11_sum_43 : decode cX11_sum 43 = .ok (.aload_n 0, 1) := by decide +kernel
theorem dX11_sum_44 : decode cX11_sum 44 = .ok (.getfield 37, 3) := by decide +kernel
theorem dX11_sum_47 : decode cX11_sum 47 = .ok (.getfield 112, 3) := by decide +kernel
theorem dX11_sum_50 : decode cX11_sum 50 = .ok (.getfield 185, 3) := by decide +kernel
theorem dX11_sum_53 : decode cX11_sum 53 = .ok (.ireturn, 1) := by decide +kernel
theorem dX11_sum_54 : decode cX11_sum 54 = .ok (.aload_n 0, 1) := by decide +kernel
theorem dX11_sum_55 : decode cX11_sum 55 = .ok (.getfield 37, 3) := by decide +kernel
theorem dX11_sum_58 : decode cX11_sum 58 = .ok (.getfield 112, 3) := by decide +kernel
theorem dX11_sum_61 : decode cX11_sum 61 = .ok (.getfield 188, 3) := by decide +kernel
theorem dX11_sum_64 : decode cX11_sum 64 = .ok (.ireturn, 1) := by decide +kernel
theorem dX11_sum_65 : decode cX11_sum 65 = .ok (.aload_n 0, 1) := by decide +kernel
theorem dX11_sum_66 : decode cX11_sum 66 = .ok (.getfield 37, 3) := by decide +kernel
theorem dX11_sum_69 : decode cX11_sum 69 = .ok (.getfield 112, 3) := by decide +kernel
theorem dX11_sum_72 : decode cX11_sum 72 = .ok (.getfield 191, 3) := by decide +kernel
theorem dX11_sum_75 : decode cX11_sum 75 = .ok (.ireturn, 1) := by decide +kernel
theorem dX11_sum_76 : decode cX11_sum 76 = .ok (.iconst (-1), 1) := by decide +kernel
theorem dX11_sum_77 : decode cX11_sum 77 = .ok (.ireturn, 1) := by decide +kernel
theorem dX11_where_0 : decode cX11_where 0 = .ok (.aload_n 0, 1) := by decide +kernel
theorem dX11_where_1 : decode cX11_where 1 = .ok (.iload_n 1, 1) := by decide +kernel
theorem dX11_where_2 : decode cX11_where 2 = .ok (.invokevirtual 118, 3) := by decide +kernel
theorem dX11_where_5 : decode cX11_where 5 = .ok (.ifCond .eq 10, 3) := by decide +kernel
theorem dX11_where_8 : decode cX11_where 8 = .ok (.iload_n 2, 1) := by decide +kernel
theorem dX11_where_9 : decode cX11_where 9 = .ok (.invokestatic 194, 3) := by decide +kernel
theorem dX11_where_12 : decode cX11_where 12 = .ok (.ifCond .ne 6, 3) := by decide +kernel
theorem dX11_where_15 : decode cX11_where 15 = .ok (.bipush (-3), 2) := by decide +kernel
theorem dX11_where_17 : decode cX11_where 17 = .ok (.ireturn, 1) := by decide +kernel
theorem dX11_where_18 : decode cX11_where 18 = .ok (.aload_n 0, 1) := by decide +kernel
theorem dX11_where_19 : decode cX11_where 19 = .ok (.getfield 37, 3) := by decide +kernel
theorem dX11_where_22 : decode cX11_where 22 = .ok (.getfield 173, 3) := by decide +kernel
theorem dX11_where_25 : decode cX11_where 25 = .ok (.iload_n 1, 1) := by decide +kernel
theorem dX11_where_26 : decode cX11_where 26 = .ok (.iload_n 2, 1) := by decide +kernel
theorem dX11_where_27 : decode cX11_where 27 = .ok (.invokevirtual 197, 3) := by decide +kernel
theorem dX11_where_30 : decode cX11_where 30 = .ok (.ireturn, 1) := by decide +kernel
theorem dX11_who_0 : decode cX11_who 0 = .ok (.aload_n 0, 1) := by decide +kernel
theorem dX11_who_1 : decode cX11_who 1 = .ok (.iload_n 1, 1) := by decide +kernel
theorem dX11_who_2 : decode cX11_who 2 = .ok (.invokevirtual 102, 3) := by decide +kernel
theorem dX11_who_5 : decode cX11_who 5 = .ok (.ifCond .eq 10, 3) := by decide +kernel
theorem dX11_who_8 : decode cX11_who 8 = .ok (.iload_n 2, 1) := by decide +kernel
theorem dX11_who_9 : decode cX11_who 9 = .ok (.invokestatic 194, 3) := by decide +kernel
theorem dX11_who_12 : decode cX11_who 12 = .ok (.ifCond .ne 5, 3) := by decide +kernel
theorem dX11_who_15 : decode cX11_who 15 = .ok (.iconst (-1), 1) := by decide +kernel
theorem dX11_who_16 : decode cX11_who 16 = .ok (.ireturn, 1) := by decide +kernel
theorem dX11_who_17 : decode cX11_who 17 = .ok (.aload_n 0, 1) := by decide +kernel
theorem dX11_who_18 : decode cX11_who 18 = .ok (.getfield 37, 3) := by decide +kernel
theorem dX11_who_21 : decode cX11_who 21 = .ok (.getfield 173, 3) := by decide +kernel
theorem dX11_who_24 : decode cX11_who 24 = .ok (.iload_n 1, 1) := by decide +kernel
theorem dX11_who_25 : decode cX11_who 25 = .ok (.iload_n 2, 1) := by decide +kernel
theorem dX11_who_26 : decode cX11_who 26 = .ok (.invokevirtual 200, 3) := by decide +kernel
theorem dX11_who_29 : decode cX11_who 29 = .ok (.ireturn, 1) := by decide +kernel
theorem dX11_letter_0 : decode cX11_letter 0 = .ok (.aload_n 0, 1) := by decide +kernel
theorem dX11_letter_1 : decode cX11_letter 1 = .ok (.iload_n 1, 1) := by decide +kernel
theorem dX11_letter_2 : decode cX11_letter 2 = .ok (.invokevirtual 118, 3) := by decide +kernel
theorem dX11_letter_5 : decode cX11_letter 5 = .ok (.ifCond .eq 22, 3) := by decide +kernel
theorem dX11_letter_8 : decode cX11_letter 8 = .ok (.iload_n 2, 1) := by decide +kernel
theorem dX11_letter_9 : decode cX11_letter 9 = .ok (.invokestatic 194, 3) := by decide +kernel
theorem dX11_letter_12 : decode cX11_letter 12 = .ok (.ifCond .eq 15, 3) := by decide +kernel
theorem dX11_letter_15 : decode cX11_letter 15 = .ok (.iload_n 3, 1) := by decide +kernel
theorem dX11_letter_16 : decode cX11_letter 16 = .ok (.invokestatic 194, 3) := by decide +kernel
theorem dX11_letter_19 : decode cX11_letter 19 = .ok (.ifCond .eq 8, 3) := by decide +kernel
theorem dX11_letter_22 : decode cX11_letter 22 = .ok (.iload_n 3, 1) := by decide +kernel
theorem dX11_letter_23 : decode cX11_letter 23 = .ok (.iload_n 2, 1) := by decide +kernel
theorem dX11_letter_24 : decode cX11_letter 24 = .ok (.if_icmp .ge 5, 3) := by decide +kernel
theorem dX11_letter_27 : decode cX11_letter 27 = .ok (.iconst (-1), 1) := by decide +kernel
theorem dX11_letter_28 : decode cX11_letter 28 = .ok (.ireturn, 1) := by decide +kernel
theorem dX11_letter_29 : decode cX11_letter 29 = .ok (.aload_n 0, 1) := by decide +kernel
theorem dX11_letter_30 : decode cX11_letter 30 = .ok (.getfield 37, 3) := by decide +kernel
theorem dX11_letter_33 : decode cX11_letter 33 = .ok (.getfield 173, 3) := by decide +kernel
theorem dX11_letter_36 : decode cX11_letter 36 = .ok (.iload_n 1, 1) := by decide +kernel
theorem dX11_letter_37 : decode cX11_letter 37 = .ok (.iload_n 2, 1) := by decide +kernel
theorem dX11_letter_38 : decode cX11_letter 38 = .ok (.invokevirtual 197, 3) := by decide +kernel
theorem dX11_letter_41 : decode cX11_letter 41 = .ok (.istore 4, 2) := by decide +kernel
theorem dX11_letter_43 : decode cX11_letter 43 = .ok (.aload_n 0, 1) := by decide +kernel
theorem dX11_letter_44 : decode cX11_letter 44 = .ok (.iload 4, 2) := by decide +kernel
theorem dX11_letter_46 : decode cX11_letter 46 = .ok (.invokevirtual 102, 3) := by decide +kernel
theorem dX11_letter_49 : decode cX11_letter 49 = .ok (.ifCond .eq 19, 3) := by decide +kernel
theorem dX11_letter_52 : decode cX11_letter 52 = .ok (.aload_n 0, 1) := by decide +kernel
theorem dX11_letter_53 : decode cX11_letter 53 = .ok (.getfield 37, 3) := by decide +kernel
theorem dX11_letter_56 : decode cX11_letter 56 = .ok (.getfield 173, 3) := by decide +kernel
theorem dX11_letter_59 : decode cX11_letter 59 = .ok (.iload 4, 2) := by decide +kernel
theorem dX11_letter_61 : decode cX11_letter 61 = .ok (.iload_n 3, 1) := by decide +kernel
theorem dX11_letter_62 : decode cX11_letter 62 = .ok (.invokevirtual 200, 3) := by decide +kernel
theorem dX11_letter_65 : decode cX11_letter 65 = .ok (.goto 4, 3) := by decide +kernel
theorem dX11_letter_68 : decode cX11_letter 68 = .ok (.iconst (-1), 1) := by decide +kernel
theorem dX11_letter_69 : decode cX11_letter 69 = .ok (.ireturn, 1) := by decide +kernel
theorem dX11_trunk_0 : decode cX11_trunk 0 = .ok (.aload_n 0, 1) := by decide +kernel
theorem dX11_trunk_1 : decode cX11_trunk 1 = .ok (.iload_n 1, 1) := by decide +kernel
theorem dX11_trunk_2 : decode cX11_trunk 2 = .ok (.invokevirtual 102, 3) := by decide +kernel
theorem dX11_trunk_5 : decode cX11_trunk 5 = .ok (.ifCond .eq 22, 3) := by decide +kernel
theorem dX11_trunk_8 : decode cX11_trunk 8 = .ok (.iload_n 2, 1) := by decide +kernel
theorem dX11_trunk_9 : decode cX11_trunk 9 = .ok (.invokestatic 194, 3) := by decide +kernel
theorem dX11_trunk_12 : decode cX11_trunk 12 = .ok (.ifCond .eq 15, 3) := by decide +kernel
theorem dX11_trunk_15 : decode cX11_trunk 15 = .ok (.iload_n 3, 1) := by decide +kernel
theorem dX11_trunk_16 : decode cX11_trunk 16 = .ok (.invokestatic 194, 3) := by decide +kernel
theorem dX11_trunk_19 : decode cX11_trunk 19 = .ok (.ifCond .eq 8, 3) := by decide +kernel
theorem dX11_trunk_22 : decode cX11_trunk 22 = .ok (.iload_n 3, 1) := by decide +kernel
theorem dX11_trunk_23 : decode cX11_trunk 23 = .ok (.iload_n 2, 1) := by decide +kernel
theorem dX11_trunk_24 : decode cX11_trunk 24 = .ok (.if_icmp .ge 5, 3) := by decide +kernel
theorem dX11_trunk_27 : decode cX11_trunk 27 = .ok (.iconst (-1), 1) := by decide +kernel
theorem dX11_trunk_28 : decode cX11_trunk 28 = .ok (.ireturn, 1) := by decide +kernel
theorem dX11_trunk_29 : decode cX11_trunk 29 = .ok (.aload_n 0, 1) := by decide +kernel
theorem dX11_trunk_30 : decode cX11_trunk 30 = .ok (.getfield 37, 3) := by decide +kernel
theorem dX11_trunk_33 : decode cX11_trunk 33 = .ok (.getfield 173, 3) := by decide +kernel
theorem dX11_trunk_36 : decode cX11_trunk 36 = .ok (.iload_n 1, 1) := by decide +kernel
theorem dX11_trunk_37 : decode cX11_trunk 37 = .ok (.iload_n 2, 1) := by decide +kernel
theorem dX11_trunk_38 : decode cX11_trunk 38 = .ok (.iload_n 3, 1) := by decide +kernel
theorem dX11_trunk_39 : decode cX11_trunk 39 = .ok (.invokevirtual 203, 3) := by decide +kernel
theorem dX11_trunk_42 : decode cX11_trunk 42 = .ok (.ireturn, 1) := by decide +kernel
theorem dX11_sight_0 : decode cX11_sight 0 = .ok (.aload_n 0, 1) := by decide +kernel
theorem dX11_sight_1 : decode cX11_sight 1 = .ok (.iload_n 1, 1) := by decide +kernel
theorem dX11_sight_2 : decode cX11_sight 2 = .ok (.invokevirtual 118, 3) := by decide +kernel
theorem dX11_sight_5 : decode cX11_sight 5 = .ok (.ifCond .eq 18, 3) := by decide +kernel
theorem dX11_sight_8 : decode cX11_sight 8 = .ok (.aload_n 0, 1) := by decide +kernel
theorem dX11_sight_9 : decode cX11_sight 9 = .ok (.iload_n 2, 1) := by decide +kernel
theorem dX11_sight_10 : decode cX11_sight 10 = .ok (.invokevirtual 102, 3) := by decide +kernel
theorem dX11_sight_13 : decode cX11_sight 13 = .ok (.ifCond .eq 10, 3) := by decide +kernel
theorem dX11_sight_16 : decode cX11_sight 16 = .ok (.iload_n 3, 1) := by decide +kernel
theorem dX11_sight_17 : decode cX11_sight 17 = .ok (.invokestatic 207, 3) := by decide +kernel
theorem dX11_sight_20 : decode cX11_sight 20 = .ok (.ifCond .ne 5, 3) := by decide +kernel
theorem dX11_sight_23 : decode cX11_sight 23 = .ok (.iconst (-1), 1) := by decide +kernel
theorem dX11_sight_24 : decode cX11_sight 24 = .ok (.ireturn, 1) := by decide +kernel
theorem dX11_sight_25 : decode cX11_sight 25 = .ok (.aload_n 0, 1) := by decide +kernel
theorem dX11_sight_26 : decode cX11_sight 26 = .ok (.getfield 37, 3) := by decide +kernel
theorem dX11_sight_29 : decode cX11_sight 29 = .ok (.getfield 210, 3) := by decide +kernel
theorem dX11_sight_32 : decode cX11_sight 32 = .ok (.iload_n 1, 1) := by decide +kernel
theorem dX11_sight_33 : decode cX11_sight 33 = .ok (.iload_n 2, 1) := by decide +kernel
theorem dX11_sight_34 : decode cX11_sight 34 = .ok (.iload_n 3, 1) := by decide +kernel
theorem dX11_sight_35 : decode cX11_sight 35 = .ok (.invokevirtual 214, 3) := by decide +kernel
theorem dX11_sight_38 : decode cX11_sight 38 = .ok (.ifCond .eq 16, 3) := by decide +kernel
theorem dX11_sight_41 : decode cX11_sight 41 = .ok (.aload_n 0, 1) := by decide +kernel
theorem dX11_sight_42 : decode cX11_sight 42 = .ok (.getfield 37, 3) := by decide +kernel
theorem dX11_sight_45 : decode cX11_sight 45 = .ok (.getfield 210, 3) := by decide +kernel
theorem dX11_sight_48 : decode cX11_sight 48 = .ok (.getfield 220, 3) := by decide +kernel
theorem dX11_sight_51 : decode cX11_sight 51 = .ok (.goto 4, 3) := by decide +kernel
theorem dX11_sight_54 : decode cX11_sight 54 = .ok (.iconst (-1), 1) := by decide +kernel
theorem dX11_sight_55 : decode cX11_sight 55 = .ok (.ireturn, 1) := by decide +kernel
theorem dX11_could_0 : decode cX11_could 0 = .ok (.aload_n 0, 1) := by decide +kernel
theorem dX11_could_1 : decode cX11_could 1 = .ok (.iload_n 1, 1) := by decide +kernel
theorem dX11_could_2 : decode cX11_could 2 = .ok (.invokevirtual 102, 3) := by decide +kernel
theorem dX11_could_5 : decode cX11_could 5 = .ok (.ifCond .eq 10, 3) := by decide +kernel
theorem dX11_could_8 : decode cX11_could 8 = .ok (.iload_n 2, 1) := by decide +kernel
theorem dX11_could_9 : decode cX11_could 9 = .ok (.invokestatic 207, 3) := by decide +kernel
theorem dX11_could_12 : decode cX11_could 12 = .ok (.ifCond .ne 5, 3) := by decide +kernel
theorem dX11_could_15 : decode cX11_could 15 = .ok (.iconst (-1), 1) := by decide +kernel
theorem dX11_could_16 : decode cX11_could 16 = .ok (.ireturn, 1) := by decide +kernel
theorem dX11_could_17 : decode cX11_could 17 = .ok (.aload_n 0, 1) := by decide +kernel
theorem dX11_could_18 : decode cX11_could 18 = .ok (.getfield 37, 3) := by decide +kernel
theorem dX11_could_21 : decode cX11_could 21 = .ok (.getfield 210, 3) := by decide +kernel
theorem dX11_could_24 : decode cX11_could 24 = .ok (.aload_n 0, 1) := by decide +kernel
theorem dX11_could_25 : decode cX11_could 25 = .ok (.getfield 69, 3) := by decide +kernel
theorem dX11_could_28 : decode cX11_could 28 = .ok (.iload_n 1, 1) := by decide +kernel
theorem dX11_could_29 : decode cX11_could 29 = .ok (.iload_n 2, 1) := by decide +kernel
theorem dX11_could_30 : decode cX11_could 30 = .ok (.invokevirtual 223, 3) := by decide +kernel
theorem dX11_could_33 : decode cX11_could 33 = .ok (.ireturn, 1) := by decide +kernel
theorem dX11_liars_0 : decode cX11_liars 0 = .ok (.aload_n 0, 1) := by decide +kernel
theorem dX11_liars_1 : decode cX11_liars 1 = .ok (.getfield 37, 3) := by decide +kernel
theorem dX11_liars_4 : decode cX11_liars 4 = .ok (.getfield 210, 3) := by decide +kernel
theorem dX11_liars_7 : decode cX11_liars 7 = .ok (.aload_n 0, 1) := by decide +kernel
theorem dX11_liars_8 : decode cX11_liars 8 = .ok (.getfield 69, 3) := by decide +kernel
theorem dX11_liars_11 : decode cX11_liars 11 = .ok (.invokevirtual 227, 3) := by decide +kernel
theorem dX11_liars_14 : decode cX11_liars 14 = .ok (.ireturn, 1) := by decide +kernel
theorem dX11_page_0 : decode cX11_page 0 = .ok (.aload_n 0, 1) := by decide +kernel
theorem dX11_page_1 : decode cX11_page 1 = .ok (.iload_n 1, 1) := by decide +kernel
theorem dX11_page_2 : decode cX11_page 2 = .ok (.invokevirtual 118, 3) := by decide +kernel
theorem dX11_page_5 : decode cX11_page 5 = .ok (.ifCond .eq 20, 3) := by decide +kernel
theorem dX11_page_8 : decode cX11_page 8 = .ok (.iload_n 2, 1) := by decide +kernel
theorem dX11_page_9 : decode cX11_page 9 = .ok (.ifCond .lt 16, 3) := by decide +kernel
theorem dX11_page_12 : decode cX11_page 12 = .ok (.iload_n 2, 1) := by decide +kernel
theorem dX11_page_13 : decode cX11_page 13 = .ok (.iconst 1, 1) := by decide +kernel
theorem dX11_page_14 : decode cX11_page 14 = .ok (.aload_n 0, 1) := by decide +kernel
theorem dX11_page_15 : decode cX11_page 15 = .ok (.getfield 69, 3) := by decide +kernel
theorem dX11_page_18 : decode cX11_page 18 = .ok (.getfield 230, 3) := by decide +kernel
theorem dX11_page_21 : decode cX11_page 21 = .ok (.ishl, 1) := by decide +kernel
theorem dX11_page_22 : decode cX11_page 22 = .ok (.if_icmp .lt 5, 3) := by decide +kernel
theorem dX11_page_25 : decode cX11_page 25 = .ok (.iconst (-1), 1) := by decide +kernel
theorem dX11_page_26 : decode cX11_page 26 = .ok (.ireturn, 1) := by decide +kernel
theorem dX11_page_27 : decode cX11_page 27 = .ok (.aload_n 0, 1) := by decide +kernel
theorem dX11_page_28 : decode cX11_page 28 = .ok (.getfield 37, 3) := by decide +kernel
theorem dX11_page_31 : decode cX11_page 31 = .ok (.getfield 233, 3) := by decide +kernel
theorem dX11_page_34 : decode cX11_page 34 = .ok (.getfield 237, 3) := by decide +kernel
theorem dX11_page_37 : decode cX11_page 37 = .ok (.iload_n 1, 1) := by decide +kernel
theorem dX11_page_38 : decode cX11_page 38 = .ok (.iload_n 2, 1) := by decide +kernel
theorem dX11_page_39 : decode cX11_page 39 = .ok (.iastore, 1) := by decide +kernel
theorem dX11_page_40 : decode cX11_page 40 = .ok (.aload_n 0, 1) := by decide +kernel
theorem dX11_page_41 : decode cX11_page 41 = .ok (.getfield 37, 3) := by decide +kernel
theorem dX11_page_44 : decode cX11_page 44 = .ok (.getfield 233, 3) := by decide +kernel
theorem dX11_page_47 : decode cX11_page 47 = .ok (.invokevirtual 242, 3) := by decide +kernel
theorem dX11_page_50 : decode cX11_page 50 = .ok (.ireturn, 1) := by decide +kernel
theorem dX11_ways_0 : decode cX11_ways 0 = .ok (.aload_n 0, 1) := by decide +kernel
theorem dX11_ways_1 : decode cX11_ways 1 = .ok (.getfield 37, 3) := by decide +kernel
theorem dX11_ways_4 : decode cX11_ways 4 = .ok (.getfield 233, 3) := by decide +kernel
theorem dX11_ways_7 : decode cX11_ways 7 = .ok (.aload_n 0, 1) := by decide +kernel
theorem dX11_ways_8 : decode cX11_ways 8 = .ok (.getfield 63, 3) := by decide +kernel
theorem dX11_ways_11 : decode cX11_ways 11 = .ok (.aload_n 0, 1) := by decide +kernel
theorem dX11_ways_12 : decode cX11_ways 12 = .ok (.getfield 69, 3) := by decide +kernel
theorem dX11_ways_15 : decode cX11_ways 15 = .ok (.getfield 230, 3) := by decide +kernel
theorem dX11_ways_18 : decode cX11_ways 18 = .ok (.invokevirtual 245, 3) := by decide +kernel
theorem dX11_ways_21 : decode cX11_ways 21 = .ok (.i2l, 1) := by decide +kernel
theorem dX11_ways_22 : decode cX11_ways 22 = .ok (.lreturn, 1) := by decide +kernel
theorem dX11_sure_0 : decode cX11_sure 0 = .ok (.aload_n 0, 1) := by decide +kernel
theorem dX11_sure_1 : decode cX11_sure 1 = .ok (.iload_n 1, 1) := by decide +kernel
theorem dX11_sure_2 : decode cX11_sure 2 = .ok (.invokevirtual 118, 3) := by decide +kernel
theorem dX11_sure_5 : decode cX11_sure 5 = .ok (.ifCond .eq 28, 3) := by decide +kernel
theorem dX11_sure_8 : decode cX11_sure 8 = .ok (.aload_n 0, 1) := by decide +kernel
theorem dX11_sure_9 : decode cX11_sure 9 = .ok (.getfield 37, 3) := by decide +kernel
theorem dX11_sure_12 : decode cX11_sure 12 = .ok (.getfield 233, 3) := by decide +kernel
theorem dX11_sure_15 : decode cX11_sure 15 = .ok (.iload_n 1, 1) := by decide +kernel
theorem dX11_sure_16 : decode cX11_sure 16 = .ok (.aload_n 0, 1) := by decide +kernel
theorem dX11_sure_17 : decode cX11_sure 17 = .ok (.getfield 63, 3) := by decide +kernel
theorem dX11_sure_20 : decode cX11_sure 20 = .ok (.aload_n 0, 1) := by decide +kernel
theorem dX11_sure_21 : decode cX11_sure 21 = .ok (.getfield 69, 3) := by decide +kernel
theorem dX11_sure_24 : decode cX11_sure 24 = .ok (.getfield 230, 3) := by decide +kernel
theorem dX11_sure_27 : decode cX11_sure 27 = .ok (.invokevirtual 249, 3) := by decide +kernel
theorem dX11_sure_30 : decode cX11_sure 30 = .ok (.goto 4, 3) := by decide +kernel
theorem dX11_sure_33 : decode cX11_sure 33 = .ok (.iconst (-1), 1) := by decide +kernel
theorem dX11_sure_34 : decode cX11_sure 34 = .ok (.ireturn, 1) := by decide +kernel
theorem dX11_job_0 : decode cX11_job 0 = .ok (.iload_n 1, 1) := by decide +kernel
theorem dX11_job_1 : decode cX11_job 1 = .ok (.invokestatic 253, 3) := by decide +kernel
theorem dX11_job_4 : decode cX11_job 4 = .ok (.ifCond .eq 21, 3) := by decide +kernel
theorem dX11_job_7 : decode cX11_job 7 = .ok (.iload_n 2, 1) := by decide +kernel
theorem dX11_job_8 : decode cX11_job 8 = .ok (.invokestatic 253, 3) := by decide +kernel
theorem dX11_job_11 : decode cX11_job 11 = .ok (.ifCond .eq 14, 3) := by decide +kernel
theorem dX11_job_14 : decode cX11_job 14 = .ok (.iload_n 2, 1) := by decide +kernel
theorem dX11_job_15 : decode cX11_job 15 = .ok (.ifCond .eq 10, 3) := by decide +kernel
theorem dX11_job_18 : decode cX11_job 18 = .ok (.iload_n 3, 1) := by decide +kernel
theorem dX11_job_19 : decode cX11_job 19 = .ok (.invokestatic 253, 3) := by decide +kernel
theorem dX11_job_22 : decode cX11_job 22 = .ok (.ifCond .ne 5, 3) := by decide +kernel
theorem dX11_job_25 : decode cX11_job 25 = .ok (.iconst (-1), 1) := by decide +kernel
theorem dX11_job_26 : decode cX11_job 26 = .ok (.ireturn, 1) := by decide +kernel
theorem dX11_job_27 : decode cX11_job 27 = .ok (.aload_n 0, 1) := by decide +kernel
theorem dX11_job_28 : decode cX11_job 28 = .ok (.getfield 37, 3) := by decide +kernel
theorem dX11_job_31 : decode cX11_job 31 = .ok (.getfield 256, 3) := by decide +kernel
theorem dX11_job_34 : decode cX11_job 34 = .ok (.iload_n 1, 1) := by decide +kernel
theorem dX11_job_35 : decode cX11_job 35 = .ok (.iload_n 2, 1) := by decide +kernel
theorem dX11_job_36 : decode cX11_job 36 = .ok (.iload_n 3, 1) := by decide +kernel
theorem dX11_job_37 : decode cX11_job 37 = .ok (.invokevirtual 260, 3) := by decide +kernel
theorem dX11_job_40 : decode cX11_job 40 = .ok (.ifCond .eq 16, 3) := by decide +kernel
theorem dX11_job_43 : decode cX11_job 43 = .ok (.aload_n 0, 1) := by decide +kernel
theorem dX11_job_44 : decode cX11_job 44 = .ok (.getfield 37, 3) := by decide +kernel
theorem dX11_job_47 : decode cX11_job 47 = .ok (.getfield 256, 3) := by decide +kernel
theorem dX11_job_50 : decode cX11_job 50 = .ok (.getfield 263, 3) := by decide +kernel
theorem dX11_job_53 : decode cX11_job 53 = .ok (.goto 4, 3) := by decide +kernel
theorem dX11_job_56 : decode cX11_job 56 = .ok (.iconst (-1), 1) := by decide +kernel
theorem dX11_job_57 : decode cX11_job 57 = .ok (.ireturn, 1) := by decide +kernel
theorem dX11_porters_0 : decode cX11_porters 0 = .ok (.aload_n 0, 1) := by decide +kernel
theorem dX11_porters_1 : decode cX11_porters 1 = .ok (.getfield 37, 3) := by decide +kernel
theorem dX11_porters_4 : decode cX11_porters 4 = .ok (.getfield 256, 3) := by decide +kernel
theorem dX11_porters_7 : decode cX11_porters 7 = .ok (.getfield 263, 3) := by decide +kernel
theorem dX11_porters_10 : decode cX11_porters 10 = .ok (.ifCond .eq 23, 3) := by decide +kernel
theorem dX11_porters_13 : decode cX11_porters 13 = .ok (.iload_n 1, 1) := by decide +kernel
theorem dX11_porters_14 : decode cX11_porters 14 = .ok (.ifCond .lt 19, 3) := by decide +kernel
theorem dX11_porters_17 : decode cX11_porters 17 = .ok (.iload_n 1, 1) := by decide +kernel
theorem dX11_porters_18 : decode cX11_porters 18 = .ok (.iconst 3, 1) := by decide +kernel
theorem dX11_porters_19 : decode cX11_porters 19 = .ok (.aload_n 0, 1) := by decide +kernel
theorem dX11_porters_20 : decode cX11_porters 20 = .ok (.getfield 37, 3) := by decide +kernel
theorem dX11_porters_23 : decode cX11_porters 23 = .ok (.getfield 256, 3) := by decide +kernel
theorem dX11_porters_26 : decode cX11_porters 26 = .ok (.getfield 263, 3) := by decide +kernel
theorem dX11_porters_29 : decode cX11_porters 29 = .ok (.iadd, 1) := by decide +kernel
theorem dX11_porters_30 : decode cX11_porters 30 = .ok (.if_icmp .lt 5, 3) := by decide +kernel
theorem dX11_porters_33 : decode cX11_porters 33 = .ok (.iconst (-1), 1) := by decide +kernel
theorem dX11_porters_34 : decode cX11_porters 34 = .ok (.ireturn, 1) := by decide +kernel
theorem dX11_porters_35 : decode cX11_porters 35 = .ok (.aload_n 0, 1) := by decide +kernel
theorem dX11_porters_36 : decode cX11_porters 36 = .ok (.getfield 48, 3) := by decide +kernel
theorem dX11_porters_39 : decode cX11_porters 39 = .ok (.aload_n 0, 1) := by decide +kernel
theorem dX11_porters_40 : decode cX11_porters 40 = .ok (.getfield 37, 3) := by decide +kernel
theorem dX11_porters_43 : decode cX11_porters 43 = .ok (.getfield 256, 3) := by decide +kernel
theorem dX11_porters_46 : decode cX11_porters 46 = .ok (.invokevirtual 264, 3) := by decide +kernel
theorem dX11_porters_49 : decode cX11_porters 49 = .ok (.iload_n 1, 1) := by decide +kernel
theorem dX11_porters_50 : decode cX11_porters 50 = .ok (.tableswitch 50 0 2 #[26, 34, 42], 26) := by decide +kernel
theorem dX11_porters_76 : decode cX11_porters 76 = .ok (.aload_n 0, 1) := by decide +kernel
theorem dX11_porters_77 : decode cX11_porters 77 = .ok (.getfield 48, 3) := by decide +kernel
theorem dX11_porters_80 : decode cX11_porters 80 = .ok (.getfield 268, 3) := by decide +kernel
theorem dX11_porters_83 : decode cX11_porters 83 = .ok (.ireturn, 1) := by decide +kernel
theorem dX11_porters_84 : decode cX11_porters 84 = .ok (.aload_n 0, 1) := by decide +kernel
theorem dX11_porters_85 : decode cX11_porters 85 = .ok (.getfield 48, 3) := by decide +kernel
theorem dX11_porters_88 : decode cX11_porters 88 = .ok (.invokevirtual 271, 3) := by decide +kernel
theorem dX11_porters_91 : decode cX11_porters 91 = .ok (.ireturn, 1) := by decide +kernel
theorem dX11_porters_92 : decode cX11_porters 92 = .ok (.aload_n 0, 1) := by decide +kernel
theorem dX11_porters_93 : decode cX11_porters 93 = .ok (.getfield 48, 3) := by decide +kernel
theorem dX11_porters_96 : decode cX11_porters 96 = .ok (.invokevirtual 274, 3) := by decide +kernel
theorem dX11_porters_99 : decode cX11_porters 99 = .ok (.ireturn, 1) := by decide +kernel
theorem dX11_porters_100 : decode cX11_porters 100 = .ok (.aload_n 0, 1) := by decide +kernel
theorem dX11_porters_101 : decode cX11_porters 101 = .ok (.getfield 48, 3) := by decide +kernel
theorem dX11_porters_104 : decode cX11_porters 104 = .ok (.getfield 277, 3) := by decide +kernel
theorem dX11_porters_107 : decode cX11_porters 107 = .ok (.iload_n 1, 1) := by decide +kernel
theorem dX11_porters_108 : decode cX11_porters 108 = .ok (.iconst 3, 1) := by decide +kernel
theorem dX11_porters_109 : decode cX11_porters 109 = .ok (.isub, 1) := by decide +kernel
theorem dX11_porters_110 : decode cX11_porters 110 = .ok (.iaload, 1) := by decide +kernel
theorem dX11_porters_111 : decode cX11_porters 111 = .ok (.ireturn, 1) := by decide +kernel
theorem dX11_told_0 : decode cX11_told 0 = .ok (.aload_n 0, 1) := by decide +kernel
theorem dX11_told_1 : decode cX11_told 1 = .ok (.getfield 37, 3) := by decide +kernel
theorem dX11_told_4 : decode cX11_told 4 = .ok (.getfield 256, 3) := by decide +kernel
theorem dX11_told_7 : decode cX11_told 7 = .ok (.getfield 263, 3) := by decide +kernel
theorem dX11_told_10 : decode cX11_told 10 = .ok (.ifCond .ne 7, 3) := by decide +kernel
theorem dX11_told_13 : decode cX11_told 13 = .ok (.iconst (-1), 1) := by decide +kernel
theorem dX11_told_14 : decode cX11_told 14 = .ok (.goto 13, 3) := by decide +kernel
theorem dX11_told_17 : decode cX11_told 17 = .ok (.aload_n 0, 1) := by decide +kernel
theorem dX11_told_18 : decode cX11_told 18 = .ok (.getfield 37, 3) := by decide +kernel
theorem dX11_told_21 : decode cX11_told 21 = .ok (.getfield 256, 3) := by decide +kernel
theorem dX11_told_24 : decode cX11_told 24 = .ok (.invokevirtual 280, 3) := by decide +kernel
theorem dX11_told_27 : decode cX11_told 27 = .ok (.ireturn, 1) := by decide +kernel
theorem dX11_clear_0 : decode cX11_clear 0 = .ok (.aload_n 0, 1) := by decide +kernel
theorem dX11_clear_1 : decode cX11_clear 1 = .ok (.getfield 37, 3) := by decide +kernel
theorem dX11_clear_4 : decode cX11_clear 4 = .ok (.getfield 210, 3) := by decide +kernel
theorem dX11_clear_7 : decode cX11_clear 7 = .ok (.iconst 0, 1) := by decide +kernel
theorem dX11_clear_8 : decode cX11_clear 8 = .ok (.putfield 220, 3) := by decide +kernel
theorem dX11_clear_11 : decode cX11_clear 11 = .ok (.aload_n 0, 1) := by decide +kernel
theorem dX11_clear_12 : decode cX11_clear 12 = .ok (.getfield 37, 3) := by decide +kernel
theorem dX11_clear_15 : decode cX11_clear 15 = .ok (.getfield 256, 3) := by decide +kernel
theorem dX11_clear_18 : decode cX11_clear 18 = .ok (.iconst 0, 1) := by decide +kernel
theorem dX11_clear_19 : decode cX11_clear 19 = .ok (.putfield 263, 3) := by decide +kernel
theorem dX11_clear_22 : decode cX11_clear 22 = .ok (.iconst 1, 1) := by decide +kernel
theorem dX11_clear_23 : decode cX11_clear 23 = .ok (.ireturn, 1) := by decide +kernel
theorem dX11_book_0 : decode cX11_book 0 = .ok (.iload_n 1, 1) := by decide +kernel
theorem dX11_book_1 : decode cX11_book 1 = .ok (.ifCond .ge 13, 3) := by decide +kernel
theorem dX11_book_4 : decode cX11_book 4 = .ok (.aload_n 0, 1) := by decide +kernel
theorem dX11_book_5 : decode cX11_book 5 = .ok (.getfield 37, 3) := by decide +kernel
theorem dX11_book_8 : decode cX11_book 8 = .ok (.iconst 0, 1) := by decide +kernel
theorem dX11_book_9 : decode cX11_book 9 = .ok (.putfield 283, 3) := by decide +kernel
theorem dX11_book_12 : decode cX11_book 12 = .ok (.iconst 0, 1) := by decide +kernel
theorem dX11_book_13 : decode cX11_book 13 = .ok (.ireturn, 1) := by decide +kernel
theorem dX11_book_14 : decode cX11_book 14 = .ok (.aload_n 0, 1) := by decide +kernel
theorem dX11_book_15 : decode cX11_book 15 = .ok (.iload_n 1, 1) := by decide +kernel
theorem dX11_book_16 : decode cX11_book 16 = .ok (.invokevirtual 118, 3) := by decide +kernel
theorem dX11_book_19 : decode cX11_book 19 = .ok (.ifCond .eq 32, 3) := by decide +kernel
theorem dX11_book_22 : decode cX11_book 22 = .ok (.aload_n 0, 1) := by decide +kernel
theorem dX11_book_23 : decode cX11_book 23 = .ok (.getfield 37, 3) := by decide +kernel
theorem dX11_book_26 : decode cX11_book 26 = .ok (.getfield 112, 3) := by decide +kernel
theorem dX11_book_29 : decode cX11_book 29 = .ok (.iload_n 1, 1) := by decide +kernel
theorem dX11_book_30 : decode cX11_book 30 = .ok (.invokevirtual 286, 3) := by decide +kernel
theorem dX11_book_33 : decode cX11_book 33 = .ok (.ifCond .ne 18, 3) := by decide +kernel
theorem dX11_book_36 : decode cX11_book 36 = .ok (.aload_n 0, 1) := by decide +kernel
theorem dX11_book_37 : decode cX11_book 37 = .ok (.getfield 37, 3) := by decide +kernel
theorem dX11_book_40 : decode cX11_book 40 = .ok (.getfield 283, 3) := by decide +kernel
theorem dX11_book_43 : decode cX11_book 43 = .ok (.iload_n 1, 1) := by decide +kernel
theorem dX11_book_44 : decode cX11_book 44 = .ok (.invokestatic 127, 3) := by decide +kernel
theorem dX11_book_47 : decode cX11_book 47 = .ok (.iconst 1, 1) := by decide +kernel
theorem dX11_book_48 : decode cX11_book 48 = .ok (.if_icmp .ne 5, 3) := by decide +kernel
theorem dX11_book_51 : decode cX11_book 51 = .ok (.iconst (-1), 1) := by decide +kernel
theorem dX11_book_52 : decode cX11_book 52 = .ok (.ireturn, 1) := by decide +kernel
theorem dX11_book_53 : decode cX11_book 53 = .ok (.aload_n 0, 1) := by decide +kernel
theorem dX11_book_54 : decode cX11_book 54 = .ok (.getfield 37, 3) := by decide +kernel
theorem dX11_book_57 : decode cX11_book 57 = .ok (.getfield 283, 3) := by decide +kernel
theorem dX11_book_60 : decode cX11_book 60 = .ok (.invokestatic 289, 3) := by decide +kernel
theorem dX11_book_63 : decode cX11_book 63 = .ok (.bipush 7, 2) := by decide +kernel
theorem dX11_book_65 : decode cX11_book 65 = .ok (.if_icmp .lt 5, 3) := by decide +kernel
theorem dX11_book_68 : decode cX11_book 68 = .ok (.iconst (-1), 1) := by decide +kernel
theorem dX11_book_69 : decode cX11_book 69 = .ok (.ireturn, 1) := by decide +kernel
theorem dX11_book_70 : decode cX11_book 70 = .ok (.aload_n 0, 1) := by decide +kernel
theorem dX11_book_71 : decode cX11_book 71 = .ok (.getfield 37, 3) := by decide +kernel
theorem dX11_book_74 : decode cX11_book 74 = .ok (.dup, 1) := by decide +kernel
theorem dX11_book_75 : decode cX11_book 75 = .ok (.getfield 283, 3) := by decide +kernel
theorem dX11_book_78 : decode cX11_book 78 = .ok (.iconst 1, 1) := by decide +kernel
theorem dX11_book_79 : decode cX11_book 79 = .ok (.iload_n 1, 1) := by decide +kernel
theorem dX11_book_80 : decode cX11_book 80 = .ok (.ishl, 1) := by decide +kernel
theorem dX11_book_81 : decode cX11_book 81 = .ok (.ior, 1) := by decide +kernel
theorem dX11_book_82 : decode cX11_book 82 = .ok (.putfield 283, 3) := by decide +kernel
theorem dX11_book_85 : decode cX11_book 85 = .ok (.aload_n 0, 1) := by decide +kernel
theorem dX11_book_86 : decode cX11_book 86 = .ok (.getfield 37, 3) := by decide +kernel
theorem dX11_book_89 : decode cX11_book 89 = .ok (.getfield 283, 3) := by decide +kernel
theorem dX11_book_92 : decode cX11_book 92 = .ok (.invokestatic 289, 3) := by decide +kernel
theorem dX11_book_95 : decode cX11_book 95 = .ok (.ireturn, 1) := by decide +kernel
theorem dX11_order_0 : decode cX11_order 0 = .ok (.aload_n 0, 1) := by decide +kernel
theorem dX11_order_1 : decode cX11_order 1 = .ok (.getfield 37, 3) := by decide +kernel
theorem dX11_order_4 : decode cX11_order 4 = .ok (.getfield 283, 3) := by decide +kernel
theorem dX11_order_7 : decode cX11_order 7 = .ok (.invokestatic 289, 3) := by decide +kernel
theorem dX11_order_10 : decode cX11_order 10 = .ok (.istore_n 3, 1) := by decide +kernel
theorem dX11_order_11 : decode cX11_order 11 = .ok (.aload_n 0, 1) := by decide +kernel
theorem dX11_order_12 : decode cX11_order 12 = .ok (.iload_n 1, 1) := by decide +kernel
theorem dX11_order_13 : decode cX11_order 13 = .ok (.invokevirtual 118, 3) := by decide +kernel
theorem dX11_order_16 : decode cX11_order 16 = .ok (.ifCond .eq 14, 3) := by decide +kernel
theorem dX11_order_19 : decode cX11_order 19 = .ok (.iload_n 2, 1) := by decide +kernel
theorem dX11_order_20 : decode cX11_order 20 = .ok (.ifCond .lt 10, 3) := by decide +kernel
theorem dX11_order_23 : decode cX11_order 23 = .ok (.iload_n 2, 1) := by decide +kernel
theorem dX11_order_24 : decode cX11_order 24 = .ok (.iconst 2, 1) := by decide +kernel
theorem dX11_order_25 : decode cX11_order 25 = .ok (.iload_n 3, 1) := by decide +kernel
theorem dX11_order_26 : decode cX11_order 26 = .ok (.iadd, 1) := by decide +kernel
theorem dX11_order_27 : decode cX11_order 27 = .ok (.if_icmp .lt 5, 3) := by decide +kernel
theorem dX11_order_30 : decode cX11_order 30 = .ok (.iconst (-1), 1) := by decide +kernel
theorem dX11_order_31 : decode cX11_order 31 = .ok (.ireturn, 1) := by decide +kernel
theorem dX11_order_32 : decode cX11_order 32 = .ok (.iload_n 3, 1) := by decide +kernel
theorem dX11_order_33 : decode cX11_order 33 = .ok (.ifCond .eq 25, 3) := by decide +kernel
theorem dX11_order_36 : decode cX11_order 36 = .ok (.iload_n 3, 1) := by decide +kernel
theorem dX11_order_37 : decode cX11_order 37 = .ok (.aload_n 0, 1) := by decide +kernel
theorem dX11_order_38 : decode cX11_order 38 = .ok (.getfield 69, 3) := by decide +kernel
theorem dX11_order_41 : decode cX11_order 41 = .ok (.getfield 230, 3) := by decide +kernel
theorem dX11_order_44 : decode cX11_order 44 = .ok (.aload_n 0, 1) := by decide +kernel
theorem dX11_order_45 : decode cX11_order 45 = .ok (.getfield 37, 3) := by decide +kernel
theorem dX11_order_48 : decode cX11_order 48 = .ok (.getfield 112, 3) := by decide +kernel
theorem dX11_order_51 : decode cX11_order 51 = .ok (.invokevirtual 295, 3) := by decide +kernel
theorem dX11_order_54 : decode cX11_order 54 = .ok (.isub, 1) := by decide +kernel
theorem dX11_order_55 : decode cX11_order 55 = .ok (.if_icmp .le 5, 3) := by decide +kernel
theorem dX11_order_58 : decode cX11_order 58 = .ok (.iconst (-1), 1) := by decide +kernel
theorem dX11_order_59 : decode cX11_order 59 = .ok (.ireturn, 1) := by decide +kernel
theorem dX11_order_60 : decode cX11_order 60 = .ok (.aload_n 0, 1) := by decide +kernel
theorem dX11_order_61 : decode cX11_order 61 = .ok (.getfield 37, 3) := by decide +kernel
theorem dX11_order_64 : decode cX11_order 64 = .ok (.getfield 112, 3) := by decide +kernel
theorem dX11_order_67 : decode cX11_order 67 = .ok (.iload_n 1, 1) := by decide +kernel
theorem dX11_order_68 : decode cX11_order 68 = .ok (.invokevirtual 286, 3) := by decide +kernel
theorem dX11_order_71 : decode cX11_order 71 = .ok (.ifCond .ne 19, 3) := by decide +kernel
theorem dX11_order_74 : decode cX11_order 74 = .ok (.aload_n 0, 1) := by decide +kernel
theorem dX11_order_75 : decode cX11_order 75 = .ok (.getfield 37, 3) := by decide +kernel
theorem dX11_order_78 : decode cX11_order 78 = .ok (.getfield 283, 3) := by decide +kernel
theorem dX11_order_81 : decode cX11_order 81 = .ok (.iload_n 1, 1) := by decide +kernel
theorem dX11_order_82 : decode cX11_order 82 = .ok (.invokestatic 127, 3) := by decide +kernel
theorem dX11_order_85 : decode cX11_order 85 = .ok (.ifCond .ne 5, 3) := by decide +kernel
theorem dX11_order_88 : decode cX11_order 88 = .ok (.iconst (-1), 1) := by decide +kernel
theorem dX11_order_89 : decode cX11_order 89 = .ok (.ireturn, 1) := by decide +kernel
theorem dX11_order_90 : decode cX11_order 90 = .ok (.aload_n 0, 1) := by decide +kernel
theorem dX11_order_91 : decode cX11_order 91 = .ok (.iload_n 1, 1) := by decide +kernel
theorem dX11_order_92 : decode cX11_order 92 = .ok (.invokevirtual 298, 3) := by decide +kernel
theorem dX11_order_95 : decode cX11_order 95 = .ok (.iload_n 2, 1) := by decide +kernel
theorem dX11_order_96 : decode cX11_order 96 = .ok (.iconst 2, 1) := by decide +kernel
theorem dX11_order_97 : decode cX11_order 97 = .ok (.if_icmp .lt 14, 3) := by decide +kernel
theorem dX11_order_100 : decode cX11_order 100 = .ok (.aload_n 0, 1) := by decide +kernel
theorem dX11_order_101 : decode cX11_order 101 = .ok (.getfield 59, 3) := by decide +kernel
theorem dX11_order_104 : decode cX11_order 104 = .ok (.iload_n 2, 1) := by decide +kernel
theorem dX11_order_105 : decode cX11_order 105 = .ok (.iconst 2, 1) := by decide +kernel
theorem dX11_order_106 : decode cX11_order 106 = .ok (.isub, 1) := by decide +kernel
theorem dX11_order_107 : decode cX11_order 107 = .ok (.iaload, 1) := by decide +kernel
theorem dX11_order_108 : decode cX11_order 108 = .ok (.goto 19, 3) := by decide +kernel
theorem dX11_order_111 : decode cX11_order 111 = .ok (.aload_n 0, 1) := by decide +kernel
theorem dX11_order_112 : decode cX11_order 112 = .ok (.iload_n 1, 1) := by decide +kernel
theorem dX11_order_113 : decode cX11_order 113 = .ok (.iload_n 3, 1) := by decide +kernel
theorem dX11_order_114 : decode cX11_order 114 = .ok (.iload_n 2, 1) := by decide +kernel
theorem dX11_order_115 : decode cX11_order 115 = .ok (.iconst 1, 1) := by decide +kernel
theorem dX11_order_116 : decode cX11_order 116 = .ok (.if_icmp .ne 7, 3) := by decide +kernel
theorem dX11_order_119 : decode cX11_order 119 = .ok (.iconst 1, 1) := by decide +kernel
theorem dX11_order_120 : decode cX11_order 120 = .ok (.goto 4, 3) := by decide +kernel
theorem dX11_order_123 : decode cX11_order 123 = .ok (.iconst 0, 1) := by decide +kernel
theorem dX11_order_124 : decode cX11_order 124 = .ok (.invokevirtual 301, 3) := by decide +kernel
theorem dX11_order_127 : decode cX11_order 127 = .ok (.ireturn, 1) := by decide +kernel
theorem dX11_tried_0 : decode cX11_tried 0 = .ok (.iload_n 1, 1) := by decide +kernel
theorem dX11_tried_1 : decode cX11_tried 1 = .ok (.iconst (-1), 1) := by decide +kernel
theorem dX11_tried_2 : decode cX11_tried 2 = .ok (.if_icmp .eq 13, 3) := by decide +kernel
theorem dX11_tried_5 : decode cX11_tried 5 = .ok (.aload_n 0, 1) := by decide +kernel
theorem dX11_tried_6 : decode cX11_tried 6 = .ok (.iload_n 1, 1) := by decide +kernel
theorem dX11_tried_7 : decode cX11_tried 7 = .ok (.invokevirtual 143, 3) := by decide +kernel
theorem dX11_tried_10 : decode cX11_tried 10 = .ok (.ifCond .ne 5, 3) := by decide +kernel
theorem dX11_tried_13 : decode cX11_tried 13 = .ok (.iconst (-1), 1) := by decide +kernel
theorem dX11_tried_14 : decode cX11_tried 14 = .ok (.ireturn, 1) := by decide +kernel
theorem dX11_tried_15 : decode cX11_tried 15 = .ok (.aload_n 0, 1) := by decide +kernel
theorem dX11_tried_16 : decode cX11_tried 16 = .ok (.getfield 37, 3) := by decide +kernel
theorem dX11_tried_19 : decode cX11_tried 19 = .ok (.iload_n 1, 1) := by decide +kernel
theorem dX11_tried_20 : decode cX11_tried 20 = .ok (.invokevirtual 304, 3) := by decide +kernel
theorem dX11_tried_23 : decode cX11_tried 23 = .ok (.astore_n 3, 1) := by decide +kernel
theorem dX11_tried_24 : decode cX11_tried 24 = .ok (.iload_n 2, 1) := by decide +kernel
theorem dX11_tried_25 : decode cX11_tried 25 = .ok (.tableswitch 42 0 2 #[27, 32, 37], 27) := by decide +kernel
theorem dX11_tried_52 : decode cX11_tried 52 = .ok (.aload_n 3, 1) := by decide +kernel
theorem dX11_tried_53 : decode cX11_tried 53 = .ok (.getfield 182, 3) := by decide +kernel
theorem dX11_tried_56 : decode cX11_tried 56 = .ok (.ireturn, 1) := by decide +kernel
theorem dX11_tried_57 : decode cX11_tried 57 = .ok (.aload_n 3, 1) := by decide +kernel
theorem dX11_tried_58 : decode cX11_tried 58 = .ok (.getfield 185, 3) := by decide +kernel
theorem dX11_tried_61 : decode cX11_tried 61 = .ok (.ireturn, 1) := by decide +kernel
theorem dX11_tried_62 : decode cX11_tried 62 = .ok (.aload_n 3, 1) := by decide +kernel
theorem dX11_tried_63 : decode cX11_tried 63 = .ok (.invokevirtual 308, 3) := by decide +kernel
theorem dX11_tried_66 : decode cX11_tried 66 = .ok (.ireturn, 1) := by decide +kernel
theorem dX11_tried_67 : decode cX11_tried 67 = .ok (.iconst (-1), 1) := by decide +kernel
theorem dX11_tried_68 : decode cX11_tried 68 = .ok (.ireturn, 1) := by decide +kernel
theorem dX11_best_0 : decode cX11_best 0 = .ok (.iconst (-1), 1) := by decide +kernel
theorem dX11_best_1 : decode cX11_best 1 = .ok (.istore_n 1, 1) := by decide +kernel
theorem dX11_best_2 : decode cX11_best 2 = .ok (.iconst 0, 1) := by decide +kernel
theorem dX11_best_3 : decode cX11_best 3 = .ok (.istore_n 2, 1) := by decide +kernel
theorem dX11_best_4 : decode cX11_best 4 = .ok (.iload_n 2, 1) := by decide +kernel
theorem dX11_best_5 : decode cX11_best 5 = .ok (.aload_n 0, 1) := by decide +kernel
theorem dX11_best_6 : decode cX11_best 6 = .ok (.getfield 69, 3) := by decide +kernel
theorem dX11_best_9 : decode cX11_best 9 = .ok (.getfield 91, 3) := by decide +kernel
theorem dX11_best_12 : decode cX11_best 12 = .ok (.if_icmp .ge 38, 3) := by decide +kernel
theorem dX11_best_15 : decode cX11_best 15 = .ok (.iload_n 1, 1) := by decide +kernel
theorem dX11_best_16 : decode cX11_best 16 = .ok (.iconst (-1), 1) := by decide +kernel
theorem dX11_best_17 : decode cX11_best 17 = .ok (.if_icmp .eq 25, 3) := by decide +kernel
theorem dX11_best_20 : decode cX11_best 20 = .ok (.aload_n 0, 1) := by decide +kernel
theorem dX11_best_21 : decode cX11_best 21 = .ok (.getfield 37, 3) := by decide +kernel
theorem dX11_best_24 : decode cX11_best 24 = .ok (.iload_n 2, 1) := by decide +kernel
theorem dX11_best_25 : decode cX11_best 25 = .ok (.invokevirtual 304, 3) := by decide +kernel
theorem dX11_best_28 : decode cX11_best 28 = .ok (.aload_n 0, 1) := by decide +kernel
theorem dX11_best_29 : decode cX11_best 29 = .ok (.getfield 37, 3) := by decide +kernel
theorem dX11_best_32 : decode cX11_best 32 = .ok (.iload_n 1, 1) := by decide +kernel
theorem dX11_best_33 : decode cX11_best 33 = .ok (.invokevirtual 304, 3) := by decide +kernel
theorem dX11_best_36 : decode cX11_best 36 = .ok (.invokevirtual 311, 3) := by decide +kernel
theorem dX11_best_39 : decode cX11_best 39 = .ok (.ifCond .eq 5, 3) := by decide +kernel
theorem dX11_best_42 : decode cX11_best 42 = .ok (.iload_n 2, 1) := by decide +kernel
theorem dX11_best_43 : decode cX11_best 43 = .ok (.istore_n 1, 1) := by decide +kernel
theorem dX11_best_44 : decode cX11_best 44 = .ok (.iinc 2 1, 3) := by decide +kernel
theorem dX11_best_47 : decode cX11_best 47 = .ok (.goto (-43), 3) := by decide +kernel
theorem dX11_best_50 : decode cX11_best 50 = .ok (.iload_n 1, 1) := by decide +kernel
theorem dX11_best_51 : decode cX11_best 51 = .ok (.ireturn, 1) := by decide +kernel
theorem dX11_mark_0 : decode cX11_mark 0 = .ok (.iload_n 1, 1) := by decide +kernel
theorem dX11_mark_1 : decode cX11_mark 1 = .ok (.ifCond .lt 8, 3) := by decide +kernel
theorem dX11_mark_4 : decode cX11_mark 4 = .ok (.iload_n 1, 1) := by decide +kernel
theorem dX11_mark_5 : decode cX11_mark 5 = .ok (.iconst 4, 1) := by decide +kernel
theorem dX11_mark_6 : decode cX11_mark 6 = .ok (.if_icmp .lt 5, 3) := by decide +kernel
theorem dX11_mark_9 : decode cX11_mark 9 = .ok (.iconst 0, 1) := by decide +kernel
theorem dX11_mark_10 : decode cX11_mark 10 = .ok (.ireturn, 1) := by decide +kernel
theorem dX11_mark_11 : decode cX11_mark 11 = .ok (.iload_n 2, 1) := by decide +kernel
theorem dX11_mark_12 : decode cX11_mark 12 = .ok (.ifCond .eq 9, 3) := by decide +kernel
theorem dX11_mark_15 : decode cX11_mark 15 = .ok (.aload_n 0, 1) := by decide +kernel
theorem dX11_mark_16 : decode cX11_mark 16 = .ok (.iload_n 1, 1) := by decide +kernel
theorem dX11_mark_17 : decode cX11_mark 17 = .ok (.invokevirtual 315, 3) := by decide +kernel
theorem dX11_mark_20 : decode cX11_mark 20 = .ok (.ireturn, 1) := by decide +kernel
theorem dX11_mark_21 : decode cX11_mark 21 = .ok (.aload_n 0, 1) := by decide +kernel
theorem dX11_mark_22 : decode cX11_mark 22 = .ok (.getfield 41, 3) := by decide +kernel
theorem dX11_mark_25 : decode cX11_mark 25 = .ok (.iload_n 1, 1) := by decide +kernel
theorem dX11_mark_26 : decode cX11_mark 26 = .ok (.aaload, 1) := by decide +kernel
theorem dX11_mark_27 : decode cX11_mark 27 = .ok (.ifnonnull 20, 3) := by decide +kernel
theorem dX11_mark_30 : decode cX11_mark 30 = .ok (.aload_n 0, 1) := by decide +kernel
theorem dX11_mark_31 : decode cX11_mark 31 = .ok (.getfield 41, 3) := by decide +kernel
theorem dX11_mark_34 : decode cX11_mark 34 = .ok (.iload_n 1, 1) := by decide +kernel
theorem dX11_mark_35 : decode cX11_mark 35 = .ok (.new 32, 3) := by decide +kernel
theorem dX11_mark_38 : decode cX11_mark 38 = .ok (.dup, 1) := by decide +kernel
theorem dX11_mark_39 : decode cX11_mark 39 = .ok (.aload_n 0, 1) := by decide +kernel
theorem dX11_mark_40 : decode cX11_mark 40 = .ok (.getfield 28, 3) := by decide +kernel
theorem dX11_mark_43 : decode cX11_mark 43 = .ok (.invokespecial 34, 3) := by decide +kernel
theorem dX11_mark_46 : decode cX11_mark 46 = .ok (.aastore, 1) := by decide +kernel
theorem dX11_mark_47 : decode cX11_mark 47 = .ok (.aload_n 0, 1) := by decide +kernel
theorem dX11_mark_48 : decode cX11_mark 48 = .ok (.getfield 41, 3) := by decide +kernel
theorem dX11_mark_51 : decode cX11_mark 51 = .ok (.iload_n 1, 1) := by decide +kernel
theorem dX11_mark_52 : decode cX11_mark 52 = .ok (.aaload, 1) := by decide +kernel
theorem dX11_mark_53 : decode cX11_mark 53 = .ok (.aload_n 0, 1) := by decide +kernel
theorem dX11_mark_54 : decode cX11_mark 54 = .ok (.getfield 37, 3) := by decide +kernel
theorem dX11_mark_57 : decode cX11_mark 57 = .ok (.invokevirtual 318, 3) := by decide +kernel
theorem dX11_mark_60 : decode cX11_mark 60 = .ok (.aload_n 0, 1) := by decide +kernel
theorem dX11_mark_61 : decode cX11_mark 61 = .ok (.dup, 1) := by decide +kernel
theorem dX11_mark_62 : decode cX11_mark 62 = .ok (.getfield 99, 3) := by decide +kernel
theorem dX11_mark_65 : decode cX11_mark 65 = .ok (.iconst 1, 1) := by decide +kernel
theorem dX11_mark_66 : decode cX11_mark 66 = .ok (.iload_n 1, 1) := by decide +kernel
theorem dX11_mark_67 : decode cX11_mark 67 = .ok (.ishl, 1) := by decide +kernel
theorem dX11_mark_68 : decode cX11_mark 68 = .ok (.ior, 1) := by decide +kernel
theorem dX11_mark_69 : decode cX11_mark 69 = .ok (.putfield 99, 3) := by decide +kernel
theorem dX11_mark_72 : decode cX11_mark 72 = .ok (.iconst 1, 1) := by decide +kernel
theorem dX11_mark_73 : decode cX11_mark 73 = .ok (.ireturn, 1) := by decide +kernel
theorem dX11_count_0 : decode cX11_count 0 = .ok (.iload_n 1, 1) := by decide +kernel
theorem dX11_count_1 : decode cX11_count 1 = .ok (.tableswitch 162 0 10 #[59, 67, 75, 83, 94, 102, 113, 124, 135, 146, 154], 59) := by decide +kernel
theorem dX11_count_60 : decode cX11_count 60 = .ok (.aload_n 0, 1) := by decide +kernel
theorem dX11_count_61 : decode cX11_count 61 = .ok (.getfield 69, 3) := by decide +kernel
theorem dX11_count_64 : decode cX11_count 64 = .ok (.getfield 230, 3) := by decide +kernel
theorem dX11_count_67 : decode cX11_count 67 = .ok (.ireturn, 1) := by decide +kernel
theorem dX11_count_68 : decode cX11_count 68 = .ok (.aload_n 0, 1) := by decide +kernel
theorem dX11_count_69 : decode cX11_count 69 = .ok (.getfield 69, 3) := by decide +kernel
theorem dX11_count_72 : decode cX11_count 72 = .ok (.getfield 322, 3) := by decide +kernel
theorem dX11_count_75 : decode cX11_count 75 = .ok (.ireturn, 1) := by decide +kernel
theorem dX11_count_76 : decode cX11_count 76 = .ok (.aload_n 0, 1) := by decide +kernel
theorem dX11_count_77 : decode cX11_count 77 = .ok (.getfield 69, 3) := by decide +kernel
theorem dX11_count_80 : decode cX11_count 80 = .ok (.getfield 91, 3) := by decide +kernel
theorem dX11_count_83 : decode cX11_count 83 = .ok (.ireturn, 1) := by decide +kernel
theorem dX11_count_84 : decode cX11_count 84 = .ok (.aload_n 0, 1) := by decide +kernel
theorem dX11_count_85 : decode cX11_count 85 = .ok (.getfield 37, 3) := by decide +kernel
theorem dX11_count_88 : decode cX11_count 88 = .ok (.getfield 112, 3) := by decide +kernel
theorem dX11_count_91 : decode cX11_count 91 = .ok (.invokevirtual 295, 3) := by decide +kernel
theorem dX11_count_94 : decode cX11_count 94 = .ok (.ireturn, 1) := by decide +kernel
theorem dX11_count_95 : decode cX11_count 95 = .ok (.aload_n 0, 1) := by decide +kernel
theorem dX11_count_96 : decode cX11_count 96 = .ok (.getfield 37, 3) := by decide +kernel
theorem dX11_count_99 : decode cX11_count 99 = .ok (.getfield 146, 3) := by decide +kernel
theorem dX11_count_102 : decode cX11_count 102 = .ok (.ireturn, 1) := by decide +kernel
theorem dX11_count_103 : decode cX11_count 103 = .ok (.aload_n 0, 1) := by decide +kernel
theorem dX11_count_104 : decode cX11_count 104 = .ok (.getfield 37, 3) := by decide +kernel
theorem dX11_count_107 : decode cX11_count 107 = .ok (.getfield 210, 3) := by decide +kernel
theorem dX11_count_110 : decode cX11_count 110 = .ok (.getfield 220, 3) := by decide +kernel
theorem dX11_count_113 : decode cX11_count 113 = .ok (.ireturn, 1) := by decide +kernel
theorem dX11_count_114 : decode cX11_count 114 = .ok (.aload_n 0, 1) := by decide +kernel
theorem dX11_count_115 : decode cX11_count 115 = .ok (.getfield 37, 3) := by decide +kernel
theorem dX11_count_118 : decode cX11_count 118 = .ok (.getfield 233, 3) := by decide +kernel
theorem dX11_count_121 : decode cX11_count 121 = .ok (.invokevirtual 242, 3) := by decide +kernel
theorem dX11_count_124 : decode cX11_count 124 = .ok (.ireturn, 1) := by decide +kernel
theorem dX11_count_125 : decode cX11_count 125 = .ok (.aload_n 0, 1) := by decide +kernel
theorem dX11_count_126 : decode cX11_count 126 = .ok (.getfield 37, 3) := by decide +kernel
theorem dX11_count_129 : decode cX11_count 129 = .ok (.getfield 256, 3) := by decide +kernel
theorem dX11_count_132 : decode cX11_count 132 = .ok (.getfield 263, 3) := by decide +kernel
theorem dX11_count_135 : decode cX11_count 135 = .ok (.ireturn, 1) := by decide +kernel
theorem dX11_count_136 : decode cX11_count 136 = .ok (.aload_n 0, 1) := by decide +kernel
theorem dX11_count_137 : decode cX11_count 137 = .ok (.getfield 37, 3) := by decide +kernel
theorem dX11_count_140 : decode cX11_count 140 = .ok (.getfield 283, 3) := by decide +kernel
theorem dX11_count_143 : decode cX11_count 143 = .ok (.invokestatic 289, 3) := by decide +kernel
theorem dX11_count_146 : decode cX11_count 146 = .ok (.ireturn, 1) := by decide +kernel
theorem dX11_count_147 : decode cX11_count 147 = .ok (.aload_n 0, 1) := by decide +kernel
theorem dX11_count_148 : decode cX11_count 148 = .ok (.getfield 37, 3) := by decide +kernel
theorem dX11_count_151 : decode cX11_count 151 = .ok (.getfield 325, 3) := by decide +kernel
theorem dX11_count_154 : decode cX11_count 154 = .ok (.ireturn, 1) := by decide +kernel
theorem dX11_count_155 : decode cX11_count 155 = .ok (.aload_n 0, 1) := by decide +kernel
theorem dX11_count_156 : decode cX11_count 156 = .ok (.getfield 10, 3) := by decide +kernel
theorem dX11_count_159 : decode cX11_count 159 = .ok (.invokevirtual 80, 3) := by decide +kernel
theorem dX11_count_162 : decode cX11_count 162 = .ok (.ireturn, 1) := by decide +kernel
theorem dX11_count_163 : decode cX11_count 163 = .ok (.iconst (-1), 1) := by decide +kernel
theorem dX11_count_164 : decode cX11_count 164 = .ok (.ireturn, 1) := by decide +kernel
theorem dX11_whyRefused_0 : decode cX11_whyRefused 0 = .ok (.aload_n 0, 1) := by decide +kernel
theorem dX11_whyRefused_1 : decode cX11_whyRefused 1 = .ok (.iload_n 1, 1) := by decide +kernel
theorem dX11_whyRefused_2 : decode cX11_whyRefused 2 = .ok (.invokevirtual 118, 3) := by decide +kernel
theorem dX11_whyRefused_5 : decode cX11_whyRefused 5 = .ok (.ifCond .eq 13, 3) := by decide +kernel
theorem dX11_whyRefused_8 : decode cX11_whyRefused 8 = .ok (.aload_n 0, 1) := by decide +kernel
theorem dX11_whyRefused_9 : decode cX11_whyRefused 9 = .ok (.getfield 69, 3) := by decide +kernel
theorem dX11_whyRefused_12 : decode cX11_whyRefused 12 = .ok (.getfield 230, 3) := by decide +kernel
theorem dX11_whyRefused_15 : decode cX11_whyRefused 15 = .ok (.ifCond .ne 5, 3) := by decide +kernel
theorem dX11_whyRefused_18 : decode cX11_whyRefused 18 = .ok (.iconst 1, 1) := by decide +kernel
theorem dX11_whyRefused_19 : decode cX11_whyRefused 19 = .ok (.ireturn, 1) := by decide +kernel
theorem dX11_whyRefused_20 : decode cX11_whyRefused 20 = .ok (.iload_n 2, 1) := by decide +kernel
theorem dX11_whyRefused_21 : decode cX11_whyRefused 21 = .ok (.invokestatic 207, 3) := by decide +kernel
theorem dX11_whyRefused_24 : decode cX11_whyRefused 24 = .ok (.ifCond .eq 14, 3) := by decide +kernel
theorem dX11_whyRefused_27 : decode cX11_whyRefused 27 = .ok (.iload_n 2, 1) := by decide +kernel
theorem dX11_whyRefused_28 : decode cX11_whyRefused 28 = .ok (.aload_n 0, 1) := by decide +kernel
theorem dX11_whyRefused_29 : decode cX11_whyRefused 29 = .ok (.getfield 37, 3) := by decide +kernel
theorem dX11_whyRefused_32 : decode cX11_whyRefused 32 = .ok (.getfield 328, 3) := by decide +kernel
theorem dX11_whyRefused_35 : decode cX11_whyRefused 35 = .ok (.if_icmp .ge 5, 3) := by decide +kernel
theorem dX11_whyRefused_38 : decode cX11_whyRefused 38 = .ok (.iconst 2, 1) := by decide +kernel
theorem dX11_whyRefused_39 : decode cX11_whyRefused 39 = .ok (.ireturn, 1) := by decide +kernel
theorem dX11_whyRefused_40 : decode cX11_whyRefused 40 = .ok (.aload_n 0, 1) := by decide +kernel
theorem dX11_whyRefused_41 : decode cX11_whyRefused 41 = .ok (.getfield 37, 3) := by decide +kernel
theorem dX11_whyRefused_44 : decode cX11_whyRefused 44 = .ok (.getfield 112, 3) := by decide +kernel
theorem dX11_whyRefused_47 : decode cX11_whyRefused 47 = .ok (.iload_n 1, 1) := by decide +kernel
theorem dX11_whyRefused_48 : decode cX11_whyRefused 48 = .ok (.invokevirtual 286, 3) := by decide +kernel
theorem dX11_whyRefused_51 : decode cX11_whyRefused 51 = .ok (.iload_n 3, 1) := by decide +kernel
theorem dX11_whyRefused_52 : decode cX11_whyRefused 52 = .ok (.if_icmp .ne 5, 3) := by decide +kernel
theorem dX11_whyRefused_55 : decode cX11_whyRefused 55 = .ok (.iconst 3, 1) := by decide +kernel
theorem dX11_whyRefused_56 : decode cX11_whyRefused 56 = .ok (.ireturn, 1) := by decide +kernel
theorem dX11_whyRefused_57 : decode cX11_whyRefused 57 = .ok (.iload_n 3, 1) := by decide +kernel
theorem dX11_whyRefused_58 : decode cX11_whyRefused 58 = .ok (.ifCond .eq 25, 3) := by decide +kernel
theorem dX11_whyRefused_61 : decode cX11_whyRefused 61 = .ok (.aload_n 0, 1) := by decide +kernel
theorem dX11_whyRefused_62 : decode cX11_whyRefused 62 = .ok (.getfield 37, 3) := by decide +kernel
theorem dX11_whyRefused_65 : decode cX11_whyRefused 65 = .ok (.getfield 112, 3) := by decide +kernel
theorem dX11_whyRefused_68 : decode cX11_whyRefused 68 = .ok (.invokevirtual 295, 3) := by decide +kernel
theorem dX11_whyRefused_71 : decode cX11_whyRefused 71 = .ok (.aload_n 0, 1) := by decide +kernel
theorem dX11_whyRefused_72 : decode cX11_whyRefused 72 = .ok (.getfield 69, 3) := by decide +kernel
theorem dX11_whyRefused_75 : decode cX11_whyRefused 75 = .ok (.getfield 230, 3) := by decide +kernel
theorem dX11_whyRefused_78 : decode cX11_whyRefused 78 = .ok (.if_icmp .lt 5, 3) := by decide +kernel
theorem dX11_whyRefused_81 : decode cX11_whyRefused 81 = .ok (.iconst 4, 1) := by decide +kernel
theorem dX11_whyRefused_82 : decode cX11_whyRefused 82 = .ok (.ireturn, 1) := by decide +kernel
theorem dX11_whyRefused_83 : decode cX11_whyRefused 83 = .ok (.aload_n 0, 1) := by decide +kernel
theorem dX11_whyRefused_84 : decode cX11_whyRefused 84 = .ok (.getfield 37, 3) := by decide +kernel
theorem dX11_whyRefused_87 : decode cX11_whyRefused 87 = .ok (.getfield 325, 3) := by decide +kernel
theorem dX11_whyRefused_90 : decode cX11_whyRefused 90 = .ok (.bipush 100, 2) := by decide +kernel
theorem dX11_whyRefused_92 : decode cX11_whyRefused 92 = .ok (.if_icmp .lt 7, 3) := by decide +kernel
theorem dX11_whyRefused_95 : decode cX11_whyRefused 95 = .ok (.iconst 5, 1) := by decide +kernel
theorem dX11_whyRefused_96 : decode cX11_whyRefused 96 = .ok (.goto 4, 3) := by decide +kernel
theorem dX11_whyRefused_99 : decode cX11_whyRefused 99 = .ok (.iconst 0, 1) := by decide +kernel
theorem dX11_whyRefused_100 : decode cX11_whyRefused 100 = .ok (.ireturn, 1) := by decide +kernel
theorem dX11_planArrivals_0 : decode cX11_planArrivals 0 = .ok (.aload_n 0, 1) := by decide +kernel
theorem dX11_planArrivals_1 : decode cX11_planArrivals 1 = .ok (.getfield 37, 3) := by decide +kernel
theorem dX11_planArrivals_4 : decode cX11_planArrivals 4 = .ok (.getfield 283, 3) := by decide +kernel
theorem dX11_planArrivals_7 : decode cX11_planArrivals 7 = .ok (.iconst 1, 1) := by decide +kernel
theorem dX11_planArrivals_8 : decode cX11_planArrivals 8 = .ok (.iload_n 1, 1) := by decide +kernel
theorem dX11_planArrivals_9 : decode cX11_planArrivals 9 = .ok (.ishl, 1) := by decide +kernel
theorem dX11_planArrivals_10 : decode cX11_planArrivals 10 = .ok (.iconst (-1), 1) := by decide +kernel
theorem dX11_planArrivals_11 : decode cX11_planArrivals 11 = .ok (.ixor, 1) := by decide +kernel
theorem dX11_planArrivals_12 : decode cX11_planArrivals 12 = .ok (.iand, 1) := by decide +kernel
theorem dX11_planArrivals_13 : decode cX11_planArrivals 13 = .ok (.istore_n 2, 1) := by decide +kernel
theorem dX11_planArrivals_14 : decode cX11_planArrivals 14 = .ok (.aload_n 0, 1) := by decide +kernel
theorem dX11_planArrivals_15 : decode cX11_planArrivals 15 = .ok (.iload_n 2, 1) := by decide +kernel
theorem dX11_planArrivals_16 : decode cX11_planArrivals 16 = .ok (.aload_n 0, 1) := by decide +kernel
theorem dX11_planArrivals_17 : decode cX11_planArrivals 17 = .ok (.getfield 69, 3) := by decide +kernel
theorem dX11_planArrivals_20 : decode cX11_planArrivals 20 = .ok (.getfield 124, 3) := by decide +kernel
theorem dX11_planArrivals_23 : decode cX11_planArrivals 23 = .ok (.iconst (-1), 1) := by decide +kernel
theorem dX11_planArrivals_24 : decode cX11_planArrivals 24 = .ok (.ixor, 1) := by decide +kernel
theorem dX11_planArrivals_25 : decode cX11_planArrivals 25 = .ok (.iand, 1) := by decide +kernel
theorem dX11_planArrivals_26 : decode cX11_planArrivals 26 = .ok (.iconst 0, 1) := by decide +kernel
theorem dX11_planArrivals_27 : decode cX11_planArrivals 27 = .ok (.invokevirtual 331, 3) := by decide +kernel
theorem dX11_planArrivals_30 : decode cX11_planArrivals 30 = .ok (.istore_n 3, 1) := by decide +kernel
theorem dX11_planArrivals_31 : decode cX11_planArrivals 31 = .ok (.aload_n 0, 1) := by decide +kernel
theorem dX11_planArrivals_32 : decode cX11_planArrivals 32 = .ok (.iload_n 2, 1) := by decide +kernel
theorem dX11_planArrivals_33 : decode cX11_planArrivals 33 = .ok (.aload_n 0, 1) := by decide +kernel
theorem dX11_planArrivals_34 : decode cX11_planArrivals 34 = .ok (.getfield 69, 3) := by decide +kernel
theorem dX11_planArrivals_37 : decode cX11_planArrivals 37 = .ok (.getfield 124, 3) := by decide +kernel
theorem dX11_planArrivals_40 : decode cX11_planArrivals 40 = .ok (.iand, 1) := by decide +kernel
theorem dX11_planArrivals_41 : decode cX11_planArrivals 41 = .ok (.iload_n 3, 1) := by decide +kernel
theorem dX11_planArrivals_42 : decode cX11_planArrivals 42 = .ok (.invokevirtual 331, 3) := by decide +kernel
theorem dX11_planArrivals_45 : decode cX11_planArrivals 45 = .ok (.istore_n 3, 1) := by decide +kernel
theorem dX11_planArrivals_46 : decode cX11_planArrivals 46 = .ok (.aload_n 0, 1) := by decide +kernel
theorem dX11_planArrivals_47 : decode cX11_planArrivals 47 = .ok (.aload_n 0, 1) := by decide +kernel
theorem dX11_planArrivals_48 : decode cX11_planArrivals 48 = .ok (.getfield 37, 3) := by decide +kernel
theorem dX11_planArrivals_51 : decode cX11_planArrivals 51 = .ok (.getfield 283, 3) := by decide +kernel
theorem dX11_planArrivals_54 : decode cX11_planArrivals 54 = .ok (.iload_n 2, 1) := by decide +kernel
theorem dX11_planArrivals_55 : decode cX11_planArrivals 55 = .ok (.iconst (-1), 1) := by decide +kernel
theorem dX11_planArrivals_56 : decode cX11_planArrivals 56 = .ok (.ixor, 1) := by decide +kernel
theorem dX11_planArrivals_57 : decode cX11_planArrivals 57 = .ok (.iand, 1) := by decide +kernel
theorem dX11_planArrivals_58 : decode cX11_planArrivals 58 = .ok (.iload_n 3, 1) := by decide +kernel
theorem dX11_planArrivals_59 : decode cX11_planArrivals 59 = .ok (.invokevirtual 331, 3) := by decide +kernel
theorem dX11_planArrivals_62 : decode cX11_planArrivals 62 = .ok (.pop, 1) := by decide +kernel
theorem dX11_planArrivals_63 : decode cX11_planArrivals 63 = .ok (.return_, 1) := by decide +kernel
theorem dX11_addArrivals_0 : decode cX11_addArrivals 0 = .ok (.iload_n 2, 1) := by decide +kernel
theorem dX11_addArrivals_1 : decode cX11_addArrivals 1 = .ok (.istore_n 3, 1) := by decide +kernel
theorem dX11_addArrivals_2 : decode cX11_addArrivals 2 = .ok (.iconst 0, 1) := by decide +kernel
theorem dX11_addArrivals_3 : decode cX11_addArrivals 3 = .ok (.istore 4, 2) := by decide +kernel
theorem dX11_addArrivals_5 : decode cX11_addArrivals 5 = .ok (.iload 4, 2) := by decide +kernel
theorem dX11_addArrivals_7 : decode cX11_addArrivals 7 = .ok (.bipush 10, 2) := by decide +kernel
theorem dX11_addArrivals_9 : decode cX11_addArrivals 9 = .ok (.if_icmp .ge 36, 3) := by decide +kernel
theorem dX11_addArrivals_12 : decode cX11_addArrivals 12 = .ok (.iload_n 1, 1) := by decide +kernel
theorem dX11_addArrivals_13 : decode cX11_addArrivals 13 = .ok (.iload 4, 2) := by decide +kernel
theorem dX11_addArrivals_15 : decode cX11_addArrivals 15 = .ok (.invokestatic 127, 3) := by decide +kernel
theorem dX11_addArrivals_18 : decode cX11_addArrivals 18 = .ok (.iconst 1, 1) := by decide +kernel
theorem dX11_addArrivals_19 : decode cX11_addArrivals 19 = .ok (.if_icmp .ne 20, 3) := by decide +kernel
theorem dX11_addArrivals_22 : decode cX11_addArrivals 22 = .ok (.iload_n 3, 1) := by decide +kernel
theorem dX11_addArrivals_23 : decode cX11_addArrivals 23 = .ok (.bipush 7, 2) := by decide +kernel
theorem dX11_addArrivals_25 : decode cX11_addArrivals 25 = .ok (.if_icmp .ge 14, 3) := by decide +kernel
theorem dX11_addArrivals_28 : decode cX11_addArrivals 28 = .ok (.aload_n 0, 1) := by decide +kernel
theorem dX11_addArrivals_29 : decode cX11_addArrivals 29 = .ok (.getfield 59, 3) := by decide +kernel
theorem dX11_addArrivals_32 : decode cX11_addArrivals 32 = .ok (.iload_n 3, 1) := by decide +kernel
theorem dX11_addArrivals_33 : decode cX11_addArrivals 33 = .ok (.iload 4, 2) := by decide +kernel
theorem dX11_addArrivals_35 : decode cX11_addArrivals 35 = .ok (.iastore, 1) := by decide +kernel
theorem dX11_addArrivals_36 : decode cX11_addArrivals 36 = .ok (.iinc 3 1, 3) := by decide +kernel
theorem dX11_addArrivals_39 : decode cX11_addArrivals 39 = .ok (.iinc 4 1, 3) := by decide +kernel
theorem dX11_addArrivals_42 : decode cX11_addArrivals 42 = .ok (.goto (-37), 3) := by decide +kernel
theorem dX11_addArrivals_45 : decode cX11_addArrivals 45 = .ok (.iload_n 3, 1) := by decide +kernel
theorem dX11_addArrivals_46 : decode cX11_addArrivals 46 = .ok (.ireturn, 1) := by decide +kernel
theorem dX11_movesByArrivals_0 : decode cX11_movesByArrivals 0 = .ok (.aload_n 0, 1) := by decide +kernel
theorem dX11_movesByArrivals_1 : decode cX11_movesByArrivals 1 = .ok (.getfield 37, 3) := by decide +kernel
theorem dX11_movesByArrivals_4 : decode cX11_movesByArrivals 4 = .ok (.getfield 112, 3) := by decide +kernel
theorem dX11_movesByArrivals_7 : decode cX11_movesByArrivals 7 = .ok (.astore 4, 2) := by decide +kernel
theorem dX11_movesByArrivals_9 : decode cX11_movesByArrivals 9 = .ok (.aload_n 0, 1) := by decide +kernel
theorem dX11_movesByArrivals_10 : decode cX11_movesByArrivals 10 = .ok (.getfield 55, 3) := by decide +kernel
theorem dX11_movesByArrivals_13 : decode cX11_movesByArrivals 13 = .ok (.aload 4, 2) := by decide +kernel
theorem dX11_movesByArrivals_15 : decode cX11_movesByArrivals 15 = .ok (.invokevirtual 334, 3) := by decide +kernel
theorem dX11_movesByArrivals_18 : decode cX11_movesByArrivals 18 = .ok (.iconst 0, 1) := by decide +kernel
theorem dX11_movesByArrivals_19 : decode cX11_movesByArrivals 19 = .ok (.istore 5, 2) := by decide +kernel
theorem dX11_movesByArrivals_21 : decode cX11_movesByArrivals 21 = .ok (.iload 5, 2) := by decide +kernel
theorem dX11_movesByArrivals_23 : decode cX11_movesByArrivals 23 = .ok (.iload_n 2, 1) := by decide +kernel
theorem dX11_movesByArrivals_24 : decode cX11_movesByArrivals 24 = .ok (.if_icmp .ge 35, 3) := by decide +kernel
theorem dX11_movesByArrivals_27 : decode cX11_movesByArrivals 27 = .ok (.iload 5, 2) := by decide +kernel
theorem dX11_movesByArrivals_29 : decode cX11_movesByArrivals 29 = .ok (.bipush 7, 2) := by decide +kernel
theorem dX11_movesByArrivals_31 : decode cX11_movesByArrivals 31 = .ok (.if_icmp .ge 28, 3) := by decide +kernel
theorem dX11_movesByArrivals_34 : decode cX11_movesByArrivals 34 = .ok (.aload_n 0, 1) := by decide +kernel
theorem dX11_movesByArrivals_35 : decode cX11_movesByArrivals 35 = .ok (.getfield 55, 3) := by decide +kernel
theorem dX11_movesByArrivals_38 : decode cX11_movesByArrivals 38 = .ok (.aload_n 0, 1) := by decide +kernel
theorem dX11_movesByArrivals_39 : decode cX11_movesByArrivals 39 = .ok (.getfield 69, 3) := by decide +kernel
theorem dX11_movesByArrivals_42 : decode cX11_movesByArrivals 42 = .ok (.aload_n 0, 1) := by decide +kernel
theorem dX11_movesByArrivals_43 : decode cX11_movesByArrivals 43 = .ok (.getfield 59, 3) := by decide +kernel
theorem dX11_movesByArrivals_46 : decode cX11_movesByArrivals 46 = .ok (.iload 5, 2) := by decide +kernel
theorem dX11_movesByArrivals_48 : decode cX11_movesByArrivals 48 = .ok (.iaload, 1) := by decide +kernel
theorem dX11_movesByArrivals_49 : decode cX11_movesByArrivals 49 = .ok (.aconst_null, 1) := by decide +kernel
theorem dX11_movesByArrivals_50 : decode cX11_movesByArrivals 50 = .ok (.invokevirtual 337, 3) := by decide +kernel
theorem dX11_movesByArrivals_53 : decode cX11_movesByArrivals 53 = .ok (.iinc 5 1, 3) := by decide +kernel
theorem dX11_movesByArrivals_56 : decode cX11_movesByArrivals 56 = .ok (.goto (-35), 3) := by decide +kernel
theorem dX11_movesByArrivals_59 : decode cX11_movesByArrivals 59 = .ok (.iload_n 3, 1) := by decide +kernel
theorem dX11_movesByArrivals_60 : decode cX11_movesByArrivals 60 = .ok (.ifCond .eq 19, 3) := by decide +kernel
theorem dX11_movesByArrivals_63 : decode cX11_movesByArrivals 63 = .ok (.aload_n 0, 1) := by decide +kernel
theorem dX11_movesByArrivals_64 : decode cX11_movesByArrivals 64 = .ok (.getfield 55, 3) := by decide +kernel
theorem dX11_movesByArrivals_67 : decode cX11_movesByArrivals 67 = .ok (.getfield 185, 3) := by decide +kernel
theorem dX11_movesByArrivals_70 : decode cX11_movesByArrivals 70 = .ok (.aload 4, 2) := by decide +kernel
theorem dX11_movesByArrivals_72 : decode cX11_movesByArrivals 72 = .ok (.getfield 185, 3) := by decide +kernel
theorem dX11_movesByArrivals_75 : decode cX11_movesByArrivals 75 = .ok (.isub, 1) := by decide +kernel
theorem dX11_movesByArrivals_76 : decode cX11_movesByArrivals 76 = .ok (.goto 20, 3) := by decide +kernel
theorem dX11_movesByArrivals_79 : decode cX11_movesByArrivals 79 = .ok (.aload_n 0, 1) := by decide +kernel
theorem dX11_movesByArrivals_80 : decode cX11_movesByArrivals 80 = .ok (.getfield 55, 3) := by decide +kernel
theorem dX11_movesByArrivals_83 : decode cX11_movesByArrivals 83 = .ok (.getfield 137, 3) := by decide +kernel
theorem dX11_movesByArrivals_86 : decode cX11_movesByArrivals 86 = .ok (.iload_n 1, 1) := by decide +kernel
theorem dX11_movesByArrivals_87 : decode cX11_movesByArrivals 87 = .ok (.iaload, 1) := by decide +kernel
theorem dX11_movesByArrivals_88 : decode cX11_movesByArrivals 88 = .ok (.aload 4, 2) := by decide +kernel
theorem dX11_movesByArrivals_90 : decode cX11_movesByArrivals 90 = .ok (.getfield 137, 3) := by decide +kernel
theorem dX11_movesByArrivals_93 : decode cX11_movesByArrivals 93 = .ok (.iload_n 1, 1) := by decide +kernel
theorem dX11_movesByArrivals_94 : decode cX11_movesByArrivals 94 = .ok (.iaload, 1) := by decide +kernel
theorem dX11_movesByArrivals_95 : decode cX11_movesByArrivals 95 = .ok (.isub, 1) := by decide +kernel
theorem dX11_movesByArrivals_96 : decode cX11_movesByArrivals 96 = .ok (.ireturn, 1) := by decide +kernel
theorem dX11_goBackTo_0 : decode cX11_goBackTo 0 = .ok (.aload_n 0, 1) := by decide +kernel
theorem dX11_goBackTo_1 : decode cX11_goBackTo 1 = .ok (.getfield 99, 3) := by decide +kernel
theorem dX11_goBackTo_4 : decode cX11_goBackTo 4 = .ok (.iload_n 1, 1) := by decide +kernel
theorem dX11_goBackTo_5 : decode cX11_goBackTo 5 = .ok (.invokestatic 127, 3) := by decide +kernel
theorem dX11_goBackTo_8 : decode cX11_goBackTo 8 = .ok (.ifCond .eq 12, 3) := by decide +kernel
theorem dX11_goBackTo_11 : decode cX11_goBackTo 11 = .ok (.aload_n 0, 1) := by decide +kernel
theorem dX11_goBackTo_12 : decode cX11_goBackTo 12 = .ok (.getfield 41, 3) := by decide +kernel
theorem dX11_goBackTo_15 : decode cX11_goBackTo 15 = .ok (.iload_n 1, 1) := by decide +kernel
theorem dX11_goBackTo_16 : decode cX11_goBackTo 16 = .ok (.aaload, 1) := by decide +kernel
theorem dX11_goBackTo_17 : decode cX11_goBackTo 17 = .ok (.ifnonnull 5, 3) := by decide +kernel
theorem dX11_goBackTo_20 : decode cX11_goBackTo 20 = .ok (.iconst 0, 1) := by decide +kernel
theorem dX11_goBackTo_21 : decode cX11_goBackTo 21 = .ok (.ireturn, 1) := by decide +kernel
theorem dX11_goBackTo_22 : decode cX11_goBackTo 22 = .ok (.aload_n 0, 1) := by decide +kernel
theorem dX11_goBackTo_23 : decode cX11_goBackTo 23 = .ok (.getfield 37, 3) := by decide +kernel
theorem dX11_goBackTo_26 : decode cX11_goBackTo 26 = .ok (.aload_n 0, 1) := by decide +kernel
theorem dX11_goBackTo_27 : decode cX11_goBackTo 27 = .ok (.getfield 41, 3) := by decide +kernel
theorem dX11_goBackTo_30 : decode cX11_goBackTo 30 = .ok (.iload_n 1, 1) := by decide +kernel
theorem dX11_goBackTo_31 : decode cX11_goBackTo 31 = .ok (.aaload, 1) := by decide +kernel
theorem dX11_goBackTo_32 : decode cX11_goBackTo 32 = .ok (.invokevirtual 318, 3) := by decide +kernel
theorem dX11_goBackTo_35 : decode cX11_goBackTo 35 = .ok (.iconst 1, 1) := by decide +kernel
theorem dX11_goBackTo_36 : decode cX11_goBackTo 36 = .ok (.ireturn, 1) := by decide +kernel
theorem dX11_isRoom_0 : decode cX11_isRoom 0 = .ok (.iload_n 1, 1) := by decide +kernel
theorem dX11_isRoom_1 : decode cX11_isRoom 1 = .ok (.ifCond .lt 18, 3) := by decide +kernel
theorem dX11_isRoom_4 : decode cX11_isRoom 4 = .ok (.iload_n 1, 1) := by decide +kernel
theorem dX11_isRoom_5 : decode cX11_isRoom 5 = .ok (.aload_n 0, 1) := by decide +kernel
theorem dX11_isRoom_6 : decode cX11_isRoom 6 = .ok (.getfield 69, 3) := by decide +kernel
theorem dX11_isRoom_9 : decode cX11_isRoom 9 = .ok (.getfield 230, 3) := by decide +kernel
theorem dX11_isRoom_12 : decode cX11_isRoom 12 = .ok (.if_icmp .ge 7, 3) := by decide +kernel
theorem dX11_isRoom_15 : decode cX11_isRoom 15 = .ok (.iconst 1, 1) := by decide +kernel
theorem dX11_isRoom_16 : decode cX11_isRoom 16 = .ok (.goto 4, 3) := by decide +kernel
theorem dX11_isRoom_19 : decode cX11_isRoom 19 = .ok (.iconst 0, 1) := by decide +kernel
theorem dX11_isRoom_20 : decode cX11_isRoom 20 = .ok (.ireturn, 1) := by decide +kernel
theorem dX11_isGuest_0 : decode cX11_isGuest 0 = .ok (.iload_n 1, 1) := by decide +kernel
theorem dX11_isGuest_1 : decode cX11_isGuest 1 = .ok (.ifCond .lt 18, 3) := by decide +kernel
theorem dX11_isGuest_4 : decode cX11_isGuest 4 = .ok (.iload_n 1, 1) := by decide +kernel
theorem dX11_isGuest_5 : decode cX11_isGuest 5 = .ok (.aload_n 0, 1) := by decide +kernel
theorem dX11_isGuest_6 : decode cX11_isGuest 6 = .ok (.getfield 69, 3) := by decide +kernel
theorem dX11_isGuest_9 : decode cX11_isGuest 9 = .ok (.getfield 322, 3) := by decide +kernel
theorem dX11_isGuest_12 : decode cX11_isGuest 12 = .ok (.if_icmp .ge 7, 3) := by decide +kernel
theorem dX11_isGuest_15 : decode cX11_isGuest 15 = .ok (.iconst 1, 1) := by decide +kernel
theorem dX11_isGuest_16 : decode cX11_isGuest 16 = .ok (.goto 4, 3) := by decide +kernel
theorem dX11_isGuest_19 : decode cX11_isGuest 19 = .ok (.iconst 0, 1) := by decide +kernel
theorem dX11_isGuest_20 : decode cX11_isGuest 20 = .ok (.ireturn, 1) := by decide +kernel
theorem dX11_isRule_0 : decode cX11_isRule 0 = .ok (.iload_n 1, 1) := by decide +kernel
theorem dX11_isRule_1 : decode cX11_isRule 1 = .ok (.ifCond .lt 18, 3) := by decide +kernel
theorem dX11_isRule_4 : decode cX11_isRule 4 = .ok (.iload_n 1, 1) := by decide +kernel
theorem dX11_isRule_5 : decode cX11_isRule 5 = .ok (.aload_n 0, 1) := by decide +kernel
theorem dX11_isRule_6 : decode cX11_isRule 6 = .ok (.getfield 69, 3) := by decide +kernel
theorem dX11_isRule_9 : decode cX11_isRule 9 = .ok (.getfield 91, 3) := by decide +kernel
theorem dX11_isRule_12 : decode cX11_isRule 12 = .ok (.if_icmp .ge 7, 3) := by decide +kernel
theorem dX11_isRule_15 : decode cX11_isRule 15 = .ok (.iconst 1, 1) := by decide +kernel
theorem dX11_isRule_16 : decode cX11_isRule 16 = .ok (.goto 4, 3) := by decide +kernel
theorem dX11_isRule_19 : decode cX11_isRule 19 = .ok (.iconst 0, 1) := by decide +kernel
theorem dX11_isRule_20 : decode cX11_isRule 20 = .ok (.ireturn, 1) := by decide +kernel
theorem dX11_isToldMinute_0 : decode cX11_isToldMinute 0 = .ok (.iload_n 0, 1) := by decide +kernel
theorem dX11_isToldMinute_1 : decode cX11_isToldMinute 1 = .ok (.ifCond .lt 14, 3) := by decide +kernel
theorem dX11_isToldMinute_4 : decode cX11_isToldMinute 4 = .ok (.iload_n 0, 1) := by decide +kernel
theorem dX11_isToldMinute_5 : decode cX11_isToldMinute 5 = .ok (.ldc_w 340, 3) := by decide +kernel
theorem dX11_isToldMinute_8 : decode cX11_isToldMinute 8 = .ok (.if_icmp .gt 7, 3) := by decide +kernel
theorem dX11_isToldMinute_11 : decode cX11_isToldMinute 11 = .ok (.iconst 1, 1) := by decide +kernel
theorem dX11_isToldMinute_12 : decode cX11_isToldMinute 12 = .ok (.goto 4, 3) := by decide +kernel
theorem dX11_isToldMinute_15 : decode cX11_isToldMinute 15 = .ok (.iconst 0, 1) := by decide +kernel
theorem dX11_isToldMinute_16 : decode cX11_isToldMinute 16 = .ok (.ireturn, 1) := by decide +kernel
theorem dX11_isAskedMinute_0 : decode cX11_isAskedMinute 0 = .ok (.iload_n 0, 1) := by decide +kernel
theorem dX11_isAskedMinute_1 : decode cX11_isAskedMinute 1 = .ok (.ifCond .lt 14, 3) := by decide +kernel
theorem dX11_isAskedMinute_4 : decode cX11_isAskedMinute 4 = .ok (.iload_n 0, 1) := by decide +kernel
theorem dX11_isAskedMinute_5 : decode cX11_isAskedMinute 5 = .ok (.ldc_w 341, 3) := by decide +kernel
theorem dX11_isAskedMinute_8 : decode cX11_isAskedMinute 8 = .ok (.if_icmp .gt 7, 3) := by decide +kernel
theorem dX11_isAskedMinute_11 : decode cX11_isAskedMinute 11 = .ok (.iconst 1, 1) := by decide +kernel
theorem dX11_isAskedMinute_12 : decode cX11_isAskedMinute 12 = .ok (.goto 4, 3) := by decide +kernel
theorem dX11_isAskedMinute_15 : decode cX11_isAskedMinute 15 = .ok (.iconst 0, 1) := by decide +kernel
theorem dX11_isAskedMinute_16 : decode cX11_isAskedMinute 16 = .ok (.ireturn, 1) := by decide +kernel
theorem dX11_isJobPart_0 : decode cX11_isJobPart 0 = .ok (.iload_n 0, 1) := by decide +kernel
theorem dX11_isJobPart_1 : decode cX11_isJobPart 1 = .ok (.ifCond .lt 13, 3) := by decide +kernel
theorem dX11_isJobPart_4 : decode cX11_isJobPart 4 = .ok (.iload_n 0, 1) := by decide +kernel
theorem dX11_isJobPart_5 : decode cX11_isJobPart 5 = .ok (.bipush 99, 2) := by decide +kernel
theorem dX11_isJobPart_7 : decode cX11_isJobPart 7 = .ok (.if_icmp .gt 7, 3) := by decide +kernel
theorem dX11_isJobPart_10 : decode cX11_isJobPart 10 = .ok (.iconst 1, 1) := by decide +kernel
theorem dX11_isJobPart_11 : decode cX11_isJobPart 11 = .ok (.goto 4, 3) := by decide +kernel
theorem dX11_isJobPart_14 : decode cX11_isJobPart 14 = .ok (.iconst 0, 1) := by decide +kernel
theorem dX11_isJobPart_15 : decode cX11_isJobPart 15 = .ok (.ireturn, 1) := by decide +kernel
theorem dX11_bitOf_0 : decode cX11_bitOf 0 = .ok (.iload_n 0, 1) := by decide +kernel
theorem dX11_bitOf_1 : decode cX11_bitOf 1 = .ok (.iload_n 1, 1) := by decide +kernel
theorem dX11_bitOf_2 : decode cX11_bitOf 2 = .ok (.ishr, 1) := by decide +kernel
theorem dX11_bitOf_3 : decode cX11_bitOf 3 = .ok (.iconst 1, 1) := by decide +kernel
theorem dX11_bitOf_4 : decode cX11_bitOf 4 = .ok (.iand, 1) := by decide +kernel
theorem dX11_bitOf_5 : decode cX11_bitOf 5 = .ok (.ireturn, 1) := by decide +kernel
theorem dX12_thrown_0 : decode cX12_thrown 0 = .ok (.aload_n 0, 1) := by decide +kernel
theorem dX12_thrown_1 : decode cX12_thrown 1 = .ok (.getfield 1, 3) := by decide +kernel
theorem dX12_thrown_4 : decode cX12_thrown 4 = .ok (.ireturn, 1) := by decide +kernel
theorem dX12_feed_0 : decode cX12_feed 0 = .ok (.aload_n 0, 1) := by decide +kernel
theorem dX12_feed_1 : decode cX12_feed 1 = .ok (.iconst 0, 1) := by decide +kernel
theorem dX12_feed_2 : decode cX12_feed 2 = .ok (.putfield 1, 3) := by decide +kernel
theorem dX12_feed_5 : decode cX12_feed 5 = .ok (.aload_n 0, 1) := by decide +kernel
theorem dX12_feed_6 : decode cX12_feed 6 = .ok (.lload_n 1, 1) := by decide +kernel
theorem dX12_feed_7 : decode cX12_feed 7 = .ok (.invokevirtual 7, 3) := by decide +kernel
theorem dX12_feed_10 : decode cX12_feed 10 = .ok (.aload_n 0, 1) := by decide +kernel
theorem dX12_feed_11 : decode cX12_feed 11 = .ok (.lload_n 3, 1) := by decide +kernel
theorem dX12_feed_12 : decode cX12_feed 12 = .ok (.invokevirtual 7, 3) := by decide +kernel
theorem dX12_feed_15 : decode cX12_feed 15 = .ok (.aload_n 0, 1) := by decide +kernel
theorem dX12_feed_16 : decode cX12_feed 16 = .ok (.lload 5, 2) := by decide +kernel
theorem dX12_feed_18 : decode cX12_feed 18 = .ok (.invokevirtual 7, 3) := by decide +kernel
theorem dX12_feed_21 : decode cX12_feed 21 = .ok (.aload_n 0, 1) := by decide +kernel
theorem dX12_feed_22 : decode cX12_feed 22 = .ok (.getfield 11, 3) := by decide +kernel
theorem dX12_feed_25 : decode cX12_feed 25 = .ok (.ireturn, 1) := by decide +kernel
theorem dX12_lay_0 : decode cX12_lay 0 = .ok (.bipush 56, 2) := by decide +kernel
theorem dX12_lay_2 : decode cX12_lay 2 = .ok (.istore_n 3, 1) := by decide +kernel
theorem dX12_lay_3 : decode cX12_lay 3 = .ok (.iload_n 3, 1) := by decide +kernel
theorem dX12_lay_4 : decode cX12_lay 4 = .ok (.ifCond .lt 71, 3) := by decide +kernel
theorem dX12_lay_7 : decode cX12_lay 7 = .ok (.lload_n 1, 1) := by decide +kernel
theorem dX12_lay_8 : decode cX12_lay 8 = .ok (.iload_n 3, 1) := by decide +kernel
theorem dX12_lay_9 : decode cX12_lay 9 = .ok (.lshr, 1) := by decide +kernel
theorem dX12_lay_10 : decode cX12_lay 10 = .ok (.l2i, 1) := by decide +kernel
theorem dX12_lay_11 : decode cX12_lay 11 = .ok (.sipush 255, 3) := by decide +kernel
theorem dX12_lay_14 : decode cX12_lay 14 = .ok (.iand, 1) := by decide +kernel
theorem dX12_lay_15 : decode cX12_lay 15 = .ok (.istore 4, 2) := by decide +kernel
theorem dX12_lay_17 : decode cX12_lay 17 = .ok (.iload 4, 2) := by decide +kernel
theorem dX12_lay_19 : decode cX12_lay 19 = .ok (.bipush 10, 2) := by decide +kernel
theorem dX12_lay_21 : decode cX12_lay 21 = .ok (.if_icmp .eq 17, 3) := by decide +kernel
theorem dX12_lay_24 : decode cX12_lay 24 = .ok (.iload 4, 2) := by decide +kernel
theorem dX12_lay_26 : decode cX12_lay 26 = .ok (.bipush 32, 2) := by decide +kernel
theorem dX12_lay_28 : decode cX12_lay 28 = .ok (.if_icmp .lt 41, 3) := by decide +kernel
theorem dX12_lay_31 : decode cX12_lay 31 = .ok (.iload 4, 2) := by decide +kernel
theorem dX12_lay_33 : decode cX12_lay 33 = .ok (.bipush 126, 2) := by decide +kernel
theorem dX12_lay_35 : decode cX12_lay 35 = .ok (.if_icmp .gt 34, 3) := by decide +kernel
theorem dX12_lay_38 : decode cX12_lay 38 = .ok (.aload_n 0, 1) := by decide +kernel
theorem dX12_lay_39 : decode cX12_lay 39 = .ok (.getfield 11, 3) := by decide +kernel
theorem dX12_lay_42 : decode cX12_lay 42 = .ok (.sipush 1000, 3) := by decide +kernel
theorem dX12_lay_45 : decode cX12_lay 45 = .ok (.if_icmp .ge 24, 3) := by decide +kernel
theorem dX12_lay_48 : decode cX12_lay 48 = .ok (.aload_n 0, 1) := by decide +kernel
theorem dX12_lay_49 : decode cX12_lay 49 = .ok (.getfield 14, 3) := by decide +kernel
theorem dX12_lay_52 : decode cX12_lay 52 = .ok (.aload_n 0, 1) := by decide +kernel
theorem dX12_lay_53 : decode cX12_lay 53 = .ok (.getfield 11, 3) := by decide +kernel
theorem dX12_lay_56 : decode cX12_lay 56 = .ok (.iload 4, 2) := by decide +kernel
theorem dX12_lay_58 : decode cX12_lay 58 = .ok (.iastore, 1) := by decide +kernel
theorem dX12_lay_59 : decode cX12_lay 59 = .ok (.aload_n 0, 1) := by decide +kernel
theorem dX12_lay_60 : decode cX12_lay 60 = .ok (.dup, 1) := by decide +kernel
theorem dX12_lay_61 : decode cX12_lay 61 = .ok (.getfield 11, 3) := by decide +kernel
theorem dX12_lay_64 : decode cX12_lay 64 = .ok (.iconst 1, 1) := by decide +kernel
theorem dX12_lay_65 : decode cX12_lay 65 = .ok (.iadd, 1) := by decide +kernel
theorem dX12_lay_66 : decode cX12_lay 66 = .ok (.putfield 11, 3) := by decide +kernel
theorem dX12_lay_69 : decode cX12_lay 69 = .ok (.iinc 3 (-8), 3) := by decide +kernel
theorem dX12_lay_72 : decode cX12_lay 72 = .ok (.goto (-69), 3) := by decide +kernel
theorem dX12_lay_75 : decode cX12_lay 75 = .ok (.return_, 1) := by decide +kernel
theorem dX12_init_0 : decode cX12_init 0 = .ok (.aload_n 0, 1) := by decide +kernel
theorem dX12_init_1 : decode cX12_init 1 = .ok (.invokespecial 18, 3) := by decide +kernel
theorem dX12_init_4 : decode cX12_init 4 = .ok (.aload_n 0, 1) := by decide +kernel
theorem dX12_init_5 : decode cX12_init 5 = .ok (.sipush 1000, 3) := by decide +kernel
theorem dX12_init_8 : decode cX12_init 8 = .ok (.newarray .int, 2) := by decide +kernel
theorem dX12_init_10 : decode cX12_init 10 = .ok (.putfield 14, 3) := by decide +kernel
theorem dX12_init_13 : decode cX12_init 13 = .ok (.aload_n 0, 1) := by decide +kernel
theorem dX12_init_14 : decode cX12_init 14 = .ok (.sipush 1002, 3) := by decide +kernel
theorem dX12_init_17 : decode cX12_init 17 = .ok (.newarray .int, 2) := by decide +kernel
theorem dX12_init_19 : decode cX12_init 19 = .ok (.putfield 24, 3) := by decide +kernel
theorem dX12_init_22 : decode cX12_init 22 = .ok (.aload_n 0, 1) := by decide +kernel
theorem dX12_init_23 : decode cX12_init 23 = .ok (.sipush 1002, 3) := by decide +kernel
theorem dX12_init_26 : decode cX12_init 26 = .ok (.newarray .int, 2) := by decide +kernel
theorem dX12_init_28 : decode cX12_init 28 = .ok (.putfield 27, 3) := by decide +kernel
theorem dX12_init_31 : decode cX12_init 31 = .ok (.aload_n 0, 1) := by decide +kernel
theorem dX12_init_32 : decode cX12_init 32 = .ok (.sipush 1002, 3) := by decide +kernel
theorem dX12_init_35 : decode cX12_init 35 = .ok (.newarray .long, 2) := by decide +kernel
theorem dX12_init_37 : decode cX12_init 37 = .ok (.putfield 30, 3) := by decide +kernel
theorem dX12_init_40 : decode cX12_init 40 = .ok (.aload_n 0, 1) := by decide +kernel
theorem dX12_init_41 : decode cX12_init 41 = .ok (.bipush 14, 2) := by decide +kernel
theorem dX12_init_43 : decode cX12_init 43 = .ok (.newarray .long, 2) := by decide +kernel
theorem dX12_init_45 : decode cX12_init 45 = .ok (.dup, 1) := by decide +kernel
theorem dX12_init_46 : decode cX12_init 46 = .ok (.iconst 0, 1) := by decide +kernel
theorem dX12_init_47 : decode cX12_init 47 = .ok (.ldc2_w 34, 3) := by decide +kernel
theorem dX12_init_50 : decode cX12_init 50 = .ok (.lastore, 1) := by decide +kernel
theorem dX12_init_51 : decode cX12_init 51 = .ok (.dup, 1) := by decide +kernel
theorem dX12_init_52 : decode cX12_init 52 = .ok (.iconst 1, 1) := by decide +kernel
theorem dX12_init_53 : decode cX12_init 53 = .ok (.ldc2_w 36, 3) := by decide +kernel
theorem dX12_init_56 : decode cX12_init 56 = .ok (.lastore, 1) := by decide +kernel
theorem dX12_init_57 : decode cX12_init 57 = .ok (.dup, 1) := by decide +kernel
theorem dX12_init_58 : decode cX12_init 58 = .ok (.iconst 2, 1) := by decide +kernel
theorem dX12_init_59 : decode cX12_init 59 = .ok (.ldc2_w 38, 3) := by decide +kernel
theorem dX12_init_62 : decode cX12_init 62 = .ok (.lastore, 1) := by decide +kernel
theorem dX12_init_63 : decode cX12_init 63 = .ok (.dup, 1) := by decide +kernel
theorem dX12_init_64 : decode cX12_init 64 = .ok (.iconst 3, 1) := by decide +kernel
theorem dX12_init_65 : decode cX12_init 65 = .ok (.ldc2_w 40, 3) := by decide +kernel
theorem dX12_init_68 : decode cX12_init 68 = .ok (.lastore, 1) := by decide +kernel
theorem dX12_init_69 : decode cX12_init 69 = .ok (.dup, 1) := by decide +kernel
theorem dX12_init_70 : decode cX12_init 70 = .ok (.iconst 4, 1) := by decide +kernel
theorem dX12_init_71 : decode cX12_init 71 = .ok (.ldc2_w 42, 3) := by decide +kernel
theorem dX12_init_74 : decode cX12_init 74 = .ok (.lastore, 1) := by decide +kernel
theorem dX12_init_75 : decode cX12_init 75 = .ok (.dup, 1) := by decide +kernel
theorem dX12_init_76 : decode cX12_init 76 = .ok (.iconst 5, 1) := by decide +kernel
theorem dX12_init_77 : decode cX12_init 77 = .ok (.ldc2_w 44, 3) := by decide +kernel
theorem dX12_init_80 : decode cX12_init 80 = .ok (.lastore, 1) := by decide +kernel
theorem dX12_init_81 : decode cX12_init 81 = .ok (.dup, 1) := by decide +kernel
theorem dX12_init_82 : decode cX12_init 82 = .ok (.bipush 6, 2) := by decide +kernel
theorem dX12_init_84 : decode cX12_init 84 = .ok (.ldc2_w 46, 3) := by decide +kernel
theorem dX12_init_87 : decode cX12_init 87 = .ok (.lastore, 1) := by decide +kernel
theorem dX12_init_88 : decode cX12_init 88 = .ok (.dup, 1) := by decide +kernel
theorem dX12_init_89 : decode cX12_init 89 = .ok (.bipush 7, 2) := by decide +kernel
theorem dX12_init_91 : decode cX12_init 91 = .ok (.ldc2_w 48, 3) := by decide +kernel
theorem dX12_init_94 : decode cX12_init 94 = .ok (.lastore, 1) := by decide +kernel
theorem dX12_init_95 : decode cX12_init 95 = .ok (.dup, 1) := by decide +kernel
theorem dX12_init_96 : decode cX12_init 96 = .ok (.bipush 8, 2) := by decide +kernel
theorem dX12_init_98 : decode cX12_init 98 = .ok (.ldc2_w 50, 3) := by decide +kernel
theorem dX12_init_101 : decode cX12_init 101 = .ok (.lastore, 1) := by decide +kernel
theorem dX12_init_102 : decode cX12_init 102 = .ok (.dup, 1) := by decide +kernel
theorem dX12_init_103 : decode cX12_init 103 = .ok (.bipush 9, 2) := by decide +kernel
theorem dX12_init_105 : decode cX12_init 105 = .ok (.ldc2_w 52, 3) := by decide +kernel
theorem dX12_init_108 : decode cX12_init 108 = .ok (.lastore, 1) := by decide +kernel
theorem dX12_init_109 : decode cX12_init 109 = .ok (.dup, 1) := by decide +kernel
theorem dX12_init_110 : decode cX12_init 110 = .ok (.bipush 10, 2) := by decide +kernel
theorem dX12_init_112 : decode cX12_init 112 = .ok (.ldc2_w 54, 3) := by decide +kernel
theorem dX12_init_115 : decode cX12_init 115 = .ok (.lastore, 1) := by decide +kernel
theorem dX12_init_116 : decode cX12_init 116 = .ok (.dup, 1) := by decide +kernel
theorem dX12_init_117 : decode cX12_init 117 = .ok (.bipush 11, 2) := by decide +kernel
theorem dX12_init_119 : decode cX12_init 119 = .ok (.ldc2_w 56, 3) := by decide +kernel
theorem dX12_init_122 : decode cX12_init 122 = .ok (.lastore, 1) := by decide +kernel
theorem dX12_init_123 : decode cX12_init 123 = .ok (.dup, 1) := by decide +kernel
theorem dX12_init_124 : decode cX12_init 124 = .ok (.bipush 12, 2) := by decide +kernel
theorem dX12_init_126 : decode cX12_init 126 = .ok (.ldc2_w 58, 3) := by decide +kernel
theorem dX12_init_129 : decode cX12_init 129 = .ok (.lastore, 1) := by decide +kernel
theorem dX12_init_130 : decode cX12_init 130 = .ok (.dup, 1) := by decide +kernel
theorem dX12_init_131 : decode cX12_init 131 = .ok (.bipush 13, 2) := by decide +kernel
theorem dX12_init_133 : decode cX12_init 133 = .ok (.ldc2_w 60, 3) := by decide +kernel
theorem dX12_init_136 : decode cX12_init 136 = .ok (.lastore, 1) := by decide +kernel
theorem dX12_init_137 : decode cX12_init 137 = .ok (.putfield 62, 3) := by decide +kernel
theorem dX12_init_140 : decode cX12_init 140 = .ok (.aload_n 0, 1) := by decide +kernel
theorem dX12_init_141 : decode cX12_init 141 = .ok (.bipush 120, 2) := by decide +kernel
theorem dX12_init_143 : decode cX12_init 143 = .ok (.newarray .int, 2) := by decide +kernel
theorem dX12_init_145 : decode cX12_init 145 = .ok (.putfield 65, 3) := by decide +kernel
theorem dX12_init_148 : decode cX12_init 148 = .ok (.aload_n 0, 1) := by decide +kernel
theorem dX12_init_149 : decode cX12_init 149 = .ok (.sipush 2200, 3) := by decide +kernel
theorem dX12_init_152 : decode cX12_init 152 = .ok (.newarray .int, 2) := by decide +kernel
theorem dX12_init_154 : decode cX12_init 154 = .ok (.putfield 68, 3) := by decide +kernel
theorem dX12_init_157 : decode cX12_init 157 = .ok (.aload_n 0, 1) := by decide +kernel
theorem dX12_init_158 : decode cX12_init 158 = .ok (.sipush 2200, 3) := by decide +kernel
theorem dX12_init_161 : decode cX12_init 161 = .ok (.newarray .int, 2) := by decide +kernel
theorem dX12_init_163 : decode cX12_init 163 = .ok (.putfield 71, 3) := by decide +kernel
theorem dX12_init_166 : decode cX12_init 166 = .ok (.aload_n 0, 1) := by decide +kernel
theorem dX12_init_167 : decode cX12_init 167 = .ok (.bipush 10, 2) := by decide +kernel
theorem dX12_init_169 : decode cX12_init 169 = .ok (.newarray .long, 2) := by decide +kernel
theorem dX12_init_171 : decode cX12_init 171 = .ok (.putfield 74, 3) := by decide +kernel
theorem dX12_init_174 : decode cX12_init 174 = .ok (.aload_n 0, 1) := by decide +kernel
theorem dX12_init_175 : decode cX12_init 175 = .ok (.bipush 8, 2) := by decide +kernel
theorem dX12_init_177 : decode cX12_init 177 = .ok (.newarray .int, 2) := by decide +kernel
theorem dX12_init_179 : decode cX12_init 179 = .ok (.putfield 77, 3) := by decide +kernel
theorem dX12_init_182 : decode cX12_init 182 = .ok (.aload_n 0, 1) := by decide +kernel
theorem dX12_init_183 : decode cX12_init 183 = .ok (.sipush 1100, 3) := by decide +kernel
theorem dX12_init_186 : decode cX12_init 186 = .ok (.newarray .int, 2) := by decide +kernel
theorem dX12_init_188 : decode cX12_init 188 = .ok (.putfield 80, 3) := by decide +kernel
theorem dX12_init_191 : decode cX12_init 191 = .ok (.aload_n 0, 1) := by decide +kernel
theorem dX12_init_192 : decode cX12_init 192 = .ok (.sipush 2600, 3) := by decide +kernel
theorem dX12_init_195 : decode cX12_init 195 = .ok (.newarray .int, 2) := by decide +kernel
theorem dX12_init_197 : decode cX12_init 197 = .ok (.putfield 83, 3) := by decide +kernel
theorem dX12_init_200 : decode cX12_init 200 = .ok (.aload_n 0, 1) := by decide +kernel
theorem dX12_init_201 : decode cX12_init 201 = .ok (.bipush 10, 2) := by decide +kernel
theorem dX12_init_203 : decode cX12_init 203 = .ok (.newarray .int, 2) := by decide +kernel
theorem dX12_init_205 : decode cX12_init 205 = .ok (.putfield 86, 3) := by decide +kernel
theorem dX12_init_208 : decode cX12_init 208 = .ok (.aload_n 0, 1) := by decide +kernel
theorem dX12_init_209 : decode cX12_init 209 = .ok (.bipush 10, 2) := by decide +kernel
theorem dX12_init_211 : decode cX12_init 211 = .ok (.newarray .int, 2) := by decide +kernel
theorem dX12_init_213 : decode cX12_init 213 = .ok (.putfield 89, 3) := by decide +kernel
theorem dX12_init_216 : decode cX12_init 216 = .ok (.aload_n 0, 1) := by decide +kernel
theorem dX12_init_217 : decode cX12_init 217 = .ok (.bipush 10, 2) := by decide +kernel
theorem dX12_init_219 : decode cX12_init 219 = .ok (.newarray .int, 2) := by decide +kernel
theorem dX12_init_221 : decode cX12_init 221 = .ok (.putfield 92, 3) := by decide +kernel
theorem dX12_init_224 : decode cX12_init 224 = .ok (.aload_n 0, 1) := by decide +kernel
theorem dX12_init_225 : decode cX12_init 225 = .ok (.bipush 10, 2) := by decide +kernel
theorem dX12_init_227 : decode cX12_init 227 = .ok (.newarray .boolean, 2) := by decide +kernel
theorem dX12_init_229 : decode cX12_init 229 = .ok (.putfield 95, 3) := by decide +kernel
theorem dX12_init_232 : decode cX12_init 232 = .ok (.aload_n 0, 1) := by decide +kernel
theorem dX12_init_233 : decode cX12_init 233 = .ok (.sipush 5500, 3) := by decide +kernel
theorem dX12_init_236 : decode cX12_init 236 = .ok (.newarray .int, 2) := by decide +kernel
theorem dX12_init_238 : decode cX12_init 238 = .ok (.putfield 99, 3) := by decide +kernel
theorem dX12_init_241 : decode cX12_init 241 = .ok (.aload_n 0, 1) := by decide +kernel
theorem dX12_init_242 : decode cX12_init 242 = .ok (.sipush 1024, 3) := by decide +kernel
theorem dX12_init_245 : decode cX12_init 245 = .ok (.newarray .long, 2) := by decide +kernel
theorem dX12_init_247 : decode cX12_init 247 = .ok (.putfield 102, 3) := by decide +kernel
theorem dX12_init_250 : decode cX12_init 250 = .ok (.aload_n 0, 1) := by decide +kernel
theorem dX12_init_251 : decode cX12_init 251 = .ok (.bipush 7, 2) := by decide +kernel
theorem dX12_init_253 : decode cX12_init 253 = .ok (.newarray .int, 2) := by decide +kernel
theorem dX12_init_255 : decode cX12_init 255 = .ok (.putfield 105, 3) := by decide +kernel
theorem dX12_init_258 : decode cX12_init 258 = .ok (.aload_n 0, 1) := by decide +kernel
theorem dX12_init_259 : decode cX12_init 259 = .ok (.bipush 7, 2) := by decide +kernel
theorem dX12_init_261 : decode cX12_init 261 = .ok (.newarray .int, 2) := by decide +kernel
theorem dX12_init_263 : decode cX12_init 263 = .ok (.putfield 108, 3) := by decide +kernel
theorem dX12_init_266 : decode cX12_init 266 = .ok (.aload_n 0, 1) := by decide +kernel
theorem dX12_init_267 : decode cX12_init 267 = .ok (.bipush 7, 2) := by decide +kernel
theorem dX12_init_269 : decode cX12_init 269 = .ok (.newarray .int, 2) := by decide +kernel
theorem dX12_init_271 : decode cX12_init 271 = .ok (.putfield 111, 3) := by decide +kernel
theorem dX12_init_274 : decode cX12_init 274 = .ok (.aload_n 0, 1) := by decide +kernel
theorem dX12_init_275 : decode cX12_init 275 = .ok (.bipush 7, 2) := by decide +kernel
theorem dX12_init_277 : decode cX12_init 277 = .ok (.newarray .int, 2) := by decide +kernel
theorem dX12_init_279 : decode cX12_init 279 = .ok (.putfield 114, 3) := by decide +kernel
theorem dX12_init_282 : decode cX12_init 282 = .ok (.aload_n 0, 1) := by decide +kernel
theorem dX12_init_283 : decode cX12_init 283 = .ok (.bipush 7, 2) := by decide +kernel
theorem dX12_init_285 : decode cX12_init 285 = .ok (.newarray .int, 2) := by decide +kernel
theorem dX12_init_287 : decode cX12_init 287 = .ok (.putfield 117, 3) := by decide +kernel
theorem dX12_init_290 : decode cX12_init 290 = .ok (.aload_n 0, 1) := by decide +kernel
theorem dX12_init_291 : decode cX12_init 291 = .ok (.iconst 4, 1) := by decide +kernel
theorem dX12_init_292 : decode cX12_init 292 = .ok (.newarray .boolean, 2) := by decide +kernel
theorem dX12_init_294 : decode cX12_init 294 = .ok (.putfield 120, 3) := by decide +kernel
theorem dX12_init_297 : decode cX12_init 297 = .ok (.aload_n 0, 1) := by decide +kernel
theorem dX12_init_298 : decode cX12_init 298 = .ok (.getfield 83, 3) := by decide +kernel
theorem dX12_init_301 : decode cX12_init 301 = .ok (.iconst 0, 1) := by decide +kernel
theorem dX12_init_302 : decode cX12_init 302 = .ok (.iconst (-1), 1) := by decide +kernel
theorem dX12_init_303 : decode cX12_init 303 = .ok (.iastore, 1) := by decide +kernel
theorem dX12_init_304 : decode cX12_init 304 = .ok (.aload_n 0, 1) := by decide +kernel
theorem dX12_init_305 : decode cX12_init 305 = .ok (.iconst 1, 1) := by decide +kernel
theorem dX12_init_306 : decode cX12_init 306 = .ok (.putfield 123, 3) := by decide +kernel
theorem dX12_init_309 : decode cX12_init 309 = .ok (.return_, 1) := by decide +kernel
theorem dX12_isLetter_0 : decode cX12_isLetter 0 = .ok (.iload_n 0, 1) := by decide +kernel
theorem dX12_isLetter_1 : decode cX12_isLetter 1 = .ok (.bipush 97, 2) := by decide +kernel
theorem dX12_isLetter_3 : decode cX12_isLetter 3 = .ok (.if_icmp .lt 13, 3) := by decide +kernel
theorem dX12_isLetter_6 : decode cX12_isLetter 6 = .ok (.iload_n 0, 1) := by decide +kernel
theorem dX12_isLetter_7 : decode cX12_isLetter 7 = .ok (.bipush 122, 2) := by decide +kernel
theorem dX12_isLetter_9 : decode cX12_isLetter 9 = .ok (.if_icmp .gt 7, 3) := by decide +kernel
theorem dX12_isLetter_12 : decode cX12_isLetter 12 = .ok (.iconst 1, 1) := by decide +kernel
theorem dX12_isLetter_13 : decode cX12_isLetter 13 = .ok (.goto 4, 3) := by decide +kernel
theorem dX12_isLetter_16 : decode cX12_isLetter 16 = .ok (.iconst 0, 1) := by decide +kernel
theorem dX12_isLetter_17 : decode cX12_isLetter 17 = .ok (.ireturn, 1) := by decide +kernel
theorem dX12_isDigit_0 : decode cX12_isDigit 0 = .ok (.iload_n 0, 1) := by decide +kernel
theorem dX12_isDigit_1 : decode cX12_isDigit 1 = .ok (.bipush 48, 2) := by decide +kernel
theorem dX12_isDigit_3 : decode cX12_isDigit 3 = .ok (.if_icmp .lt 13, 3) := by decide +kernel
theorem dX12_isDigit_6 : decode cX12_isDigit 6 = .ok (.iload_n 0, 1) := by decide +kernel
theorem dX12_isDigit_7 : decode cX12_isDigit 7 = .ok (.bipush 57, 2) := by decide +kernel
theorem dX12_isDigit_9 : decode cX12_isDigit 9 = .ok (.if_icmp .gt 7, 3) := by decide +kernel
theorem dX12_isDigit_12 : decode cX12_isDigit 12 = .ok (.iconst 1, 1) := by decide +kernel
theorem dX12_isDigit_13 : decode cX12_isDigit 13 = .ok (.goto 4, 3) := by decide +kernel
theorem dX12_isDigit_16 : decode cX12_isDigit 16 = .ok (.iconst 0, 1) := by decide +kernel
theorem dX12_isDigit_17 : decode cX12_isDigit 17 = .ok (.ireturn, 1) := by decide +kernel
theorem dX12_rank_0 : decode cX12_rank 0 = .ok (.iload_n 0, 1) := by decide +kernel
theorem dX12_rank_1 : decode cX12_rank 1 = .ok (.invokestatic 127, 3) := by decide +kernel
theorem dX12_rank_4 : decode cX12_rank 4 = .ok (.ifCond .eq 10, 3) := by decide +kernel
theorem dX12_rank_7 : decode cX12_rank 7 = .ok (.iload_n 0, 1) := by decide +kernel
theorem dX12_rank_8 : decode cX12_rank 8 = .ok (.bipush 96, 2) := by decide +kernel
theorem dX12_rank_10 : decode cX12_rank 10 = .ok (.isub, 1) := by decide +kernel
theorem dX12_rank_11 : decode cX12_rank 11 = .ok (.goto 7, 3) := by decide +kernel
theorem dX12_rank_14 : decode cX12_rank 14 = .ok (.iload_n 0, 1) := by decide +kernel
theorem dX12_rank_15 : decode cX12_rank 15 = .ok (.bipush 21, 2) := by decide +kernel
theorem dX12_rank_17 : decode cX12_rank 17 = .ok (.isub, 1) := by decide +kernel
theorem dX12_rank_18 : decode cX12_rank 18 = .ok (.ireturn, 1) := by decide +kernel
theorem dX12_isSignOf_0 : decode cX12_isSignOf 0 = .ok (.iload_n 0, 1) := by decide +kernel
theorem dX12_isSignOf_1 : decode cX12_isSignOf 1 = .ok (.bipush 40, 2) := by decide +kernel
theorem dX12_isSignOf_3 : decode cX12_isSignOf 3 = .ok (.if_icmp .eq 45, 3) := by decide +kernel
theorem dX12_isSignOf_6 : decode cX12_isSignOf 6 = .ok (.iload_n 0, 1) := by decide +kernel
theorem dX12_isSignOf_7 : decode cX12_isSignOf 7 = .ok (.bipush 41, 2) := by decide +kernel
theorem dX12_isSignOf_9 : decode cX12_isSignOf 9 = .ok (.if_icmp .eq 39, 3) := by decide +kernel
theorem dX12_isSignOf_12 : decode cX12_isSignOf 12 = .ok (.iload_n 0, 1) := by decide +kernel
theorem dX12_isSignOf_13 : decode cX12_isSignOf 13 = .ok (.bipush 59, 2) := by decide +kernel
theorem dX12_isSignOf_15 : decode cX12_isSignOf 15 = .ok (.if_icmp .eq 33, 3) := by decide +kernel
theorem dX12_isSignOf_18 : decode cX12_isSignOf 18 = .ok (.iload_n 0, 1) := by decide +kernel
theorem dX12_isSignOf_19 : decode cX12_isSignOf 19 = .ok (.bipush 61, 2) := by decide +kernel
theorem dX12_isSignOf_21 : decode cX12_isSignOf 21 = .ok (.if_icmp .eq 27, 3) := by decide +kernel
theorem dX12_isSignOf_24 : decode cX12_isSignOf 24 = .ok (.iload_n 0, 1) := by decide +kernel
theorem dX12_isSignOf_25 : decode cX12_isSignOf 25 = .ok (.bipush 60, 2) := by decide +kernel
theorem dX12_isSignOf_27 : decode cX12_isSignOf 27 = .ok (.if_icmp .eq 21, 3) := by decide +kernel
theorem dX12_isSignOf_30 : decode cX12_isSignOf 30 = .ok (.iload_n 0, 1) := by decide +kernel
theorem dX12_isSignOf_31 : decode cX12_isSignOf 31 = .ok (.bipush 43, 2) := by decide +kernel
theorem dX12_isSignOf_33 : decode cX12_isSignOf 33 = .ok (.if_icmp .eq 15, 3) := by decide +kernel
theorem dX12_isSignOf_36 : decode cX12_isSignOf 36 = .ok (.iload_n 0, 1) := by decide +kernel
theorem dX12_isSignOf_37 : decode cX12_isSignOf 37 = .ok (.bipush 45, 2) := by decide +kernel
theorem dX12_isSignOf_39 : decode cX12_isSignOf 39 = .ok (.if_icmp .eq 9, 3) := by decide +kernel
theorem dX12_isSignOf_42 : decode cX12_isSignOf 42 = .ok (.iload_n 0, 1) := by decide +kernel
theorem dX12_isSignOf_43 : decode cX12_isSignOf 43 = .ok (.bipush 42, 2) := by decide +kernel
theorem dX12_isSignOf_45 : decode cX12_isSignOf 45 = .ok (.if_icmp .ne 7, 3) := by decide +kernel
theorem dX12_isSignOf_48 : decode cX12_isSignOf 48 = .ok (.iconst 1, 1) := by decide +kernel
theorem dX12_isSignOf_49 : decode cX12_isSignOf 49 = .ok (.goto 4, 3) := by decide +kernel
theorem dX12_isSignOf_52 : decode cX12_isSignOf 52 = .ok (.iconst 0, 1) := by decide +kernel
theorem dX12_isSignOf_53 : decode cX12_isSignOf 53 = .ok (.ireturn, 1) := by decide +kernel
theorem dX12_cutAll_0 : decode cX12_cutAll 0 = .ok (.aload_n 0, 1) := by decide +kernel
theorem dX12_cutAll_1 : decode cX12_cutAll 1 = .ok (.aload_n 0, 1) := by decide +kernel
theorem dX12_cutAll_2 : decode cX12_cutAll 2 = .ok (.getfield 11, 3) := by decide +kernel
theorem dX12_cutAll_5 : decode cX12_cutAll 5 = .ok (.putfield 131, 3) := by decide +kernel
theorem dX12_cutAll_8 : decode cX12_cutAll 8 = .ok (.aload_n 0, 1) := by decide +kernel
theorem dX12_cutAll_9 : decode cX12_cutAll 9 = .ok (.iconst 0, 1) := by decide +kernel
theorem dX12_cutAll_10 : decode cX12_cutAll 10 = .ok (.putfield 11, 3) := by decide +kernel
theorem dX12_cutAll_13 : decode cX12_cutAll 13 = .ok (.iconst 0, 1) := by decide +kernel
theorem dX12_cutAll_14 : decode cX12_cutAll 14 = .ok (.istore_n 1, 1) := by decide +kernel
theorem dX12_cutAll_15 : decode cX12_cutAll 15 = .ok (.iconst 0, 1) := by decide +kernel
theorem dX12_cutAll_16 : decode cX12_cutAll 16 = .ok (.istore_n 2, 1) := by decide +kernel
theorem dX12_cutAll_17 : decode cX12_cutAll 17 = .ok (.iload_n 2, 1) := by decide +kernel
theorem dX12_cutAll_18 : decode cX12_cutAll 18 = .ok (.aload_n 0, 1) := by decide +kernel
theorem dX12_cutAll_19 : decode cX12_cutAll 19 = .ok (.getfield 131, 3) := by decide +kernel
theorem dX12_cutAll_22 : decode cX12_cutAll 22 = .ok (.if_icmp .ge 257, 3) := by decide +kernel
theorem dX12_cutAll_25 : decode cX12_cutAll 25 = .ok (.aload_n 0, 1) := by decide +kernel
theorem dX12_cutAll_26 : decode cX12_cutAll 26 = .ok (.getfield 14, 3) := by decide +kernel
theorem dX12_cutAll_29 : decode cX12_cutAll 29 = .ok (.iload_n 2, 1) := by decide +kernel
theorem dX12_cutAll_30 : decode cX12_cutAll 30 = .ok (.iaload, 1) := by decide +kernel
theorem dX12_cutAll_31 : decode cX12_cutAll 31 = .ok (.istore_n 3, 1) := by decide +kernel
theorem dX12_cutAll_32 : decode cX12_cutAll 32 = .ok (.iload_n 3, 1) := by decide +kernel
theorem dX12_cutAll_33 : decode cX12_cutAll 33 = .ok (.bipush 10, 2) := by decide +kernel
theorem dX12_cutAll_35 : decode cX12_cutAll 35 = .ok (.if_icmp .eq 9, 3) := by decide +kernel
theorem dX12_cutAll_38 : decode cX12_cutAll 38 = .ok (.iload_n 3, 1) := by decide +kernel
theorem dX12_cutAll_39 : decode cX12_cutAll 39 = .ok (.bipush 32, 2) := by decide +kernel
theorem dX12_cutAll_41 : decode cX12_cutAll 41 = .ok (.if_icmp .ne 9, 3) := by decide +kernel
theorem dX12_cutAll_44 : decode cX12_cutAll 44 = .ok (.iinc 2 1, 3) := by decide +kernel
theorem dX12_cutAll_47 : decode cX12_cutAll 47 = .ok (.goto (-30), 3) := by decide +kernel
theorem dX12_cutAll_50 : decode cX12_cutAll 50 = .ok (.iload_n 2, 1) := by decide +kernel
theorem dX12_cutAll_51 : decode cX12_cutAll 51 = .ok (.istore 4, 2) := by decide +kernel
theorem dX12_cutAll_53 : decode cX12_cutAll 53 = .ok (.lconst 0, 1) := by decide +kernel
theorem dX12_cutAll_54 : decode cX12_cutAll 54 = .ok (.lstore 5, 2) := by decide +kernel
theorem dX12_cutAll_56 : decode cX12_cutAll 56 = .ok (.aload_n 0, 1) := by decide +kernel
theorem dX12_cutAll_57 : decode cX12_cutAll 57 = .ok (.getfield 27, 3) := by decide +kernel
theorem dX12_cutAll_60 : decode cX12_cutAll 60 = .ok (.iload_n 1, 1) := by decide +kernel
theorem dX12_cutAll_61 : decode cX12_cutAll 61 = .ok (.iload_n 2, 1) := by decide +kernel
theorem dX12_cutAll_62 : decode cX12_cutAll 62 = .ok (.iastore, 1) := by decide +kernel
theorem dX12_cutAll_63 : decode cX12_cutAll 63 = .ok (.iload_n 3, 1) := by decide +kernel
theorem dX12_cutAll_64 : decode cX12_cutAll 64 = .ok (.invokestatic 127, 3) := by decide +kernel
theorem dX12_cutAll_67 : decode cX12_cutAll 67 = .ok (.ifCond .eq 85, 3) := by decide +kernel
theorem dX12_cutAll_70 : decode cX12_cutAll 70 = .ok (.iload_n 2, 1) := by decide +kernel
theorem dX12_cutAll_71 : decode cX12_cutAll 71 = .ok (.aload_n 0, 1) := by decide +kernel
theorem dX12_cutAll_72 : decode cX12_cutAll 72 = .ok (.getfield 131, 3) := by decide +kernel
theorem dX12_cutAll_75 : decode cX12_cutAll 75 = .ok (.if_icmp .ge 54, 3) := by decide +kernel
theorem dX12_cutAll_78 : decode cX12_cutAll 78 = .ok (.aload_n 0, 1) := by decide +kernel
theorem dX12_cutAll_79 : decode cX12_cutAll 79 = .ok (.getfield 14, 3) := by decide +kernel
theorem dX12_cutAll_82 : decode cX12_cutAll 82 = .ok (.iload_n 2, 1) := by decide +kernel
theorem dX12_cutAll_83 : decode cX12_cutAll 83 = .ok (.iaload, 1) := by decide +kernel
theorem dX12_cutAll_84 : decode cX12_cutAll 84 = .ok (.invokestatic 127, 3) := by decide +kernel
theorem dX12_cutAll_87 : decode cX12_cutAll 87 = .ok (.ifCond .eq 42, 3) := by decide +kernel
theorem dX12_cutAll_90 : decode cX12_cutAll 90 = .ok (.iload_n 2, 1) := by decide +kernel
theorem dX12_cutAll_91 : decode cX12_cutAll 91 = .ok (.iload 4, 2) := by decide +kernel
theorem dX12_cutAll_93 : decode cX12_cutAll 93 = .ok (.isub, 1) := by decide +kernel
theorem dX12_cutAll_94 : decode cX12_cutAll 94 = .ok (.bipush 8, 2) := by decide +kernel
theorem dX12_cutAll_96 : decode cX12_cutAll 96 = .ok (.if_icmp .ge 23, 3) := by decide +kernel
theorem dX12_cutAll_99 : decode cX12_cutAll 99 = .ok (.ldc2_w 134, 3) := by decide +kernel
theorem dX12_cutAll_102 : decode cX12_cutAll 102 = .ok (.lload 5, 2) := by decide +kernel
theorem dX12_cutAll_104 : decode cX12_cutAll 104 = .ok (.lmul, 1) := by decide +kernel
theorem dX12_cutAll_105 : decode cX12_cutAll 105 = .ok (.aload_n 0, 1) := by decide +kernel
theorem dX12_cutAll_106 : decode cX12_cutAll 106 = .ok (.getfield 14, 3) := by decide +kernel
theorem dX12_cutAll_109 : decode cX12_cutAll 109 = .ok (.iload_n 2, 1) := by decide +kernel
theorem dX12_cutAll_110 : decode cX12_cutAll 110 = .ok (.iaload, 1) := by decide +kernel
theorem dX12_cutAll_111 : decode cX12_cutAll 111 = .ok (.invokestatic 136, 3) := by decide +kernel
theorem dX12_cutAll_114 : decode cX12_cutAll 114 = .ok (.i2l, 1) := by decide +kernel
theorem dX12_cutAll_115 : decode cX12_cutAll 115 = .ok (.ladd, 1) := by decide +kernel
theorem dX12_cutAll_116 : decode cX12_cutAll 116 = .ok (.goto 5, 3) := by decide +kernel
theorem dX12_cutAll_119 : decode cX12_cutAll 119 = .ok (.lload 5, 2) := by decide +kernel
theorem dX12_cutAll_121 : decode cX12_cutAll 121 = .ok (.lstore 5, 2) := by decide +kernel
theorem dX12_cutAll_123 : decode cX12_cutAll 123 = .ok (.iinc 2 1, 3) := by decide +kernel
theorem dX12_cutAll_126 : decode cX12_cutAll 126 = .ok (.goto (-56), 3) := by decide +kernel
theorem dX12_cutAll_129 : decode cX12_cutAll 129 = .ok (.aload_n 0, 1) := by decide +kernel
theorem dX12_cutAll_130 : decode cX12_cutAll 130 = .ok (.getfield 24, 3) := by decide +kernel
theorem dX12_cutAll_133 : decode cX12_cutAll 133 = .ok (.iload_n 1, 1) := by decide +kernel
theorem dX12_cutAll_134 : decode cX12_cutAll 134 = .ok (.iload_n 2, 1) := by decide +kernel
theorem dX12_cutAll_135 : decode cX12_cutAll 135 = .ok (.iload 4, 2) := by decide +kernel
theorem dX12_cutAll_137 : decode cX12_cutAll 137 = .ok (.isub, 1) := by decide +kernel
theorem dX12_cutAll_138 : decode cX12_cutAll 138 = .ok (.bipush 8, 2) := by decide +kernel
theorem dX12_cutAll_140 : decode cX12_cutAll 140 = .ok (.if_icmp .le 7, 3) := by decide +kernel
theorem dX12_cutAll_143 : decode cX12_cutAll 143 = .ok (.iconst 4, 1) := by decide +kernel
theorem dX12_cutAll_144 : decode cX12_cutAll 144 = .ok (.goto 4, 3) := by decide +kernel
theorem dX12_cutAll_147 : decode cX12_cutAll 147 = .ok (.iconst 1, 1) := by decide +kernel
theorem dX12_cutAll_148 : decode cX12_cutAll 148 = .ok (.iastore, 1) := by decide +kernel
theorem dX12_cutAll_149 : decode cX12_cutAll 149 = .ok (.goto 116, 3) := by decide +kernel
theorem dX12_cutAll_152 : decode cX12_cutAll 152 = .ok (.iload_n 3, 1) := by decide +kernel
theorem dX12_cutAll_153 : decode cX12_cutAll 153 = .ok (.invokestatic 140, 3) := by decide +kernel
theorem dX12_cutAll_156 : decode cX12_cutAll 156 = .ok (.ifCond .eq 84, 3) := by decide +kernel
theorem dX12_cutAll_159 : decode cX12_cutAll 159 = .ok (.iload_n 2, 1) := by decide +kernel
theorem dX12_cutAll_160 : decode cX12_cutAll 160 = .ok (.aload_n 0, 1) := by decide +kernel
theorem dX12_cutAll_161 : decode cX12_cutAll 161 = .ok (.getfield 131, 3) := by decide +kernel
theorem dX12_cutAll_164 : decode cX12_cutAll 164 = .ok (.if_icmp .ge 54, 3) := by decide +kernel
theorem dX12_cutAll_167 : decode cX12_cutAll 167 = .ok (.aload_n 0, 1) := by decide +kernel
theorem dX12_cutAll_168 : decode cX12_cutAll 168 = .ok (.getfield 14, 3) := by decide +kernel
theorem dX12_cutAll_171 : decode cX12_cutAll 171 = .ok (.iload_n 2, 1) := by decide +kernel
theorem dX12_cutAll_172 : decode cX12_cutAll 172 = .ok (.iaload, 1) := by decide +kernel
theorem dX12_cutAll_173 : decode cX12_cutAll 173 = .ok (.invokestatic 140, 3) := by decide +kernel
theorem dX12_cutAll_176 : decode cX12_cutAll 176 = .ok (.ifCond .eq 42, 3) := by decide +kernel
theorem dX12_cutAll_179 : decode cX12_cutAll 179 = .ok (.iload_n 2, 1) := by decide +kernel
theorem dX12_cutAll_180 : decode cX12_cutAll 180 = .ok (.iload 4, 2) := by decide +kernel
theorem dX12_cutAll_182 : decode cX12_cutAll 182 = .ok (.isub, 1) := by decide +kernel
theorem dX12_cutAll_183 : decode cX12_cutAll 183 = .ok (.iconst 4, 1) := by decide +kernel
theorem dX12_cutAll_184 : decode cX12_cutAll 184 = .ok (.if_icmp .ge 24, 3) := by decide +kernel
theorem dX12_cutAll_187 : decode cX12_cutAll 187 = .ok (.ldc2_w 143, 3) := by decide +kernel
theorem dX12_cutAll_190 : decode cX12_cutAll 190 = .ok (.lload 5, 2) := by decide +kernel
theorem dX12_cutAll_192 : decode cX12_cutAll 192 = .ok (.lmul, 1) := by decide +kernel
theorem dX12_cutAll_193 : decode cX12_cutAll 193 = .ok (.aload_n 0, 1) := by decide +kernel
theorem dX12_cutAll_194 : decode cX12_cutAll 194 = .ok (.getfield 14, 3) := by decide +kernel
theorem dX12_cutAll_197 : decode cX12_cutAll 197 = .ok (.iload_n 2, 1) := by decide +kernel
theorem dX12_cutAll_198 : decode cX12_cutAll 198 = .ok (.iaload, 1) := by decide +kernel
theorem dX12_cutAll_199 : decode cX12_cutAll 199 = .ok (.i2l, 1) := by decide +kernel
theorem dX12_cutAll_200 : decode cX12_cutAll 200 = .ok (.ladd, 1) := by decide +kernel
theorem dX12_cutAll_201 : decode cX12_cutAll 201 = .ok (.ldc2_w 145, 3) := by decide +kernel
theorem dX12_cutAll_204 : decode cX12_cutAll 204 = .ok (.lsub, 1) := by decide +kernel
theorem dX12_cutAll_205 : decode cX12_cutAll 205 = .ok (.goto 5, 3) := by decide +kernel
theorem dX12_cutAll_208 : decode cX12_cutAll 208 = .ok (.lload 5, 2) := by decide +kernel
theorem dX12_cutAll_210 : decode cX12_cutAll 210 = .ok (.lstore 5, 2) := by decide +kernel
theorem dX12_cutAll_212 : decode cX12_cutAll 212 = .ok (.iinc 2 1, 3) := by decide +kernel
theorem dX12_cutAll_215 : decode cX12_cutAll 215 = .ok (.goto (-56), 3) := by decide +kernel
theorem dX12_cutAll_218 : decode cX12_cutAll 218 = .ok (.aload_n 0, 1) := by decide +kernel
theorem dX12_cutAll_219 : decode cX12_cutAll 219 = .ok (.getfield 24, 3) := by decide +kernel
theorem dX12_cutAll_222 : decode cX12_cutAll 222 = .ok (.iload_n 1, 1) := by decide +kernel
theorem dX12_cutAll_223 : decode cX12_cutAll 223 = .ok (.iload_n 2, 1) := by decide +kernel
theorem dX12_cutAll_224 : decode cX12_cutAll 224 = .ok (.iload 4, 2) := by decide +kernel
theorem dX12_cutAll_226 : decode cX12_cutAll 226 = .ok (.isub, 1) := by decide +kernel
theorem dX12_cutAll_227 : decode cX12_cutAll 227 = .ok (.iconst 4, 1) := by decide +kernel
theorem dX12_cutAll_228 : decode cX12_cutAll 228 = .ok (.if_icmp .le 7, 3) := by decide +kernel
theorem dX12_cutAll_231 : decode cX12_cutAll 231 = .ok (.iconst 4, 1) := by decide +kernel
theorem dX12_cutAll_232 : decode cX12_cutAll 232 = .ok (.goto 4, 3) := by decide +kernel
theorem dX12_cutAll_235 : decode cX12_cutAll 235 = .ok (.iconst 2, 1) := by decide +kernel
theorem dX12_cutAll_236 : decode cX12_cutAll 236 = .ok (.iastore, 1) := by decide +kernel
theorem dX12_cutAll_237 : decode cX12_cutAll 237 = .ok (.goto 28, 3) := by decide +kernel
theorem dX12_cutAll_240 : decode cX12_cutAll 240 = .ok (.iload_n 3, 1) := by decide +kernel
theorem dX12_cutAll_241 : decode cX12_cutAll 241 = .ok (.i2l, 1) := by decide +kernel
theorem dX12_cutAll_242 : decode cX12_cutAll 242 = .ok (.lstore 5, 2) := by decide +kernel
theorem dX12_cutAll_244 : decode cX12_cutAll 244 = .ok (.aload_n 0, 1) := by decide +kernel
theorem dX12_cutAll_245 : decode cX12_cutAll 245 = .ok (.getfield 24, 3) := by decide +kernel
theorem dX12_cutAll_248 : decode cX12_cutAll 248 = .ok (.iload_n 1, 1) := by decide +kernel
theorem dX12_cutAll_249 : decode cX12_cutAll 249 = .ok (.iload_n 3, 1) := by decide +kernel
theorem dX12_cutAll_250 : decode cX12_cutAll 250 = .ok (.invokestatic 147, 3) := by decide +kernel
theorem dX12_cutAll_253 : decode cX12_cutAll 253 = .ok (.ifCond .eq 7, 3) := by decide +kernel
theorem dX12_cutAll_256 : decode cX12_cutAll 256 = .ok (.iconst 3, 1) := by decide +kernel
theorem dX12_cutAll_257 : decode cX12_cutAll 257 = .ok (.goto 4, 3) := by decide +kernel
theorem dX12_cutAll_260 : decode cX12_cutAll 260 = .ok (.iconst 4, 1) := by decide +kernel
theorem dX12_cutAll_261 : decode cX12_cutAll 261 = .ok (.iastore, 1) := by decide +kernel
theorem dX12_cutAll_262 : decode cX12_cutAll 262 = .ok (.iinc 2 1, 3) := by decide +kernel
theorem dX12_cutAll_265 : decode cX12_cutAll 265 = .ok (.aload_n 0, 1) := by decide +kernel
theorem dX12_cutAll_266 : decode cX12_cutAll 266 = .ok (.getfield 30, 3) := by decide +kernel
theorem dX12_cutAll_269 : decode cX12_cutAll 269 = .ok (.iload_n 1, 1) := by decide +kernel
theorem dX12_cutAll_270 : decode cX12_cutAll 270 = .ok (.lload 5, 2) := by decide +kernel
theorem dX12_cutAll_272 : decode cX12_cutAll 272 = .ok (.lastore, 1) := by decide +kernel
theorem dX12_cutAll_273 : decode cX12_cutAll 273 = .ok (.iinc 1 1, 3) := by decide +kernel
theorem dX12_cutAll_276 : decode cX12_cutAll 276 = .ok (.goto (-259), 3) := by decide +kernel
theorem dX12_cutAll_279 : decode cX12_cutAll 279 = .ok (.aload_n 0, 1) := by decide +kernel
theorem dX12_cutAll_280 : decode cX12_cutAll 280 = .ok (.getfield 24, 3) := by decide +kernel
theorem dX12_cutAll_283 : decode cX12_cutAll 283 = .ok (.iload_n 1, 1) := by decide +kernel
theorem dX12_cutAll_284 : decode cX12_cutAll 284 = .ok (.iconst 0, 1) := by decide +kernel
theorem dX12_cutAll_285 : decode cX12_cutAll 285 = .ok (.iastore, 1) := by decide +kernel
theorem dX12_cutAll_286 : decode cX12_cutAll 286 = .ok (.aload_n 0, 1) := by decide +kernel
theorem dX12_cutAll_287 : decode cX12_cutAll 287 = .ok (.getfield 27, 3) := by decide +kernel
theorem dX12_cutAll_290 : decode cX12_cutAll 290 = .ok (.iload_n 1, 1) := by decide +kernel
theorem dX12_cutAll_291 : decode cX12_cutAll 291 = .ok (.aload_n 0, 1) := by decide +kernel
theorem dX12_cutAll_292 : decode cX12_cutAll 292 = .ok (.getfield 131, 3) := by decide +kernel
theorem dX12_cutAll_295 : decode cX12_cutAll 295 = .ok (.iastore, 1) := by decide +kernel
theorem dX12_cutAll_296 : decode cX12_cutAll 296 = .ok (.aload_n 0, 1) := by decide +kernel
theorem dX12_cutAll_297 : decode cX12_cutAll 297 = .ok (.iconst 0, 1) := by decide +kernel
theorem dX12_cutAll_298 : decode cX12_cutAll 298 = .ok (.putfield 150, 3) := by decide +kernel
theorem dX12_cutAll_301 : decode cX12_cutAll 301 = .ok (.aload_n 0, 1) := by decide +kernel
theorem dX12_cutAll_302 : decode cX12_cutAll 302 = .ok (.iconst 0, 1) := by decide +kernel
theorem dX12_cutAll_303 : decode cX12_cutAll 303 = .ok (.putfield 153, 3) := by decide +kernel
theorem dX12_cutAll_306 : decode cX12_cutAll 306 = .ok (.return_, 1) := by decide +kernel
theorem dX12_wrong_0 : decode cX12_wrong 0 = .ok (.aload_n 0, 1) := by decide +kernel
theorem dX12_wrong_1 : decode cX12_wrong 1 = .ok (.getfield 153, 3) := by decide +kernel
theorem dX12_wrong_4 : decode cX12_wrong 4 = .ok (.ifCond .ne 21, 3) := by decide +kernel
theorem dX12_wrong_7 : decode cX12_wrong 7 = .ok (.aload_n 0, 1) := by decide +kernel
theorem dX12_wrong_8 : decode cX12_wrong 8 = .ok (.iload_n 1, 1) := by decide +kernel
theorem dX12_wrong_9 : decode cX12_wrong 9 = .ok (.bipush 16, 2) := by decide +kernel
theorem dX12_wrong_11 : decode cX12_wrong 11 = .ok (.aload_n 0, 1) := by decide +kernel
theorem dX12_wrong_12 : decode cX12_wrong 12 = .ok (.getfield 27, 3) := by decide +kernel
theorem dX12_wrong_15 : decode cX12_wrong 15 = .ok (.aload_n 0, 1) := by decide +kernel
theorem dX12_wrong_16 : decode cX12_wrong 16 = .ok (.getfield 150, 3) := by decide +kernel
theorem dX12_wrong_19 : decode cX12_wrong 19 = .ok (.iaload, 1) := by decide +kernel
theorem dX12_wrong_20 : decode cX12_wrong 20 = .ok (.imul, 1) := by decide +kernel
theorem dX12_wrong_21 : decode cX12_wrong 21 = .ok (.iadd, 1) := by decide +kernel
theorem dX12_wrong_22 : decode cX12_wrong 22 = .ok (.putfield 153, 3) := by decide +kernel
theorem dX12_wrong_25 : decode cX12_wrong 25 = .ok (.return_, 1) := by decide +kernel
theorem dX12_isSign_0 : decode cX12_isSign 0 = .ok (.aload_n 0, 1) := by decide +kernel
theorem dX12_isSign_1 : decode cX12_isSign 1 = .ok (.getfield 153, 3) := by decide +kernel
theorem dX12_isSign_4 : decode cX12_isSign 4 = .ok (.ifCond .ne 35, 3) := by decide +kernel
theorem dX12_isSign_7 : decode cX12_isSign 7 = .ok (.aload_n 0, 1) := by decide +kernel
theorem dX12_isSign_8 : decode cX12_isSign 8 = .ok (.getfield 24, 3) := by decide +kernel
theorem dX12_isSign_11 : decode cX12_isSign 11 = .ok (.aload_n 0, 1) := by decide +kernel
theorem dX12_isSign_12 : decode cX12_isSign 12 = .ok (.getfield 150, 3) := by decide +kernel
theorem dX12_isSign_15 : decode cX12_isSign 15 = .ok (.iaload, 1) := by decide +kernel
theorem dX12_isSign_16 : decode cX12_isSign 16 = .ok (.iconst 3, 1) := by decide +kernel
theorem dX12_isSign_17 : decode cX12_isSign 17 = .ok (.if_icmp .ne 22, 3) := by decide +kernel
theorem dX12_isSign_20 : decode cX12_isSign 20 = .ok (.aload_n 0, 1) := by decide +kernel
theorem dX12_isSign_21 : decode cX12_isSign 21 = .ok (.getfield 30, 3) := by decide +kernel
theorem dX12_isSign_24 : decode cX12_isSign 24 = .ok (.aload_n 0, 1) := by decide +kernel
theorem dX12_isSign_25 : decode cX12_isSign 25 = .ok (.getfield 150, 3) := by decide +kernel
theorem dX12_isSign_28 : decode cX12_isSign 28 = .ok (.laload, 1) := by decide +kernel
theorem dX12_isSign_29 : decode cX12_isSign 29 = .ok (.iload_n 1, 1) := by decide +kernel
theorem dX12_isSign_30 : decode cX12_isSign 30 = .ok (.i2l, 1) := by decide +kernel
theorem dX12_isSign_31 : decode cX12_isSign 31 = .ok (.lcmp, 1) := by decide +kernel
theorem dX12_isSign_32 : decode cX12_isSign 32 = .ok (.ifCond .ne 7, 3) := by decide +kernel
theorem dX12_isSign_35 : decode cX12_isSign 35 = .ok (.iconst 1, 1) := by decide +kernel
theorem dX12_isSign_36 : decode cX12_isSign 36 = .ok (.goto 4, 3) := by decide +kernel
theorem dX12_isSign_39 : decode cX12_isSign 39 = .ok (.iconst 0, 1) := by decide +kernel
theorem dX12_isSign_40 : decode cX12_isSign 40 = .ok (.ireturn, 1) := by decide +kernel
theorem dX12_isWord_0 : decode cX12_isWord 0 = .ok (.aload_n 0, 1) := by decide +kernel
theorem dX12_isWord_1 : decode cX12_isWord 1 = .ok (.getfield 153, 3) := by decide +kernel
theorem dX12_isWord_4 : decode cX12_isWord 4 = .ok (.ifCond .ne 39, 3) := by decide +kernel
theorem dX12_isWord_7 : decode cX12_isWord 7 = .ok (.aload_n 0, 1) := by decide +kernel
theorem dX12_isWord_8 : decode cX12_isWord 8 = .ok (.getfield 24, 3) := by decide +kernel
theorem dX12_isWord_11 : decode cX12_isWord 11 = .ok (.aload_n 0, 1) := by decide +kernel
theorem dX12_isWord_12 : decode cX12_isWord 12 = .ok (.getfield 150, 3) := by decide +kernel
theorem dX12_isWord_15 : decode cX12_isWord 15 = .ok (.iaload, 1) := by decide +kernel
theorem dX12_isWord_16 : decode cX12_isWord 16 = .ok (.iconst 1, 1) := by decide +kernel
theorem dX12_isWord_17 : decode cX12_isWord 17 = .ok (.if_icmp .ne 26, 3) := by decide +kernel
theorem dX12_isWord_20 : decode cX12_isWord 20 = .ok (.aload_n 0, 1) := by decide +kernel
theorem dX12_isWord_21 : decode cX12_isWord 21 = .ok (.getfield 30, 3) := by decide +kernel
theorem dX12_isWord_24 : decode cX12_isWord 24 = .ok (.aload_n 0, 1) := by decide +kernel
theorem dX12_isWord_25 : decode cX12_isWord 25 = .ok (.getfield 150, 3) := by decide +kernel
theorem dX12_isWord_28 : decode cX12_isWord 28 = .ok (.laload, 1) := by decide +kernel
theorem dX12_isWord_29 : decode cX12_isWord 29 = .ok (.aload_n 0, 1) := by decide +kernel
theorem dX12_isWord_30 : decode cX12_isWord 30 = .ok (.getfield 62, 3) := by decide +kernel
theorem dX12_isWord_33 : decode cX12_isWord 33 = .ok (.iload_n 1, 1) := by decide +kernel
theorem dX12_isWord_34 : decode cX12_isWord 34 = .ok (.laload, 1) := by decide +kernel
theorem dX12_isWord_35 : decode cX12_isWord 35 = .ok (.lcmp, 1) := by decide +kernel
theorem dX12_isWord_36 : decode cX12_isWord 36 = .ok (.ifCond .ne 7, 3) := by decide +kernel
theorem dX12_isWord_39 : decode cX12_isWord 39 = .ok (.iconst 1, 1) := by decide +kernel
theorem dX12_isWord_40 : decode cX12_isWord 40 = .ok (.goto 4, 3) := by decide +kernel
theorem dX12_isWord_43 : decode cX12_isWord 43 = .ok (.iconst 0, 1) := by decide +kernel
theorem dX12_isWord_44 : decode cX12_isWord 44 = .ok (.ireturn, 1) := by decide +kernel
theorem dX12_takeSign_0 : decode cX12_takeSign 0 = .ok (.aload_n 0, 1) := by decide +kernel
theorem dX12_takeSign_1 : decode cX12_takeSign 1 = .ok (.iload_n 1, 1) := by decide +kernel
theorem dX12_takeSign_2 : decode cX12_takeSign 2 = .ok (.invokevirtual 156, 3) := by decide +kernel
theorem dX12_takeSign_5 : decode cX12_takeSign 5 = .ok (.ifCond .eq 16, 3) := by decide +kernel
theorem dX12_takeSign_8 : decode cX12_takeSign 8 = .ok (.aload_n 0, 1) := by decide +kernel
theorem dX12_takeSign_9 : decode cX12_takeSign 9 = .ok (.dup, 1) := by decide +kernel
theorem dX12_takeSign_10 : decode cX12_takeSign 10 = .ok (.getfield 150, 3) := by decide +kernel
theorem dX12_takeSign_13 : decode cX12_takeSign 13 = .ok (.iconst 1, 1) := by decide +kernel
theorem dX12_takeSign_14 : decode cX12_takeSign 14 = .ok (.iadd, 1) := by decide +kernel
theorem dX12_takeSign_15 : decode cX12_takeSign 15 = .ok (.putfield 150, 3) := by decide +kernel
theorem dX12_takeSign_18 : decode cX12_takeSign 18 = .ok (.goto 8, 3) := by decide +kernel
theorem dX12_takeSign_21 : decode cX12_takeSign 21 = .ok (.aload_n 0, 1) := by decide +kernel
theorem dX12_takeSign_22 : decode cX12_takeSign 22 = .ok (.iconst 1, 1) := by decide +kernel
theorem dX12_takeSign_23 : decode cX12_takeSign 23 = .ok (.invokevirtual 159, 3) := by decide +kernel
theorem dX12_takeSign_26 : decode cX12_takeSign 26 = .ok (.return_, 1) := by decide +kernel
theorem dX12_hasSign_0 : decode cX12_hasSign 0 = .ok (.aload_n 0, 1) := by decide +kernel
theorem dX12_hasSign_1 : decode cX12_hasSign 1 = .ok (.iload_n 1, 1) := by decide +kernel
theorem dX12_hasSign_2 : decode cX12_hasSign 2 = .ok (.invokevirtual 156, 3) := by decide +kernel
theorem dX12_hasSign_5 : decode cX12_hasSign 5 = .ok (.istore_n 2, 1) := by decide +kernel
theorem dX12_hasSign_6 : decode cX12_hasSign 6 = .ok (.aload_n 0, 1) := by decide +kernel
theorem dX12_hasSign_7 : decode cX12_hasSign 7 = .ok (.dup, 1) := by decide +kernel
theorem dX12_hasSign_8 : decode cX12_hasSign 8 = .ok (.getfield 150, 3) := by decide +kernel
theorem dX12_hasSign_11 : decode cX12_hasSign 11 = .ok (.iload_n 2, 1) := by decide +kernel
theorem dX12_hasSign_12 : decode cX12_hasSign 12 = .ok (.ifCond .eq 7, 3) := by decide +kernel
theorem dX12_hasSign_15 : decode cX12_hasSign 15 = .ok (.iconst 1, 1) := by decide +kernel
theorem dX12_hasSign_16 : decode cX12_hasSign 16 = .ok (.goto 4, 3) := by decide +kernel
theorem dX12_hasSign_19 : decode cX12_hasSign 19 = .ok (.iconst 0, 1) := by decide +kernel
theorem dX12_hasSign_20 : decode cX12_hasSign 20 = .ok (.iadd, 1) := by decide +kernel
theorem dX12_hasSign_21 : decode cX12_hasSign 21 = .ok (.putfield 150, 3) := by decide +kernel
theorem dX12_hasSign_24 : decode cX12_hasSign 24 = .ok (.iload_n 2, 1) := by decide +kernel
theorem dX12_hasSign_25 : decode cX12_hasSign 25 = .ok (.ireturn, 1) := by decide +kernel
theorem dX12_hasWord_0 : decode cX12_hasWord 0 = .ok (.aload_n 0, 1) := by decide +kernel
theorem dX12_hasWord_1 : decode cX12_hasWord 1 = .ok (.iload_n 1, 1) := by decide +kernel
theorem dX12_hasWord_2 : decode cX12_hasWord 2 = .ok (.invokevirtual 163, 3) := by decide +kernel
theorem dX12_hasWord_5 : decode cX12_hasWord 5 = .ok (.istore_n 2, 1) := by decide +kernel
theorem dX12_hasWord_6 : decode cX12_hasWord 6 = .ok (.aload_n 0, 1) := by decide +kernel
theorem dX12_hasWord_7 : decode cX12_hasWord 7 = .ok (.dup, 1) := by decide +kernel
theorem dX12_hasWord_8 : decode cX12_hasWord 8 = .ok (.getfield 150, 3) := by decide +kernel
theorem dX12_hasWord_11 : decode cX12_hasWord 11 = .ok (.iload_n 2, 1) := by decide +kernel
theorem dX12_hasWord_12 : decode cX12_hasWord 12 = .ok (.ifCond .eq 7, 3) := by decide +kernel
theorem dX12_hasWord_15 : decode cX12_hasWord 15 = .ok (.iconst 1, 1) := by decide +kernel
theorem dX12_hasWord_16 : decode cX12_hasWord 16 = .ok (.goto 4, 3) := by decide +kernel
theorem dX12_hasWord_19 : decode cX12_hasWord 19 = .ok (.iconst 0, 1) := by decide +kernel
theorem dX12_hasWord_20 : decode cX12_hasWord 20 = .ok (.iadd, 1) := by decide +kernel
theorem dX12_hasWord_21 : decode cX12_hasWord 21 = .ok (.putfield 150, 3) := by decide +kernel
theorem dX12_hasWord_24 : decode cX12_hasWord 24 = .ok (.iload_n 2, 1) := by decide +kernel
theorem dX12_hasWord_25 : decode cX12_hasWord 25 = .ok (.ireturn, 1) := by decide +kernel
theorem dX12_takeWord_0 : decode cX12_takeWord 0 = .ok (.aload_n 0, 1) := by decide +kernel
theorem dX12_takeWord_1 : decode cX12_takeWord 1 = .ok (.iload_n 1, 1) := by decide +kernel
theorem dX12_takeWord_2 : decode cX12_takeWord 2 = .ok (.invokevirtual 166, 3) := by decide +kernel
theorem dX12_takeWord_5 : decode cX12_takeWord 5 = .ok (.ifCond .ne 8, 3) := by decide +kernel
theorem dX12_takeWord_8 : decode cX12_takeWord 8 = .ok (.aload_n 0, 1) := by decide +kernel
theorem dX12_takeWord_9 : decode cX12_takeWord 9 = .ok (.iconst 1, 1) := by decide +kernel
theorem dX12_takeWord_10 : decode cX12_takeWord 10 = .ok (.invokevirtual 159, 3) := by decide +kernel
theorem dX12_takeWord_13 : decode cX12_takeWord 13 = .ok (.return_, 1) := by decide +kernel
theorem dX12_within_0 : decode cX12_within 0 = .ok (.iload_n 0, 1) := by decide +kernel
theorem dX12_within_1 : decode cX12_within 1 = .ok (.iload_n 1, 1) := by decide +kernel
theorem dX12_within_2 : decode cX12_within 2 = .ok (.if_icmp .lt 12, 3) := by decide +kernel
theorem dX12_within_5 : decode cX12_within 5 = .ok (.iload_n 0, 1) := by decide +kernel
theorem dX12_within_6 : decode cX12_within 6 = .ok (.iload_n 2, 1) := by decide +kernel
theorem dX12_within_7 : decode cX12_within 7 = .ok (.if_icmp .gt 7, 3) := by decide +kernel
theorem dX12_within_10 : decode cX12_within 10 = .ok (.iconst 1, 1) := by decide +kernel
theorem dX12_within_11 : decode cX12_within 11 = .ok (.goto 4, 3) := by decide +kernel
theorem dX12_within_14 : decode cX12_within 14 = .ok (.iconst 0, 1) := by decide +kernel
theorem dX12_within_15 : decode cX12_within 15 = .ok (.ireturn, 1) := by decide +kernel
theorem dX12_takeNumber_0 : decode cX12_takeNumber 0 = .ok (.aload_n 0, 1) := by decide +kernel
theorem dX12_takeNumber_1 : decode cX12_takeNumber 1 = .ok (.getfield 153, 3) := by decide +kernel
theorem dX12_takeNumber_4 : decode cX12_takeNumber 4 = .ok (.ifCond .ne 24, 3) := by decide +kernel
theorem dX12_takeNumber_7 : decode cX12_takeNumber 7 = .ok (.aload_n 0, 1) := by decide +kernel
theorem dX12_takeNumber_8 : decode cX12_takeNumber 8 = .ok (.getfield 24, 3) := by decide +kernel
theorem dX12_takeNumber_11 : decode cX12_takeNumber 11 = .ok (.aload_n 0, 1) := by decide +kernel
theorem dX12_takeNumber_12 : decode cX12_takeNumber 12 = .ok (.getfield 150, 3) := by decide +kernel
theorem dX12_takeNumber_15 : decode cX12_takeNumber 15 = .ok (.iaload, 1) := by decide +kernel
theorem dX12_takeNumber_16 : decode cX12_takeNumber 16 = .ok (.iconst 2, 1) := by decide +kernel
theorem dX12_takeNumber_17 : decode cX12_takeNumber 17 = .ok (.if_icmp .eq 11, 3) := by decide +kernel
theorem dX12_takeNumber_20 : decode cX12_takeNumber 20 = .ok (.aload_n 0, 1) := by decide +kernel
theorem dX12_takeNumber_21 : decode cX12_takeNumber 21 = .ok (.iconst 1, 1) := by decide +kernel
theorem dX12_takeNumber_22 : decode cX12_takeNumber 22 = .ok (.invokevirtual 159, 3) := by decide +kernel
theorem dX12_takeNumber_25 : decode cX12_takeNumber 25 = .ok (.goto 45, 3) := by decide +kernel
theorem dX12_takeNumber_28 : decode cX12_takeNumber 28 = .ok (.aload_n 0, 1) := by decide +kernel
theorem dX12_takeNumber_29 : decode cX12_takeNumber 29 = .ok (.getfield 153, 3) := by decide +kernel
theorem dX12_takeNumber_32 : decode cX12_takeNumber 32 = .ok (.ifCond .ne 38, 3) := by decide +kernel
theorem dX12_takeNumber_35 : decode cX12_takeNumber 35 = .ok (.aload_n 0, 1) := by decide +kernel
theorem dX12_takeNumber_36 : decode cX12_takeNumber 36 = .ok (.getfield 30, 3) := by decide +kernel
theorem dX12_takeNumber_39 : decode cX12_takeNumber 39 = .ok (.aload_n 0, 1) := by decide +kernel
theorem dX12_takeNumber_40 : decode cX12_takeNumber 40 = .ok (.getfield 150, 3) := by decide +kernel
theorem dX12_takeNumber_43 : decode cX12_takeNumber 43 = .ok (.laload, 1) := by decide +kernel
theorem dX12_takeNumber_44 : decode cX12_takeNumber 44 = .ok (.iload_n 1, 1) := by decide +kernel
theorem dX12_takeNumber_45 : decode cX12_takeNumber 45 = .ok (.i2l, 1) := by decide +kernel
theorem dX12_takeNumber_46 : decode cX12_takeNumber 46 = .ok (.lcmp, 1) := by decide +kernel
theorem dX12_takeNumber_47 : decode cX12_takeNumber 47 = .ok (.ifCond .lt 18, 3) := by decide +kernel
theorem dX12_takeNumber_50 : decode cX12_takeNumber 50 = .ok (.aload_n 0, 1) := by decide +kernel
theorem dX12_takeNumber_51 : decode cX12_takeNumber 51 = .ok (.getfield 30, 3) := by decide +kernel
theorem dX12_takeNumber_54 : decode cX12_takeNumber 54 = .ok (.aload_n 0, 1) := by decide +kernel
theorem dX12_takeNumber_55 : decode cX12_takeNumber 55 = .ok (.getfield 150, 3) := by decide +kernel
theorem dX12_takeNumber_58 : decode cX12_takeNumber 58 = .ok (.laload, 1) := by decide +kernel
theorem dX12_takeNumber_59 : decode cX12_takeNumber 59 = .ok (.iload_n 2, 1) := by decide +kernel
theorem dX12_takeNumber_60 : decode cX12_takeNumber 60 = .ok (.i2l, 1) := by decide +kernel
theorem dX12_takeNumber_61 : decode cX12_takeNumber 61 = .ok (.lcmp, 1) := by decide +kernel
theorem dX12_takeNumber_62 : decode cX12_takeNumber 62 = .ok (.ifCond .le 8, 3) := by decide +kernel
theorem dX12_takeNumber_65 : decode cX12_takeNumber 65 = .ok (.aload_n 0, 1) := by decide +kernel
theorem dX12_takeNumber_66 : decode cX12_takeNumber 66 = .ok (.iconst 4, 1) := by decide +kernel
theorem dX12_takeNumber_67 : decode cX12_takeNumber 67 = .ok (.invokevirtual 159, 3) := by decide +kernel
theorem dX12_takeNumber_70 : decode cX12_takeNumber 70 = .ok (.aload_n 0, 1) := by decide +kernel
theorem dX12_takeNumber_71 : decode cX12_takeNumber 71 = .ok (.getfield 153, 3) := by decide +kernel
theorem dX12_takeNumber_74 : decode cX12_takeNumber 74 = .ok (.ifCond .le 5, 3) := by decide +kernel
theorem dX12_takeNumber_77 : decode cX12_takeNumber 77 = .ok (.iconst 0, 1) := by decide +kernel
theorem dX12_takeNumber_78 : decode cX12_takeNumber 78 = .ok (.ireturn, 1) := by decide +kernel
theorem dX12_takeNumber_79 : decode cX12_takeNumber 79 = .ok (.aload_n 0, 1) := by decide +kernel
theorem dX12_takeNumber_80 : decode cX12_takeNumber 80 = .ok (.dup, 1) := by decide +kernel
theorem dX12_takeNumber_81 : decode cX12_takeNumber 81 = .ok (.getfield 150, 3) := by decide +kernel
theorem dX12_takeNumber_84 : decode cX12_takeNumber 84 = .ok (.iconst 1, 1) := by decide +kernel
theorem dX12_takeNumber_85 : decode cX12_takeNumber 85 = .ok (.iadd, 1) := by decide +kernel
theorem dX12_takeNumber_86 : decode cX12_takeNumber 86 = .ok (.putfield 150, 3) := by decide +kernel
theorem dX12_takeNumber_89 : decode cX12_takeNumber 89 = .ok (.aload_n 0, 1) := by decide +kernel
theorem dX12_takeNumber_90 : decode cX12_takeNumber 90 = .ok (.getfield 30, 3) := by decide +kernel
theorem dX12_takeNumber_93 : decode cX12_takeNumber 93 = .ok (.aload_n 0, 1) := by decide +kernel
theorem dX12_takeNumber_94 : decode cX12_takeNumber 94 = .ok (.getfield 150, 3) := by decide +kernel
theorem dX12_takeNumber_97 : decode cX12_takeNumber 97 = .ok (.iconst 1, 1) := by decide +kernel
theorem dX12_takeNumber_98 : decode cX12_takeNumber 98 = .ok (.isub, 1) := by decide +kernel
theorem dX12_takeNumber_99 : decode cX12_takeNumber 99 = .ok (.laload, 1) := by decide +kernel
theorem dX12_takeNumber_100 : decode cX12_takeNumber 100 = .ok (.l2i, 1) := by decide +kernel
theorem dX12_takeNumber_101 : decode cX12_takeNumber 101 = .ok (.ireturn, 1) := by decide +kernel
theorem dX12_isName_0 : decode cX12_isName 0 = .ok (.aload_n 0, 1) := by decide +kernel
theorem dX12_isName_1 : decode cX12_isName 1 = .ok (.getfield 153, 3) := by decide +kernel
theorem dX12_isName_4 : decode cX12_isName 4 = .ok (.ifCond .ne 20, 3) := by decide +kernel
theorem dX12_isName_7 : decode cX12_isName 7 = .ok (.aload_n 0, 1) := by decide +kernel
theorem dX12_isName_8 : decode cX12_isName 8 = .ok (.getfield 24, 3) := by decide +kernel
theorem dX12_isName_11 : decode cX12_isName 11 = .ok (.aload_n 0, 1) := by decide +kernel
theorem dX12_isName_12 : decode cX12_isName 12 = .ok (.getfield 150, 3) := by decide +kernel
theorem dX12_isName_15 : decode cX12_isName 15 = .ok (.iaload, 1) := by decide +kernel
theorem dX12_isName_16 : decode cX12_isName 16 = .ok (.iconst 1, 1) := by decide +kernel
theorem dX12_isName_17 : decode cX12_isName 17 = .ok (.if_icmp .ne 7, 3) := by decide +kernel
theorem dX12_isName_20 : decode cX12_isName 20 = .ok (.iconst 1, 1) := by decide +kernel
theorem dX12_isName_21 : decode cX12_isName 21 = .ok (.goto 4, 3) := by decide +kernel
theorem dX12_isName_24 : decode cX12_isName 24 = .ok (.iconst 0, 1) := by decide +kernel
theorem dX12_isName_25 : decode cX12_isName 25 = .ok (.istore_n 1, 1) := by decide +kernel
theorem dX12_isName_26 : decode cX12_isName 26 = .ok (.iconst 0, 1) := by decide +kernel
theorem dX12_isName_27 : decode cX12_isName 27 = .ok (.istore_n 2, 1) := by decide +kernel
theorem dX12_isName_28 : decode cX12_isName 28 = .ok (.iload_n 2, 1) := by decide +kernel
theorem dX12_isName_29 : decode cX12_isName 29 = .ok (.bipush 9, 2) := by decide +kernel
theorem dX12_isName_31 : decode cX12_isName 31 = .ok (.if_icmp .ge 38, 3) := by decide +kernel
theorem dX12_isName_34 : decode cX12_isName 34 = .ok (.iload_n 1, 1) := by decide +kernel
theorem dX12_isName_35 : decode cX12_isName 35 = .ok (.ifCond .eq 26, 3) := by decide +kernel
theorem dX12_isName_38 : decode cX12_isName 38 = .ok (.aload_n 0, 1) := by decide +kernel
theorem dX12_isName_39 : decode cX12_isName 39 = .ok (.getfield 30, 3) := by decide +kernel
theorem dX12_isName_42 : decode cX12_isName 42 = .ok (.aload_n 0, 1) := by decide +kernel
theorem dX12_isName_43 : decode cX12_isName 43 = .ok (.getfield 150, 3) := by decide +kernel
theorem dX12_isName_46 : decode cX12_isName 46 = .ok (.laload, 1) := by decide +kernel
theorem dX12_isName_47 : decode cX12_isName 47 = .ok (.aload_n 0, 1) := by decide +kernel
theorem dX12_isName_48 : decode cX12_isName 48 = .ok (.getfield 62, 3) := by decide +kernel
theorem dX12_isName_51 : decode cX12_isName 51 = .ok (.iload_n 2, 1) := by decide +kernel
theorem dX12_isName_52 : decode cX12_isName 52 = .ok (.laload, 1) := by decide +kernel
theorem dX12_isName_53 : decode cX12_isName 53 = .ok (.lcmp, 1) := by decide +kernel
theorem dX12_isName_54 : decode cX12_isName 54 = .ok (.ifCond .eq 7, 3) := by decide +kernel
theorem dX12_isName_57 : decode cX12_isName 57 = .ok (.iconst 1, 1) := by decide +kernel
theorem dX12_isName_58 : decode cX12_isName 58 = .ok (.goto 4, 3) := by decide +kernel
theorem dX12_isName_61 : decode cX12_isName 61 = .ok (.iconst 0, 1) := by decide +kernel
theorem dX12_isName_62 : decode cX12_isName 62 = .ok (.istore_n 1, 1) := by decide +kernel
theorem dX12_isName_63 : decode cX12_isName 63 = .ok (.iinc 2 1, 3) := by decide +kernel
theorem dX12_isName_66 : decode cX12_isName 66 = .ok (.goto (-38), 3) := by decide +kernel
theorem dX12_isName_69 : decode cX12_isName 69 = .ok (.iload_n 1, 1) := by decide +kernel
theorem dX12_isName_70 : decode cX12_isName 70 = .ok (.ireturn, 1) := by decide +kernel
theorem dX12_inn_0 : decode cX12_inn 0 = .ok (.aload_n 0, 1) := by decide +kernel
theorem dX12_inn_1 : decode cX12_inn 1 = .ok (.iconst 0, 1) := by decide +kernel
theorem dX12_inn_2 : decode cX12_inn 2 = .ok (.putfield 1, 3) := by decide +kernel
theorem dX12_inn_5 : decode cX12_inn 5 = .ok (.aload_n 0, 1) := by decide +kernel
theorem dX12_inn_6 : decode cX12_inn 6 = .ok (.invokevirtual 169, 3) := by decide +kernel
theorem dX12_inn_9 : decode cX12_inn 9 = .ok (.aload_n 0, 1) := by decide +kernel
theorem dX12_inn_10 : decode cX12_inn 10 = .ok (.iconst 0, 1) := by decide +kernel
theorem dX12_inn_11 : decode cX12_inn 11 = .ok (.putfield 172, 3) := by decide +kernel
theorem dX12_inn_14 : decode cX12_inn 14 = .ok (.iconst 0, 1) := by decide +kernel
theorem dX12_inn_15 : decode cX12_inn 15 = .ok (.istore_n 1, 1) := by decide +kernel
theorem dX12_inn_16 : decode cX12_inn 16 = .ok (.iload_n 1, 1) := by decide +kernel
theorem dX12_inn_17 : decode cX12_inn 17 = .ok (.bipush 60, 2) := by decide +kernel
theorem dX12_inn_19 : decode cX12_inn 19 = .ok (.if_icmp .ge 19, 3) := by decide +kernel
theorem dX12_inn_22 : decode cX12_inn 22 = .ok (.aload_n 0, 1) := by decide +kernel
theorem dX12_inn_23 : decode cX12_inn 23 = .ok (.getfield 65, 3) := by decide +kernel
theorem dX12_inn_26 : decode cX12_inn 26 = .ok (.bipush 60, 2) := by decide +kernel
theorem dX12_inn_28 : decode cX12_inn 28 = .ok (.iload_n 1, 1) := by decide +kernel
theorem dX12_inn_29 : decode cX12_inn 29 = .ok (.iadd, 1) := by decide +kernel
theorem dX12_inn_30 : decode cX12_inn 30 = .ok (.iconst 0, 1) := by decide +kernel
theorem dX12_inn_31 : decode cX12_inn 31 = .ok (.iastore, 1) := by decide +kernel
theorem dX12_inn_32 : decode cX12_inn 32 = .ok (.iinc 1 1, 3) := by decide +kernel
theorem dX12_inn_35 : decode cX12_inn 35 = .ok (.goto (-19), 3) := by decide +kernel
theorem dX12_inn_38 : decode cX12_inn 38 = .ok (.aload_n 0, 1) := by decide +kernel
theorem dX12_inn_39 : decode cX12_inn 39 = .ok (.getfield 153, 3) := by decide +kernel
theorem dX12_inn_42 : decode cX12_inn 42 = .ok (.ifCond .ne 28, 3) := by decide +kernel
theorem dX12_inn_45 : decode cX12_inn 45 = .ok (.aload_n 0, 1) := by decide +kernel
theorem dX12_inn_46 : decode cX12_inn 46 = .ok (.getfield 24, 3) := by decide +kernel
theorem dX12_inn_49 : decode cX12_inn 49 = .ok (.aload_n 0, 1) := by decide +kernel
theorem dX12_inn_50 : decode cX12_inn 50 = .ok (.getfield 150, 3) := by decide +kernel
theorem dX12_inn_53 : decode cX12_inn 53 = .ok (.iaload, 1) := by decide +kernel
theorem dX12_inn_54 : decode cX12_inn 54 = .ok (.ifCond .eq 16, 3) := by decide +kernel
theorem dX12_inn_57 : decode cX12_inn 57 = .ok (.aload_n 0, 1) := by decide +kernel
theorem dX12_inn_58 : decode cX12_inn 58 = .ok (.invokevirtual 175, 3) := by decide +kernel
theorem dX12_inn_61 : decode cX12_inn 61 = .ok (.aload_n 0, 1) := by decide +kernel
theorem dX12_inn_62 : decode cX12_inn 62 = .ok (.bipush 59, 2) := by decide +kernel
theorem dX12_inn_64 : decode cX12_inn 64 = .ok (.invokevirtual 178, 3) := by decide +kernel
theorem dX12_inn_67 : decode cX12_inn 67 = .ok (.goto (-29), 3) := by decide +kernel
theorem dX12_inn_70 : decode cX12_inn 70 = .ok (.aload_n 0, 1) := by decide +kernel
theorem dX12_inn_71 : decode cX12_inn 71 = .ok (.getfield 153, 3) := by decide +kernel
theorem dX12_inn_74 : decode cX12_inn 74 = .ok (.ifCond .le 8, 3) := by decide +kernel
theorem dX12_inn_77 : decode cX12_inn 77 = .ok (.aload_n 0, 1) := by decide +kernel
theorem dX12_inn_78 : decode cX12_inn 78 = .ok (.getfield 153, 3) := by decide +kernel
theorem dX12_inn_81 : decode cX12_inn 81 = .ok (.ireturn, 1) := by decide +kernel
theorem dX12_inn_82 : decode cX12_inn 82 = .ok (.iconst 0, 1) := by decide +kernel
theorem dX12_inn_83 : decode cX12_inn 83 = .ok (.istore_n 1, 1) := by decide +kernel
theorem dX12_inn_84 : decode cX12_inn 84 = .ok (.iload_n 1, 1) := by decide +kernel
theorem dX12_inn_85 : decode cX12_inn 85 = .ok (.bipush 60, 2) := by decide +kernel
theorem dX12_inn_87 : decode cX12_inn 87 = .ok (.if_icmp .ge 24, 3) := by decide +kernel
theorem dX12_inn_90 : decode cX12_inn 90 = .ok (.aload_n 0, 1) := by decide +kernel
theorem dX12_inn_91 : decode cX12_inn 91 = .ok (.getfield 65, 3) := by decide +kernel
theorem dX12_inn_94 : decode cX12_inn 94 = .ok (.iload_n 1, 1) := by decide +kernel
theorem dX12_inn_95 : decode cX12_inn 95 = .ok (.aload_n 0, 1) := by decide +kernel
theorem dX12_inn_96 : decode cX12_inn 96 = .ok (.getfield 65, 3) := by decide +kernel
theorem dX12_inn_99 : decode cX12_inn 99 = .ok (.bipush 60, 2) := by decide +kernel
theorem dX12_inn_101 : decode cX12_inn 101 = .ok (.iload_n 1, 1) := by decide +kernel
theorem dX12_inn_102 : decode cX12_inn 102 = .ok (.iadd, 1) := by decide +kernel
theorem dX12_inn_103 : decode cX12_inn 103 = .ok (.iaload, 1) := by decide +kernel
theorem dX12_inn_104 : decode cX12_inn 104 = .ok (.iastore, 1) := by decide +kernel
theorem dX12_inn_105 : decode cX12_inn 105 = .ok (.iinc 1 1, 3) := by decide +kernel
theorem dX12_inn_108 : decode cX12_inn 108 = .ok (.goto (-24), 3) := by decide +kernel
theorem dX12_inn_111 : decode cX12_inn 111 = .ok (.iconst 0, 1) := by decide +kernel
theorem dX12_inn_112 : decode cX12_inn 112 = .ok (.istore_n 1, 1) := by decide +kernel
theorem dX12_inn_113 : decode cX12_inn 113 = .ok (.iload_n 1, 1) := by decide +kernel
theorem dX12_inn_114 : decode cX12_inn 114 = .ok (.aload_n 0, 1) := by decide +kernel
theorem dX12_inn_115 : decode cX12_inn 115 = .ok (.getfield 172, 3) := by decide +kernel
theorem dX12_inn_118 : decode cX12_inn 118 = .ok (.if_icmp .ge 41, 3) := by decide +kernel
theorem dX12_inn_121 : decode cX12_inn 121 = .ok (.aload_n 0, 1) := by decide +kernel
theorem dX12_inn_122 : decode cX12_inn 122 = .ok (.getfield 68, 3) := by decide +kernel
theorem dX12_inn_125 : decode cX12_inn 125 = .ok (.iload_n 1, 1) := by decide +kernel
theorem dX12_inn_126 : decode cX12_inn 126 = .ok (.aload_n 0, 1) := by decide +kernel
theorem dX12_inn_127 : decode cX12_inn 127 = .ok (.getfield 68, 3) := by decide +kernel
theorem dX12_inn_130 : decode cX12_inn 130 = .ok (.sipush 1100, 3) := by decide +kernel
theorem dX12_inn_133 : decode cX12_inn 133 = .ok (.iload_n 1, 1) := by decide +kernel
theorem dX12_inn_134 : decode cX12_inn 134 = .ok (.iadd, 1) := by decide +kernel
theorem dX12_inn_135 : decode cX12_inn 135 = .ok (.iaload, 1) := by decide +kernel
theorem dX12_inn_136 : decode cX12_inn 136 = .ok (.iastore, 1) := by decide +kernel
theorem dX12_inn_137 : decode cX12_inn 137 = .ok (.aload_n 0, 1) := by decide +kernel
theorem dX12_inn_138 : decode cX12_inn 138 = .ok (.getfield 71, 3) := by decide +kernel
theorem dX12_inn_141 : decode cX12_inn 141 = .ok (.iload_n 1, 1) := by decide +kernel
theorem dX12_inn_142 : decode cX12_inn 142 = .ok (.aload_n 0, 1) := by decide +kernel
theorem dX12_inn_143 : decode cX12_inn 143 = .ok (.getfield 71, 3) := by decide +kernel
theorem dX12_inn_146 : decode cX12_inn 146 = .ok (.sipush 1100, 3) := by decide +kernel
theorem dX12_inn_149 : decode cX12_inn 149 = .ok (.iload_n 1, 1) := by decide +kernel
theorem dX12_inn_150 : decode cX12_inn 150 = .ok (.iadd, 1) := by decide +kernel
theorem dX12_inn_151 : decode cX12_inn 151 = .ok (.iaload, 1) := by decide +kernel
theorem dX12_inn_152 : decode cX12_inn 152 = .ok (.iastore, 1) := by decide +kernel
theorem dX12_inn_153 : decode cX12_inn 153 = .ok (.iinc 1 1, 3) := by decide +kernel
theorem dX12_inn_156 : decode cX12_inn 156 = .ok (.goto (-43), 3) := by decide +kernel
theorem dX12_inn_159 : decode cX12_inn 159 = .ok (.iconst 0, 1) := by decide +kernel
theorem dX12_inn_160 : decode cX12_inn 160 = .ok (.istore_n 1, 1) := by decide +kernel
theorem dX12_inn_161 : decode cX12_inn 161 = .ok (.iload_n 1, 1) := by decide +kernel
theorem dX12_inn_162 : decode cX12_inn 162 = .ok (.sipush 520, 3) := by decide +kernel
theorem dX12_inn_165 : decode cX12_inn 165 = .ok (.if_icmp .ge 16, 3) := by decide +kernel
theorem dX12_inn_168 : decode cX12_inn 168 = .ok (.aload_n 0, 1) := by decide +kernel
theorem dX12_inn_169 : decode cX12_inn 169 = .ok (.getfield 83, 3) := by decide +kernel
theorem dX12_inn_172 : decode cX12_inn 172 = .ok (.iload_n 1, 1) := by decide +kernel
theorem dX12_inn_173 : decode cX12_inn 173 = .ok (.iconst 0, 1) := by decide +kernel
theorem dX12_inn_174 : decode cX12_inn 174 = .ok (.iastore, 1) := by decide +kernel
theorem dX12_inn_175 : decode cX12_inn 175 = .ok (.iinc 1 1, 3) := by decide +kernel
theorem dX12_inn_178 : decode cX12_inn 178 = .ok (.goto (-17), 3) := by decide +kernel
theorem dX12_inn_181 : decode cX12_inn 181 = .ok (.aload_n 0, 1) := by decide +kernel
theorem dX12_inn_182 : decode cX12_inn 182 = .ok (.getfield 83, 3) := by decide +kernel
theorem dX12_inn_185 : decode cX12_inn 185 = .ok (.iconst 0, 1) := by decide +kernel
theorem dX12_inn_186 : decode cX12_inn 186 = .ok (.aload_n 0, 1) := by decide +kernel
theorem dX12_inn_187 : decode cX12_inn 187 = .ok (.invokevirtual 181, 3) := by decide +kernel
theorem dX12_inn_190 : decode cX12_inn 190 = .ok (.ifCond .le 7, 3) := by decide +kernel
theorem dX12_inn_193 : decode cX12_inn 193 = .ok (.iconst 0, 1) := by decide +kernel
theorem dX12_inn_194 : decode cX12_inn 194 = .ok (.goto 4, 3) := by decide +kernel
theorem dX12_inn_197 : decode cX12_inn 197 = .ok (.iconst (-1), 1) := by decide +kernel
theorem dX12_inn_198 : decode cX12_inn 198 = .ok (.iastore, 1) := by decide +kernel
theorem dX12_inn_199 : decode cX12_inn 199 = .ok (.iconst 0, 1) := by decide +kernel
theorem dX12_inn_200 : decode cX12_inn 200 = .ok (.istore_n 1, 1) := by decide +kernel
theorem dX12_inn_201 : decode cX12_inn 201 = .ok (.iload_n 1, 1) := by decide +kernel
theorem dX12_inn_202 : decode cX12_inn 202 = .ok (.iconst 4, 1) := by decide +kernel
theorem dX12_inn_203 : decode cX12_inn 203 = .ok (.if_icmp .ge 16, 3) := by decide +kernel
theorem dX12_inn_206 : decode cX12_inn 206 = .ok (.aload_n 0, 1) := by decide +kernel
theorem dX12_inn_207 : decode cX12_inn 207 = .ok (.getfield 120, 3) := by decide +kernel
theorem dX12_inn_210 : decode cX12_inn 210 = .ok (.iload_n 1, 1) := by decide +kernel
theorem dX12_inn_211 : decode cX12_inn 211 = .ok (.iconst 0, 1) := by decide +kernel
theorem dX12_inn_212 : decode cX12_inn 212 = .ok (.bastore, 1) := by decide +kernel
theorem dX12_inn_213 : decode cX12_inn 213 = .ok (.iinc 1 1, 3) := by decide +kernel
theorem dX12_inn_216 : decode cX12_inn 216 = .ok (.goto (-15), 3) := by decide +kernel
theorem dX12_inn_219 : decode cX12_inn 219 = .ok (.aload_n 0, 1) := by decide +kernel
theorem dX12_inn_220 : decode cX12_inn 220 = .ok (.iconst 1, 1) := by decide +kernel
theorem dX12_inn_221 : decode cX12_inn 221 = .ok (.putfield 123, 3) := by decide +kernel
theorem dX12_inn_224 : decode cX12_inn 224 = .ok (.iconst 0, 1) := by decide +kernel
theorem dX12_inn_225 : decode cX12_inn 225 = .ok (.ireturn, 1) := by decide +kernel
theorem dX12_readLine_0 : decode cX12_readLine 0 = .ok (.aload_n 0, 1) := by decide +kernel
theorem dX12_readLine_1 : decode cX12_readLine 1 = .ok (.iconst 0, 1) := by decide +kernel
theorem dX12_readLine_2 : decode cX12_readLine 2 = .ok (.invokevirtual 163, 3) := by decide +kernel
theorem dX12_readLine_5 : decode cX12_readLine 5 = .ok (.ifCond .eq 10, 3) := by decide +kernel
theorem dX12_readLine_8 : decode cX12_readLine 8 = .ok (.aload_n 0, 1) := by decide +kernel
theorem dX12_readLine_9 : decode cX12_readLine 9 = .ok (.invokevirtual 185, 3) := by decide +kernel
theorem dX12_readLine_12 : decode cX12_readLine 12 = .ok (.goto 38, 3) := by decide +kernel
theorem dX12_readLine_15 : decode cX12_readLine 15 = .ok (.aload_n 0, 1) := by decide +kernel
theorem dX12_readLine_16 : decode cX12_readLine 16 = .ok (.iconst 1, 1) := by decide +kernel
theorem dX12_readLine_17 : decode cX12_readLine 17 = .ok (.invokevirtual 163, 3) := by decide +kernel
theorem dX12_readLine_20 : decode cX12_readLine 20 = .ok (.ifCond .eq 10, 3) := by decide +kernel
theorem dX12_readLine_23 : decode cX12_readLine 23 = .ok (.aload_n 0, 1) := by decide +kernel
theorem dX12_readLine_24 : decode cX12_readLine 24 = .ok (.invokevirtual 188, 3) := by decide +kernel
theorem dX12_readLine_27 : decode cX12_readLine 27 = .ok (.goto 23, 3) := by decide +kernel
theorem dX12_readLine_30 : decode cX12_readLine 30 = .ok (.aload_n 0, 1) := by decide +kernel
theorem dX12_readLine_31 : decode cX12_readLine 31 = .ok (.iconst 5, 1) := by decide +kernel
theorem dX12_readLine_32 : decode cX12_readLine 32 = .ok (.invokevirtual 163, 3) := by decide +kernel
theorem dX12_readLine_35 : decode cX12_readLine 35 = .ok (.ifCond .eq 10, 3) := by decide +kernel
theorem dX12_readLine_38 : decode cX12_readLine 38 = .ok (.aload_n 0, 1) := by decide +kernel
theorem dX12_readLine_39 : decode cX12_readLine 39 = .ok (.invokevirtual 191, 3) := by decide +kernel
theorem dX12_readLine_42 : decode cX12_readLine 42 = .ok (.goto 8, 3) := by decide +kernel
theorem dX12_readLine_45 : decode cX12_readLine 45 = .ok (.aload_n 0, 1) := by decide +kernel
theorem dX12_readLine_46 : decode cX12_readLine 46 = .ok (.iconst 1, 1) := by decide +kernel
theorem dX12_readLine_47 : decode cX12_readLine 47 = .ok (.invokevirtual 159, 3) := by decide +kernel
theorem dX12_readLine_50 : decode cX12_readLine 50 = .ok (.return_, 1) := by decide +kernel
theorem dX12_readRoom_0 : decode cX12_readRoom 0 = .ok (.aload_n 0, 1) := by decide +kernel
theorem dX12_readRoom_1 : decode cX12_readRoom 1 = .ok (.getfield 65, 3) := by decide +kernel
theorem dX12_readRoom_4 : decode cX12_readRoom 4 = .ok (.bipush 60, 2) := by decide +kernel
theorem dX12_readRoom_6 : decode cX12_readRoom 6 = .ok (.iaload, 1) := by decide +kernel
theorem dX12_readRoom_7 : decode cX12_readRoom 7 = .ok (.istore_n 1, 1) := by decide +kernel
theorem dX12_readRoom_8 : decode cX12_readRoom 8 = .ok (.iload_n 1, 1) := by decide +kernel
theorem dX12_readRoom_9 : decode cX12_readRoom 9 = .ok (.bipush 10, 2) := by decide +kernel
theorem dX12_readRoom_11 : decode cX12_readRoom 11 = .ok (.if_icmp .ne 9, 3) := by decide +kernel
theorem dX12_readRoom_14 : decode cX12_readRoom 14 = .ok (.aload_n 0, 1) := by decide +kernel
theorem dX12_readRoom_15 : decode cX12_readRoom 15 = .ok (.iconst 5, 1) := by decide +kernel
theorem dX12_readRoom_16 : decode cX12_readRoom 16 = .ok (.invokevirtual 159, 3) := by decide +kernel
theorem dX12_readRoom_19 : decode cX12_readRoom 19 = .ok (.return_, 1) := by decide +kernel
theorem dX12_readRoom_20 : decode cX12_readRoom 20 = .ok (.aload_n 0, 1) := by decide +kernel
theorem dX12_readRoom_21 : decode cX12_readRoom 21 = .ok (.dup, 1) := by decide +kernel
theorem dX12_readRoom_22 : decode cX12_readRoom 22 = .ok (.getfield 150, 3) := by decide +kernel
theorem dX12_readRoom_25 : decode cX12_readRoom 25 = .ok (.iconst 1, 1) := by decide +kernel
theorem dX12_readRoom_26 : decode cX12_readRoom 26 = .ok (.iadd, 1) := by decide +kernel
theorem dX12_readRoom_27 : decode cX12_readRoom 27 = .ok (.putfield 150, 3) := by decide +kernel
theorem dX12_readRoom_30 : decode cX12_readRoom 30 = .ok (.aload_n 0, 1) := by decide +kernel
theorem dX12_readRoom_31 : decode cX12_readRoom 31 = .ok (.getfield 65, 3) := by decide +kernel
theorem dX12_readRoom_34 : decode cX12_readRoom 34 = .ok (.bipush 63, 2) := by decide +kernel
theorem dX12_readRoom_36 : decode cX12_readRoom 36 = .ok (.iconst 2, 1) := by decide +kernel
theorem dX12_readRoom_37 : decode cX12_readRoom 37 = .ok (.iload_n 1, 1) := by decide +kernel
theorem dX12_readRoom_38 : decode cX12_readRoom 38 = .ok (.imul, 1) := by decide +kernel
theorem dX12_readRoom_39 : decode cX12_readRoom 39 = .ok (.iadd, 1) := by decide +kernel
theorem dX12_readRoom_40 : decode cX12_readRoom 40 = .ok (.aload_n 0, 1) := by decide +kernel
theorem dX12_readRoom_41 : decode cX12_readRoom 41 = .ok (.iconst 0, 1) := by decide +kernel
theorem dX12_readRoom_42 : decode cX12_readRoom 42 = .ok (.bipush 9, 2) := by decide +kernel
theorem dX12_readRoom_44 : decode cX12_readRoom 44 = .ok (.invokevirtual 194, 3) := by decide +kernel
theorem dX12_readRoom_47 : decode cX12_readRoom 47 = .ok (.iastore, 1) := by decide +kernel
theorem dX12_readRoom_48 : decode cX12_readRoom 48 = .ok (.aload_n 0, 1) := by decide +kernel
theorem dX12_readRoom_49 : decode cX12_readRoom 49 = .ok (.getfield 65, 3) := by decide +kernel
theorem dX12_readRoom_52 : decode cX12_readRoom 52 = .ok (.bipush 63, 2) := by decide +kernel
theorem dX12_readRoom_54 : decode cX12_readRoom 54 = .ok (.iconst 2, 1) := by decide +kernel
theorem dX12_readRoom_55 : decode cX12_readRoom 55 = .ok (.iload_n 1, 1) := by decide +kernel
theorem dX12_readRoom_56 : decode cX12_readRoom 56 = .ok (.imul, 1) := by decide +kernel
theorem dX12_readRoom_57 : decode cX12_readRoom 57 = .ok (.iadd, 1) := by decide +kernel
theorem dX12_readRoom_58 : decode cX12_readRoom 58 = .ok (.iconst 1, 1) := by decide +kernel
theorem dX12_readRoom_59 : decode cX12_readRoom 59 = .ok (.iadd, 1) := by decide +kernel
theorem dX12_readRoom_60 : decode cX12_readRoom 60 = .ok (.aload_n 0, 1) := by decide +kernel
theorem dX12_readRoom_61 : decode cX12_readRoom 61 = .ok (.iconst 0, 1) := by decide +kernel
theorem dX12_readRoom_62 : decode cX12_readRoom 62 = .ok (.iconst 1, 1) := by decide +kernel
theorem dX12_readRoom_63 : decode cX12_readRoom 63 = .ok (.invokevirtual 194, 3) := by decide +kernel
theorem dX12_readRoom_66 : decode cX12_readRoom 66 = .ok (.iastore, 1) := by decide +kernel
theorem dX12_readRoom_67 : decode cX12_readRoom 67 = .ok (.aload_n 0, 1) := by decide +kernel
theorem dX12_readRoom_68 : decode cX12_readRoom 68 = .ok (.getfield 65, 3) := by decide +kernel
theorem dX12_readRoom_71 : decode cX12_readRoom 71 = .ok (.bipush 60, 2) := by decide +kernel
theorem dX12_readRoom_73 : decode cX12_readRoom 73 = .ok (.dup2, 1) := by decide +kernel
theorem dX12_readRoom_74 : decode cX12_readRoom 74 = .ok (.iaload, 1) := by decide +kernel
theorem dX12_readRoom_75 : decode cX12_readRoom 75 = .ok (.iconst 1, 1) := by decide +kernel
theorem dX12_readRoom_76 : decode cX12_readRoom 76 = .ok (.iadd, 1) := by decide +kernel
theorem dX12_readRoom_77 : decode cX12_readRoom 77 = .ok (.iastore, 1) := by decide +kernel
theorem dX12_readRoom_78 : decode cX12_readRoom 78 = .ok (.return_, 1) := by decide +kernel
theorem dX12_readGuest_0 : decode cX12_readGuest 0 = .ok (.aload_n 0, 1) := by decide +kernel
theorem dX12_readGuest_1 : decode cX12_readGuest 1 = .ok (.getfield 65, 3) := by decide +kernel
theorem dX12_readGuest_4 : decode cX12_readGuest 4 = .ok (.bipush 61, 2) := by decide +kernel
theorem dX12_readGuest_6 : decode cX12_readGuest 6 = .ok (.iaload, 1) := by decide +kernel
theorem dX12_readGuest_7 : decode cX12_readGuest 7 = .ok (.istore_n 1, 1) := by decide +kernel
theorem dX12_readGuest_8 : decode cX12_readGuest 8 = .ok (.iload_n 1, 1) := by decide +kernel
theorem dX12_readGuest_9 : decode cX12_readGuest 9 = .ok (.bipush 10, 2) := by decide +kernel
theorem dX12_readGuest_11 : decode cX12_readGuest 11 = .ok (.if_icmp .ne 9, 3) := by decide +kernel
theorem dX12_readGuest_14 : decode cX12_readGuest 14 = .ok (.aload_n 0, 1) := by decide +kernel
theorem dX12_readGuest_15 : decode cX12_readGuest 15 = .ok (.iconst 5, 1) := by decide +kernel
theorem dX12_readGuest_16 : decode cX12_readGuest 16 = .ok (.invokevirtual 159, 3) := by decide +kernel
theorem dX12_readGuest_19 : decode cX12_readGuest 19 = .ok (.return_, 1) := by decide +kernel
theorem dX12_readGuest_20 : decode cX12_readGuest 20 = .ok (.aload_n 0, 1) := by decide +kernel
theorem dX12_readGuest_21 : decode cX12_readGuest 21 = .ok (.dup, 1) := by decide +kernel
theorem dX12_readGuest_22 : decode cX12_readGuest 22 = .ok (.getfield 150, 3) := by decide +kernel
theorem dX12_readGuest_25 : decode cX12_readGuest 25 = .ok (.iconst 1, 1) := by decide +kernel
theorem dX12_readGuest_26 : decode cX12_readGuest 26 = .ok (.iadd, 1) := by decide +kernel
theorem dX12_readGuest_27 : decode cX12_readGuest 27 = .ok (.putfield 150, 3) := by decide +kernel
theorem dX12_readGuest_30 : decode cX12_readGuest 30 = .ok (.aload_n 0, 1) := by decide +kernel
theorem dX12_readGuest_31 : decode cX12_readGuest 31 = .ok (.invokevirtual 198, 3) := by decide +kernel
theorem dX12_readGuest_34 : decode cX12_readGuest 34 = .ok (.ifCond .ne 8, 3) := by decide +kernel
theorem dX12_readGuest_37 : decode cX12_readGuest 37 = .ok (.aload_n 0, 1) := by decide +kernel
theorem dX12_readGuest_38 : decode cX12_readGuest 38 = .ok (.iconst 1, 1) := by decide +kernel
theorem dX12_readGuest_39 : decode cX12_readGuest 39 = .ok (.invokevirtual 159, 3) := by decide +kernel
theorem dX12_readGuest_42 : decode cX12_readGuest 42 = .ok (.iconst 0, 1) := by decide +kernel
theorem dX12_readGuest_43 : decode cX12_readGuest 43 = .ok (.istore_n 2, 1) := by decide +kernel
theorem dX12_readGuest_44 : decode cX12_readGuest 44 = .ok (.iload_n 2, 1) := by decide +kernel
theorem dX12_readGuest_45 : decode cX12_readGuest 45 = .ok (.iload_n 1, 1) := by decide +kernel
theorem dX12_readGuest_46 : decode cX12_readGuest 46 = .ok (.if_icmp .ge 40, 3) := by decide +kernel
theorem dX12_readGuest_49 : decode cX12_readGuest 49 = .ok (.aload_n 0, 1) := by decide +kernel
theorem dX12_readGuest_50 : decode cX12_readGuest 50 = .ok (.getfield 153, 3) := by decide +kernel
theorem dX12_readGuest_53 : decode cX12_readGuest 53 = .ok (.ifCond .ne 33, 3) := by decide +kernel
theorem dX12_readGuest_56 : decode cX12_readGuest 56 = .ok (.aload_n 0, 1) := by decide +kernel
theorem dX12_readGuest_57 : decode cX12_readGuest 57 = .ok (.getfield 74, 3) := by decide +kernel
theorem dX12_readGuest_60 : decode cX12_readGuest 60 = .ok (.iload_n 2, 1) := by decide +kernel
theorem dX12_readGuest_61 : decode cX12_readGuest 61 = .ok (.laload, 1) := by decide +kernel
theorem dX12_readGuest_62 : decode cX12_readGuest 62 = .ok (.aload_n 0, 1) := by decide +kernel
theorem dX12_readGuest_63 : decode cX12_readGuest 63 = .ok (.getfield 30, 3) := by decide +kernel
theorem dX12_readGuest_66 : decode cX12_readGuest 66 = .ok (.aload_n 0, 1) := by decide +kernel
theorem dX12_readGuest_67 : decode cX12_readGuest 67 = .ok (.getfield 150, 3) := by decide +kernel
theorem dX12_readGuest_70 : decode cX12_readGuest 70 = .ok (.laload, 1) := by decide +kernel
theorem dX12_readGuest_71 : decode cX12_readGuest 71 = .ok (.lcmp, 1) := by decide +kernel
theorem dX12_readGuest_72 : decode cX12_readGuest 72 = .ok (.ifCond .ne 8, 3) := by decide +kernel
theorem dX12_readGuest_75 : decode cX12_readGuest 75 = .ok (.aload_n 0, 1) := by decide +kernel
theorem dX12_readGuest_76 : decode cX12_readGuest 76 = .ok (.iconst 3, 1) := by decide +kernel
theorem dX12_readGuest_77 : decode cX12_readGuest 77 = .ok (.invokevirtual 159, 3) := by decide +kernel
theorem dX12_readGuest_80 : decode cX12_readGuest 80 = .ok (.iinc 2 1, 3) := by decide +kernel
theorem dX12_readGuest_83 : decode cX12_readGuest 83 = .ok (.goto (-39), 3) := by decide +kernel
theorem dX12_readGuest_86 : decode cX12_readGuest 86 = .ok (.aload_n 0, 1) := by decide +kernel
theorem dX12_readGuest_87 : decode cX12_readGuest 87 = .ok (.getfield 153, 3) := by decide +kernel
theorem dX12_readGuest_90 : decode cX12_readGuest 90 = .ok (.ifCond .le 4, 3) := by decide +kernel
theorem dX12_readGuest_93 : decode cX12_readGuest 93 = .ok (.return_, 1) := by decide +kernel
theorem dX12_readGuest_94 : decode cX12_readGuest 94 = .ok (.aload_n 0, 1) := by decide +kernel
theorem dX12_readGuest_95 : decode cX12_readGuest 95 = .ok (.getfield 74, 3) := by decide +kernel
theorem dX12_readGuest_98 : decode cX12_readGuest 98 = .ok (.iload_n 1, 1) := by decide +kernel
theorem dX12_readGuest_99 : decode cX12_readGuest 99 = .ok (.aload_n 0, 1) := by decide +kernel
theorem dX12_readGuest_100 : decode cX12_readGuest 100 = .ok (.getfield 30, 3) := by decide +kernel
theorem dX12_readGuest_103 : decode cX12_readGuest 103 = .ok (.aload_n 0, 1) := by decide +kernel
theorem dX12_readGuest_104 : decode cX12_readGuest 104 = .ok (.getfield 150, 3) := by decide +kernel
theorem dX12_readGuest_107 : decode cX12_readGuest 107 = .ok (.laload, 1) := by decide +kernel
theorem dX12_readGuest_108 : decode cX12_readGuest 108 = .ok (.lastore, 1) := by decide +kernel
theorem dX12_readGuest_109 : decode cX12_readGuest 109 = .ok (.aload_n 0, 1) := by decide +kernel
theorem dX12_readGuest_110 : decode cX12_readGuest 110 = .ok (.dup, 1) := by decide +kernel
theorem dX12_readGuest_111 : decode cX12_readGuest 111 = .ok (.getfield 150, 3) := by decide +kernel
theorem dX12_readGuest_114 : decode cX12_readGuest 114 = .ok (.iconst 1, 1) := by decide +kernel
theorem dX12_readGuest_115 : decode cX12_readGuest 115 = .ok (.iadd, 1) := by decide +kernel
theorem dX12_readGuest_116 : decode cX12_readGuest 116 = .ok (.putfield 150, 3) := by decide +kernel
theorem dX12_readGuest_119 : decode cX12_readGuest 119 = .ok (.aload_n 0, 1) := by decide +kernel
theorem dX12_readGuest_120 : decode cX12_readGuest 120 = .ok (.iconst 2, 1) := by decide +kernel
theorem dX12_readGuest_121 : decode cX12_readGuest 121 = .ok (.invokevirtual 202, 3) := by decide +kernel
theorem dX12_readGuest_124 : decode cX12_readGuest 124 = .ok (.bipush 83, 2) := by decide +kernel
theorem dX12_readGuest_126 : decode cX12_readGuest 126 = .ok (.iconst 3, 1) := by decide +kernel
theorem dX12_readGuest_127 : decode cX12_readGuest 127 = .ok (.iload_n 1, 1) := by decide +kernel
theorem dX12_readGuest_128 : decode cX12_readGuest 128 = .ok (.imul, 1) := by decide +kernel
theorem dX12_readGuest_129 : decode cX12_readGuest 129 = .ok (.iadd, 1) := by decide +kernel
theorem dX12_readGuest_130 : decode cX12_readGuest 130 = .ok (.istore_n 2, 1) := by decide +kernel
theorem dX12_readGuest_131 : decode cX12_readGuest 131 = .ok (.aload_n 0, 1) := by decide +kernel
theorem dX12_readGuest_132 : decode cX12_readGuest 132 = .ok (.getfield 65, 3) := by decide +kernel
theorem dX12_readGuest_135 : decode cX12_readGuest 135 = .ok (.iload_n 2, 1) := by decide +kernel
theorem dX12_readGuest_136 : decode cX12_readGuest 136 = .ok (.aload_n 0, 1) := by decide +kernel
theorem dX12_readGuest_137 : decode cX12_readGuest 137 = .ok (.iconst 0, 1) := by decide +kernel
theorem dX12_readGuest_138 : decode cX12_readGuest 138 = .ok (.bipush 99, 2) := by decide +kernel
theorem dX12_readGuest_140 : decode cX12_readGuest 140 = .ok (.invokevirtual 194, 3) := by decide +kernel
theorem dX12_readGuest_143 : decode cX12_readGuest 143 = .ok (.iastore, 1) := by decide +kernel
theorem dX12_readGuest_144 : decode cX12_readGuest 144 = .ok (.aload_n 0, 1) := by decide +kernel
theorem dX12_readGuest_145 : decode cX12_readGuest 145 = .ok (.iconst 3, 1) := by decide +kernel
theorem dX12_readGuest_146 : decode cX12_readGuest 146 = .ok (.invokevirtual 163, 3) := by decide +kernel
theorem dX12_readGuest_149 : decode cX12_readGuest 149 = .ok (.ifCond .ne 11, 3) := by decide +kernel
theorem dX12_readGuest_152 : decode cX12_readGuest 152 = .ok (.aload_n 0, 1) := by decide +kernel
theorem dX12_readGuest_153 : decode cX12_readGuest 153 = .ok (.iconst 4, 1) := by decide +kernel
theorem dX12_readGuest_154 : decode cX12_readGuest 154 = .ok (.invokevirtual 163, 3) := by decide +kernel
theorem dX12_readGuest_157 : decode cX12_readGuest 157 = .ok (.ifCond .eq 55, 3) := by decide +kernel
theorem dX12_readGuest_160 : decode cX12_readGuest 160 = .ok (.iload_n 2, 1) := by decide +kernel
theorem dX12_readGuest_161 : decode cX12_readGuest 161 = .ok (.aload_n 0, 1) := by decide +kernel
theorem dX12_readGuest_162 : decode cX12_readGuest 162 = .ok (.iconst 3, 1) := by decide +kernel
theorem dX12_readGuest_163 : decode cX12_readGuest 163 = .ok (.invokevirtual 163, 3) := by decide +kernel
theorem dX12_readGuest_166 : decode cX12_readGuest 166 = .ok (.ifCond .eq 7, 3) := by decide +kernel
theorem dX12_readGuest_169 : decode cX12_readGuest 169 = .ok (.iconst 1, 1) := by decide +kernel
theorem dX12_readGuest_170 : decode cX12_readGuest 170 = .ok (.goto 4, 3) := by decide +kernel
theorem dX12_readGuest_173 : decode cX12_readGuest 173 = .ok (.iconst 2, 1) := by decide +kernel
theorem dX12_readGuest_174 : decode cX12_readGuest 174 = .ok (.iadd, 1) := by decide +kernel
theorem dX12_readGuest_175 : decode cX12_readGuest 175 = .ok (.istore_n 3, 1) := by decide +kernel
theorem dX12_readGuest_176 : decode cX12_readGuest 176 = .ok (.aload_n 0, 1) := by decide +kernel
theorem dX12_readGuest_177 : decode cX12_readGuest 177 = .ok (.getfield 65, 3) := by decide +kernel
theorem dX12_readGuest_180 : decode cX12_readGuest 180 = .ok (.iload_n 3, 1) := by decide +kernel
theorem dX12_readGuest_181 : decode cX12_readGuest 181 = .ok (.iaload, 1) := by decide +kernel
theorem dX12_readGuest_182 : decode cX12_readGuest 182 = .ok (.iconst 1, 1) := by decide +kernel
theorem dX12_readGuest_183 : decode cX12_readGuest 183 = .ok (.if_icmp .ne 9, 3) := by decide +kernel
theorem dX12_readGuest_186 : decode cX12_readGuest 186 = .ok (.aload_n 0, 1) := by decide +kernel
theorem dX12_readGuest_187 : decode cX12_readGuest 187 = .ok (.iconst 3, 1) := by decide +kernel
theorem dX12_readGuest_188 : decode cX12_readGuest 188 = .ok (.invokevirtual 159, 3) := by decide +kernel
theorem dX12_readGuest_191 : decode cX12_readGuest 191 = .ok (.return_, 1) := by decide +kernel
theorem dX12_readGuest_192 : decode cX12_readGuest 192 = .ok (.aload_n 0, 1) := by decide +kernel
theorem dX12_readGuest_193 : decode cX12_readGuest 193 = .ok (.getfield 65, 3) := by decide +kernel
theorem dX12_readGuest_196 : decode cX12_readGuest 196 = .ok (.iload_n 3, 1) := by decide +kernel
theorem dX12_readGuest_197 : decode cX12_readGuest 197 = .ok (.iconst 1, 1) := by decide +kernel
theorem dX12_readGuest_198 : decode cX12_readGuest 198 = .ok (.iastore, 1) := by decide +kernel
theorem dX12_readGuest_199 : decode cX12_readGuest 199 = .ok (.aload_n 0, 1) := by decide +kernel
theorem dX12_readGuest_200 : decode cX12_readGuest 200 = .ok (.dup, 1) := by decide +kernel
theorem dX12_readGuest_201 : decode cX12_readGuest 201 = .ok (.getfield 150, 3) := by decide +kernel
theorem dX12_readGuest_204 : decode cX12_readGuest 204 = .ok (.iconst 1, 1) := by decide +kernel
theorem dX12_readGuest_205 : decode cX12_readGuest 205 = .ok (.iadd, 1) := by decide +kernel
theorem dX12_readGuest_206 : decode cX12_readGuest 206 = .ok (.putfield 150, 3) := by decide +kernel
theorem dX12_readGuest_209 : decode cX12_readGuest 209 = .ok (.goto (-65), 3) := by decide +kernel
theorem dX12_readGuest_212 : decode cX12_readGuest 212 = .ok (.aload_n 0, 1) := by decide +kernel
theorem dX12_readGuest_213 : decode cX12_readGuest 213 = .ok (.getfield 65, 3) := by decide +kernel
theorem dX12_readGuest_216 : decode cX12_readGuest 216 = .ok (.bipush 61, 2) := by decide +kernel
theorem dX12_readGuest_218 : decode cX12_readGuest 218 = .ok (.dup2, 1) := by decide +kernel
theorem dX12_readGuest_219 : decode cX12_readGuest 219 = .ok (.iaload, 1) := by decide +kernel
theorem dX12_readGuest_220 : decode cX12_readGuest 220 = .ok (.iconst 1, 1) := by decide +kernel
theorem dX12_readGuest_221 : decode cX12_readGuest 221 = .ok (.iadd, 1) := by decide +kernel
theorem dX12_readGuest_222 : decode cX12_readGuest 222 = .ok (.iastore, 1) := by decide +kernel
theorem dX12_readGuest_223 : decode cX12_readGuest 223 = .ok (.return_, 1) := by decide +kernel
theorem dX12_readRule_0 : decode cX12_readRule 0 = .ok (.aload_n 0, 1) := by decide +kernel
theorem dX12_readRule_1 : decode cX12_readRule 1 = .ok (.getfield 65, 3) := by decide +kernel
theorem dX12_readRule_4 : decode cX12_readRule 4 = .ok (.bipush 62, 2) := by decide +kernel
theorem dX12_readRule_6 : decode cX12_readRule 6 = .ok (.iaload, 1) := by decide +kernel
theorem dX12_readRule_7 : decode cX12_readRule 7 = .ok (.istore_n 1, 1) := by decide +kernel
theorem dX12_readRule_8 : decode cX12_readRule 8 = .ok (.iload_n 1, 1) := by decide +kernel
theorem dX12_readRule_9 : decode cX12_readRule 9 = .ok (.iconst 4, 1) := by decide +kernel
theorem dX12_readRule_10 : decode cX12_readRule 10 = .ok (.if_icmp .ne 9, 3) := by decide +kernel
theorem dX12_readRule_13 : decode cX12_readRule 13 = .ok (.aload_n 0, 1) := by decide +kernel
theorem dX12_readRule_14 : decode cX12_readRule 14 = .ok (.iconst 5, 1) := by decide +kernel
theorem dX12_readRule_15 : decode cX12_readRule 15 = .ok (.invokevirtual 159, 3) := by decide +kernel
theorem dX12_readRule_18 : decode cX12_readRule 18 = .ok (.return_, 1) := by decide +kernel
theorem dX12_readRule_19 : decode cX12_readRule 19 = .ok (.aload_n 0, 1) := by decide +kernel
theorem dX12_readRule_20 : decode cX12_readRule 20 = .ok (.dup, 1) := by decide +kernel
theorem dX12_readRule_21 : decode cX12_readRule 21 = .ok (.getfield 150, 3) := by decide +kernel
theorem dX12_readRule_24 : decode cX12_readRule 24 = .ok (.iconst 1, 1) := by decide +kernel
theorem dX12_readRule_25 : decode cX12_readRule 25 = .ok (.iadd, 1) := by decide +kernel
theorem dX12_readRule_26 : decode cX12_readRule 26 = .ok (.putfield 150, 3) := by decide +kernel
theorem dX12_readRule_29 : decode cX12_readRule 29 = .ok (.aload_n 0, 1) := by decide +kernel
theorem dX12_readRule_30 : decode cX12_readRule 30 = .ok (.getfield 65, 3) := by decide +kernel
theorem dX12_readRule_33 : decode cX12_readRule 33 = .ok (.bipush 113, 2) := by decide +kernel
theorem dX12_readRule_35 : decode cX12_readRule 35 = .ok (.iload_n 1, 1) := by decide +kernel
theorem dX12_readRule_36 : decode cX12_readRule 36 = .ok (.iadd, 1) := by decide +kernel
theorem dX12_readRule_37 : decode cX12_readRule 37 = .ok (.aload_n 0, 1) := by decide +kernel
theorem dX12_readRule_38 : decode cX12_readRule 38 = .ok (.getfield 172, 3) := by decide +kernel
theorem dX12_readRule_41 : decode cX12_readRule 41 = .ok (.iastore, 1) := by decide +kernel
theorem dX12_readRule_42 : decode cX12_readRule 42 = .ok (.aload_n 0, 1) := by decide +kernel
theorem dX12_readRule_43 : decode cX12_readRule 43 = .ok (.iconst 0, 1) := by decide +kernel
theorem dX12_readRule_44 : decode cX12_readRule 44 = .ok (.invokevirtual 205, 3) := by decide +kernel
theorem dX12_readRule_47 : decode cX12_readRule 47 = .ok (.aload_n 0, 1) := by decide +kernel
theorem dX12_readRule_48 : decode cX12_readRule 48 = .ok (.iconst 0, 1) := by decide +kernel
theorem dX12_readRule_49 : decode cX12_readRule 49 = .ok (.iconst 0, 1) := by decide +kernel
theorem dX12_readRule_50 : decode cX12_readRule 50 = .ok (.invokevirtual 208, 3) := by decide +kernel
theorem dX12_readRule_53 : decode cX12_readRule 53 = .ok (.aload_n 0, 1) := by decide +kernel
theorem dX12_readRule_54 : decode cX12_readRule 54 = .ok (.getfield 65, 3) := by decide +kernel
theorem dX12_readRule_57 : decode cX12_readRule 57 = .ok (.bipush 62, 2) := by decide +kernel
theorem dX12_readRule_59 : decode cX12_readRule 59 = .ok (.dup2, 1) := by decide +kernel
theorem dX12_readRule_60 : decode cX12_readRule 60 = .ok (.iaload, 1) := by decide +kernel
theorem dX12_readRule_61 : decode cX12_readRule 61 = .ok (.iconst 1, 1) := by decide +kernel
theorem dX12_readRule_62 : decode cX12_readRule 62 = .ok (.iadd, 1) := by decide +kernel
theorem dX12_readRule_63 : decode cX12_readRule 63 = .ok (.iastore, 1) := by decide +kernel
theorem dX12_readRule_64 : decode cX12_readRule 64 = .ok (.return_, 1) := by decide +kernel
theorem dX12_emit_0 : decode cX12_emit 0 = .ok (.aload_n 0, 1) := by decide +kernel
theorem dX12_emit_1 : decode cX12_emit 1 = .ok (.getfield 68, 3) := by decide +kernel
theorem dX12_emit_4 : decode cX12_emit 4 = .ok (.sipush 1100, 3) := by decide +kernel
theorem dX12_emit_7 : decode cX12_emit 7 = .ok (.aload_n 0, 1) := by decide +kernel
theorem dX12_emit_8 : decode cX12_emit 8 = .ok (.getfield 172, 3) := by decide +kernel
theorem dX12_emit_11 : decode cX12_emit 11 = .ok (.iadd, 1) := by decide +kernel
theorem dX12_emit_12 : decode cX12_emit 12 = .ok (.iload_n 1, 1) := by decide +kernel
theorem dX12_emit_13 : decode cX12_emit 13 = .ok (.iastore, 1) := by decide +kernel
theorem dX12_emit_14 : decode cX12_emit 14 = .ok (.aload_n 0, 1) := by decide +kernel
theorem dX12_emit_15 : decode cX12_emit 15 = .ok (.getfield 71, 3) := by decide +kernel
theorem dX12_emit_18 : decode cX12_emit 18 = .ok (.sipush 1100, 3) := by decide +kernel
theorem dX12_emit_21 : decode cX12_emit 21 = .ok (.aload_n 0, 1) := by decide +kernel
theorem dX12_emit_22 : decode cX12_emit 22 = .ok (.getfield 172, 3) := by decide +kernel
theorem dX12_emit_25 : decode cX12_emit 25 = .ok (.iadd, 1) := by decide +kernel
theorem dX12_emit_26 : decode cX12_emit 26 = .ok (.iload_n 2, 1) := by decide +kernel
theorem dX12_emit_27 : decode cX12_emit 27 = .ok (.iastore, 1) := by decide +kernel
theorem dX12_emit_28 : decode cX12_emit 28 = .ok (.aload_n 0, 1) := by decide +kernel
theorem dX12_emit_29 : decode cX12_emit 29 = .ok (.dup, 1) := by decide +kernel
theorem dX12_emit_30 : decode cX12_emit 30 = .ok (.getfield 172, 3) := by decide +kernel
theorem dX12_emit_33 : decode cX12_emit 33 = .ok (.iconst 1, 1) := by decide +kernel
theorem dX12_emit_34 : decode cX12_emit 34 = .ok (.iadd, 1) := by decide +kernel
theorem dX12_emit_35 : decode cX12_emit 35 = .ok (.putfield 172, 3) := by decide +kernel
theorem dX12_emit_38 : decode cX12_emit 38 = .ok (.return_, 1) := by decide +kernel
theorem dX12_all_0 : decode cX12_all 0 = .ok (.aload_n 0, 1) := by decide +kernel
theorem dX12_all_1 : decode cX12_all 1 = .ok (.iload_n 1, 1) := by decide +kernel
theorem dX12_all_2 : decode cX12_all 2 = .ok (.invokevirtual 212, 3) := by decide +kernel
theorem dX12_all_5 : decode cX12_all 5 = .ok (.aload_n 0, 1) := by decide +kernel
theorem dX12_all_6 : decode cX12_all 6 = .ok (.bipush 7, 2) := by decide +kernel
theorem dX12_all_8 : decode cX12_all 8 = .ok (.invokevirtual 163, 3) := by decide +kernel
theorem dX12_all_11 : decode cX12_all 11 = .ok (.ifCond .ne 12, 3) := by decide +kernel
theorem dX12_all_14 : decode cX12_all 14 = .ok (.aload_n 0, 1) := by decide +kernel
theorem dX12_all_15 : decode cX12_all 15 = .ok (.bipush 8, 2) := by decide +kernel
theorem dX12_all_17 : decode cX12_all 17 = .ok (.invokevirtual 163, 3) := by decide +kernel
theorem dX12_all_20 : decode cX12_all 20 = .ok (.ifCond .eq 44, 3) := by decide +kernel
theorem dX12_all_23 : decode cX12_all 23 = .ok (.aload_n 0, 1) := by decide +kernel
theorem dX12_all_24 : decode cX12_all 24 = .ok (.bipush 7, 2) := by decide +kernel
theorem dX12_all_26 : decode cX12_all 26 = .ok (.invokevirtual 163, 3) := by decide +kernel
theorem dX12_all_29 : decode cX12_all 29 = .ok (.istore_n 2, 1) := by decide +kernel
theorem dX12_all_30 : decode cX12_all 30 = .ok (.aload_n 0, 1) := by decide +kernel
theorem dX12_all_31 : decode cX12_all 31 = .ok (.dup, 1) := by decide +kernel
theorem dX12_all_32 : decode cX12_all 32 = .ok (.getfield 150, 3) := by decide +kernel
theorem dX12_all_35 : decode cX12_all 35 = .ok (.iconst 1, 1) := by decide +kernel
theorem dX12_all_36 : decode cX12_all 36 = .ok (.iadd, 1) := by decide +kernel
theorem dX12_all_37 : decode cX12_all 37 = .ok (.putfield 150, 3) := by decide +kernel
theorem dX12_all_40 : decode cX12_all 40 = .ok (.aload_n 0, 1) := by decide +kernel
theorem dX12_all_41 : decode cX12_all 41 = .ok (.iload_n 1, 1) := by decide +kernel
theorem dX12_all_42 : decode cX12_all 42 = .ok (.invokevirtual 212, 3) := by decide +kernel
theorem dX12_all_45 : decode cX12_all 45 = .ok (.aload_n 0, 1) := by decide +kernel
theorem dX12_all_46 : decode cX12_all 46 = .ok (.iload_n 2, 1) := by decide +kernel
theorem dX12_all_47 : decode cX12_all 47 = .ok (.ifCond .eq 8, 3) := by decide +kernel
theorem dX12_all_50 : decode cX12_all 50 = .ok (.bipush 9, 2) := by decide +kernel
theorem dX12_all_52 : decode cX12_all 52 = .ok (.goto 5, 3) := by decide +kernel
theorem dX12_all_55 : decode cX12_all 55 = .ok (.bipush 10, 2) := by decide +kernel
theorem dX12_all_57 : decode cX12_all 57 = .ok (.iconst 0, 1) := by decide +kernel
theorem dX12_all_58 : decode cX12_all 58 = .ok (.invokevirtual 208, 3) := by decide +kernel
theorem dX12_all_61 : decode cX12_all 61 = .ok (.goto (-56), 3) := by decide +kernel
theorem dX12_all_64 : decode cX12_all 64 = .ok (.return_, 1) := by decide +kernel
theorem dX12_test_0 : decode cX12_test 0 = .ok (.aload_n 0, 1) := by decide +kernel
theorem dX12_test_1 : decode cX12_test 1 = .ok (.iload_n 1, 1) := by decide +kernel
theorem dX12_test_2 : decode cX12_test 2 = .ok (.invokevirtual 215, 3) := by decide +kernel
theorem dX12_test_5 : decode cX12_test 5 = .ok (.aload_n 0, 1) := by decide +kernel
theorem dX12_test_6 : decode cX12_test 6 = .ok (.bipush 60, 2) := by decide +kernel
theorem dX12_test_8 : decode cX12_test 8 = .ok (.invokevirtual 156, 3) := by decide +kernel
theorem dX12_test_11 : decode cX12_test 11 = .ok (.istore_n 2, 1) := by decide +kernel
theorem dX12_test_12 : decode cX12_test 12 = .ok (.aload_n 0, 1) := by decide +kernel
theorem dX12_test_13 : decode cX12_test 13 = .ok (.bipush 60, 2) := by decide +kernel
theorem dX12_test_15 : decode cX12_test 15 = .ok (.invokevirtual 218, 3) := by decide +kernel
theorem dX12_test_18 : decode cX12_test 18 = .ok (.ifCond .ne 12, 3) := by decide +kernel
theorem dX12_test_21 : decode cX12_test 21 = .ok (.aload_n 0, 1) := by decide +kernel
theorem dX12_test_22 : decode cX12_test 22 = .ok (.bipush 61, 2) := by decide +kernel
theorem dX12_test_24 : decode cX12_test 24 = .ok (.invokevirtual 218, 3) := by decide +kernel
theorem dX12_test_27 : decode cX12_test 27 = .ok (.ifCond .eq 24, 3) := by decide +kernel
theorem dX12_test_30 : decode cX12_test 30 = .ok (.aload_n 0, 1) := by decide +kernel
theorem dX12_test_31 : decode cX12_test 31 = .ok (.iload_n 1, 1) := by decide +kernel
theorem dX12_test_32 : decode cX12_test 32 = .ok (.invokevirtual 215, 3) := by decide +kernel
theorem dX12_test_35 : decode cX12_test 35 = .ok (.aload_n 0, 1) := by decide +kernel
theorem dX12_test_36 : decode cX12_test 36 = .ok (.iload_n 2, 1) := by decide +kernel
theorem dX12_test_37 : decode cX12_test 37 = .ok (.ifCond .eq 8, 3) := by decide +kernel
theorem dX12_test_40 : decode cX12_test 40 = .ok (.bipush 7, 2) := by decide +kernel
theorem dX12_test_42 : decode cX12_test 42 = .ok (.goto 5, 3) := by decide +kernel
theorem dX12_test_45 : decode cX12_test 45 = .ok (.bipush 8, 2) := by decide +kernel
theorem dX12_test_47 : decode cX12_test 47 = .ok (.iconst 0, 1) := by decide +kernel
theorem dX12_test_48 : decode cX12_test 48 = .ok (.invokevirtual 208, 3) := by decide +kernel
theorem dX12_test_51 : decode cX12_test 51 = .ok (.return_, 1) := by decide +kernel
theorem dX12_sums_0 : decode cX12_sums 0 = .ok (.aload_n 0, 1) := by decide +kernel
theorem dX12_sums_1 : decode cX12_sums 1 = .ok (.iload_n 1, 1) := by decide +kernel
theorem dX12_sums_2 : decode cX12_sums 2 = .ok (.invokevirtual 221, 3) := by decide +kernel
theorem dX12_sums_5 : decode cX12_sums 5 = .ok (.aload_n 0, 1) := by decide +kernel
theorem dX12_sums_6 : decode cX12_sums 6 = .ok (.bipush 43, 2) := by decide +kernel
theorem dX12_sums_8 : decode cX12_sums 8 = .ok (.invokevirtual 156, 3) := by decide +kernel
theorem dX12_sums_11 : decode cX12_sums 11 = .ok (.ifCond .ne 12, 3) := by decide +kernel
theorem dX12_sums_14 : decode cX12_sums 14 = .ok (.aload_n 0, 1) := by decide +kernel
theorem dX12_sums_15 : decode cX12_sums 15 = .ok (.bipush 45, 2) := by decide +kernel
theorem dX12_sums_17 : decode cX12_sums 17 = .ok (.invokevirtual 156, 3) := by decide +kernel
theorem dX12_sums_20 : decode cX12_sums 20 = .ok (.ifCond .eq 42, 3) := by decide +kernel
theorem dX12_sums_23 : decode cX12_sums 23 = .ok (.aload_n 0, 1) := by decide +kernel
theorem dX12_sums_24 : decode cX12_sums 24 = .ok (.bipush 43, 2) := by decide +kernel
theorem dX12_sums_26 : decode cX12_sums 26 = .ok (.invokevirtual 156, 3) := by decide +kernel
theorem dX12_sums_29 : decode cX12_sums 29 = .ok (.istore_n 2, 1) := by decide +kernel
theorem dX12_sums_30 : decode cX12_sums 30 = .ok (.aload_n 0, 1) := by decide +kernel
theorem dX12_sums_31 : decode cX12_sums 31 = .ok (.dup, 1) := by decide +kernel
theorem dX12_sums_32 : decode cX12_sums 32 = .ok (.getfield 150, 3) := by decide +kernel
theorem dX12_sums_35 : decode cX12_sums 35 = .ok (.iconst 1, 1) := by decide +kernel
theorem dX12_sums_36 : decode cX12_sums 36 = .ok (.iadd, 1) := by decide +kernel
theorem dX12_sums_37 : decode cX12_sums 37 = .ok (.putfield 150, 3) := by decide +kernel
theorem dX12_sums_40 : decode cX12_sums 40 = .ok (.aload_n 0, 1) := by decide +kernel
theorem dX12_sums_41 : decode cX12_sums 41 = .ok (.iload_n 1, 1) := by decide +kernel
theorem dX12_sums_42 : decode cX12_sums 42 = .ok (.invokevirtual 221, 3) := by decide +kernel
theorem dX12_sums_45 : decode cX12_sums 45 = .ok (.aload_n 0, 1) := by decide +kernel
theorem dX12_sums_46 : decode cX12_sums 46 = .ok (.iload_n 2, 1) := by decide +kernel
theorem dX12_sums_47 : decode cX12_sums 47 = .ok (.ifCond .eq 7, 3) := by decide +kernel
theorem dX12_sums_50 : decode cX12_sums 50 = .ok (.iconst 4, 1) := by decide +kernel
theorem dX12_sums_51 : decode cX12_sums 51 = .ok (.goto 4, 3) := by decide +kernel
theorem dX12_sums_54 : decode cX12_sums 54 = .ok (.iconst 5, 1) := by decide +kernel
theorem dX12_sums_55 : decode cX12_sums 55 = .ok (.iconst 0, 1) := by decide +kernel
theorem dX12_sums_56 : decode cX12_sums 56 = .ok (.invokevirtual 208, 3) := by decide +kernel
theorem dX12_sums_59 : decode cX12_sums 59 = .ok (.goto (-54), 3) := by decide +kernel
theorem dX12_sums_62 : decode cX12_sums 62 = .ok (.return_, 1) := by decide +kernel
theorem dX12_products_0 : decode cX12_products 0 = .ok (.aload_n 0, 1) := by decide +kernel
theorem dX12_products_1 : decode cX12_products 1 = .ok (.iload_n 1, 1) := by decide +kernel
theorem dX12_products_2 : decode cX12_products 2 = .ok (.invokevirtual 224, 3) := by decide +kernel
theorem dX12_products_5 : decode cX12_products 5 = .ok (.aload_n 0, 1) := by decide +kernel
theorem dX12_products_6 : decode cX12_products 6 = .ok (.bipush 42, 2) := by decide +kernel
theorem dX12_products_8 : decode cX12_products 8 = .ok (.invokevirtual 218, 3) := by decide +kernel
theorem dX12_products_11 : decode cX12_products 11 = .ok (.ifCond .eq 18, 3) := by decide +kernel
theorem dX12_products_14 : decode cX12_products 14 = .ok (.aload_n 0, 1) := by decide +kernel
theorem dX12_products_15 : decode cX12_products 15 = .ok (.iload_n 1, 1) := by decide +kernel
theorem dX12_products_16 : decode cX12_products 16 = .ok (.invokevirtual 224, 3) := by decide +kernel
theorem dX12_products_19 : decode cX12_products 19 = .ok (.aload_n 0, 1) := by decide +kernel
theorem dX12_products_20 : decode cX12_products 20 = .ok (.bipush 6, 2) := by decide +kernel
theorem dX12_products_22 : decode cX12_products 22 = .ok (.iconst 0, 1) := by decide +kernel
theorem dX12_products_23 : decode cX12_products 23 = .ok (.invokevirtual 208, 3) := by decide +kernel
theorem dX12_products_26 : decode cX12_products 26 = .ok (.goto (-21), 3) := by decide +kernel
theorem dX12_products_29 : decode cX12_products 29 = .ok (.return_, 1) := by decide +kernel
theorem dX12_takePart_0 : decode cX12_takePart 0 = .ok (.aload_n 0, 1) := by decide +kernel
theorem dX12_takePart_1 : decode cX12_takePart 1 = .ok (.getfield 153, 3) := by decide +kernel
theorem dX12_takePart_4 : decode cX12_takePart 4 = .ok (.ifCond .le 4, 3) := by decide +kernel
theorem dX12_takePart_7 : decode cX12_takePart 7 = .ok (.return_, 1) := by decide +kernel
theorem dX12_takePart_8 : decode cX12_takePart 8 = .ok (.aload_n 0, 1) := by decide +kernel
theorem dX12_takePart_9 : decode cX12_takePart 9 = .ok (.getfield 24, 3) := by decide +kernel
theorem dX12_takePart_12 : decode cX12_takePart 12 = .ok (.aload_n 0, 1) := by decide +kernel
theorem dX12_takePart_13 : decode cX12_takePart 13 = .ok (.getfield 150, 3) := by decide +kernel
theorem dX12_takePart_16 : decode cX12_takePart 16 = .ok (.iaload, 1) := by decide +kernel
theorem dX12_takePart_17 : decode cX12_takePart 17 = .ok (.iconst 2, 1) := by decide +kernel
theorem dX12_takePart_18 : decode cX12_takePart 18 = .ok (.if_icmp .ne 7, 3) := by decide +kernel
theorem dX12_takePart_21 : decode cX12_takePart 21 = .ok (.iconst 1, 1) := by decide +kernel
theorem dX12_takePart_22 : decode cX12_takePart 22 = .ok (.goto 4, 3) := by decide +kernel
theorem dX12_takePart_25 : decode cX12_takePart 25 = .ok (.iconst 0, 1) := by decide +kernel
theorem dX12_takePart_26 : decode cX12_takePart 26 = .ok (.istore_n 2, 1) := by decide +kernel
theorem dX12_takePart_27 : decode cX12_takePart 27 = .ok (.iconst (-1), 1) := by decide +kernel
theorem dX12_takePart_28 : decode cX12_takePart 28 = .ok (.istore_n 3, 1) := by decide +kernel
theorem dX12_takePart_29 : decode cX12_takePart 29 = .ok (.iconst 0, 1) := by decide +kernel
theorem dX12_takePart_30 : decode cX12_takePart 30 = .ok (.istore 4, 2) := by decide +kernel
theorem dX12_takePart_32 : decode cX12_takePart 32 = .ok (.iload 4, 2) := by decide +kernel
theorem dX12_takePart_34 : decode cX12_takePart 34 = .ok (.bipush 8, 2) := by decide +kernel
theorem dX12_takePart_36 : decode cX12_takePart 36 = .ok (.if_icmp .ge 43, 3) := by decide +kernel
theorem dX12_takePart_39 : decode cX12_takePart 39 = .ok (.aload_n 0, 1) := by decide +kernel
theorem dX12_takePart_40 : decode cX12_takePart 40 = .ok (.iload 4, 2) := by decide +kernel
theorem dX12_takePart_42 : decode cX12_takePart 42 = .ok (.iconst 3, 1) := by decide +kernel
theorem dX12_takePart_43 : decode cX12_takePart 43 = .ok (.if_icmp .ge 10, 3) := by decide +kernel
theorem dX12_takePart_46 : decode cX12_takePart 46 = .ok (.iconst 2, 1) := by decide +kernel
theorem dX12_takePart_47 : decode cX12_takePart 47 = .ok (.iload 4, 2) := by decide +kernel
theorem dX12_takePart_49 : decode cX12_takePart 49 = .ok (.iadd, 1) := by decide +kernel
theorem dX12_takePart_50 : decode cX12_takePart 50 = .ok (.goto 10, 3) := by decide +kernel
theorem dX12_takePart_53 : decode cX12_takePart 53 = .ok (.bipush 9, 2) := by decide +kernel
theorem dX12_takePart_55 : decode cX12_takePart 55 = .ok (.iload 4, 2) := by decide +kernel
theorem dX12_takePart_57 : decode cX12_takePart 57 = .ok (.iadd, 1) := by decide +kernel
theorem dX12_takePart_58 : decode cX12_takePart 58 = .ok (.iconst 3, 1) := by decide +kernel
theorem dX12_takePart_59 : decode cX12_takePart 59 = .ok (.isub, 1) := by decide +kernel
theorem dX12_takePart_60 : decode cX12_takePart 60 = .ok (.invokevirtual 163, 3) := by decide +kernel
theorem dX12_takePart_63 : decode cX12_takePart 63 = .ok (.ifCond .eq 8, 3) := by decide +kernel
theorem dX12_takePart_66 : decode cX12_takePart 66 = .ok (.iload 4, 2) := by decide +kernel
theorem dX12_takePart_68 : decode cX12_takePart 68 = .ok (.goto 4, 3) := by decide +kernel
theorem dX12_takePart_71 : decode cX12_takePart 71 = .ok (.iload_n 3, 1) := by decide +kernel
theorem dX12_takePart_72 : decode cX12_takePart 72 = .ok (.istore_n 3, 1) := by decide +kernel
theorem dX12_takePart_73 : decode cX12_takePart 73 = .ok (.iinc 4 1, 3) := by decide +kernel
theorem dX12_takePart_76 : decode cX12_takePart 76 = .ok (.goto (-44), 3) := by decide +kernel
theorem dX12_takePart_79 : decode cX12_takePart 79 = .ok (.iload_n 3, 1) := by decide +kernel
theorem dX12_takePart_80 : decode cX12_takePart 80 = .ok (.ifCond .ge 33, 3) := by decide +kernel
theorem dX12_takePart_83 : decode cX12_takePart 83 = .ok (.iload_n 2, 1) := by decide +kernel
theorem dX12_takePart_84 : decode cX12_takePart 84 = .ok (.ifCond .ne 29, 3) := by decide +kernel
theorem dX12_takePart_87 : decode cX12_takePart 87 = .ok (.aload_n 0, 1) := by decide +kernel
theorem dX12_takePart_88 : decode cX12_takePart 88 = .ok (.bipush 40, 2) := by decide +kernel
theorem dX12_takePart_90 : decode cX12_takePart 90 = .ok (.invokevirtual 156, 3) := by decide +kernel
theorem dX12_takePart_93 : decode cX12_takePart 93 = .ok (.ifCond .ne 20, 3) := by decide +kernel
theorem dX12_takePart_96 : decode cX12_takePart 96 = .ok (.aload_n 0, 1) := by decide +kernel
theorem dX12_takePart_97 : decode cX12_takePart 97 = .ok (.bipush 6, 2) := by decide +kernel
theorem dX12_takePart_99 : decode cX12_takePart 99 = .ok (.invokevirtual 163, 3) := by decide +kernel
theorem dX12_takePart_102 : decode cX12_takePart 102 = .ok (.ifCond .ne 11, 3) := by decide +kernel
theorem dX12_takePart_105 : decode cX12_takePart 105 = .ok (.aload_n 0, 1) := by decide +kernel
theorem dX12_takePart_106 : decode cX12_takePart 106 = .ok (.iconst 1, 1) := by decide +kernel
theorem dX12_takePart_107 : decode cX12_takePart 107 = .ok (.invokevirtual 159, 3) := by decide +kernel
theorem dX12_takePart_110 : decode cX12_takePart 110 = .ok (.goto 13, 3) := by decide +kernel
theorem dX12_takePart_113 : decode cX12_takePart 113 = .ok (.iload_n 1, 1) := by decide +kernel
theorem dX12_takePart_114 : decode cX12_takePart 114 = .ok (.iconst 5, 1) := by decide +kernel
theorem dX12_takePart_115 : decode cX12_takePart 115 = .ok (.if_icmp .ne 8, 3) := by decide +kernel
theorem dX12_takePart_118 : decode cX12_takePart 118 = .ok (.aload_n 0, 1) := by decide +kernel
theorem dX12_takePart_119 : decode cX12_takePart 119 = .ok (.iconst 5, 1) := by decide +kernel
theorem dX12_takePart_120 : decode cX12_takePart 120 = .ok (.invokevirtual 159, 3) := by decide +kernel
theorem dX12_takePart_123 : decode cX12_takePart 123 = .ok (.aload_n 0, 1) := by decide +kernel
theorem dX12_takePart_124 : decode cX12_takePart 124 = .ok (.getfield 153, 3) := by decide +kernel
theorem dX12_takePart_127 : decode cX12_takePart 127 = .ok (.ifCond .le 4, 3) := by decide +kernel
theorem dX12_takePart_130 : decode cX12_takePart 130 = .ok (.return_, 1) := by decide +kernel
theorem dX12_takePart_131 : decode cX12_takePart 131 = .ok (.aload_n 0, 1) := by decide +kernel
theorem dX12_takePart_132 : decode cX12_takePart 132 = .ok (.bipush 6, 2) := by decide +kernel
theorem dX12_takePart_134 : decode cX12_takePart 134 = .ok (.invokevirtual 166, 3) := by decide +kernel
theorem dX12_takePart_137 : decode cX12_takePart 137 = .ok (.ifCond .eq 19, 3) := by decide +kernel
theorem dX12_takePart_140 : decode cX12_takePart 140 = .ok (.aload_n 0, 1) := by decide +kernel
theorem dX12_takePart_141 : decode cX12_takePart 141 = .ok (.iload_n 1, 1) := by decide +kernel
theorem dX12_takePart_142 : decode cX12_takePart 142 = .ok (.iconst 1, 1) := by decide +kernel
theorem dX12_takePart_143 : decode cX12_takePart 143 = .ok (.iadd, 1) := by decide +kernel
theorem dX12_takePart_144 : decode cX12_takePart 144 = .ok (.invokevirtual 224, 3) := by decide +kernel
theorem dX12_takePart_147 : decode cX12_takePart 147 = .ok (.aload_n 0, 1) := by decide +kernel
theorem dX12_takePart_148 : decode cX12_takePart 148 = .ok (.iconst 3, 1) := by decide +kernel
theorem dX12_takePart_149 : decode cX12_takePart 149 = .ok (.iconst 0, 1) := by decide +kernel
theorem dX12_takePart_150 : decode cX12_takePart 150 = .ok (.invokevirtual 208, 3) := by decide +kernel
theorem dX12_takePart_153 : decode cX12_takePart 153 = .ok (.goto 69, 3) := by decide +kernel
theorem dX12_takePart_156 : decode cX12_takePart 156 = .ok (.aload_n 0, 1) := by decide +kernel
theorem dX12_takePart_157 : decode cX12_takePart 157 = .ok (.bipush 40, 2) := by decide +kernel
theorem dX12_takePart_159 : decode cX12_takePart 159 = .ok (.invokevirtual 218, 3) := by decide +kernel
theorem dX12_takePart_162 : decode cX12_takePart 162 = .ok (.ifCond .eq 19, 3) := by decide +kernel
theorem dX12_takePart_165 : decode cX12_takePart 165 = .ok (.aload_n 0, 1) := by decide +kernel
theorem dX12_takePart_166 : decode cX12_takePart 166 = .ok (.iload_n 1, 1) := by decide +kernel
theorem dX12_takePart_167 : decode cX12_takePart 167 = .ok (.iconst 1, 1) := by decide +kernel
theorem dX12_takePart_168 : decode cX12_takePart 168 = .ok (.iadd, 1) := by decide +kernel
theorem dX12_takePart_169 : decode cX12_takePart 169 = .ok (.invokevirtual 205, 3) := by decide +kernel
theorem dX12_takePart_172 : decode cX12_takePart 172 = .ok (.aload_n 0, 1) := by decide +kernel
theorem dX12_takePart_173 : decode cX12_takePart 173 = .ok (.bipush 41, 2) := by decide +kernel
theorem dX12_takePart_175 : decode cX12_takePart 175 = .ok (.invokevirtual 178, 3) := by decide +kernel
theorem dX12_takePart_178 : decode cX12_takePart 178 = .ok (.goto 44, 3) := by decide +kernel
theorem dX12_takePart_181 : decode cX12_takePart 181 = .ok (.aload_n 0, 1) := by decide +kernel
theorem dX12_takePart_182 : decode cX12_takePart 182 = .ok (.iload_n 2, 1) := by decide +kernel
theorem dX12_takePart_183 : decode cX12_takePart 183 = .ok (.ifCond .eq 7, 3) := by decide +kernel
theorem dX12_takePart_186 : decode cX12_takePart 186 = .ok (.iconst 1, 1) := by decide +kernel
theorem dX12_takePart_187 : decode cX12_takePart 187 = .ok (.goto 4, 3) := by decide +kernel
theorem dX12_takePart_190 : decode cX12_takePart 190 = .ok (.iconst 2, 1) := by decide +kernel
theorem dX12_takePart_191 : decode cX12_takePart 191 = .ok (.iload_n 2, 1) := by decide +kernel
theorem dX12_takePart_192 : decode cX12_takePart 192 = .ok (.ifCond .eq 16, 3) := by decide +kernel
theorem dX12_takePart_195 : decode cX12_takePart 195 = .ok (.aload_n 0, 1) := by decide +kernel
theorem dX12_takePart_196 : decode cX12_takePart 196 = .ok (.getfield 30, 3) := by decide +kernel
theorem dX12_takePart_199 : decode cX12_takePart 199 = .ok (.aload_n 0, 1) := by decide +kernel
theorem dX12_takePart_200 : decode cX12_takePart 200 = .ok (.getfield 150, 3) := by decide +kernel
theorem dX12_takePart_203 : decode cX12_takePart 203 = .ok (.laload, 1) := by decide +kernel
theorem dX12_takePart_204 : decode cX12_takePart 204 = .ok (.l2i, 1) := by decide +kernel
theorem dX12_takePart_205 : decode cX12_takePart 205 = .ok (.goto 4, 3) := by decide +kernel
theorem dX12_takePart_208 : decode cX12_takePart 208 = .ok (.iload_n 3, 1) := by decide +kernel
theorem dX12_takePart_209 : decode cX12_takePart 209 = .ok (.invokevirtual 208, 3) := by decide +kernel
theorem dX12_takePart_212 : decode cX12_takePart 212 = .ok (.aload_n 0, 1) := by decide +kernel
theorem dX12_takePart_213 : decode cX12_takePart 213 = .ok (.dup, 1) := by decide +kernel
theorem dX12_takePart_214 : decode cX12_takePart 214 = .ok (.getfield 150, 3) := by decide +kernel
theorem dX12_takePart_217 : decode cX12_takePart 217 = .ok (.iconst 1, 1) := by decide +kernel
theorem dX12_takePart_218 : decode cX12_takePart 218 = .ok (.iadd, 1) := by decide +kernel
theorem dX12_takePart_219 : decode cX12_takePart 219 = .ok (.putfield 150, 3) := by decide +kernel
theorem dX12_takePart_222 : decode cX12_takePart 222 = .ok (.return_, 1) := by decide +kernel
theorem dX12_worthAt_0 : decode cX12_worthAt 0 = .ok (.iconst 0, 1) := by decide +kernel
theorem dX12_worthAt_1 : decode cX12_worthAt 1 = .ok (.istore_n 2, 1) := by decide +kernel
theorem dX12_worthAt_2 : decode cX12_worthAt 2 = .ok (.iload_n 1, 1) := by decide +kernel
theorem dX12_worthAt_3 : decode cX12_worthAt 3 = .ok (.istore_n 3, 1) := by decide +kernel
theorem dX12_worthAt_4 : decode cX12_worthAt 4 = .ok (.aload_n 0, 1) := by decide +kernel
theorem dX12_worthAt_5 : decode cX12_worthAt 5 = .ok (.getfield 68, 3) := by decide +kernel
theorem dX12_worthAt_8 : decode cX12_worthAt 8 = .ok (.iload_n 3, 1) := by decide +kernel
theorem dX12_worthAt_9 : decode cX12_worthAt 9 = .ok (.iaload, 1) := by decide +kernel
theorem dX12_worthAt_10 : decode cX12_worthAt 10 = .ok (.ifCond .eq 130, 3) := by decide +kernel
theorem dX12_worthAt_13 : decode cX12_worthAt 13 = .ok (.aload_n 0, 1) := by decide +kernel
theorem dX12_worthAt_14 : decode cX12_worthAt 14 = .ok (.getfield 68, 3) := by decide +kernel
theorem dX12_worthAt_17 : decode cX12_worthAt 17 = .ok (.iload_n 3, 1) := by decide +kernel
theorem dX12_worthAt_18 : decode cX12_worthAt 18 = .ok (.iaload, 1) := by decide +kernel
theorem dX12_worthAt_19 : decode cX12_worthAt 19 = .ok (.istore 4, 2) := by decide +kernel
theorem dX12_worthAt_21 : decode cX12_worthAt 21 = .ok (.iload 4, 2) := by decide +kernel
theorem dX12_worthAt_23 : decode cX12_worthAt 23 = .ok (.iconst 1, 1) := by decide +kernel
theorem dX12_worthAt_24 : decode cX12_worthAt 24 = .ok (.if_icmp .eq 9, 3) := by decide +kernel
theorem dX12_worthAt_27 : decode cX12_worthAt 27 = .ok (.iload 4, 2) := by decide +kernel
theorem dX12_worthAt_29 : decode cX12_worthAt 29 = .ok (.iconst 2, 1) := by decide +kernel
theorem dX12_worthAt_30 : decode cX12_worthAt 30 = .ok (.if_icmp .ne 41, 3) := by decide +kernel
theorem dX12_worthAt_33 : decode cX12_worthAt 33 = .ok (.aload_n 0, 1) := by decide +kernel
theorem dX12_worthAt_34 : decode cX12_worthAt 34 = .ok (.getfield 80, 3) := by decide +kernel
theorem dX12_worthAt_37 : decode cX12_worthAt 37 = .ok (.iload_n 2, 1) := by decide +kernel
theorem dX12_worthAt_38 : decode cX12_worthAt 38 = .ok (.iload 4, 2) := by decide +kernel
theorem dX12_worthAt_40 : decode cX12_worthAt 40 = .ok (.iconst 1, 1) := by decide +kernel
theorem dX12_worthAt_41 : decode cX12_worthAt 41 = .ok (.if_icmp .ne 12, 3) := by decide +kernel
theorem dX12_worthAt_44 : decode cX12_worthAt 44 = .ok (.aload_n 0, 1) := by decide +kernel
theorem dX12_worthAt_45 : decode cX12_worthAt 45 = .ok (.getfield 71, 3) := by decide +kernel
theorem dX12_worthAt_48 : decode cX12_worthAt 48 = .ok (.iload_n 3, 1) := by decide +kernel
theorem dX12_worthAt_49 : decode cX12_worthAt 49 = .ok (.iaload, 1) := by decide +kernel
theorem dX12_worthAt_50 : decode cX12_worthAt 50 = .ok (.goto 14, 3) := by decide +kernel
theorem dX12_worthAt_53 : decode cX12_worthAt 53 = .ok (.aload_n 0, 1) := by decide +kernel
theorem dX12_worthAt_54 : decode cX12_worthAt 54 = .ok (.getfield 77, 3) := by decide +kernel
theorem dX12_worthAt_57 : decode cX12_worthAt 57 = .ok (.aload_n 0, 1) := by decide +kernel
theorem dX12_worthAt_58 : decode cX12_worthAt 58 = .ok (.getfield 71, 3) := by decide +kernel
theorem dX12_worthAt_61 : decode cX12_worthAt 61 = .ok (.iload_n 3, 1) := by decide +kernel
theorem dX12_worthAt_62 : decode cX12_worthAt 62 = .ok (.iaload, 1) := by decide +kernel
theorem dX12_worthAt_63 : decode cX12_worthAt 63 = .ok (.iaload, 1) := by decide +kernel
theorem dX12_worthAt_64 : decode cX12_worthAt 64 = .ok (.iastore, 1) := by decide +kernel
theorem dX12_worthAt_65 : decode cX12_worthAt 65 = .ok (.iinc 2 1, 3) := by decide +kernel
theorem dX12_worthAt_68 : decode cX12_worthAt 68 = .ok (.goto 66, 3) := by decide +kernel
theorem dX12_worthAt_71 : decode cX12_worthAt 71 = .ok (.iload 4, 2) := by decide +kernel
theorem dX12_worthAt_73 : decode cX12_worthAt 73 = .ok (.iconst 3, 1) := by decide +kernel
theorem dX12_worthAt_74 : decode cX12_worthAt 74 = .ok (.if_icmp .ne 30, 3) := by decide +kernel
theorem dX12_worthAt_77 : decode cX12_worthAt 77 = .ok (.aload_n 0, 1) := by decide +kernel
theorem dX12_worthAt_78 : decode cX12_worthAt 78 = .ok (.getfield 80, 3) := by decide +kernel
theorem dX12_worthAt_81 : decode cX12_worthAt 81 = .ok (.iload_n 2, 1) := by decide +kernel
theorem dX12_worthAt_82 : decode cX12_worthAt 82 = .ok (.iconst 1, 1) := by decide +kernel
theorem dX12_worthAt_83 : decode cX12_worthAt 83 = .ok (.isub, 1) := by decide +kernel
theorem dX12_worthAt_84 : decode cX12_worthAt 84 = .ok (.aload_n 0, 1) := by decide +kernel
theorem dX12_worthAt_85 : decode cX12_worthAt 85 = .ok (.getfield 80, 3) := by decide +kernel
theorem dX12_worthAt_88 : decode cX12_worthAt 88 = .ok (.iload_n 2, 1) := by decide +kernel
theorem dX12_worthAt_89 : decode cX12_worthAt 89 = .ok (.iconst 1, 1) := by decide +kernel
theorem dX12_worthAt_90 : decode cX12_worthAt 90 = .ok (.isub, 1) := by decide +kernel
theorem dX12_worthAt_91 : decode cX12_worthAt 91 = .ok (.iaload, 1) := by decide +kernel
theorem dX12_worthAt_92 : decode cX12_worthAt 92 = .ok (.ifCond .ne 7, 3) := by decide +kernel
theorem dX12_worthAt_95 : decode cX12_worthAt 95 = .ok (.iconst 1, 1) := by decide +kernel
theorem dX12_worthAt_96 : decode cX12_worthAt 96 = .ok (.goto 4, 3) := by decide +kernel
theorem dX12_worthAt_99 : decode cX12_worthAt 99 = .ok (.iconst 0, 1) := by decide +kernel
theorem dX12_worthAt_100 : decode cX12_worthAt 100 = .ok (.iastore, 1) := by decide +kernel
theorem dX12_worthAt_101 : decode cX12_worthAt 101 = .ok (.goto 33, 3) := by decide +kernel
theorem dX12_worthAt_104 : decode cX12_worthAt 104 = .ok (.iinc 2 (-1), 3) := by decide +kernel
theorem dX12_worthAt_107 : decode cX12_worthAt 107 = .ok (.aload_n 0, 1) := by decide +kernel
theorem dX12_worthAt_108 : decode cX12_worthAt 108 = .ok (.getfield 80, 3) := by decide +kernel
theorem dX12_worthAt_111 : decode cX12_worthAt 111 = .ok (.iload_n 2, 1) := by decide +kernel
theorem dX12_worthAt_112 : decode cX12_worthAt 112 = .ok (.iconst 1, 1) := by decide +kernel
theorem dX12_worthAt_113 : decode cX12_worthAt 113 = .ok (.isub, 1) := by decide +kernel
theorem dX12_worthAt_114 : decode cX12_worthAt 114 = .ok (.iload 4, 2) := by decide +kernel
theorem dX12_worthAt_116 : decode cX12_worthAt 116 = .ok (.aload_n 0, 1) := by decide +kernel
theorem dX12_worthAt_117 : decode cX12_worthAt 117 = .ok (.getfield 80, 3) := by decide +kernel
theorem dX12_worthAt_120 : decode cX12_worthAt 120 = .ok (.iload_n 2, 1) := by decide +kernel
theorem dX12_worthAt_121 : decode cX12_worthAt 121 = .ok (.iconst 1, 1) := by decide +kernel
theorem dX12_worthAt_122 : decode cX12_worthAt 122 = .ok (.isub, 1) := by decide +kernel
theorem dX12_worthAt_123 : decode cX12_worthAt 123 = .ok (.iaload, 1) := by decide +kernel
theorem dX12_worthAt_124 : decode cX12_worthAt 124 = .ok (.aload_n 0, 1) := by decide +kernel
theorem dX12_worthAt_125 : decode cX12_worthAt 125 = .ok (.getfield 80, 3) := by decide +kernel
theorem dX12_worthAt_128 : decode cX12_worthAt 128 = .ok (.iload_n 2, 1) := by decide +kernel
theorem dX12_worthAt_129 : decode cX12_worthAt 129 = .ok (.iaload, 1) := by decide +kernel
theorem dX12_worthAt_130 : decode cX12_worthAt 130 = .ok (.invokestatic 227, 3) := by decide +kernel
theorem dX12_worthAt_133 : decode cX12_worthAt 133 = .ok (.iastore, 1) := by decide +kernel
theorem dX12_worthAt_134 : decode cX12_worthAt 134 = .ok (.iinc 3 1, 3) := by decide +kernel
theorem dX12_worthAt_137 : decode cX12_worthAt 137 = .ok (.goto (-133), 3) := by decide +kernel
theorem dX12_worthAt_140 : decode cX12_worthAt 140 = .ok (.aload_n 0, 1) := by decide +kernel
theorem dX12_worthAt_141 : decode cX12_worthAt 141 = .ok (.getfield 80, 3) := by decide +kernel
theorem dX12_worthAt_144 : decode cX12_worthAt 144 = .ok (.iconst 0, 1) := by decide +kernel
theorem dX12_worthAt_145 : decode cX12_worthAt 145 = .ok (.iaload, 1) := by decide +kernel
theorem dX12_worthAt_146 : decode cX12_worthAt 146 = .ok (.ireturn, 1) := by decide +kernel
theorem dX12_both_0 : decode cX12_both 0 = .ok (.iload_n 0, 1) := by decide +kernel
theorem dX12_both_1 : decode cX12_both 1 = .ok (.tableswitch 87 4 9 #[39, 43, 47, 51, 62, 73], 39) := by decide +kernel
theorem dX12_both_40 : decode cX12_both 40 = .ok (.iload_n 1, 1) := by decide +kernel
theorem dX12_both_41 : decode cX12_both 41 = .ok (.iload_n 2, 1) := by decide +kernel
theorem dX12_both_42 : decode cX12_both 42 = .ok (.iadd, 1) := by decide +kernel
theorem dX12_both_43 : decode cX12_both 43 = .ok (.ireturn, 1) := by decide +kernel
theorem dX12_both_44 : decode cX12_both 44 = .ok (.iload_n 1, 1) := by decide +kernel
theorem dX12_both_45 : decode cX12_both 45 = .ok (.iload_n 2, 1) := by decide +kernel
theorem dX12_both_46 : decode cX12_both 46 = .ok (.isub, 1) := by decide +kernel
theorem dX12_both_47 : decode cX12_both 47 = .ok (.ireturn, 1) := by decide +kernel
theorem dX12_both_48 : decode cX12_both 48 = .ok (.iload_n 1, 1) := by decide +kernel
theorem dX12_both_49 : decode cX12_both 49 = .ok (.iload_n 2, 1) := by decide +kernel
theorem dX12_both_50 : decode cX12_both 50 = .ok (.imul, 1) := by decide +kernel
theorem dX12_both_51 : decode cX12_both 51 = .ok (.ireturn, 1) := by decide +kernel
theorem dX12_both_52 : decode cX12_both 52 = .ok (.iload_n 1, 1) := by decide +kernel
theorem dX12_both_53 : decode cX12_both 53 = .ok (.iload_n 2, 1) := by decide +kernel
theorem dX12_both_54 : decode cX12_both 54 = .ok (.if_icmp .ge 7, 3) := by decide +kernel
theorem dX12_both_57 : decode cX12_both 57 = .ok (.iconst 1, 1) := by decide +kernel
theorem dX12_both_58 : decode cX12_both 58 = .ok (.goto 4, 3) := by decide +kernel
theorem dX12_both_61 : decode cX12_both 61 = .ok (.iconst 0, 1) := by decide +kernel
theorem dX12_both_62 : decode cX12_both 62 = .ok (.ireturn, 1) := by decide +kernel
theorem dX12_both_63 : decode cX12_both 63 = .ok (.iload_n 1, 1) := by decide +kernel
theorem dX12_both_64 : decode cX12_both 64 = .ok (.iload_n 2, 1) := by decide +kernel
theorem dX12_both_65 : decode cX12_both 65 = .ok (.if_icmp .ne 7, 3) := by decide +kernel
theorem dX12_both_68 : decode cX12_both 68 = .ok (.iconst 1, 1) := by decide +kernel
theorem dX12_both_69 : decode cX12_both 69 = .ok (.goto 4, 3) := by decide +kernel
theorem dX12_both_72 : decode cX12_both 72 = .ok (.iconst 0, 1) := by decide +kernel
theorem dX12_both_73 : decode cX12_both 73 = .ok (.ireturn, 1) := by decide +kernel
theorem dX12_both_74 : decode cX12_both 74 = .ok (.iload_n 1, 1) := by decide +kernel
theorem dX12_both_75 : decode cX12_both 75 = .ok (.ifCond .eq 11, 3) := by decide +kernel
theorem dX12_both_78 : decode cX12_both 78 = .ok (.iload_n 2, 1) := by decide +kernel
theorem dX12_both_79 : decode cX12_both 79 = .ok (.ifCond .eq 7, 3) := by decide +kernel
theorem dX12_both_82 : decode cX12_both 82 = .ok (.iconst 1, 1) := by decide +kernel
theorem dX12_both_83 : decode cX12_both 83 = .ok (.goto 4, 3) := by decide +kernel
theorem dX12_both_86 : decode cX12_both 86 = .ok (.iconst 0, 1) := by decide +kernel
theorem dX12_both_87 : decode cX12_both 87 = .ok (.ireturn, 1) := by decide +kernel
theorem dX12_both_88 : decode cX12_both 88 = .ok (.iload_n 1, 1) := by decide +kernel
theorem dX12_both_89 : decode cX12_both 89 = .ok (.ifCond .ne 7, 3) := by decide +kernel
theorem dX12_both_92 : decode cX12_both 92 = .ok (.iload_n 2, 1) := by decide +kernel
theorem dX12_both_93 : decode cX12_both 93 = .ok (.ifCond .eq 7, 3) := by decide +kernel
theorem dX12_both_96 : decode cX12_both 96 = .ok (.iconst 1, 1) := by decide +kernel
theorem dX12_both_97 : decode cX12_both 97 = .ok (.goto 4, 3) := by decide +kernel
theorem dX12_both_100 : decode cX12_both 100 = .ok (.iconst 0, 1) := by decide +kernel
theorem dX12_both_101 : decode cX12_both 101 = .ok (.ireturn, 1) := by decide +kernel
theorem dX12_rooms_0 : decode cX12_rooms 0 = .ok (.aload_n 0, 1) := by decide +kernel
theorem dX12_rooms_1 : decode cX12_rooms 1 = .ok (.getfield 65, 3) := by decide +kernel
theorem dX12_rooms_4 : decode cX12_rooms 4 = .ok (.iconst 0, 1) := by decide +kernel
theorem dX12_rooms_5 : decode cX12_rooms 5 = .ok (.iaload, 1) := by decide +kernel
theorem dX12_rooms_6 : decode cX12_rooms 6 = .ok (.ireturn, 1) := by decide +kernel
theorem dX12_guests_0 : decode cX12_guests 0 = .ok (.aload_n 0, 1) := by decide +kernel
theorem dX12_guests_1 : decode cX12_guests 1 = .ok (.getfield 65, 3) := by decide +kernel
theorem dX12_guests_4 : decode cX12_guests 4 = .ok (.iconst 1, 1) := by decide +kernel
theorem dX12_guests_5 : decode cX12_guests 5 = .ok (.iaload, 1) := by decide +kernel
theorem dX12_guests_6 : decode cX12_guests 6 = .ok (.ireturn, 1) := by decide +kernel
theorem dX12_rules_0 : decode cX12_rules 0 = .ok (.aload_n 0, 1) := by decide +kernel
theorem dX12_rules_1 : decode cX12_rules 1 = .ok (.getfield 65, 3) := by decide +kernel
theorem dX12_rules_4 : decode cX12_rules 4 = .ok (.iconst 2, 1) := by decide +kernel
theorem dX12_rules_5 : decode cX12_rules 5 = .ok (.iaload, 1) := by decide +kernel
theorem dX12_rules_6 : decode cX12_rules 6 = .ok (.ireturn, 1) := by decide +kernel
theorem dX12_floorOf_0 : decode cX12_floorOf 0 = .ok (.iload_n 1, 1) := by decide +kernel
theorem dX12_floorOf_1 : decode cX12_floorOf 1 = .ok (.ifCond .ge 7, 3) := by decide +kernel
theorem dX12_floorOf_4 : decode cX12_floorOf 4 = .ok (.iconst 0, 1) := by decide +kernel
theorem dX12_floorOf_5 : decode cX12_floorOf 5 = .ok (.goto 13, 3) := by decide +kernel
theorem dX12_floorOf_8 : decode cX12_floorOf 8 = .ok (.aload_n 0, 1) := by decide +kernel
theorem dX12_floorOf_9 : decode cX12_floorOf 9 = .ok (.getfield 65, 3) := by decide +kernel
theorem dX12_floorOf_12 : decode cX12_floorOf 12 = .ok (.iconst 3, 1) := by decide +kernel
theorem dX12_floorOf_13 : decode cX12_floorOf 13 = .ok (.iconst 2, 1) := by decide +kernel
theorem dX12_floorOf_14 : decode cX12_floorOf 14 = .ok (.iload_n 1, 1) := by decide +kernel
theorem dX12_floorOf_15 : decode cX12_floorOf 15 = .ok (.imul, 1) := by decide +kernel
theorem dX12_floorOf_16 : decode cX12_floorOf 16 = .ok (.iadd, 1) := by decide +kernel
theorem dX12_floorOf_17 : decode cX12_floorOf 17 = .ok (.iaload, 1) := by decide +kernel
theorem dX12_floorOf_18 : decode cX12_floorOf 18 = .ok (.ireturn, 1) := by decide +kernel
theorem dX12_guestOf_0 : decode cX12_guestOf 0 = .ok (.aload_n 0, 1) := by decide +kernel
theorem dX12_guestOf_1 : decode cX12_guestOf 1 = .ok (.getfield 65, 3) := by decide +kernel
theorem dX12_guestOf_4 : decode cX12_guestOf 4 = .ok (.bipush 23, 2) := by decide +kernel
theorem dX12_guestOf_6 : decode cX12_guestOf 6 = .ok (.iconst 3, 1) := by decide +kernel
theorem dX12_guestOf_7 : decode cX12_guestOf 7 = .ok (.iload_n 1, 1) := by decide +kernel
theorem dX12_guestOf_8 : decode cX12_guestOf 8 = .ok (.imul, 1) := by decide +kernel
theorem dX12_guestOf_9 : decode cX12_guestOf 9 = .ok (.iadd, 1) := by decide +kernel
theorem dX12_guestOf_10 : decode cX12_guestOf 10 = .ok (.iload_n 2, 1) := by decide +kernel
theorem dX12_guestOf_11 : decode cX12_guestOf 11 = .ok (.iadd, 1) := by decide +kernel
theorem dX12_guestOf_12 : decode cX12_guestOf 12 = .ok (.iaload, 1) := by decide +kernel
theorem dX12_guestOf_13 : decode cX12_guestOf 13 = .ok (.ireturn, 1) := by decide +kernel
theorem dX12_isRoom_0 : decode cX12_isRoom 0 = .ok (.iload_n 1, 1) := by decide +kernel
theorem dX12_isRoom_1 : decode cX12_isRoom 1 = .ok (.ifCond .lt 15, 3) := by decide +kernel
theorem dX12_isRoom_4 : decode cX12_isRoom 4 = .ok (.iload_n 1, 1) := by decide +kernel
theorem dX12_isRoom_5 : decode cX12_isRoom 5 = .ok (.aload_n 0, 1) := by decide +kernel
theorem dX12_isRoom_6 : decode cX12_isRoom 6 = .ok (.invokevirtual 231, 3) := by decide +kernel
theorem dX12_isRoom_9 : decode cX12_isRoom 9 = .ok (.if_icmp .ge 7, 3) := by decide +kernel
theorem dX12_isRoom_12 : decode cX12_isRoom 12 = .ok (.iconst 1, 1) := by decide +kernel
theorem dX12_isRoom_13 : decode cX12_isRoom 13 = .ok (.goto 4, 3) := by decide +kernel
theorem dX12_isRoom_16 : decode cX12_isRoom 16 = .ok (.iconst 0, 1) := by decide +kernel
theorem dX12_isRoom_17 : decode cX12_isRoom 17 = .ok (.ireturn, 1) := by decide +kernel
theorem dX12_isGuest_0 : decode cX12_isGuest 0 = .ok (.iload_n 1, 1) := by decide +kernel
theorem dX12_isGuest_1 : decode cX12_isGuest 1 = .ok (.ifCond .lt 15, 3) := by decide +kernel
theorem dX12_isGuest_4 : decode cX12_isGuest 4 = .ok (.iload_n 1, 1) := by decide +kernel
theorem dX12_isGuest_5 : decode cX12_isGuest 5 = .ok (.aload_n 0, 1) := by decide +kernel
theorem dX12_isGuest_6 : decode cX12_isGuest 6 = .ok (.invokevirtual 234, 3) := by decide +kernel
theorem dX12_isGuest_9 : decode cX12_isGuest 9 = .ok (.if_icmp .ge 7, 3) := by decide +kernel
theorem dX12_isGuest_12 : decode cX12_isGuest 12 = .ok (.iconst 1, 1) := by decide +kernel
theorem dX12_isGuest_13 : decode cX12_isGuest 13 = .ok (.goto 4, 3) := by decide +kernel
theorem dX12_isGuest_16 : decode cX12_isGuest 16 = .ok (.iconst 0, 1) := by decide +kernel
theorem dX12_isGuest_17 : decode cX12_isGuest 17 = .ok (.ireturn, 1) := by decide +kernel
theorem dX12_isRule_0 : decode cX12_isRule 0 = .ok (.iload_n 1, 1) := by decide +kernel
theorem dX12_isRule_1 : decode cX12_isRule 1 = .ok (.ifCond .lt 15, 3) := by decide +kernel
theorem dX12_isRule_4 : decode cX12_isRule 4 = .ok (.iload_n 1, 1) := by decide +kernel
theorem dX12_isRule_5 : decode cX12_isRule 5 = .ok (.aload_n 0, 1) := by decide +kernel
theorem dX12_isRule_6 : decode cX12_isRule 6 = .ok (.invokevirtual 181, 3) := by decide +kernel
theorem dX12_isRule_9 : decode cX12_isRule 9 = .ok (.if_icmp .ge 7, 3) := by decide +kernel
theorem dX12_isRule_12 : decode cX12_isRule 12 = .ok (.iconst 1, 1) := by decide +kernel
theorem dX12_isRule_13 : decode cX12_isRule 13 = .ok (.goto 4, 3) := by decide +kernel
theorem dX12_isRule_16 : decode cX12_isRule 16 = .ok (.iconst 0, 1) := by decide +kernel
theorem dX12_isRule_17 : decode cX12_isRule 17 = .ok (.ireturn, 1) := by decide +kernel
theorem dX12_floors_0 : decode cX12_floors 0 = .ok (.aload_n 0, 1) := by decide +kernel
theorem dX12_floors_1 : decode cX12_floors 1 = .ok (.iload_n 1, 1) := by decide +kernel
theorem dX12_floors_2 : decode cX12_floors 2 = .ok (.invokevirtual 237, 3) := by decide +kernel
theorem dX12_floors_5 : decode cX12_floors 5 = .ok (.aload_n 0, 1) := by decide +kernel
theorem dX12_floors_6 : decode cX12_floors 6 = .ok (.iload_n 2, 1) := by decide +kernel
theorem dX12_floors_7 : decode cX12_floors 7 = .ok (.invokevirtual 237, 3) := by decide +kernel
theorem dX12_floors_10 : decode cX12_floors 10 = .ok (.isub, 1) := by decide +kernel
theorem dX12_floors_11 : decode cX12_floors 11 = .ok (.istore_n 3, 1) := by decide +kernel
theorem dX12_floors_12 : decode cX12_floors 12 = .ok (.iload_n 3, 1) := by decide +kernel
theorem dX12_floors_13 : decode cX12_floors 13 = .ok (.ifCond .ge 8, 3) := by decide +kernel
theorem dX12_floors_16 : decode cX12_floors 16 = .ok (.iload_n 3, 1) := by decide +kernel
theorem dX12_floors_17 : decode cX12_floors 17 = .ok (.ineg, 1) := by decide +kernel
theorem dX12_floors_18 : decode cX12_floors 18 = .ok (.goto 4, 3) := by decide +kernel
theorem dX12_floors_21 : decode cX12_floors 21 = .ok (.iload_n 3, 1) := by decide +kernel
theorem dX12_floors_22 : decode cX12_floors 22 = .ok (.ireturn, 1) := by decide +kernel
theorem dX12_events_0 : decode cX12_events 0 = .ok (.aload_n 0, 1) := by decide +kernel
theorem dX12_events_1 : decode cX12_events 1 = .ok (.getfield 83, 3) := by decide +kernel
theorem dX12_events_4 : decode cX12_events 4 = .ok (.iconst 1, 1) := by decide +kernel
theorem dX12_events_5 : decode cX12_events 5 = .ok (.iaload, 1) := by decide +kernel
theorem dX12_events_6 : decode cX12_events 6 = .ok (.ireturn, 1) := by decide +kernel
theorem dX12_eventOf_0 : decode cX12_eventOf 0 = .ok (.aload_n 0, 1) := by decide +kernel
theorem dX12_eventOf_1 : decode cX12_eventOf 1 = .ok (.getfield 83, 3) := by decide +kernel
theorem dX12_eventOf_4 : decode cX12_eventOf 4 = .ok (.iconst 2, 1) := by decide +kernel
theorem dX12_eventOf_5 : decode cX12_eventOf 5 = .ok (.iconst 4, 1) := by decide +kernel
theorem dX12_eventOf_6 : decode cX12_eventOf 6 = .ok (.iload_n 1, 1) := by decide +kernel
theorem dX12_eventOf_7 : decode cX12_eventOf 7 = .ok (.imul, 1) := by decide +kernel
theorem dX12_eventOf_8 : decode cX12_eventOf 8 = .ok (.iadd, 1) := by decide +kernel
theorem dX12_eventOf_9 : decode cX12_eventOf 9 = .ok (.iload_n 2, 1) := by decide +kernel
theorem dX12_eventOf_10 : decode cX12_eventOf 10 = .ok (.iadd, 1) := by decide +kernel
theorem dX12_eventOf_11 : decode cX12_eventOf 11 = .ok (.iaload, 1) := by decide +kernel
theorem dX12_eventOf_12 : decode cX12_eventOf 12 = .ok (.ireturn, 1) := by decide +kernel
theorem dX12_begins_0 : decode cX12_begins 0 = .ok (.iconst 0, 1) := by decide +kernel
theorem dX12_begins_1 : decode cX12_begins 1 = .ok (.istore_n 1, 1) := by decide +kernel
theorem dX12_begins_2 : decode cX12_begins 2 = .ok (.iload_n 1, 1) := by decide +kernel
theorem dX12_begins_3 : decode cX12_begins 3 = .ok (.bipush 10, 2) := by decide +kernel
theorem dX12_begins_5 : decode cX12_begins 5 = .ok (.if_icmp .ge 37, 3) := by decide +kernel
theorem dX12_begins_8 : decode cX12_begins 8 = .ok (.aload_n 0, 1) := by decide +kernel
theorem dX12_begins_9 : decode cX12_begins 9 = .ok (.getfield 86, 3) := by decide +kernel
theorem dX12_begins_12 : decode cX12_begins 12 = .ok (.iload_n 1, 1) := by decide +kernel
theorem dX12_begins_13 : decode cX12_begins 13 = .ok (.iconst (-1), 1) := by decide +kernel
theorem dX12_begins_14 : decode cX12_begins 14 = .ok (.iastore, 1) := by decide +kernel
theorem dX12_begins_15 : decode cX12_begins 15 = .ok (.aload_n 0, 1) := by decide +kernel
theorem dX12_begins_16 : decode cX12_begins 16 = .ok (.getfield 89, 3) := by decide +kernel
theorem dX12_begins_19 : decode cX12_begins 19 = .ok (.iload_n 1, 1) := by decide +kernel
theorem dX12_begins_20 : decode cX12_begins 20 = .ok (.iconst 0, 1) := by decide +kernel
theorem dX12_begins_21 : decode cX12_begins 21 = .ok (.iastore, 1) := by decide +kernel
theorem dX12_begins_22 : decode cX12_begins 22 = .ok (.aload_n 0, 1) := by decide +kernel
theorem dX12_begins_23 : decode cX12_begins 23 = .ok (.getfield 92, 3) := by decide +kernel
theorem dX12_begins_26 : decode cX12_begins 26 = .ok (.iload_n 1, 1) := by decide +kernel
theorem dX12_begins_27 : decode cX12_begins 27 = .ok (.iconst 0, 1) := by decide +kernel
theorem dX12_begins_28 : decode cX12_begins 28 = .ok (.iastore, 1) := by decide +kernel
theorem dX12_begins_29 : decode cX12_begins 29 = .ok (.aload_n 0, 1) := by decide +kernel
theorem dX12_begins_30 : decode cX12_begins 30 = .ok (.getfield 95, 3) := by decide +kernel
theorem dX12_begins_33 : decode cX12_begins 33 = .ok (.iload_n 1, 1) := by decide +kernel
theorem dX12_begins_34 : decode cX12_begins 34 = .ok (.iconst 0, 1) := by decide +kernel
theorem dX12_begins_35 : decode cX12_begins 35 = .ok (.bastore, 1) := by decide +kernel
theorem dX12_begins_36 : decode cX12_begins 36 = .ok (.iinc 1 1, 3) := by decide +kernel
theorem dX12_begins_39 : decode cX12_begins 39 = .ok (.goto (-37), 3) := by decide +kernel
theorem dX12_begins_42 : decode cX12_begins 42 = .ok (.aload_n 0, 1) := by decide +kernel
theorem dX12_begins_43 : decode cX12_begins 43 = .ok (.iconst 0, 1) := by decide +kernel
theorem dX12_begins_44 : decode cX12_begins 44 = .ok (.putfield 240, 3) := by decide +kernel
theorem dX12_begins_47 : decode cX12_begins 47 = .ok (.aload_n 0, 1) := by decide +kernel
theorem dX12_begins_48 : decode cX12_begins 48 = .ok (.iconst 0, 1) := by decide +kernel
theorem dX12_begins_49 : decode cX12_begins 49 = .ok (.putfield 243, 3) := by decide +kernel
theorem dX12_begins_52 : decode cX12_begins 52 = .ok (.aload_n 0, 1) := by decide +kernel
theorem dX12_begins_53 : decode cX12_begins 53 = .ok (.iconst 0, 1) := by decide +kernel
theorem dX12_begins_54 : decode cX12_begins 54 = .ok (.putfield 246, 3) := by decide +kernel
theorem dX12_begins_57 : decode cX12_begins 57 = .ok (.aload_n 0, 1) := by decide +kernel
theorem dX12_begins_58 : decode cX12_begins 58 = .ok (.iconst 0, 1) := by decide +kernel
theorem dX12_begins_59 : decode cX12_begins 59 = .ok (.putfield 249, 3) := by decide +kernel
theorem dX12_begins_62 : decode cX12_begins 62 = .ok (.aload_n 0, 1) := by decide +kernel
theorem dX12_begins_63 : decode cX12_begins 63 = .ok (.iconst 0, 1) := by decide +kernel
theorem dX12_begins_64 : decode cX12_begins 64 = .ok (.putfield 252, 3) := by decide +kernel
theorem dX12_begins_67 : decode cX12_begins 67 = .ok (.aload_n 0, 1) := by decide +kernel
theorem dX12_begins_68 : decode cX12_begins 68 = .ok (.iconst 0, 1) := by decide +kernel
theorem dX12_begins_69 : decode cX12_begins 69 = .ok (.putfield 255, 3) := by decide +kernel
theorem dX12_begins_72 : decode cX12_begins 72 = .ok (.return_, 1) := by decide +kernel
theorem dX12_goes_0 : decode cX12_goes 0 = .ok (.iconst 1, 1) := by decide +kernel
theorem dX12_goes_1 : decode cX12_goes 1 = .ok (.iconst 2, 1) := by decide +kernel
theorem dX12_goes_2 : decode cX12_goes 2 = .ok (.aload_n 0, 1) := by decide +kernel
theorem dX12_goes_3 : decode cX12_goes 3 = .ok (.iload_n 2, 1) := by decide +kernel
theorem dX12_goes_4 : decode cX12_goes 4 = .ok (.iload_n 3, 1) := by decide +kernel
theorem dX12_goes_5 : decode cX12_goes 5 = .ok (.invokevirtual 258, 3) := by decide +kernel
theorem dX12_goes_8 : decode cX12_goes 8 = .ok (.imul, 1) := by decide +kernel
theorem dX12_goes_9 : decode cX12_goes 9 = .ok (.iadd, 1) := by decide +kernel
theorem dX12_goes_10 : decode cX12_goes 10 = .ok (.aload_n 0, 1) := by decide +kernel
theorem dX12_goes_11 : decode cX12_goes 11 = .ok (.iload_n 1, 1) := by decide +kernel
theorem dX12_goes_12 : decode cX12_goes 12 = .ok (.iconst 0, 1) := by decide +kernel
theorem dX12_goes_13 : decode cX12_goes 13 = .ok (.invokevirtual 261, 3) := by decide +kernel
theorem dX12_goes_16 : decode cX12_goes 16 = .ok (.bipush 10, 2) := by decide +kernel
theorem dX12_goes_18 : decode cX12_goes 18 = .ok (.idiv, 1) := by decide +kernel
theorem dX12_goes_19 : decode cX12_goes 19 = .ok (.iadd, 1) := by decide +kernel
theorem dX12_goes_20 : decode cX12_goes 20 = .ok (.istore 4, 2) := by decide +kernel
theorem dX12_goes_22 : decode cX12_goes 22 = .ok (.iload_n 2, 1) := by decide +kernel
theorem dX12_goes_23 : decode cX12_goes 23 = .ok (.ifCond .lt 7, 3) := by decide +kernel
theorem dX12_goes_26 : decode cX12_goes 26 = .ok (.iload_n 3, 1) := by decide +kernel
theorem dX12_goes_27 : decode cX12_goes 27 = .ok (.ifCond .ge 17, 3) := by decide +kernel
theorem dX12_goes_30 : decode cX12_goes 30 = .ok (.iload_n 2, 1) := by decide +kernel
theorem dX12_goes_31 : decode cX12_goes 31 = .ok (.ifCond .ge 7, 3) := by decide +kernel
theorem dX12_goes_34 : decode cX12_goes 34 = .ok (.iload_n 3, 1) := by decide +kernel
theorem dX12_goes_35 : decode cX12_goes 35 = .ok (.goto 4, 3) := by decide +kernel
theorem dX12_goes_38 : decode cX12_goes 38 = .ok (.iload_n 2, 1) := by decide +kernel
theorem dX12_goes_39 : decode cX12_goes 39 = .ok (.iconst 1, 1) := by decide +kernel
theorem dX12_goes_40 : decode cX12_goes 40 = .ok (.iadd, 1) := by decide +kernel
theorem dX12_goes_41 : decode cX12_goes 41 = .ok (.goto 17, 3) := by decide +kernel
theorem dX12_goes_44 : decode cX12_goes 44 = .ok (.iload_n 2, 1) := by decide +kernel
theorem dX12_goes_45 : decode cX12_goes 45 = .ok (.iload_n 3, 1) := by decide +kernel
theorem dX12_goes_46 : decode cX12_goes 46 = .ok (.if_icmp .ge 9, 3) := by decide +kernel
theorem dX12_goes_49 : decode cX12_goes 49 = .ok (.iload_n 3, 1) := by decide +kernel
theorem dX12_goes_50 : decode cX12_goes 50 = .ok (.iload_n 2, 1) := by decide +kernel
theorem dX12_goes_51 : decode cX12_goes 51 = .ok (.isub, 1) := by decide +kernel
theorem dX12_goes_52 : decode cX12_goes 52 = .ok (.goto 6, 3) := by decide +kernel
theorem dX12_goes_55 : decode cX12_goes 55 = .ok (.iload_n 2, 1) := by decide +kernel
theorem dX12_goes_56 : decode cX12_goes 56 = .ok (.iload_n 3, 1) := by decide +kernel
theorem dX12_goes_57 : decode cX12_goes 57 = .ok (.isub, 1) := by decide +kernel
theorem dX12_goes_58 : decode cX12_goes 58 = .ok (.istore 5, 2) := by decide +kernel
theorem dX12_goes_60 : decode cX12_goes 60 = .ok (.iload 5, 2) := by decide +kernel
theorem dX12_goes_62 : decode cX12_goes 62 = .ok (.bipush 10, 2) := by decide +kernel
theorem dX12_goes_64 : decode cX12_goes 64 = .ok (.aload_n 0, 1) := by decide +kernel
theorem dX12_goes_65 : decode cX12_goes 65 = .ok (.iload_n 2, 1) := by decide +kernel
theorem dX12_goes_66 : decode cX12_goes 66 = .ok (.iload_n 3, 1) := by decide +kernel
theorem dX12_goes_67 : decode cX12_goes 67 = .ok (.invokevirtual 258, 3) := by decide +kernel
theorem dX12_goes_70 : decode cX12_goes 70 = .ok (.imul, 1) := by decide +kernel
theorem dX12_goes_71 : decode cX12_goes 71 = .ok (.iadd, 1) := by decide +kernel
theorem dX12_goes_72 : decode cX12_goes 72 = .ok (.istore 5, 2) := by decide +kernel
theorem dX12_goes_74 : decode cX12_goes 74 = .ok (.iconst 5, 1) := by decide +kernel
theorem dX12_goes_75 : decode cX12_goes 75 = .ok (.aload_n 0, 1) := by decide +kernel
theorem dX12_goes_76 : decode cX12_goes 76 = .ok (.getfield 255, 3) := by decide +kernel
theorem dX12_goes_79 : decode cX12_goes 79 = .ok (.imul, 1) := by decide +kernel
theorem dX12_goes_80 : decode cX12_goes 80 = .ok (.istore 6, 2) := by decide +kernel
theorem dX12_goes_82 : decode cX12_goes 82 = .ok (.aload_n 0, 1) := by decide +kernel
theorem dX12_goes_83 : decode cX12_goes 83 = .ok (.getfield 99, 3) := by decide +kernel
theorem dX12_goes_86 : decode cX12_goes 86 = .ok (.iload 6, 2) := by decide +kernel
theorem dX12_goes_88 : decode cX12_goes 88 = .ok (.iload_n 1, 1) := by decide +kernel
theorem dX12_goes_89 : decode cX12_goes 89 = .ok (.iastore, 1) := by decide +kernel
theorem dX12_goes_90 : decode cX12_goes 90 = .ok (.aload_n 0, 1) := by decide +kernel
theorem dX12_goes_91 : decode cX12_goes 91 = .ok (.getfield 99, 3) := by decide +kernel
theorem dX12_goes_94 : decode cX12_goes 94 = .ok (.iload 6, 2) := by decide +kernel
theorem dX12_goes_96 : decode cX12_goes 96 = .ok (.iconst 1, 1) := by decide +kernel
theorem dX12_goes_97 : decode cX12_goes 97 = .ok (.iadd, 1) := by decide +kernel
theorem dX12_goes_98 : decode cX12_goes 98 = .ok (.iload_n 2, 1) := by decide +kernel
theorem dX12_goes_99 : decode cX12_goes 99 = .ok (.iastore, 1) := by decide +kernel
theorem dX12_goes_100 : decode cX12_goes 100 = .ok (.aload_n 0, 1) := by decide +kernel
theorem dX12_goes_101 : decode cX12_goes 101 = .ok (.getfield 99, 3) := by decide +kernel
theorem dX12_goes_104 : decode cX12_goes 104 = .ok (.iload 6, 2) := by decide +kernel
theorem dX12_goes_106 : decode cX12_goes 106 = .ok (.iconst 2, 1) := by decide +kernel
theorem dX12_goes_107 : decode cX12_goes 107 = .ok (.iadd, 1) := by decide +kernel
theorem dX12_goes_108 : decode cX12_goes 108 = .ok (.iload_n 3, 1) := by decide +kernel
theorem dX12_goes_109 : decode cX12_goes 109 = .ok (.iastore, 1) := by decide +kernel
theorem dX12_goes_110 : decode cX12_goes 110 = .ok (.aload_n 0, 1) := by decide +kernel
theorem dX12_goes_111 : decode cX12_goes 111 = .ok (.getfield 99, 3) := by decide +kernel
theorem dX12_goes_114 : decode cX12_goes 114 = .ok (.iload 6, 2) := by decide +kernel
theorem dX12_goes_116 : decode cX12_goes 116 = .ok (.iconst 3, 1) := by decide +kernel
theorem dX12_goes_117 : decode cX12_goes 117 = .ok (.iadd, 1) := by decide +kernel
theorem dX12_goes_118 : decode cX12_goes 118 = .ok (.aload_n 0, 1) := by decide +kernel
theorem dX12_goes_119 : decode cX12_goes 119 = .ok (.getfield 252, 3) := by decide +kernel
theorem dX12_goes_122 : decode cX12_goes 122 = .ok (.iastore, 1) := by decide +kernel
theorem dX12_goes_123 : decode cX12_goes 123 = .ok (.aload_n 0, 1) := by decide +kernel
theorem dX12_goes_124 : decode cX12_goes 124 = .ok (.getfield 99, 3) := by decide +kernel
theorem dX12_goes_127 : decode cX12_goes 127 = .ok (.iload 6, 2) := by decide +kernel
theorem dX12_goes_129 : decode cX12_goes 129 = .ok (.iconst 4, 1) := by decide +kernel
theorem dX12_goes_130 : decode cX12_goes 130 = .ok (.iadd, 1) := by decide +kernel
theorem dX12_goes_131 : decode cX12_goes 131 = .ok (.aload_n 0, 1) := by decide +kernel
theorem dX12_goes_132 : decode cX12_goes 132 = .ok (.getfield 252, 3) := by decide +kernel
theorem dX12_goes_135 : decode cX12_goes 135 = .ok (.iload 4, 2) := by decide +kernel
theorem dX12_goes_137 : decode cX12_goes 137 = .ok (.iadd, 1) := by decide +kernel
theorem dX12_goes_138 : decode cX12_goes 138 = .ok (.iastore, 1) := by decide +kernel
theorem dX12_goes_139 : decode cX12_goes 139 = .ok (.aload_n 0, 1) := by decide +kernel
theorem dX12_goes_140 : decode cX12_goes 140 = .ok (.dup, 1) := by decide +kernel
theorem dX12_goes_141 : decode cX12_goes 141 = .ok (.getfield 255, 3) := by decide +kernel
theorem dX12_goes_144 : decode cX12_goes 144 = .ok (.iconst 1, 1) := by decide +kernel
theorem dX12_goes_145 : decode cX12_goes 145 = .ok (.iadd, 1) := by decide +kernel
theorem dX12_goes_146 : decode cX12_goes 146 = .ok (.putfield 255, 3) := by decide +kernel
theorem dX12_goes_149 : decode cX12_goes 149 = .ok (.aload_n 0, 1) := by decide +kernel
theorem dX12_goes_150 : decode cX12_goes 150 = .ok (.dup, 1) := by decide +kernel
theorem dX12_goes_151 : decode cX12_goes 151 = .ok (.getfield 252, 3) := by decide +kernel
theorem dX12_goes_154 : decode cX12_goes 154 = .ok (.iload 4, 2) := by decide +kernel
theorem dX12_goes_156 : decode cX12_goes 156 = .ok (.iadd, 1) := by decide +kernel
theorem dX12_goes_157 : decode cX12_goes 157 = .ok (.putfield 252, 3) := by decide +kernel
theorem dX12_goes_160 : decode cX12_goes 160 = .ok (.aload_n 0, 1) := by decide +kernel
theorem dX12_goes_161 : decode cX12_goes 161 = .ok (.dup, 1) := by decide +kernel
theorem dX12_goes_162 : decode cX12_goes 162 = .ok (.getfield 249, 3) := by decide +kernel
theorem dX12_goes_165 : decode cX12_goes 165 = .ok (.iload 4, 2) := by decide +kernel
theorem dX12_goes_167 : decode cX12_goes 167 = .ok (.iadd, 1) := by decide +kernel
theorem dX12_goes_168 : decode cX12_goes 168 = .ok (.putfield 249, 3) := by decide +kernel
theorem dX12_goes_171 : decode cX12_goes 171 = .ok (.aload_n 0, 1) := by decide +kernel
theorem dX12_goes_172 : decode cX12_goes 172 = .ok (.dup, 1) := by decide +kernel
theorem dX12_goes_173 : decode cX12_goes 173 = .ok (.getfield 240, 3) := by decide +kernel
theorem dX12_goes_176 : decode cX12_goes 176 = .ok (.iload 5, 2) := by decide +kernel
theorem dX12_goes_178 : decode cX12_goes 178 = .ok (.iadd, 1) := by decide +kernel
theorem dX12_goes_179 : decode cX12_goes 179 = .ok (.putfield 240, 3) := by decide +kernel
theorem dX12_goes_182 : decode cX12_goes 182 = .ok (.aload_n 0, 1) := by decide +kernel
theorem dX12_goes_183 : decode cX12_goes 183 = .ok (.getfield 92, 3) := by decide +kernel
theorem dX12_goes_186 : decode cX12_goes 186 = .ok (.iload_n 1, 1) := by decide +kernel
theorem dX12_goes_187 : decode cX12_goes 187 = .ok (.dup2, 1) := by decide +kernel
theorem dX12_goes_188 : decode cX12_goes 188 = .ok (.iaload, 1) := by decide +kernel
theorem dX12_goes_189 : decode cX12_goes 189 = .ok (.iload 5, 2) := by decide +kernel
theorem dX12_goes_191 : decode cX12_goes 191 = .ok (.iadd, 1) := by decide +kernel
theorem dX12_goes_192 : decode cX12_goes 192 = .ok (.iastore, 1) := by decide +kernel
theorem dX12_goes_193 : decode cX12_goes 193 = .ok (.iload_n 2, 1) := by decide +kernel
theorem dX12_goes_194 : decode cX12_goes 194 = .ok (.ifCond .lt 42, 3) := by decide +kernel
theorem dX12_goes_197 : decode cX12_goes 197 = .ok (.iload_n 3, 1) := by decide +kernel
theorem dX12_goes_198 : decode cX12_goes 198 = .ok (.ifCond .lt 38, 3) := by decide +kernel
theorem dX12_goes_201 : decode cX12_goes 201 = .ok (.aload_n 0, 1) := by decide +kernel
theorem dX12_goes_202 : decode cX12_goes 202 = .ok (.dup, 1) := by decide +kernel
theorem dX12_goes_203 : decode cX12_goes 203 = .ok (.getfield 246, 3) := by decide +kernel
theorem dX12_goes_206 : decode cX12_goes 206 = .ok (.iconst 1, 1) := by decide +kernel
theorem dX12_goes_207 : decode cX12_goes 207 = .ok (.iadd, 1) := by decide +kernel
theorem dX12_goes_208 : decode cX12_goes 208 = .ok (.putfield 246, 3) := by decide +kernel
theorem dX12_goes_211 : decode cX12_goes 211 = .ok (.aload_n 0, 1) := by decide +kernel
theorem dX12_goes_212 : decode cX12_goes 212 = .ok (.getfield 89, 3) := by decide +kernel
theorem dX12_goes_215 : decode cX12_goes 215 = .ok (.iload_n 1, 1) := by decide +kernel
theorem dX12_goes_216 : decode cX12_goes 216 = .ok (.dup2, 1) := by decide +kernel
theorem dX12_goes_217 : decode cX12_goes 217 = .ok (.iaload, 1) := by decide +kernel
theorem dX12_goes_218 : decode cX12_goes 218 = .ok (.iconst 1, 1) := by decide +kernel
theorem dX12_goes_219 : decode cX12_goes 219 = .ok (.iadd, 1) := by decide +kernel
theorem dX12_goes_220 : decode cX12_goes 220 = .ok (.iastore, 1) := by decide +kernel
theorem dX12_goes_221 : decode cX12_goes 221 = .ok (.aload_n 0, 1) := by decide +kernel
theorem dX12_goes_222 : decode cX12_goes 222 = .ok (.dup, 1) := by decide +kernel
theorem dX12_goes_223 : decode cX12_goes 223 = .ok (.getfield 243, 3) := by decide +kernel
theorem dX12_goes_226 : decode cX12_goes 226 = .ok (.aload_n 0, 1) := by decide +kernel
theorem dX12_goes_227 : decode cX12_goes 227 = .ok (.iload_n 1, 1) := by decide +kernel
theorem dX12_goes_228 : decode cX12_goes 228 = .ok (.iconst 1, 1) := by decide +kernel
theorem dX12_goes_229 : decode cX12_goes 229 = .ok (.invokevirtual 261, 3) := by decide +kernel
theorem dX12_goes_232 : decode cX12_goes 232 = .ok (.iadd, 1) := by decide +kernel
theorem dX12_goes_233 : decode cX12_goes 233 = .ok (.putfield 243, 3) := by decide +kernel
theorem dX12_goes_236 : decode cX12_goes 236 = .ok (.iload_n 2, 1) := by decide +kernel
theorem dX12_goes_237 : decode cX12_goes 237 = .ok (.ifCond .lt 10, 3) := by decide +kernel
theorem dX12_goes_240 : decode cX12_goes 240 = .ok (.aload_n 0, 1) := by decide +kernel
theorem dX12_goes_241 : decode cX12_goes 241 = .ok (.getfield 86, 3) := by decide +kernel
theorem dX12_goes_244 : decode cX12_goes 244 = .ok (.iload_n 2, 1) := by decide +kernel
theorem dX12_goes_245 : decode cX12_goes 245 = .ok (.iconst (-1), 1) := by decide +kernel
theorem dX12_goes_246 : decode cX12_goes 246 = .ok (.iastore, 1) := by decide +kernel
theorem dX12_goes_247 : decode cX12_goes 247 = .ok (.iload_n 3, 1) := by decide +kernel
theorem dX12_goes_248 : decode cX12_goes 248 = .ok (.ifCond .lt 10, 3) := by decide +kernel
theorem dX12_goes_251 : decode cX12_goes 251 = .ok (.aload_n 0, 1) := by decide +kernel
theorem dX12_goes_252 : decode cX12_goes 252 = .ok (.getfield 86, 3) := by decide +kernel
theorem dX12_goes_255 : decode cX12_goes 255 = .ok (.iload_n 3, 1) := by decide +kernel
theorem dX12_goes_256 : decode cX12_goes 256 = .ok (.iload_n 1, 1) := by decide +kernel
theorem dX12_goes_257 : decode cX12_goes 257 = .ok (.iastore, 1) := by decide +kernel
theorem dX12_goes_258 : decode cX12_goes 258 = .ok (.return_, 1) := by decide +kernel
theorem dX12_firstEmpty_0 : decode cX12_firstEmpty 0 = .ok (.iconst 0, 1) := by decide +kernel
theorem dX12_firstEmpty_1 : decode cX12_firstEmpty 1 = .ok (.istore_n 1, 1) := by decide +kernel
theorem dX12_firstEmpty_2 : decode cX12_firstEmpty 2 = .ok (.iload_n 1, 1) := by decide +kernel
theorem dX12_firstEmpty_3 : decode cX12_firstEmpty 3 = .ok (.aload_n 0, 1) := by decide +kernel
theorem dX12_firstEmpty_4 : decode cX12_firstEmpty 4 = .ok (.invokevirtual 231, 3) := by decide +kernel
theorem dX12_firstEmpty_7 : decode cX12_firstEmpty 7 = .ok (.if_icmp .ge 18, 3) := by decide +kernel
theorem dX12_firstEmpty_10 : decode cX12_firstEmpty 10 = .ok (.aload_n 0, 1) := by decide +kernel
theorem dX12_firstEmpty_11 : decode cX12_firstEmpty 11 = .ok (.getfield 86, 3) := by decide +kernel
theorem dX12_firstEmpty_14 : decode cX12_firstEmpty 14 = .ok (.iload_n 1, 1) := by decide +kernel
theorem dX12_firstEmpty_15 : decode cX12_firstEmpty 15 = .ok (.iaload, 1) := by decide +kernel
theorem dX12_firstEmpty_16 : decode cX12_firstEmpty 16 = .ok (.ifCond .lt 9, 3) := by decide +kernel
theorem dX12_firstEmpty_19 : decode cX12_firstEmpty 19 = .ok (.iinc 1 1, 3) := by decide +kernel
theorem dX12_firstEmpty_22 : decode cX12_firstEmpty 22 = .ok (.goto (-20), 3) := by decide +kernel
theorem dX12_firstEmpty_25 : decode cX12_firstEmpty 25 = .ok (.iload_n 1, 1) := by decide +kernel
theorem dX12_firstEmpty_26 : decode cX12_firstEmpty 26 = .ok (.ireturn, 1) := by decide +kernel
theorem dX12_comes_0 : decode cX12_comes 0 = .ok (.aload_n 0, 1) := by decide +kernel
theorem dX12_comes_1 : decode cX12_comes 1 = .ok (.getfield 95, 3) := by decide +kernel
theorem dX12_comes_4 : decode cX12_comes 4 = .ok (.iload_n 1, 1) := by decide +kernel
theorem dX12_comes_5 : decode cX12_comes 5 = .ok (.iconst 1, 1) := by decide +kernel
theorem dX12_comes_6 : decode cX12_comes 6 = .ok (.bastore, 1) := by decide +kernel
theorem dX12_comes_7 : decode cX12_comes 7 = .ok (.aload_n 0, 1) := by decide +kernel
theorem dX12_comes_8 : decode cX12_comes 8 = .ok (.invokevirtual 264, 3) := by decide +kernel
theorem dX12_comes_11 : decode cX12_comes 11 = .ok (.istore_n 2, 1) := by decide +kernel
theorem dX12_comes_12 : decode cX12_comes 12 = .ok (.iload_n 2, 1) := by decide +kernel
theorem dX12_comes_13 : decode cX12_comes 13 = .ok (.ifCond .le 25, 3) := by decide +kernel
theorem dX12_comes_16 : decode cX12_comes 16 = .ok (.aload_n 0, 1) := by decide +kernel
theorem dX12_comes_17 : decode cX12_comes 17 = .ok (.aload_n 0, 1) := by decide +kernel
theorem dX12_comes_18 : decode cX12_comes 18 = .ok (.getfield 86, 3) := by decide +kernel
theorem dX12_comes_21 : decode cX12_comes 21 = .ok (.iload_n 2, 1) := by decide +kernel
theorem dX12_comes_22 : decode cX12_comes 22 = .ok (.iconst 1, 1) := by decide +kernel
theorem dX12_comes_23 : decode cX12_comes 23 = .ok (.isub, 1) := by decide +kernel
theorem dX12_comes_24 : decode cX12_comes 24 = .ok (.iaload, 1) := by decide +kernel
theorem dX12_comes_25 : decode cX12_comes 25 = .ok (.iload_n 2, 1) := by decide +kernel
theorem dX12_comes_26 : decode cX12_comes 26 = .ok (.iconst 1, 1) := by decide +kernel
theorem dX12_comes_27 : decode cX12_comes 27 = .ok (.isub, 1) := by decide +kernel
theorem dX12_comes_28 : decode cX12_comes 28 = .ok (.iload_n 2, 1) := by decide +kernel
theorem dX12_comes_29 : decode cX12_comes 29 = .ok (.invokevirtual 267, 3) := by decide +kernel
theorem dX12_comes_32 : decode cX12_comes 32 = .ok (.iinc 2 (-1), 3) := by decide +kernel
theorem dX12_comes_35 : decode cX12_comes 35 = .ok (.goto (-23), 3) := by decide +kernel
theorem dX12_comes_38 : decode cX12_comes 38 = .ok (.aload_n 0, 1) := by decide +kernel
theorem dX12_comes_39 : decode cX12_comes 39 = .ok (.iload_n 1, 1) := by decide +kernel
theorem dX12_comes_40 : decode cX12_comes 40 = .ok (.iconst (-1), 1) := by decide +kernel
theorem dX12_comes_41 : decode cX12_comes 41 = .ok (.iconst 0, 1) := by decide +kernel
theorem dX12_comes_42 : decode cX12_comes 42 = .ok (.invokevirtual 267, 3) := by decide +kernel
theorem dX12_comes_45 : decode cX12_comes 45 = .ok (.return_, 1) := by decide +kernel
theorem dX12_roomOf_0 : decode cX12_roomOf 0 = .ok (.iconst 0, 1) := by decide +kernel
theorem dX12_roomOf_1 : decode cX12_roomOf 1 = .ok (.istore_n 2, 1) := by decide +kernel
theorem dX12_roomOf_2 : decode cX12_roomOf 2 = .ok (.iload_n 2, 1) := by decide +kernel
theorem dX12_roomOf_3 : decode cX12_roomOf 3 = .ok (.aload_n 0, 1) := by decide +kernel
theorem dX12_roomOf_4 : decode cX12_roomOf 4 = .ok (.invokevirtual 231, 3) := by decide +kernel
theorem dX12_roomOf_7 : decode cX12_roomOf 7 = .ok (.if_icmp .ge 21, 3) := by decide +kernel
theorem dX12_roomOf_10 : decode cX12_roomOf 10 = .ok (.aload_n 0, 1) := by decide +kernel
theorem dX12_roomOf_11 : decode cX12_roomOf 11 = .ok (.getfield 86, 3) := by decide +kernel
theorem dX12_roomOf_14 : decode cX12_roomOf 14 = .ok (.iload_n 2, 1) := by decide +kernel
theorem dX12_roomOf_15 : decode cX12_roomOf 15 = .ok (.iaload, 1) := by decide +kernel
theorem dX12_roomOf_16 : decode cX12_roomOf 16 = .ok (.iload_n 1, 1) := by decide +kernel
theorem dX12_roomOf_17 : decode cX12_roomOf 17 = .ok (.if_icmp .ne 5, 3) := by decide +kernel
theorem dX12_roomOf_20 : decode cX12_roomOf 20 = .ok (.iload_n 2, 1) := by decide +kernel
theorem dX12_roomOf_21 : decode cX12_roomOf 21 = .ok (.ireturn, 1) := by decide +kernel
theorem dX12_roomOf_22 : decode cX12_roomOf 22 = .ok (.iinc 2 1, 3) := by decide +kernel
theorem dX12_roomOf_25 : decode cX12_roomOf 25 = .ok (.goto (-23), 3) := by decide +kernel
theorem dX12_roomOf_28 : decode cX12_roomOf 28 = .ok (.iconst (-1), 1) := by decide +kernel
theorem dX12_roomOf_29 : decode cX12_roomOf 29 = .ok (.ireturn, 1) := by decide +kernel
theorem dX12_givesFor_0 : decode cX12_givesFor 0 = .ok (.aload_n 0, 1) := by decide +kernel
theorem dX12_givesFor_1 : decode cX12_givesFor 1 = .ok (.getfield 77, 3) := by decide +kernel
theorem dX12_givesFor_4 : decode cX12_givesFor 4 = .ok (.iconst 0, 1) := by decide +kernel
theorem dX12_givesFor_5 : decode cX12_givesFor 5 = .ok (.aload_n 0, 1) := by decide +kernel
theorem dX12_givesFor_6 : decode cX12_givesFor 6 = .ok (.iload_n 2, 1) := by decide +kernel
theorem dX12_givesFor_7 : decode cX12_givesFor 7 = .ok (.iconst 0, 1) := by decide +kernel
theorem dX12_givesFor_8 : decode cX12_givesFor 8 = .ok (.invokevirtual 261, 3) := by decide +kernel
theorem dX12_givesFor_11 : decode cX12_givesFor 11 = .ok (.iastore, 1) := by decide +kernel
theorem dX12_givesFor_12 : decode cX12_givesFor 12 = .ok (.aload_n 0, 1) := by decide +kernel
theorem dX12_givesFor_13 : decode cX12_givesFor 13 = .ok (.getfield 77, 3) := by decide +kernel
theorem dX12_givesFor_16 : decode cX12_givesFor 16 = .ok (.iconst 1, 1) := by decide +kernel
theorem dX12_givesFor_17 : decode cX12_givesFor 17 = .ok (.aload_n 0, 1) := by decide +kernel
theorem dX12_givesFor_18 : decode cX12_givesFor 18 = .ok (.iload_n 2, 1) := by decide +kernel
theorem dX12_givesFor_19 : decode cX12_givesFor 19 = .ok (.iconst 1, 1) := by decide +kernel
theorem dX12_givesFor_20 : decode cX12_givesFor 20 = .ok (.invokevirtual 261, 3) := by decide +kernel
theorem dX12_givesFor_23 : decode cX12_givesFor 23 = .ok (.iastore, 1) := by decide +kernel
theorem dX12_givesFor_24 : decode cX12_givesFor 24 = .ok (.aload_n 0, 1) := by decide +kernel
theorem dX12_givesFor_25 : decode cX12_givesFor 25 = .ok (.getfield 77, 3) := by decide +kernel
theorem dX12_givesFor_28 : decode cX12_givesFor 28 = .ok (.iconst 2, 1) := by decide +kernel
theorem dX12_givesFor_29 : decode cX12_givesFor 29 = .ok (.aload_n 0, 1) := by decide +kernel
theorem dX12_givesFor_30 : decode cX12_givesFor 30 = .ok (.iload_n 2, 1) := by decide +kernel
theorem dX12_givesFor_31 : decode cX12_givesFor 31 = .ok (.iconst 2, 1) := by decide +kernel
theorem dX12_givesFor_32 : decode cX12_givesFor 32 = .ok (.invokevirtual 261, 3) := by decide +kernel
theorem dX12_givesFor_35 : decode cX12_givesFor 35 = .ok (.iastore, 1) := by decide +kernel
theorem dX12_givesFor_36 : decode cX12_givesFor 36 = .ok (.aload_n 0, 1) := by decide +kernel
theorem dX12_givesFor_37 : decode cX12_givesFor 37 = .ok (.getfield 77, 3) := by decide +kernel
theorem dX12_givesFor_40 : decode cX12_givesFor 40 = .ok (.iconst 3, 1) := by decide +kernel
theorem dX12_givesFor_41 : decode cX12_givesFor 41 = .ok (.iload_n 3, 1) := by decide +kernel
theorem dX12_givesFor_42 : decode cX12_givesFor 42 = .ok (.iastore, 1) := by decide +kernel
theorem dX12_givesFor_43 : decode cX12_givesFor 43 = .ok (.aload_n 0, 1) := by decide +kernel
theorem dX12_givesFor_44 : decode cX12_givesFor 44 = .ok (.getfield 77, 3) := by decide +kernel
theorem dX12_givesFor_47 : decode cX12_givesFor 47 = .ok (.iconst 4, 1) := by decide +kernel
theorem dX12_givesFor_48 : decode cX12_givesFor 48 = .ok (.iload 4, 2) := by decide +kernel
theorem dX12_givesFor_50 : decode cX12_givesFor 50 = .ok (.iastore, 1) := by decide +kernel
theorem dX12_givesFor_51 : decode cX12_givesFor 51 = .ok (.aload_n 0, 1) := by decide +kernel
theorem dX12_givesFor_52 : decode cX12_givesFor 52 = .ok (.getfield 77, 3) := by decide +kernel
theorem dX12_givesFor_55 : decode cX12_givesFor 55 = .ok (.iconst 5, 1) := by decide +kernel
theorem dX12_givesFor_56 : decode cX12_givesFor 56 = .ok (.aload_n 0, 1) := by decide +kernel
theorem dX12_givesFor_57 : decode cX12_givesFor 57 = .ok (.iload_n 3, 1) := by decide +kernel
theorem dX12_givesFor_58 : decode cX12_givesFor 58 = .ok (.iload 4, 2) := by decide +kernel
theorem dX12_givesFor_60 : decode cX12_givesFor 60 = .ok (.invokevirtual 258, 3) := by decide +kernel
theorem dX12_givesFor_63 : decode cX12_givesFor 63 = .ok (.iastore, 1) := by decide +kernel
theorem dX12_givesFor_64 : decode cX12_givesFor 64 = .ok (.aload_n 0, 1) := by decide +kernel
theorem dX12_givesFor_65 : decode cX12_givesFor 65 = .ok (.getfield 77, 3) := by decide +kernel
theorem dX12_givesFor_68 : decode cX12_givesFor 68 = .ok (.bipush 6, 2) := by decide +kernel
theorem dX12_givesFor_70 : decode cX12_givesFor 70 = .ok (.aload_n 0, 1) := by decide +kernel
theorem dX12_givesFor_71 : decode cX12_givesFor 71 = .ok (.getfield 65, 3) := by decide +kernel
theorem dX12_givesFor_74 : decode cX12_givesFor 74 = .ok (.iconst 3, 1) := by decide +kernel
theorem dX12_givesFor_75 : decode cX12_givesFor 75 = .ok (.iconst 2, 1) := by decide +kernel
theorem dX12_givesFor_76 : decode cX12_givesFor 76 = .ok (.iload 4, 2) := by decide +kernel
theorem dX12_givesFor_78 : decode cX12_givesFor 78 = .ok (.imul, 1) := by decide +kernel
theorem dX12_givesFor_79 : decode cX12_givesFor 79 = .ok (.iadd, 1) := by decide +kernel
theorem dX12_givesFor_80 : decode cX12_givesFor 80 = .ok (.iconst 1, 1) := by decide +kernel
theorem dX12_givesFor_81 : decode cX12_givesFor 81 = .ok (.iadd, 1) := by decide +kernel
theorem dX12_givesFor_82 : decode cX12_givesFor 82 = .ok (.iaload, 1) := by decide +kernel
theorem dX12_givesFor_83 : decode cX12_givesFor 83 = .ok (.iastore, 1) := by decide +kernel
theorem dX12_givesFor_84 : decode cX12_givesFor 84 = .ok (.aload_n 0, 1) := by decide +kernel
theorem dX12_givesFor_85 : decode cX12_givesFor 85 = .ok (.getfield 77, 3) := by decide +kernel
theorem dX12_givesFor_88 : decode cX12_givesFor 88 = .ok (.bipush 7, 2) := by decide +kernel
theorem dX12_givesFor_90 : decode cX12_givesFor 90 = .ok (.aload_n 0, 1) := by decide +kernel
theorem dX12_givesFor_91 : decode cX12_givesFor 91 = .ok (.getfield 89, 3) := by decide +kernel
theorem dX12_givesFor_94 : decode cX12_givesFor 94 = .ok (.iload_n 2, 1) := by decide +kernel
theorem dX12_givesFor_95 : decode cX12_givesFor 95 = .ok (.iaload, 1) := by decide +kernel
theorem dX12_givesFor_96 : decode cX12_givesFor 96 = .ok (.iastore, 1) := by decide +kernel
theorem dX12_givesFor_97 : decode cX12_givesFor 97 = .ok (.aload_n 0, 1) := by decide +kernel
theorem dX12_givesFor_98 : decode cX12_givesFor 98 = .ok (.aload_n 0, 1) := by decide +kernel
theorem dX12_givesFor_99 : decode cX12_givesFor 99 = .ok (.getfield 65, 3) := by decide +kernel
theorem dX12_givesFor_102 : decode cX12_givesFor 102 = .ok (.bipush 53, 2) := by decide +kernel
theorem dX12_givesFor_104 : decode cX12_givesFor 104 = .ok (.iload_n 1, 1) := by decide +kernel
theorem dX12_givesFor_105 : decode cX12_givesFor 105 = .ok (.iadd, 1) := by decide +kernel
theorem dX12_givesFor_106 : decode cX12_givesFor 106 = .ok (.iaload, 1) := by decide +kernel
theorem dX12_givesFor_107 : decode cX12_givesFor 107 = .ok (.invokevirtual 271, 3) := by decide +kernel
theorem dX12_givesFor_110 : decode cX12_givesFor 110 = .ok (.ireturn, 1) := by decide +kernel
theorem dX12_leaves_0 : decode cX12_leaves 0 = .ok (.aload_n 0, 1) := by decide +kernel
theorem dX12_leaves_1 : decode cX12_leaves 1 = .ok (.iload_n 1, 1) := by decide +kernel
theorem dX12_leaves_2 : decode cX12_leaves 2 = .ok (.invokevirtual 274, 3) := by decide +kernel
theorem dX12_leaves_5 : decode cX12_leaves 5 = .ok (.istore_n 3, 1) := by decide +kernel
theorem dX12_leaves_6 : decode cX12_leaves 6 = .ok (.aload_n 0, 1) := by decide +kernel
theorem dX12_leaves_7 : decode cX12_leaves 7 = .ok (.iload_n 1, 1) := by decide +kernel
theorem dX12_leaves_8 : decode cX12_leaves 8 = .ok (.iload_n 3, 1) := by decide +kernel
theorem dX12_leaves_9 : decode cX12_leaves 9 = .ok (.iconst (-1), 1) := by decide +kernel
theorem dX12_leaves_10 : decode cX12_leaves 10 = .ok (.invokevirtual 267, 3) := by decide +kernel
theorem dX12_leaves_13 : decode cX12_leaves 13 = .ok (.iload_n 3, 1) := by decide +kernel
theorem dX12_leaves_14 : decode cX12_leaves 14 = .ok (.ifCond .lt 121, 3) := by decide +kernel
theorem dX12_leaves_17 : decode cX12_leaves 17 = .ok (.iload_n 2, 1) := by decide +kernel
theorem dX12_leaves_18 : decode cX12_leaves 18 = .ok (.ifCond .lt 117, 3) := by decide +kernel
theorem dX12_leaves_21 : decode cX12_leaves 21 = .ok (.iconst (-1), 1) := by decide +kernel
theorem dX12_leaves_22 : decode cX12_leaves 22 = .ok (.istore 4, 2) := by decide +kernel
theorem dX12_leaves_24 : decode cX12_leaves 24 = .ok (.iconst 0, 1) := by decide +kernel
theorem dX12_leaves_25 : decode cX12_leaves 25 = .ok (.istore 5, 2) := by decide +kernel
theorem dX12_leaves_27 : decode cX12_leaves 27 = .ok (.iload_n 3, 1) := by decide +kernel
theorem dX12_leaves_28 : decode cX12_leaves 28 = .ok (.iconst 1, 1) := by decide +kernel
theorem dX12_leaves_29 : decode cX12_leaves 29 = .ok (.iadd, 1) := by decide +kernel
theorem dX12_leaves_30 : decode cX12_leaves 30 = .ok (.istore 6, 2) := by decide +kernel
theorem dX12_leaves_32 : decode cX12_leaves 32 = .ok (.iload 6, 2) := by decide +kernel
theorem dX12_leaves_34 : decode cX12_leaves 34 = .ok (.aload_n 0, 1) := by decide +kernel
theorem dX12_leaves_35 : decode cX12_leaves 35 = .ok (.invokevirtual 231, 3) := by decide +kernel
theorem dX12_leaves_38 : decode cX12_leaves 38 = .ok (.if_icmp .ge 72, 3) := by decide +kernel
theorem dX12_leaves_41 : decode cX12_leaves 41 = .ok (.aload_n 0, 1) := by decide +kernel
theorem dX12_leaves_42 : decode cX12_leaves 42 = .ok (.getfield 86, 3) := by decide +kernel
theorem dX12_leaves_45 : decode cX12_leaves 45 = .ok (.iload 6, 2) := by decide +kernel
theorem dX12_leaves_47 : decode cX12_leaves 47 = .ok (.iaload, 1) := by decide +kernel
theorem dX12_leaves_48 : decode cX12_leaves 48 = .ok (.ifCond .ge 7, 3) := by decide +kernel
theorem dX12_leaves_51 : decode cX12_leaves 51 = .ok (.iconst 0, 1) := by decide +kernel
theorem dX12_leaves_52 : decode cX12_leaves 52 = .ok (.goto 18, 3) := by decide +kernel
theorem dX12_leaves_55 : decode cX12_leaves 55 = .ok (.aload_n 0, 1) := by decide +kernel

theorem dX12_goesOn_166 : decode cX12_goesOn 166 = .ok (.invokevirtual 151, 3) := by decide +kernel
theorem dX12_goesOn_169 : decode cX12_goesOn 169 = .ok (.lstore 11, 2) := by decide +kernel
theorem dX12_goesOn_171 : decode cX12_goesOn 171 = .ok (.aload_n 0, 1) := by decide +kernel
theorem dX12_goesOn_172 : decode cX12_goesOn 172 = .ok (.getfield 46, 3) := by decide +kernel
theorem dX12_goesOn_175 : decode cX12_goesOn 175 = .ok (.iload 10, 2) := by decide +kernel
theorem dX12_goesOn_177 : decode cX12_goesOn 177 = .ok (.iload 7, 2) := by decide +kernel
theorem dX12_goesOn_179 : decode cX12_goesOn 179 = .ok (.iadd, 1) := by decide +kernel
theorem dX12_goesOn_180 : decode cX12_goesOn 180 = .ok (.iload_n 2, 1) := by decide +kernel
theorem dX12_goesOn_181 : decode cX12_goesOn 181 = .ok (.isub, 1) := by decide +kernel
theorem dX12_goesOn_182 : decode cX12_goesOn 182 = .ok (.aload_n 0, 1) := by decide +kernel
theorem dX12_goesOn_183 : decode cX12_goesOn 183 = .ok (.aload_n 0, 1) := by decide +kernel
theorem dX12_goesOn_184 : decode cX12_goesOn 184 = .ok (.getfield 46, 3) := by decide +kernel
theorem dX12_goesOn_187 : decode cX12_goesOn 187 = .ok (.iload 10, 2) := by decide +kernel
theorem dX12_goesOn_189 : decode cX12_goesOn 189 = .ok (.iload 7, 2) := by decide +kernel
theorem dX12_goesOn_191 : decode cX12_goesOn 191 = .ok (.iadd, 1) := by decide +kernel
theorem dX12_goesOn_192 : decode cX12_goesOn 192 = .ok (.iload_n 2, 1) := by decide +kernel
theorem dX12_goesOn_193 : decode cX12_goesOn 193 = .ok (.isub, 1) := by decide +kernel
theorem dX12_goesOn_194 : decode cX12_goesOn 194 = .ok (.laload, 1) := by decide +kernel
theorem dX12_goesOn_195 : decode cX12_goesOn 195 = .ok (.lload_n 3, 1) := by decide +kernel
theorem dX12_goesOn_196 : decode cX12_goesOn 196 = .ok (.lconst 0, 1) := by decide +kernel
theorem dX12_goesOn_197 : decode cX12_goesOn 197 = .ok (.lcmp, 1) := by decide +kernel
theorem dX12_goesOn_198 : decode cX12_goesOn 198 = .ok (.ifCond .ge 12, 3) := by decide +kernel
theorem dX12_goesOn_201 : decode cX12_goesOn 201 = .ok (.aload_n 0, 1) := by decide +kernel
theorem dX12_goesOn_202 : decode cX12_goesOn 202 = .ok (.lload 11, 2) := by decide +kernel
theorem dX12_goesOn_204 : decode cX12_goesOn 204 = .ok (.invokevirtual 147, 3) := by decide +kernel
theorem dX12_goesOn_207 : decode cX12_goesOn 207 = .ok (.goto 5, 3) := by decide +kernel
theorem dX12_goesOn_210 : decode cX12_goesOn 210 = .ok (.lload 11, 2) := by decide +kernel
theorem dX12_goesOn_212 : decode cX12_goesOn 212 = .ok (.invokevirtual 161, 3) := by decide +kernel
theorem dX12_goesOn_215 : decode cX12_goesOn 215 = .ok (.lastore, 1) := by decide +kernel
theorem dX12_goesOn_216 : decode cX12_goesOn 216 = .ok (.iinc 10 1, 3) := by decide +kernel
theorem dX12_goesOn_219 : decode cX12_goesOn 219 = .ok (.goto (-74), 3) := by decide +kernel
theorem dX12_goesOn_222 : decode cX12_goesOn 222 = .ok (.aload_n 0, 1) := by decide +kernel
theorem dX12_goesOn_223 : decode cX12_goesOn 223 = .ok (.getfield 46, 3) := by decide +kernel
theorem dX12_goesOn_226 : decode cX12_goesOn 226 = .ok (.invokestatic 73, 3) := by decide +kernel
theorem dX12_goesOn_229 : decode cX12_goesOn 229 = .ok (.istore 7, 2) := by decide +kernel
theorem dX12_goesOn_231 : decode cX12_goesOn 231 = .ok (.goto (-147), 3) := by decide +kernel
theorem dX12_goesOn_234 : decode cX12_goesOn 234 = .ok (.iconst 0, 1) := by decide +kernel
theorem dX12_goesOn_235 : decode cX12_goesOn 235 = .ok (.istore 7, 2) := by decide +kernel
theorem dX12_goesOn_237 : decode cX12_goesOn 237 = .ok (.iload 7, 2) := by decide +kernel
theorem dX12_goesOn_239 : decode cX12_goesOn 239 = .ok (.bipush 7, 2) := by decide +kernel
theorem dX12_goesOn_241 : decode cX12_goesOn 241 = .ok (.if_icmp .ge 42, 3) := by decide +kernel
theorem dX12_goesOn_244 : decode cX12_goesOn 244 = .ok (.aload_n 0, 1) := by decide +kernel
theorem dX12_goesOn_245 : decode cX12_goesOn 245 = .ok (.getfield 69, 3) := by decide +kernel
theorem dX12_goesOn_248 : decode cX12_goesOn 248 = .ok (.ifCond .ne 35, 3) := by decide +kernel
theorem dX12_goesOn_251 : decode cX12_goesOn 251 = .ok (.aload_n 0, 1) := by decide +kernel
theorem dX12_goesOn_252 : decode cX12_goesOn 252 = .ok (.getfield 43, 3) := by decide +kernel
theorem dX12_goesOn_255 : decode cX12_goesOn 255 = .ok (.bipush 7, 2) := by decide +kernel
theorem dX12_goesOn_257 : decode cX12_goesOn 257 = .ok (.aload_n 0, 1) := by decide +kernel
theorem dX12_goesOn_258 : decode cX12_goesOn 258 = .ok (.getfield 229, 3) := by decide +kernel
theorem dX12_goesOn_261 : decode cX12_goesOn 261 = .ok (.imul, 1) := by decide +kernel
theorem dX12_goesOn_262 : decode cX12_goesOn 262 = .ok (.iload 7, 2) := by decide +kernel
theorem dX12_goesOn_264 : decode cX12_goesOn 264 = .ok (.iadd, 1) := by decide +kernel
theorem dX12_goesOn_265 : decode cX12_goesOn 265 = .ok (.aload_n 0, 1) := by decide +kernel
theorem dX12_goesOn_266 : decode cX12_goesOn 266 = .ok (.aload_n 0, 1) := by decide +kernel
theorem dX12_goesOn_267 : decode cX12_goesOn 267 = .ok (.getfield 46, 3) := by decide +kernel
theorem dX12_goesOn_270 : decode cX12_goesOn 270 = .ok (.iload 7, 2) := by decide +kernel
theorem dX12_goesOn_272 : decode cX12_goesOn 272 = .ok (.laload, 1) := by decide +kernel
theorem dX12_goesOn_273 : decode cX12_goesOn 273 = .ok (.invokevirtual 147, 3) := by decide +kernel
theorem dX12_goesOn_276 : decode cX12_goesOn 276 = .ok (.lastore, 1) := by decide +kernel
theorem dX12_goesOn_277 : decode cX12_goesOn 277 = .ok (.iinc 7 1, 3) := by decide +kernel
theorem dX12_goesOn_280 : decode cX12_goesOn 280 = .ok (.goto (-43), 3) := by decide +kernel
theorem dX12_goesOn_283 : decode cX12_goesOn 283 = .ok (.aload_n 0, 1) := by decide +kernel
theorem dX12_goesOn_284 : decode cX12_goesOn 284 = .ok (.getfield 69, 3) := by decide +kernel
theorem dX12_goesOn_287 : decode cX12_goesOn 287 = .ok (.ifCond .ne 17, 3) := by decide +kernel
theorem dX12_goesOn_290 : decode cX12_goesOn 290 = .ok (.aload_n 0, 1) := by decide +kernel
theorem dX12_goesOn_291 : decode cX12_goesOn 291 = .ok (.getfield 46, 3) := by decide +kernel
theorem dX12_goesOn_294 : decode cX12_goesOn 294 = .ok (.invokestatic 73, 3) := by decide +kernel
theorem dX12_goesOn_297 : decode cX12_goesOn 297 = .ok (.ifCond .lt 7, 3) := by decide +kernel
theorem dX12_goesOn_300 : decode cX12_goesOn 300 = .ok (.iconst 1, 1) := by decide +kernel
theorem dX12_goesOn_301 : decode cX12_goesOn 301 = .ok (.goto 4, 3) := by decide +kernel
theorem dX12_goesOn_304 : decode cX12_goesOn 304 = .ok (.iconst 0, 1) := by decide +kernel
theorem dX12_goesOn_305 : decode cX12_goesOn 305 = .ok (.ireturn, 1) := by decide +kernel
theorem dX12_laysChain_0 : decode cX12_laysChain 0 = .ok (.aload_n 0, 1) := by decide +kernel
theorem dX12_laysChain_1 : decode cX12_laysChain 1 = .ok (.iconst 1, 1) := by decide +kernel
theorem dX12_laysChain_2 : decode cX12_laysChain 2 = .ok (.aload_n 0, 1) := by decide +kernel
theorem dX12_laysChain_3 : decode cX12_laysChain 3 = .ok (.getfield 11, 3) := by decide +kernel
theorem dX12_laysChain_6 : decode cX12_laysChain 6 = .ok (.bipush 14, 2) := by decide +kernel
theorem dX12_laysChain_8 : decode cX12_laysChain 8 = .ok (.iaload, 1) := by decide +kernel
theorem dX12_laysChain_9 : decode cX12_laysChain 9 = .ok (.invokevirtual 97, 3) := by decide +kernel
theorem dX12_laysChain_12 : decode cX12_laysChain 12 = .ok (.aload_n 0, 1) := by decide +kernel
theorem dX12_laysChain_13 : decode cX12_laysChain 13 = .ok (.iconst 0, 1) := by decide +kernel
theorem dX12_laysChain_14 : decode cX12_laysChain 14 = .ok (.putfield 69, 3) := by decide +kernel
theorem dX12_laysChain_17 : decode cX12_laysChain 17 = .ok (.aload_n 0, 1) := by decide +kernel
theorem dX12_laysChain_18 : decode cX12_laysChain 18 = .ok (.iconst 0, 1) := by decide +kernel
theorem dX12_laysChain_19 : decode cX12_laysChain 19 = .ok (.putfield 229, 3) := by decide +kernel
theorem dX12_laysChain_22 : decode cX12_laysChain 22 = .ok (.aload_n 0, 1) := by decide +kernel
theorem dX12_laysChain_23 : decode cX12_laysChain 23 = .ok (.getfield 77, 3) := by decide +kernel
theorem dX12_laysChain_26 : decode cX12_laysChain 26 = .ok (.iconst 1, 1) := by decide +kernel
theorem dX12_laysChain_27 : decode cX12_laysChain 27 = .ok (.if_icmp .ge 6, 3) := by decide +kernel
theorem dX12_laysChain_30 : decode cX12_laysChain 30 = .ok (.bipush (-2), 2) := by decide +kernel
theorem dX12_laysChain_32 : decode cX12_laysChain 32 = .ok (.ireturn, 1) := by decide +kernel
theorem dX12_laysChain_33 : decode cX12_laysChain 33 = .ok (.iconst 0, 1) := by decide +kernel
theorem dX12_laysChain_34 : decode cX12_laysChain 34 = .ok (.istore_n 1, 1) := by decide +kernel
theorem dX12_laysChain_35 : decode cX12_laysChain 35 = .ok (.iload_n 1, 1) := by decide +kernel
theorem dX12_laysChain_36 : decode cX12_laysChain 36 = .ok (.bipush 7, 2) := by decide +kernel
theorem dX12_laysChain_38 : decode cX12_laysChain 38 = .ok (.if_icmp .ge 53, 3) := by decide +kernel
theorem dX12_laysChain_41 : decode cX12_laysChain 41 = .ok (.aload_n 0, 1) := by decide +kernel
theorem dX12_laysChain_42 : decode cX12_laysChain 42 = .ok (.getfield 43, 3) := by decide +kernel
theorem dX12_laysChain_45 : decode cX12_laysChain 45 = .ok (.iload_n 1, 1) := by decide +kernel
theorem dX12_laysChain_46 : decode cX12_laysChain 46 = .ok (.aload_n 0, 1) := by decide +kernel
theorem dX12_laysChain_47 : decode cX12_laysChain 47 = .ok (.getfield 18, 3) := by decide +kernel
theorem dX12_laysChain_50 : decode cX12_laysChain 50 = .ok (.iload_n 1, 1) := by decide +kernel
theorem dX12_laysChain_51 : decode cX12_laysChain 51 = .ok (.laload, 1) := by decide +kernel
theorem dX12_laysChain_52 : decode cX12_laysChain 52 = .ok (.lastore, 1) := by decide +kernel
theorem dX12_laysChain_53 : decode cX12_laysChain 53 = .ok (.aload_n 0, 1) := by decide +kernel
theorem dX12_laysChain_54 : decode cX12_laysChain 54 = .ok (.getfield 43, 3) := by decide +kernel
theorem dX12_laysChain_57 : decode cX12_laysChain 57 = .ok (.bipush 7, 2) := by decide +kernel
theorem dX12_laysChain_59 : decode cX12_laysChain 59 = .ok (.iload_n 1, 1) := by decide +kernel
theorem dX12_laysChain_60 : decode cX12_laysChain 60 = .ok (.iadd, 1) := by decide +kernel
theorem dX12_laysChain_61 : decode cX12_laysChain 61 = .ok (.iload_n 1, 1) := by decide +kernel
theorem dX12_laysChain_62 : decode cX12_laysChain 62 = .ok (.bipush 6, 2) := by decide +kernel
theorem dX12_laysChain_64 : decode cX12_laysChain 64 = .ok (.if_icmp .ge 19, 3) := by decide +kernel
theorem dX12_laysChain_67 : decode cX12_laysChain 67 = .ok (.iload_n 1, 1) := by decide +kernel
theorem dX12_laysChain_68 : decode cX12_laysChain 68 = .ok (.iconst 1, 1) := by decide +kernel
theorem dX12_laysChain_69 : decode cX12_laysChain 69 = .ok (.iadd, 1) := by decide +kernel
theorem dX12_laysChain_70 : decode cX12_laysChain 70 = .ok (.i2l, 1) := by decide +kernel
theorem dX12_laysChain_71 : decode cX12_laysChain 71 = .ok (.aload_n 0, 1) := by decide +kernel
theorem dX12_laysChain_72 : decode cX12_laysChain 72 = .ok (.getfield 18, 3) := by decide +kernel
theorem dX12_laysChain_75 : decode cX12_laysChain 75 = .ok (.iload_n 1, 1) := by decide +kernel
theorem dX12_laysChain_76 : decode cX12_laysChain 76 = .ok (.iconst 1, 1) := by decide +kernel
theorem dX12_laysChain_77 : decode cX12_laysChain 77 = .ok (.iadd, 1) := by decide +kernel
theorem dX12_laysChain_78 : decode cX12_laysChain 78 = .ok (.laload, 1) := by decide +kernel
theorem dX12_laysChain_79 : decode cX12_laysChain 79 = .ok (.lmul, 1) := by decide +kernel
theorem dX12_laysChain_80 : decode cX12_laysChain 80 = .ok (.goto 4, 3) := by decide +kernel
theorem dX12_laysChain_83 : decode cX12_laysChain 83 = .ok (.lconst 0, 1) := by decide +kernel
theorem dX12_laysChain_84 : decode cX12_laysChain 84 = .ok (.lastore, 1) := by decide +kernel
theorem dX12_laysChain_85 : decode cX12_laysChain 85 = .ok (.iinc 1 1, 3) := by decide +kernel
theorem dX12_laysChain_88 : decode cX12_laysChain 88 = .ok (.goto (-53), 3) := by decide +kernel
theorem dX12_laysChain_91 : decode cX12_laysChain 91 = .ok (.aload_n 0, 1) := by decide +kernel
theorem dX12_laysChain_92 : decode cX12_laysChain 92 = .ok (.iconst 0, 1) := by decide +kernel
theorem dX12_laysChain_93 : decode cX12_laysChain 93 = .ok (.invokevirtual 235, 3) := by decide +kernel
theorem dX12_laysChain_96 : decode cX12_laysChain 96 = .ok (.aload_n 0, 1) := by decide +kernel
theorem dX12_laysChain_97 : decode cX12_laysChain 97 = .ok (.iconst 1, 1) := by decide +kernel
theorem dX12_laysChain_98 : decode cX12_laysChain 98 = .ok (.invokevirtual 235, 3) := by decide +kernel
theorem dX12_laysChain_101 : decode cX12_laysChain 101 = .ok (.aload_n 0, 1) := by decide +kernel
theorem dX12_laysChain_102 : decode cX12_laysChain 102 = .ok (.invokevirtual 238, 3) := by decide +kernel
theorem dX12_laysChain_105 : decode cX12_laysChain 105 = .ok (.ifCond .eq 14, 3) := by decide +kernel
theorem dX12_laysChain_108 : decode cX12_laysChain 108 = .ok (.aload_n 0, 1) := by decide +kernel
theorem dX12_laysChain_109 : decode cX12_laysChain 109 = .ok (.aload_n 0, 1) := by decide +kernel
theorem dX12_laysChain_110 : decode cX12_laysChain 110 = .ok (.getfield 229, 3) := by decide +kernel
theorem dX12_laysChain_113 : decode cX12_laysChain 113 = .ok (.invokevirtual 235, 3) := by decide +kernel
theorem dX12_laysChain_116 : decode cX12_laysChain 116 = .ok (.goto (-15), 3) := by decide +kernel
theorem dX12_laysChain_119 : decode cX12_laysChain 119 = .ok (.aload_n 0, 1) := by decide +kernel
theorem dX12_laysChain_120 : decode cX12_laysChain 120 = .ok (.getfield 69, 3) := by decide +kernel
theorem dX12_laysChain_123 : decode cX12_laysChain 123 = .ok (.ifCond .eq 8, 3) := by decide +kernel
theorem dX12_laysChain_126 : decode cX12_laysChain 126 = .ok (.bipush (-7), 2) := by decide +kernel
theorem dX12_laysChain_128 : decode cX12_laysChain 128 = .ok (.goto 4, 3) := by decide +kernel
theorem dX12_laysChain_131 : decode cX12_laysChain 131 = .ok (.iconst 0, 1) := by decide +kernel
theorem dX12_laysChain_132 : decode cX12_laysChain 132 = .ok (.ireturn, 1) := by decide +kernel
theorem dX12_links_0 : decode cX12_links 0 = .ok (.aload_n 0, 1) := by decide +kernel
theorem dX12_links_1 : decode cX12_links 1 = .ok (.invokevirtual 242, 3) := by decide +kernel
theorem dX12_links_4 : decode cX12_links 4 = .ok (.istore_n 1, 1) := by decide +kernel
theorem dX12_links_5 : decode cX12_links 5 = .ok (.iload_n 1, 1) := by decide +kernel
theorem dX12_links_6 : decode cX12_links 6 = .ok (.ifCond .ge 7, 3) := by decide +kernel
theorem dX12_links_9 : decode cX12_links 9 = .ok (.iload_n 1, 1) := by decide +kernel
theorem dX12_links_10 : decode cX12_links 10 = .ok (.goto 7, 3) := by decide +kernel
theorem dX12_links_13 : decode cX12_links 13 = .ok (.aload_n 0, 1) := by decide +kernel
theorem dX12_links_14 : decode cX12_links 14 = .ok (.getfield 229, 3) := by decide +kernel
theorem dX12_links_17 : decode cX12_links 17 = .ok (.ireturn, 1) := by decide +kernel
theorem dX12_link_0 : decode cX12_link 0 = .ok (.aload_n 0, 1) := by decide +kernel
theorem dX12_link_1 : decode cX12_link 1 = .ok (.invokevirtual 242, 3) := by decide +kernel
theorem dX12_link_4 : decode cX12_link 4 = .ok (.ifCond .lt 26, 3) := by decide +kernel
theorem dX12_link_7 : decode cX12_link 7 = .ok (.iload_n 1, 1) := by decide +kernel
theorem dX12_link_8 : decode cX12_link 8 = .ok (.i2l, 1) := by decide +kernel
theorem dX12_link_9 : decode cX12_link 9 = .ok (.lconst 0, 1) := by decide +kernel
theorem dX12_link_10 : decode cX12_link 10 = .ok (.aload_n 0, 1) := by decide +kernel
theorem dX12_link_11 : decode cX12_link 11 = .ok (.getfield 229, 3) := by decide +kernel
theorem dX12_link_14 : decode cX12_link 14 = .ok (.iconst 1, 1) := by decide +kernel
theorem dX12_link_15 : decode cX12_link 15 = .ok (.isub, 1) := by decide +kernel
theorem dX12_link_16 : decode cX12_link 16 = .ok (.i2l, 1) := by decide +kernel
theorem dX12_link_17 : decode cX12_link 17 = .ok (.invokestatic 83, 3) := by decide +kernel
theorem dX12_link_20 : decode cX12_link 20 = .ok (.ifCond .eq 10, 3) := by decide +kernel
theorem dX12_link_23 : decode cX12_link 23 = .ok (.iload_n 2, 1) := by decide +kernel
theorem dX12_link_24 : decode cX12_link 24 = .ok (.invokestatic 87, 3) := by decide +kernel
theorem dX12_link_27 : decode cX12_link 27 = .ok (.ifCond .ne 9, 3) := by decide +kernel
theorem dX12_link_30 : decode cX12_link 30 = .ok (.ldc2_w 67, 3) := by decide +kernel
theorem dX12_link_33 : decode cX12_link 33 = .ok (.goto 14, 3) := by decide +kernel
theorem dX12_link_36 : decode cX12_link 36 = .ok (.aload_n 0, 1) := by decide +kernel
theorem dX12_link_37 : decode cX12_link 37 = .ok (.getfield 43, 3) := by decide +kernel
theorem dX12_link_40 : decode cX12_link 40 = .ok (.bipush 7, 2) := by decide +kernel
theorem dX12_link_42 : decode cX12_link 42 = .ok (.iload_n 1, 1) := by decide +kernel
theorem dX12_link_43 : decode cX12_link 43 = .ok (.imul, 1) := by decide +kernel
theorem dX12_link_44 : decode cX12_link 44 = .ok (.iload_n 2, 1) := by decide +kernel
theorem dX12_link_45 : decode cX12_link 45 = .ok (.iadd, 1) := by decide +kernel
theorem dX12_link_46 : decode cX12_link 46 = .ok (.laload, 1) := by decide +kernel
theorem dX12_link_47 : decode cX12_link 47 = .ok (.lreturn, 1) := by decide +kernel
theorem dX12_valueAt_0 : decode cX12_valueAt 0 = .ok (.aload_n 0, 1) := by decide +kernel
theorem dX12_valueAt_1 : decode cX12_valueAt 1 = .ok (.iload_n 1, 1) := by decide +kernel
theorem dX12_valueAt_2 : decode cX12_valueAt 2 = .ok (.invokevirtual 232, 3) := by decide +kernel
theorem dX12_valueAt_5 : decode cX12_valueAt 5 = .ok (.istore_n 3, 1) := by decide +kernel
theorem dX12_valueAt_6 : decode cX12_valueAt 6 = .ok (.aload_n 0, 1) := by decide +kernel
theorem dX12_valueAt_7 : decode cX12_valueAt 7 = .ok (.getfield 43, 3) := by decide +kernel
theorem dX12_valueAt_10 : decode cX12_valueAt 10 = .ok (.bipush 7, 2) := by decide +kernel
theorem dX12_valueAt_12 : decode cX12_valueAt 12 = .ok (.iload_n 1, 1) := by decide +kernel
theorem dX12_valueAt_13 : decode cX12_valueAt 13 = .ok (.imul, 1) := by decide +kernel
theorem dX12_valueAt_14 : decode cX12_valueAt 14 = .ok (.iload_n 3, 1) := by decide +kernel
theorem dX12_valueAt_15 : decode cX12_valueAt 15 = .ok (.iadd, 1) := by decide +kernel
theorem dX12_valueAt_16 : decode cX12_valueAt 16 = .ok (.laload, 1) := by decide +kernel
theorem dX12_valueAt_17 : decode cX12_valueAt 17 = .ok (.lstore 4, 2) := by decide +kernel
theorem dX12_valueAt_19 : decode cX12_valueAt 19 = .ok (.iload_n 3, 1) := by decide +kernel
theorem dX12_valueAt_20 : decode cX12_valueAt 20 = .ok (.iconst 1, 1) := by decide +kernel
theorem dX12_valueAt_21 : decode cX12_valueAt 21 = .ok (.isub, 1) := by decide +kernel
theorem dX12_valueAt_22 : decode cX12_valueAt 22 = .ok (.istore 6, 2) := by decide +kernel
theorem dX12_valueAt_24 : decode cX12_valueAt 24 = .ok (.iload 6, 2) := by decide +kernel
theorem dX12_valueAt_26 : decode cX12_valueAt 26 = .ok (.ifCond .lt 35, 3) := by decide +kernel
theorem dX12_valueAt_29 : decode cX12_valueAt 29 = .ok (.aload_n 0, 1) := by decide +kernel
theorem dX12_valueAt_30 : decode cX12_valueAt 30 = .ok (.aload_n 0, 1) := by decide +kernel
theorem dX12_valueAt_31 : decode cX12_valueAt 31 = .ok (.lload 4, 2) := by decide +kernel
theorem dX12_valueAt_33 : decode cX12_valueAt 33 = .ok (.iload_n 2, 1) := by decide +kernel
theorem dX12_valueAt_34 : decode cX12_valueAt 34 = .ok (.i2l, 1) := by decide +kernel
theorem dX12_valueAt_35 : decode cX12_valueAt 35 = .ok (.invokevirtual 151, 3) := by decide +kernel
theorem dX12_valueAt_38 : decode cX12_valueAt 38 = .ok (.aload_n 0, 1) := by decide +kernel
theorem dX12_valueAt_39 : decode cX12_valueAt 39 = .ok (.getfield 43, 3) := by decide +kernel
theorem dX12_valueAt_42 : decode cX12_valueAt 42 = .ok (.bipush 7, 2) := by decide +kernel
theorem dX12_valueAt_44 : decode cX12_valueAt 44 = .ok (.iload_n 1, 1) := by decide +kernel
theorem dX12_valueAt_45 : decode cX12_valueAt 45 = .ok (.imul, 1) := by decide +kernel
theorem dX12_valueAt_46 : decode cX12_valueAt 46 = .ok (.iload 6, 2) := by decide +kernel
theorem dX12_valueAt_48 : decode cX12_valueAt 48 = .ok (.iadd, 1) := by decide +kernel
theorem dX12_valueAt_49 : decode cX12_valueAt 49 = .ok (.laload, 1) := by decide +kernel
theorem dX12_valueAt_50 : decode cX12_valueAt 50 = .ok (.invokevirtual 155, 3) := by decide +kernel
theorem dX12_valueAt_53 : decode cX12_valueAt 53 = .ok (.lstore 4, 2) := by decide +kernel
theorem dX12_valueAt_55 : decode cX12_valueAt 55 = .ok (.iinc 6 (-1), 3) := by decide +kernel
theorem dX12_valueAt_58 : decode cX12_valueAt 58 = .ok (.goto (-34), 3) := by decide +kernel
theorem dX12_valueAt_61 : decode cX12_valueAt 61 = .ok (.lload 4, 2) := by decide +kernel
theorem dX12_valueAt_63 : decode cX12_valueAt 63 = .ok (.lreturn, 1) := by decide +kernel
theorem dX12_changesAt_0 : decode cX12_changesAt 0 = .ok (.iconst 0, 1) := by decide +kernel
theorem dX12_changesAt_1 : decode cX12_changesAt 1 = .ok (.istore_n 2, 1) := by decide +kernel
theorem dX12_changesAt_2 : decode cX12_changesAt 2 = .ok (.lconst 0, 1) := by decide +kernel
theorem dX12_changesAt_3 : decode cX12_changesAt 3 = .ok (.lstore_n 3, 1) := by decide +kernel
theorem dX12_changesAt_4 : decode cX12_changesAt 4 = .ok (.iconst 0, 1) := by decide +kernel
theorem dX12_changesAt_5 : decode cX12_changesAt 5 = .ok (.istore 5, 2) := by decide +kernel
theorem dX12_changesAt_7 : decode cX12_changesAt 7 = .ok (.iload 5, 2) := by decide +kernel
theorem dX12_changesAt_9 : decode cX12_changesAt 9 = .ok (.aload_n 0, 1) := by decide +kernel
theorem dX12_changesAt_10 : decode cX12_changesAt 10 = .ok (.getfield 229, 3) := by decide +kernel
theorem dX12_changesAt_13 : decode cX12_changesAt 13 = .ok (.if_icmp .ge 79, 3) := by decide +kernel
theorem dX12_changesAt_16 : decode cX12_changesAt 16 = .ok (.aload_n 0, 1) := by decide +kernel
theorem dX12_changesAt_17 : decode cX12_changesAt 17 = .ok (.iload 5, 2) := by decide +kernel
theorem dX12_changesAt_19 : decode cX12_changesAt 19 = .ok (.iload_n 1, 1) := by decide +kernel
theorem dX12_changesAt_20 : decode cX12_changesAt 20 = .ok (.invokevirtual 245, 3) := by decide +kernel
theorem dX12_changesAt_23 : decode cX12_changesAt 23 = .ok (.lstore 6, 2) := by decide +kernel
theorem dX12_changesAt_25 : decode cX12_changesAt 25 = .ok (.iload_n 2, 1) := by decide +kernel
theorem dX12_changesAt_26 : decode cX12_changesAt 26 = .ok (.lload 6, 2) := by decide +kernel
theorem dX12_changesAt_28 : decode cX12_changesAt 28 = .ok (.lconst 0, 1) := by decide +kernel
theorem dX12_changesAt_29 : decode cX12_changesAt 29 = .ok (.lcmp, 1) := by decide +kernel
theorem dX12_changesAt_30 : decode cX12_changesAt 30 = .ok (.ifCond .eq 39, 3) := by decide +kernel
theorem dX12_changesAt_33 : decode cX12_changesAt 33 = .ok (.lload_n 3, 1) := by decide +kernel
theorem dX12_changesAt_34 : decode cX12_changesAt 34 = .ok (.lconst 0, 1) := by decide +kernel
theorem dX12_changesAt_35 : decode cX12_changesAt 35 = .ok (.lcmp, 1) := by decide +kernel
theorem dX12_changesAt_36 : decode cX12_changesAt 36 = .ok (.ifCond .eq 33, 3) := by decide +kernel
theorem dX12_changesAt_39 : decode cX12_changesAt 39 = .ok (.lload 6, 2) := by decide +kernel
theorem dX12_changesAt_41 : decode cX12_changesAt 41 = .ok (.lconst 0, 1) := by decide +kernel
theorem dX12_changesAt_42 : decode cX12_changesAt 42 = .ok (.lcmp, 1) := by decide +kernel
theorem dX12_changesAt_43 : decode cX12_changesAt 43 = .ok (.ifCond .ge 7, 3) := by decide +kernel
theorem dX12_changesAt_46 : decode cX12_changesAt 46 = .ok (.iconst 1, 1) := by decide +kernel
theorem dX12_changesAt_47 : decode cX12_changesAt 47 = .ok (.goto 4, 3) := by decide +kernel
theorem dX12_changesAt_50 : decode cX12_changesAt 50 = .ok (.iconst 0, 1) := by decide +kernel
theorem dX12_changesAt_51 : decode cX12_changesAt 51 = .ok (.lload_n 3, 1) := by decide +kernel
theorem dX12_changesAt_52 : decode cX12_changesAt 52 = .ok (.lconst 0, 1) := by decide +kernel
theorem dX12_changesAt_53 : decode cX12_changesAt 53 = .ok (.lcmp, 1) := by decide +kernel
theorem dX12_changesAt_54 : decode cX12_changesAt 54 = .ok (.ifCond .ge 7, 3) := by decide +kernel
theorem dX12_changesAt_57 : decode cX12_changesAt 57 = .ok (.iconst 1, 1) := by decide +kernel
theorem dX12_changesAt_58 : decode cX12_changesAt 58 = .ok (.goto 4, 3) := by decide +kernel
theorem dX12_changesAt_61 : decode cX12_changesAt 61 = .ok (.iconst 0, 1) := by decide +kernel
theorem dX12_changesAt_62 : decode cX12_changesAt 62 = .ok (.if_icmp .eq 7, 3) := by decide +kernel
theorem dX12_changesAt_65 : decode cX12_changesAt 65 = .ok (.iconst 1, 1) := by decide +kernel
theorem dX12_changesAt_66 : decode cX12_changesAt 66 = .ok (.goto 4, 3) := by decide +kernel
theorem dX12_changesAt_69 : decode cX12_changesAt 69 = .ok (.iconst 0, 1) := by decide +kernel
theorem dX12_changesAt_70 : decode cX12_changesAt 70 = .ok (.iadd, 1) := by decide +kernel
theorem dX12_changesAt_71 : decode cX12_changesAt 71 = .ok (.istore_n 2, 1) := by decide +kernel
theorem dX12_changesAt_72 : decode cX12_changesAt 72 = .ok (.lload 6, 2) := by decide +kernel
theorem dX12_changesAt_74 : decode cX12_changesAt 74 = .ok (.lconst 0, 1) := by decide +kernel
theorem dX12_changesAt_75 : decode cX12_changesAt 75 = .ok (.lcmp, 1) := by decide +kernel
theorem dX12_changesAt_76 : decode cX12_changesAt 76 = .ok (.ifCond .ne 7, 3) := by decide +kernel
theorem dX12_changesAt_79 : decode cX12_changesAt 79 = .ok (.lload_n 3, 1) := by decide +kernel
theorem dX12_changesAt_80 : decode cX12_changesAt 80 = .ok (.goto 5, 3) := by decide +kernel
theorem dX12_changesAt_83 : decode cX12_changesAt 83 = .ok (.lload 6, 2) := by decide +kernel
theorem dX12_changesAt_85 : decode cX12_changesAt 85 = .ok (.lstore_n 3, 1) := by decide +kernel
theorem dX12_changesAt_86 : decode cX12_changesAt 86 = .ok (.iinc 5 1, 3) := by decide +kernel
theorem dX12_changesAt_89 : decode cX12_changesAt 89 = .ok (.goto (-82), 3) := by decide +kernel
theorem dX12_changesAt_92 : decode cX12_changesAt 92 = .ok (.iload_n 2, 1) := by decide +kernel
theorem dX12_changesAt_93 : decode cX12_changesAt 93 = .ok (.ireturn, 1) := by decide +kernel
theorem dX12_chain_0 : decode cX12_chain 0 = .ok (.iload_n 1, 1) := by decide +kernel
theorem dX12_chain_1 : decode cX12_chain 1 = .ok (.invokestatic 201, 3) := by decide +kernel
theorem dX12_chain_4 : decode cX12_chain 4 = .ok (.ifCond .eq 10, 3) := by decide +kernel
theorem dX12_chain_7 : decode cX12_chain 7 = .ok (.aload_n 0, 1) := by decide +kernel
theorem dX12_chain_8 : decode cX12_chain 8 = .ok (.invokevirtual 242, 3) := by decide +kernel
theorem dX12_chain_11 : decode cX12_chain 11 = .ok (.goto 5, 3) := by decide +kernel
theorem dX12_chain_14 : decode cX12_chain 14 = .ok (.bipush (-2), 2) := by decide +kernel
theorem dX12_chain_16 : decode cX12_chain 16 = .ok (.istore_n 2, 1) := by decide +kernel
theorem dX12_chain_17 : decode cX12_chain 17 = .ok (.iload_n 2, 1) := by decide +kernel
theorem dX12_chain_18 : decode cX12_chain 18 = .ok (.ifCond .ge 5, 3) := by decide +kernel
theorem dX12_chain_21 : decode cX12_chain 21 = .ok (.iload_n 2, 1) := by decide +kernel
theorem dX12_chain_22 : decode cX12_chain 22 = .ok (.ireturn, 1) := by decide +kernel
theorem dX12_chain_23 : decode cX12_chain 23 = .ok (.aload_n 0, 1) := by decide +kernel
theorem dX12_chain_24 : decode cX12_chain 24 = .ok (.iload_n 1, 1) := by decide +kernel
theorem dX12_chain_25 : decode cX12_chain 25 = .ok (.invokevirtual 248, 3) := by decide +kernel
theorem dX12_chain_28 : decode cX12_chain 28 = .ok (.istore_n 3, 1) := by decide +kernel
theorem dX12_chain_29 : decode cX12_chain 29 = .ok (.aload_n 0, 1) := by decide +kernel
theorem dX12_chain_30 : decode cX12_chain 30 = .ok (.getfield 69, 3) := by decide +kernel
theorem dX12_chain_33 : decode cX12_chain 33 = .ok (.ifCond .eq 8, 3) := by decide +kernel
theorem dX12_chain_36 : decode cX12_chain 36 = .ok (.bipush (-7), 2) := by decide +kernel
theorem dX12_chain_38 : decode cX12_chain 38 = .ok (.goto 4, 3) := by decide +kernel
theorem dX12_chain_41 : decode cX12_chain 41 = .ok (.iload_n 3, 1) := by decide +kernel
theorem dX12_chain_42 : decode cX12_chain 42 = .ok (.ireturn, 1) := by decide +kernel
theorem dX12_real_0 : decode cX12_real 0 = .ok (.iload_n 1, 1) := by decide +kernel
theorem dX12_real_1 : decode cX12_real 1 = .ok (.invokestatic 201, 3) := by decide +kernel
theorem dX12_real_4 : decode cX12_real 4 = .ok (.ifCond .eq 22, 3) := by decide +kernel
theorem dX12_real_7 : decode cX12_real 7 = .ok (.iload_n 2, 1) := by decide +kernel
theorem dX12_real_8 : decode cX12_real 8 = .ok (.invokestatic 201, 3) := by decide +kernel
theorem dX12_real_11 : decode cX12_real 11 = .ok (.ifCond .eq 15, 3) := by decide +kernel
theorem dX12_real_14 : decode cX12_real 14 = .ok (.iload_n 2, 1) := by decide +kernel
theorem dX12_real_15 : decode cX12_real 15 = .ok (.iload_n 1, 1) := by decide +kernel
theorem dX12_real_16 : decode cX12_real 16 = .ok (.if_icmp .le 10, 3) := by decide +kernel
theorem dX12_real_19 : decode cX12_real 19 = .ok (.aload_n 0, 1) := by decide +kernel
theorem dX12_real_20 : decode cX12_real 20 = .ok (.invokevirtual 242, 3) := by decide +kernel
theorem dX12_real_23 : decode cX12_real 23 = .ok (.goto 5, 3) := by decide +kernel
theorem dX12_real_26 : decode cX12_real 26 = .ok (.bipush (-2), 2) := by decide +kernel
theorem dX12_real_28 : decode cX12_real 28 = .ok (.istore_n 3, 1) := by decide +kernel
theorem dX12_real_29 : decode cX12_real 29 = .ok (.iload_n 3, 1) := by decide +kernel
theorem dX12_real_30 : decode cX12_real 30 = .ok (.ifCond .ge 5, 3) := by decide +kernel
theorem dX12_real_33 : decode cX12_real 33 = .ok (.iload_n 3, 1) := by decide +kernel
theorem dX12_real_34 : decode cX12_real 34 = .ok (.ireturn, 1) := by decide +kernel
theorem dX12_real_35 : decode cX12_real 35 = .ok (.aload_n 0, 1) := by decide +kernel
theorem dX12_real_36 : decode cX12_real 36 = .ok (.iload_n 1, 1) := by decide +kernel
theorem dX12_real_37 : decode cX12_real 37 = .ok (.invokevirtual 248, 3) := by decide +kernel
theorem dX12_real_40 : decode cX12_real 40 = .ok (.aload_n 0, 1) := by decide +kernel
theorem dX12_real_41 : decode cX12_real 41 = .ok (.iload_n 2, 1) := by decide +kernel
theorem dX12_real_42 : decode cX12_real 42 = .ok (.invokevirtual 248, 3) := by decide +kernel
theorem dX12_real_45 : decode cX12_real 45 = .ok (.isub, 1) := by decide +kernel
theorem dX12_real_46 : decode cX12_real 46 = .ok (.bipush 100, 2) := by decide +kernel
theorem dX12_real_48 : decode cX12_real 48 = .ok (.iadd, 1) := by decide +kernel
theorem dX12_real_49 : decode cX12_real 49 = .ok (.istore 4, 2) := by decide +kernel
theorem dX12_real_51 : decode cX12_real 51 = .ok (.aload_n 0, 1) := by decide +kernel
theorem dX12_real_52 : decode cX12_real 52 = .ok (.getfield 69, 3) := by decide +kernel
theorem dX12_real_55 : decode cX12_real 55 = .ok (.ifCond .eq 8, 3) := by decide +kernel
theorem dX12_real_58 : decode cX12_real 58 = .ok (.bipush (-7), 2) := by decide +kernel
theorem dX12_real_60 : decode cX12_real 60 = .ok (.goto 5, 3) := by decide +kernel
theorem dX12_real_63 : decode cX12_real 63 = .ok (.iload 4, 2) := by decide +kernel
theorem dX12_real_65 : decode cX12_real 65 = .ok (.ireturn, 1) := by decide +kernel
theorem dX12_feed_0 : decode cX12_feed 0 = .ok (.iload_n 1, 1) := by decide +kernel
theorem dX12_feed_1 : decode cX12_feed 1 = .ok (.i2l, 1) := by decide +kernel
theorem dX12_feed_2 : decode cX12_feed 2 = .ok (.lconst 0, 1) := by decide +kernel
theorem dX12_feed_3 : decode cX12_feed 3 = .ok (.ldc2_w 251, 3) := by decide +kernel
theorem dX12_feed_6 : decode cX12_feed 6 = .ok (.invokestatic 83, 3) := by decide +kernel
theorem dX12_feed_9 : decode cX12_feed 9 = .ok (.ifCond .ne 6, 3) := by decide +kernel
theorem dX12_feed_12 : decode cX12_feed 12 = .ok (.bipush (-2), 2) := by decide +kernel
theorem dX12_feed_14 : decode cX12_feed 14 = .ok (.ireturn, 1) := by decide +kernel
theorem dX12_feed_15 : decode cX12_feed 15 = .ok (.aload_n 0, 1) := by decide +kernel
theorem dX12_feed_16 : decode cX12_feed 16 = .ok (.getfield 253, 3) := by decide +kernel
theorem dX12_feed_19 : decode cX12_feed 19 = .ok (.bipush 60, 2) := by decide +kernel
theorem dX12_feed_21 : decode cX12_feed 21 = .ok (.if_icmp .ne 6, 3) := by decide +kernel
theorem dX12_feed_24 : decode cX12_feed 24 = .ok (.bipush (-4), 2) := by decide +kernel
theorem dX12_feed_26 : decode cX12_feed 26 = .ok (.ireturn, 1) := by decide +kernel
theorem dX12_feed_27 : decode cX12_feed 27 = .ok (.aload_n 0, 1) := by decide +kernel
theorem dX12_feed_28 : decode cX12_feed 28 = .ok (.getfield 49, 3) := by decide +kernel
theorem dX12_feed_31 : decode cX12_feed 31 = .ok (.aload_n 0, 1) := by decide +kernel
theorem dX12_feed_32 : decode cX12_feed 32 = .ok (.getfield 253, 3) := by decide +kernel
theorem dX12_feed_35 : decode cX12_feed 35 = .ok (.iload_n 1, 1) := by decide +kernel
theorem dX12_feed_36 : decode cX12_feed 36 = .ok (.iastore, 1) := by decide +kernel
theorem dX12_feed_37 : decode cX12_feed 37 = .ok (.aload_n 0, 1) := by decide +kernel
theorem dX12_feed_38 : decode cX12_feed 38 = .ok (.dup, 1) := by decide +kernel
theorem dX12_feed_39 : decode cX12_feed 39 = .ok (.getfield 253, 3) := by decide +kernel
theorem dX12_feed_42 : decode cX12_feed 42 = .ok (.iconst 1, 1) := by decide +kernel
theorem dX12_feed_43 : decode cX12_feed 43 = .ok (.iadd, 1) := by decide +kernel
theorem dX12_feed_44 : decode cX12_feed 44 = .ok (.putfield 253, 3) := by decide +kernel
theorem dX12_feed_47 : decode cX12_feed 47 = .ok (.aload_n 0, 1) := by decide +kernel
theorem dX12_feed_48 : decode cX12_feed 48 = .ok (.getfield 253, 3) := by decide +kernel
theorem dX12_feed_51 : decode cX12_feed 51 = .ok (.ireturn, 1) := by decide +kernel
theorem dX12_here_0 : decode cX12_here 0 = .ok (.aload_n 0, 1) := by decide +kernel
theorem dX12_here_1 : decode cX12_here 1 = .ok (.getfield 256, 3) := by decide +kernel
theorem dX12_here_4 : decode cX12_here 4 = .ok (.aload_n 0, 1) := by decide +kernel
theorem dX12_here_5 : decode cX12_here 5 = .ok (.getfield 253, 3) := by decide +kernel
theorem dX12_here_8 : decode cX12_here 8 = .ok (.if_icmp .ge 15, 3) := by decide +kernel
theorem dX12_here_11 : decode cX12_here 11 = .ok (.aload_n 0, 1) := by decide +kernel
theorem dX12_here_12 : decode cX12_here 12 = .ok (.getfield 49, 3) := by decide +kernel
theorem dX12_here_15 : decode cX12_here 15 = .ok (.aload_n 0, 1) := by decide +kernel
theorem dX12_here_16 : decode cX12_here 16 = .ok (.getfield 256, 3) := by decide +kernel
theorem dX12_here_19 : decode cX12_here 19 = .ok (.iaload, 1) := by decide +kernel
theorem dX12_here_20 : decode cX12_here 20 = .ok (.goto 4, 3) := by decide +kernel
theorem dX12_here_23 : decode cX12_here 23 = .ok (.iconst (-1), 1) := by decide +kernel
theorem dX12_here_24 : decode cX12_here 24 = .ok (.ireturn, 1) := by decide +kernel
theorem dX12_isDigit_0 : decode cX12_isDigit 0 = .ok (.aload_n 0, 1) := by decide +kernel
theorem dX12_isDigit_1 : decode cX12_isDigit 1 = .ok (.invokevirtual 259, 3) := by decide +kernel
theorem dX12_isDigit_4 : decode cX12_isDigit 4 = .ok (.i2l, 1) := by decide +kernel
theorem dX12_isDigit_5 : decode cX12_isDigit 5 = .ok (.ldc2_w 262, 3) := by decide +kernel
theorem dX12_isDigit_8 : decode cX12_isDigit 8 = .ok (.ldc2_w 264, 3) := by decide +kernel
theorem dX12_isDigit_11 : decode cX12_isDigit 11 = .ok (.invokestatic 83, 3) := by decide +kernel
theorem dX12_isDigit_14 : decode cX12_isDigit 14 = .ok (.ireturn, 1) := by decide +kernel
theorem dX12_isSign_0 : decode cX12_isSign 0 = .ok (.aload_n 0, 1) := by decide +kernel
theorem dX12_isSign_1 : decode cX12_isSign 1 = .ok (.invokevirtual 259, 3) := by decide +kernel
theorem dX12_isSign_4 : decode cX12_isSign 4 = .ok (.bipush 43, 2) := by decide +kernel
theorem dX12_isSign_6 : decode cX12_isSign 6 = .ok (.if_icmp .eq 12, 3) := by decide +kernel
theorem dX12_isSign_9 : decode cX12_isSign 9 = .ok (.aload_n 0, 1) := by decide +kernel
theorem dX12_isSign_10 : decode cX12_isSign 10 = .ok (.invokevirtual 259, 3) := by decide +kernel
theorem dX12_isSign_13 : decode cX12_isSign 13 = .ok (.bipush 45, 2) := by decide +kernel
theorem dX12_isSign_15 : decode cX12_isSign 15 = .ok (.if_icmp .ne 7, 3) := by decide +kernel
theorem dX12_isSign_18 : decode cX12_isSign 18 = .ok (.iconst 1, 1) := by decide +kernel
theorem dX12_isSign_19 : decode cX12_isSign 19 = .ok (.goto 4, 3) := by decide +kernel
theorem dX12_isSign_22 : decode cX12_isSign 22 = .ok (.iconst 0, 1) := by decide +kernel
theorem dX12_isSign_23 : decode cX12_isSign 23 = .ok (.ireturn, 1) := by decide +kernel
theorem dX12_term_0 : decode cX12_term 0 = .ok (.aload_n 0, 1) := by decide +kernel
theorem dX12_term_1 : decode cX12_term 1 = .ok (.getfield 256, 3) := by decide +kernel
theorem dX12_term_4 : decode cX12_term 4 = .ok (.istore_n 3, 1) := by decide +kernel
theorem dX12_term_5 : decode cX12_term 5 = .ok (.aload_n 0, 1) := by decide +kernel
theorem dX12_term_6 : decode cX12_term 6 = .ok (.invokevirtual 266, 3) := by decide +kernel
theorem dX12_term_9 : decode cX12_term 9 = .ok (.ifCond .ne 21, 3) := by decide +kernel
theorem dX12_term_12 : decode cX12_term 12 = .ok (.aload_n 0, 1) := by decide +kernel
theorem dX12_term_13 : decode cX12_term 13 = .ok (.invokevirtual 259, 3) := by decide +kernel
theorem dX12_term_16 : decode cX12_term 16 = .ok (.bipush 115, 2) := by decide +kernel
theorem dX12_term_18 : decode cX12_term 18 = .ok (.if_icmp .eq 12, 3) := by decide +kernel
theorem dX12_term_21 : decode cX12_term 21 = .ok (.aload_n 0, 1) := by decide +kernel
theorem dX12_term_22 : decode cX12_term 22 = .ok (.aload_n 0, 1) := by decide +kernel
theorem dX12_term_23 : decode cX12_term 23 = .ok (.getfield 256, 3) := by decide +kernel
theorem dX12_term_26 : decode cX12_term 26 = .ok (.putfield 269, 3) := by decide +kernel
theorem dX12_term_29 : decode cX12_term 29 = .ok (.return_, 1) := by decide +kernel
theorem dX12_term_30 : decode cX12_term 30 = .ok (.aload_n 0, 1) := by decide +kernel
theorem dX12_term_31 : decode cX12_term 31 = .ok (.invokevirtual 266, 3) := by decide +kernel
theorem dX12_term_34 : decode cX12_term 34 = .ok (.ifCond .eq 7, 3) := by decide +kernel
theorem dX12_term_37 : decode cX12_term 37 = .ok (.iconst 0, 1) := by decide +kernel
theorem dX12_term_38 : decode cX12_term 38 = .ok (.goto 4, 3) := by decide +kernel
theorem dX12_term_41 : decode cX12_term 41 = .ok (.iconst 1, 1) := by decide +kernel
theorem dX12_term_42 : decode cX12_term 42 = .ok (.istore 4, 2) := by decide +kernel
theorem dX12_term_44 : decode cX12_term 44 = .ok (.iconst 0, 1) := by decide +kernel
theorem dX12_term_45 : decode cX12_term 45 = .ok (.istore 5, 2) := by decide +kernel
theorem dX12_term_47 : decode cX12_term 47 = .ok (.iload 5, 2) := by decide +kernel
theorem dX12_term_49 : decode cX12_term 49 = .ok (.iconst 2, 1) := by decide +kernel
theorem dX12_term_50 : decode cX12_term 50 = .ok (.if_icmp .ge 41, 3) := by decide +kernel
theorem dX12_term_53 : decode cX12_term 53 = .ok (.aload_n 0, 1) := by decide +kernel
theorem dX12_term_54 : decode cX12_term 54 = .ok (.invokevirtual 266, 3) := by decide +kernel
theorem dX12_term_57 : decode cX12_term 57 = .ok (.ifCond .eq 34, 3) := by decide +kernel
theorem dX12_term_60 : decode cX12_term 60 = .ok (.bipush 10, 2) := by decide +kernel
theorem dX12_term_62 : decode cX12_term 62 = .ok (.iload 4, 2) := by decide +kernel
theorem dX12_term_64 : decode cX12_term 64 = .ok (.imul, 1) := by decide +kernel
theorem dX12_term_65 : decode cX12_term 65 = .ok (.aload_n 0, 1) := by decide +kernel
theorem dX12_term_66 : decode cX12_term 66 = .ok (.invokevirtual 259, 3) := by decide +kernel
theorem dX12_term_69 : decode cX12_term 69 = .ok (.iadd, 1) := by decide +kernel
theorem dX12_term_70 : decode cX12_term 70 = .ok (.bipush 48, 2) := by decide +kernel
theorem dX12_term_72 : decode cX12_term 72 = .ok (.isub, 1) := by decide +kernel
theorem dX12_term_73 : decode cX12_term 73 = .ok (.istore 4, 2) := by decide +kernel
theorem dX12_term_75 : decode cX12_term 75 = .ok (.aload_n 0, 1) := by decide +kernel
theorem dX12_term_76 : decode cX12_term 76 = .ok (.dup, 1) := by decide +kernel
theorem dX12_term_77 : decode cX12_term 77 = .ok (.getfield 256, 3) := by decide +kernel
theorem dX12_term_80 : decode cX12_term 80 = .ok (.iconst 1, 1) := by decide +kernel
theorem dX12_term_81 : decode cX12_term 81 = .ok (.iadd, 1) := by decide +kernel
theorem dX12_term_82 : decode cX12_term 82 = .ok (.putfield 256, 3) := by decide +kernel
theorem dX12_term_85 : decode cX12_term 85 = .ok (.iinc 5 1, 3) := by decide +kernel
theorem dX12_term_88 : decode cX12_term 88 = .ok (.goto (-41), 3) := by decide +kernel
theorem dX12_term_91 : decode cX12_term 91 = .ok (.iconst 0, 1) := by decide +kernel
theorem dX12_term_92 : decode cX12_term 92 = .ok (.istore 5, 2) := by decide +kernel
theorem dX12_term_94 : decode cX12_term 94 = .ok (.aload_n 0, 1) := by decide +kernel
theorem dX12_term_95 : decode cX12_term 95 = .ok (.invokevirtual 259, 3) := by decide +kernel
theorem dX12_term_98 : decode cX12_term 98 = .ok (.bipush 115, 2) := by decide +kernel
theorem dX12_term_100 : decode cX12_term 100 = .ok (.if_icmp .ne 52, 3) := by decide +kernel
theorem dX12_term_103 : decode cX12_term 103 = .ok (.aload_n 0, 1) := by decide +kernel
theorem dX12_term_104 : decode cX12_term 104 = .ok (.dup, 1) := by decide +kernel
theorem dX12_term_105 : decode cX12_term 105 = .ok (.getfield 256, 3) := by decide +kernel
theorem dX12_term_108 : decode cX12_term 108 = .ok (.iconst 1, 1) := by decide +kernel
theorem dX12_term_109 : decode cX12_term 109 = .ok (.iadd, 1) := by decide +kernel
theorem dX12_term_110 : decode cX12_term 110 = .ok (.putfield 256, 3) := by decide +kernel
theorem dX12_term_113 : decode cX12_term 113 = .ok (.iconst 1, 1) := by decide +kernel
theorem dX12_term_114 : decode cX12_term 114 = .ok (.istore 5, 2) := by decide +kernel
theorem dX12_term_116 : decode cX12_term 116 = .ok (.aload_n 0, 1) := by decide +kernel
theorem dX12_term_117 : decode cX12_term 117 = .ok (.invokevirtual 259, 3) := by decide +kernel
theorem dX12_term_120 : decode cX12_term 120 = .ok (.i2l, 1) := by decide +kernel
theorem dX12_term_121 : decode cX12_term 121 = .ok (.ldc2_w 272, 3) := by decide +kernel
theorem dX12_term_124 : decode cX12_term 124 = .ok (.ldc2_w 274, 3) := by decide +kernel
theorem dX12_term_127 : decode cX12_term 127 = .ok (.invokestatic 83, 3) := by decide +kernel
theorem dX12_term_130 : decode cX12_term 130 = .ok (.ifCond .eq 22, 3) := by decide +kernel
theorem dX12_term_133 : decode cX12_term 133 = .ok (.aload_n 0, 1) := by decide +kernel
theorem dX12_term_134 : decode cX12_term 134 = .ok (.invokevirtual 259, 3) := by decide +kernel
theorem dX12_term_137 : decode cX12_term 137 = .ok (.bipush 48, 2) := by decide +kernel
theorem dX12_term_139 : decode cX12_term 139 = .ok (.isub, 1) := by decide +kernel
theorem dX12_term_140 : decode cX12_term 140 = .ok (.istore 5, 2) := by decide +kernel
theorem dX12_term_142 : decode cX12_term 142 = .ok (.aload_n 0, 1) := by decide +kernel
theorem dX12_term_143 : decode cX12_term 143 = .ok (.dup, 1) := by decide +kernel
theorem dX12_term_144 : decode cX12_term 144 = .ok (.getfield 256, 3) := by decide +kernel
theorem dX12_term_147 : decode cX12_term 147 = .ok (.iconst 1, 1) := by decide +kernel
theorem dX12_term_148 : decode cX12_term 148 = .ok (.iadd, 1) := by decide +kernel
theorem dX12_term_149 : decode cX12_term 149 = .ok (.putfield 256, 3) := by decide +kernel
theorem dX12_term_152 : decode cX12_term 152 = .ok (.bipush 7, 2) := by decide +kernel
theorem dX12_term_154 : decode cX12_term 154 = .ok (.iload_n 1, 1) := by decide +kernel
theorem dX12_term_155 : decode cX12_term 155 = .ok (.imul, 1) := by decide +kernel
theorem dX12_term_156 : decode cX12_term 156 = .ok (.iload 5, 2) := by decide +kernel
theorem dX12_term_158 : decode cX12_term 158 = .ok (.iadd, 1) := by decide +kernel
theorem dX12_term_159 : decode cX12_term 159 = .ok (.istore 6, 2) := by decide +kernel
theorem dX12_term_161 : decode cX12_term 161 = .ok (.aload_n 0, 1) := by decide +kernel
theorem dX12_term_162 : decode cX12_term 162 = .ok (.getfield 52, 3) := by decide +kernel
theorem dX12_term_165 : decode cX12_term 165 = .ok (.iload 6, 2) := by decide +kernel
theorem dX12_term_167 : decode cX12_term 167 = .ok (.dup2, 1) := by decide +kernel
theorem dX12_term_168 : decode cX12_term 168 = .ok (.iaload, 1) := by decide +kernel
theorem dX12_term_169 : decode cX12_term 169 = .ok (.iload_n 2, 1) := by decide +kernel
theorem dX12_term_170 : decode cX12_term 170 = .ok (.ifCond .eq 9, 3) := by decide +kernel
theorem dX12_term_173 : decode cX12_term 173 = .ok (.iload 4, 2) := by decide +kernel
theorem dX12_term_175 : decode cX12_term 175 = .ok (.ineg, 1) := by decide +kernel
theorem dX12_term_176 : decode cX12_term 176 = .ok (.goto 5, 3) := by decide +kernel
theorem dX12_term_179 : decode cX12_term 179 = .ok (.iload 4, 2) := by decide +kernel
theorem dX12_term_181 : decode cX12_term 181 = .ok (.iadd, 1) := by decide +kernel
theorem dX12_term_182 : decode cX12_term 182 = .ok (.iastore, 1) := by decide +kernel
theorem dX12_term_183 : decode cX12_term 183 = .ok (.aload_n 0, 1) := by decide +kernel
theorem dX12_term_184 : decode cX12_term 184 = .ok (.dup, 1) := by decide +kernel
theorem dX12_term_185 : decode cX12_term 185 = .ok (.getfield 276, 3) := by decide +kernel
theorem dX12_term_188 : decode cX12_term 188 = .ok (.iconst 1, 1) := by decide +kernel
theorem dX12_term_189 : decode cX12_term 189 = .ok (.iadd, 1) := by decide +kernel
theorem dX12_term_190 : decode cX12_term 190 = .ok (.putfield 276, 3) := by decide +kernel
theorem dX12_term_193 : decode cX12_term 193 = .ok (.aload_n 0, 1) := by decide +kernel
theorem dX12_term_194 : decode cX12_term 194 = .ok (.aload_n 0, 1) := by decide +kernel
theorem dX12_term_195 : decode cX12_term 195 = .ok (.getfield 52, 3) := by decide +kernel
theorem dX12_term_198 : decode cX12_term 198 = .ok (.iload 6, 2) := by decide +kernel
theorem dX12_term_200 : decode cX12_term 200 = .ok (.iaload, 1) := by decide +kernel
theorem dX12_term_201 : decode cX12_term 201 = .ok (.i2l, 1) := by decide +kernel
theorem dX12_term_202 : decode cX12_term 202 = .ok (.ldc2_w 91, 3) := by decide +kernel
theorem dX12_term_205 : decode cX12_term 205 = .ok (.ldc2_w 93, 3) := by decide +kernel
theorem dX12_term_208 : decode cX12_term 208 = .ok (.invokestatic 83, 3) := by decide +kernel
theorem dX12_term_211 : decode cX12_term 211 = .ok (.ifCond .eq 10, 3) := by decide +kernel
theorem dX12_term_214 : decode cX12_term 214 = .ok (.aload_n 0, 1) := by decide +kernel
theorem dX12_term_215 : decode cX12_term 215 = .ok (.getfield 269, 3) := by decide +kernel
theorem dX12_term_218 : decode cX12_term 218 = .ok (.goto 4, 3) := by decide +kernel
theorem dX12_term_221 : decode cX12_term 221 = .ok (.iload_n 3, 1) := by decide +kernel
theorem dX12_term_222 : decode cX12_term 222 = .ok (.putfield 269, 3) := by decide +kernel
theorem dX12_term_225 : decode cX12_term 225 = .ok (.return_, 1) := by decide +kernel
theorem dX12_terms_0 : decode cX12_terms 0 = .ok (.aload_n 0, 1) := by decide +kernel
theorem dX12_terms_1 : decode cX12_terms 1 = .ok (.invokevirtual 259, 3) := by decide +kernel
theorem dX12_terms_4 : decode cX12_terms 4 = .ok (.bipush 45, 2) := by decide +kernel
theorem dX12_terms_6 : decode cX12_terms 6 = .ok (.if_icmp .ne 7, 3) := by decide +kernel
theorem dX12_terms_9 : decode cX12_terms 9 = .ok (.iconst 1, 1) := by decide +kernel
theorem dX12_terms_10 : decode cX12_terms 10 = .ok (.goto 4, 3) := by decide +kernel
theorem dX12_terms_13 : decode cX12_terms 13 = .ok (.iconst 0, 1) := by decide +kernel
theorem dX12_terms_14 : decode cX12_terms 14 = .ok (.istore_n 2, 1) := by decide +kernel
theorem dX12_terms_15 : decode cX12_terms 15 = .ok (.aload_n 0, 1) := by decide +kernel
theorem dX12_terms_16 : decode cX12_terms 16 = .ok (.dup, 1) := by decide +kernel
theorem dX12_terms_17 : decode cX12_terms 17 = .ok (.getfield 256, 3) := by decide +kernel
theorem dX12_terms_20 : decode cX12_terms 20 = .ok (.iload_n 2, 1) := by decide +kernel
theorem dX12_terms_21 : decode cX12_terms 21 = .ok (.ifCond .eq 7, 3) := by decide +kernel
theorem dX12_terms_24 : decode cX12_terms 24 = .ok (.iconst 1, 1) := by decide +kernel
theorem dX12_terms_25 : decode cX12_terms 25 = .ok (.goto 4, 3) := by decide +kernel
theorem dX12_terms_28 : decode cX12_terms 28 = .ok (.iconst 0, 1) := by decide +kernel
theorem dX12_terms_29 : decode cX12_terms 29 = .ok (.iadd, 1) := by decide +kernel
theorem dX12_terms_30 : decode cX12_terms 30 = .ok (.putfield 256, 3) := by decide +kernel
theorem dX12_terms_33 : decode cX12_terms 33 = .ok (.aload_n 0, 1) := by decide +kernel
theorem dX12_terms_34 : decode cX12_terms 34 = .ok (.iload_n 1, 1) := by decide +kernel
theorem dX12_terms_35 : decode cX12_terms 35 = .ok (.iload_n 2, 1) := by decide +kernel
theorem dX12_terms_36 : decode cX12_terms 36 = .ok (.invokevirtual 279, 3) := by decide +kernel
theorem dX12_terms_39 : decode cX12_terms 39 = .ok (.aload_n 0, 1) := by decide +kernel
theorem dX12_terms_40 : decode cX12_terms 40 = .ok (.getfield 269, 3) := by decide +kernel
theorem dX12_terms_43 : decode cX12_terms 43 = .ok (.ifCond .ge 77, 3) := by decide +kernel
theorem dX12_terms_46 : decode cX12_terms 46 = .ok (.aload_n 0, 1) := by decide +kernel
theorem dX12_terms_47 : decode cX12_terms 47 = .ok (.invokevirtual 283, 3) := by decide +kernel
theorem dX12_terms_50 : decode cX12_terms 50 = .ok (.ifCond .eq 70, 3) := by decide +kernel
theorem dX12_terms_53 : decode cX12_terms 53 = .ok (.iload_n 1, 1) := by decide +kernel
theorem dX12_terms_54 : decode cX12_terms 54 = .ok (.ifCond .ne 32, 3) := by decide +kernel
theorem dX12_terms_57 : decode cX12_terms 57 = .ok (.aload_n 0, 1) := by decide +kernel
theorem dX12_terms_58 : decode cX12_terms 58 = .ok (.getfield 256, 3) := by decide +kernel
theorem dX12_terms_61 : decode cX12_terms 61 = .ok (.iconst 1, 1) := by decide +kernel
theorem dX12_terms_62 : decode cX12_terms 62 = .ok (.iadd, 1) := by decide +kernel
theorem dX12_terms_63 : decode cX12_terms 63 = .ok (.aload_n 0, 1) := by decide +kernel
theorem dX12_terms_64 : decode cX12_terms 64 = .ok (.getfield 253, 3) := by decide +kernel
theorem dX12_terms_67 : decode cX12_terms 67 = .ok (.if_icmp .ge 19, 3) := by decide +kernel
theorem dX12_terms_70 : decode cX12_terms 70 = .ok (.aload_n 0, 1) := by decide +kernel
theorem dX12_terms_71 : decode cX12_terms 71 = .ok (.getfield 49, 3) := by decide +kernel
theorem dX12_terms_74 : decode cX12_terms 74 = .ok (.aload_n 0, 1) := by decide +kernel
theorem dX12_terms_75 : decode cX12_terms 75 = .ok (.getfield 256, 3) := by decide +kernel
theorem dX12_terms_78 : decode cX12_terms 78 = .ok (.iconst 1, 1) := by decide +kernel
theorem dX12_terms_79 : decode cX12_terms 79 = .ok (.iadd, 1) := by decide +kernel
theorem dX12_terms_80 : decode cX12_terms 80 = .ok (.iaload, 1) := by decide +kernel
theorem dX12_terms_81 : decode cX12_terms 81 = .ok (.bipush 75, 2) := by decide +kernel
theorem dX12_terms_83 : decode cX12_terms 83 = .ok (.if_icmp .eq 37, 3) := by decide +kernel
theorem dX12_terms_86 : decode cX12_terms 86 = .ok (.aload_n 0, 1) := by decide +kernel
theorem dX12_terms_87 : decode cX12_terms 87 = .ok (.invokevirtual 259, 3) := by decide +kernel
theorem dX12_terms_90 : decode cX12_terms 90 = .ok (.bipush 45, 2) := by decide +kernel
theorem dX12_terms_92 : decode cX12_terms 92 = .ok (.if_icmp .ne 7, 3) := by decide +kernel
theorem dX12_terms_95 : decode cX12_terms 95 = .ok (.iconst 1, 1) := by decide +kernel
theorem dX12_terms_96 : decode cX12_terms 96 = .ok (.goto 4, 3) := by decide +kernel
theorem dX12_terms_99 : decode cX12_terms 99 = .ok (.iconst 0, 1) := by decide +kernel
theorem dX12_terms_100 : decode cX12_terms 100 = .ok (.istore_n 2, 1) := by decide +kernel
theorem dX12_terms_101 : decode cX12_terms 101 = .ok (.aload_n 0, 1) := by decide +kernel
theorem dX12_terms_102 : decode cX12_terms 102 = .ok (.dup, 1) := by decide +kernel
theorem dX12_terms_103 : decode cX12_terms 103 = .ok (.getfield 256, 3) := by decide +kernel
theorem dX12_terms_106 : decode cX12_terms 106 = .ok (.iconst 1, 1) := by decide +kernel
theorem dX12_terms_107 : decode cX12_terms 107 = .ok (.iadd, 1) := by decide +kernel
theorem dX12_terms_108 : decode cX12_terms 108 = .ok (.putfield 256, 3) := by decide +kernel
theorem dX12_terms_111 : decode cX12_terms 111 = .ok (.aload_n 0, 1) := by decide +kernel
theorem dX12_terms_112 : decode cX12_terms 112 = .ok (.iload_n 1, 1) := by decide +kernel
theorem dX12_terms_113 : decode cX12_terms 113 = .ok (.iload_n 2, 1) := by decide +kernel
theorem dX12_terms_114 : decode cX12_terms 114 = .ok (.invokevirtual 279, 3) := by decide +kernel
theorem dX12_terms_117 : decode cX12_terms 117 = .ok (.goto (-78), 3) := by decide +kernel
theorem dX12_terms_120 : decode cX12_terms 120 = .ok (.return_, 1) := by decide +kernel
theorem dX12_must_0 : decode cX12_must 0 = .ok (.aload_n 0, 1) := by decide +kernel
theorem dX12_must_1 : decode cX12_must 1 = .ok (.getfield 269, 3) := by decide +kernel
theorem dX12_must_4 : decode cX12_must 4 = .ok (.ifCond .ge 36, 3) := by decide +kernel
theorem dX12_must_7 : decode cX12_must 7 = .ok (.aload_n 0, 1) := by decide +kernel
theorem dX12_must_8 : decode cX12_must 8 = .ok (.aload_n 0, 1) := by decide +kernel
theorem dX12_must_9 : decode cX12_must 9 = .ok (.invokevirtual 259, 3) := by decide +kernel
theorem dX12_must_12 : decode cX12_must 12 = .ok (.iload_n 1, 1) := by decide +kernel
theorem dX12_must_13 : decode cX12_must 13 = .ok (.if_icmp .ne 10, 3) := by decide +kernel
theorem dX12_must_16 : decode cX12_must 16 = .ok (.aload_n 0, 1) := by decide +kernel
theorem dX12_must_17 : decode cX12_must 17 = .ok (.getfield 269, 3) := by decide +kernel
theorem dX12_must_20 : decode cX12_must 20 = .ok (.goto 7, 3) := by decide +kernel
theorem dX12_must_23 : decode cX12_must 23 = .ok (.aload_n 0, 1) := by decide +kernel
theorem dX12_must_24 : decode cX12_must 24 = .ok (.getfield 256, 3) := by decide +kernel
theorem dX12_must_27 : decode cX12_must 27 = .ok (.putfield 269, 3) := by decide +kernel
theorem dX12_must_30 : decode cX12_must 30 = .ok (.aload_n 0, 1) := by decide +kernel
theorem dX12_must_31 : decode cX12_must 31 = .ok (.dup, 1) := by decide +kernel
theorem dX12_must_32 : decode cX12_must 32 = .ok (.getfield 256, 3) := by decide +kernel
theorem dX12_must_35 : decode cX12_must 35 = .ok (.iconst 1, 1) := by decide +kernel
theorem dX12_must_36 : decode cX12_must 36 = .ok (.iadd, 1) := by decide +kernel
theorem dX12_must_37 : decode cX12_must 37 = .ok (.putfield 256, 3) := by decide +kernel
theorem dX12_must_40 : decode cX12_must 40 = .ok (.return_, 1) := by decide +kernel
theorem dX12_read_0 : decode cX12_read 0 = .ok (.aload_n 0, 1) := by decide +kernel
theorem dX12_read_1 : decode cX12_read 1 = .ok (.iconst 0, 1) := by decide +kernel
theorem dX12_read_2 : decode cX12_read 2 = .ok (.putfield 256, 3) := by decide +kernel
theorem dX12_read_5 : decode cX12_read 5 = .ok (.aload_n 0, 1) := by decide +kernel
theorem dX12_read_6 : decode cX12_read 6 = .ok (.iconst (-1), 1) := by decide +kernel
theorem dX12_read_7 : decode cX12_read 7 = .ok (.putfield 269, 3) := by decide +kernel
theorem dX12_read_10 : decode cX12_read 10 = .ok (.aload_n 0, 1) := by decide +kernel
theorem dX12_read_11 : decode cX12_read 11 = .ok (.iconst 0, 1) := by decide +kernel
theorem dX12_read_12 : decode cX12_read 12 = .ok (.putfield 276, 3) := by decide +kernel
theorem dX12_read_15 : decode cX12_read 15 = .ok (.iconst 0, 1) := by decide +kernel
theorem dX12_read_16 : decode cX12_read 16 = .ok (.istore_n 1, 1) := by decide +kernel
theorem dX12_read_17 : decode cX12_read 17 = .ok (.iload_n 1, 1) := by decide +kernel
theorem dX12_read_18 : decode cX12_read 18 = .ok (.bipush 14, 2) := by decide +kernel
theorem dX12_read_20 : decode cX12_read 20 = .ok (.if_icmp .ge 16, 3) := by decide +kernel
theorem dX12_read_23 : decode cX12_read 23 = .ok (.aload_n 0, 1) := by decide +kernel
theorem dX12_read_24 : decode cX12_read 24 = .ok (.getfield 52, 3) := by decide +kernel
theorem dX12_read_27 : decode cX12_read 27 = .ok (.iload_n 1, 1) := by decide +kernel
theorem dX12_read_28 : decode cX12_read 28 = .ok (.iconst 0, 1) := by decide +kernel
theorem dX12_read_29 : decode cX12_read 29 = .ok (.iastore, 1) := by decide +kernel
theorem dX12_read_30 : decode cX12_read 30 = .ok (.iinc 1 1, 3) := by decide +kernel
theorem dX12_read_33 : decode cX12_read 33 = .ok (.goto (-16), 3) := by decide +kernel
theorem dX12_read_36 : decode cX12_read 36 = .ok (.aload_n 0, 1) := by decide +kernel
theorem dX12_read_37 : decode cX12_read 37 = .ok (.iconst 0, 1) := by decide +kernel
theorem dX12_read_38 : decode cX12_read 38 = .ok (.invokevirtual 286, 3) := by decide +kernel
theorem dX12_read_41 : decode cX12_read 41 = .ok (.aload_n 0, 1) := by decide +kernel
theorem dX12_read_42 : decode cX12_read 42 = .ok (.invokevirtual 259, 3) := by decide +kernel
theorem dX12_read_45 : decode cX12_read 45 = .ok (.bipush 45, 2) := by decide +kernel
theorem dX12_read_47 : decode cX12_read 47 = .ok (.if_icmp .ne 7, 3) := by decide +kernel
theorem dX12_read_50 : decode cX12_read 50 = .ok (.iconst 1, 1) := by decide +kernel
theorem dX12_read_51 : decode cX12_read 51 = .ok (.goto 4, 3) := by decide +kernel
theorem dX12_read_54 : decode cX12_read 54 = .ok (.iconst 0, 1) := by decide +kernel
theorem dX12_read_55 : decode cX12_read 55 = .ok (.istore_n 1, 1) := by decide +kernel
theorem dX12_read_56 : decode cX12_read 56 = .ok (.aload_n 0, 1) := by decide +kernel
theorem dX12_read_57 : decode cX12_read 57 = .ok (.getfield 269, 3) := by decide +kernel
theorem dX12_read_60 : decode cX12_read 60 = .ok (.ifCond .ge 44, 3) := by decide +kernel
theorem dX12_read_63 : decode cX12_read 63 = .ok (.aload_n 0, 1) := by decide +kernel
theorem dX12_read_64 : decode cX12_read 64 = .ok (.invokevirtual 283, 3) := by decide +kernel
theorem dX12_read_67 : decode cX12_read 67 = .ok (.ifCond .eq 37, 3) := by decide +kernel
theorem dX12_read_70 : decode cX12_read 70 = .ok (.aload_n 0, 1) := by decide +kernel
theorem dX12_read_71 : decode cX12_read 71 = .ok (.dup, 1) := by decide +kernel
theorem dX12_read_72 : decode cX12_read 72 = .ok (.getfield 256, 3) := by decide +kernel
theorem dX12_read_75 : decode cX12_read 75 = .ok (.iconst 2, 1) := by decide +kernel
theorem dX12_read_76 : decode cX12_read 76 = .ok (.iadd, 1) := by decide +kernel
theorem dX12_read_77 : decode cX12_read 77 = .ok (.putfield 256, 3) := by decide +kernel
theorem dX12_read_80 : decode cX12_read 80 = .ok (.aload_n 0, 1) := by decide +kernel
theorem dX12_read_81 : decode cX12_read 81 = .ok (.bipush 40, 2) := by decide +kernel
theorem dX12_read_83 : decode cX12_read 83 = .ok (.invokevirtual 288, 3) := by decide +kernel
theorem dX12_read_86 : decode cX12_read 86 = .ok (.aload_n 0, 1) := by decide +kernel
theorem dX12_read_87 : decode cX12_read 87 = .ok (.getfield 269, 3) := by decide +kernel
theorem dX12_read_90 : decode cX12_read 90 = .ok (.ifCond .ge 8, 3) := by decide +kernel
theorem dX12_read_93 : decode cX12_read 93 = .ok (.aload_n 0, 1) := by decide +kernel
theorem dX12_read_94 : decode cX12_read 94 = .ok (.iconst 1, 1) := by decide +kernel
theorem dX12_read_95 : decode cX12_read 95 = .ok (.invokevirtual 286, 3) := by decide +kernel
theorem dX12_read_98 : decode cX12_read 98 = .ok (.aload_n 0, 1) := by decide +kernel
theorem dX12_read_99 : decode cX12_read 99 = .ok (.bipush 41, 2) := by decide +kernel
theorem dX12_read_101 : decode cX12_read 101 = .ok (.invokevirtual 288, 3) := by decide +kernel
theorem dX12_read_104 : decode cX12_read 104 = .ok (.aload_n 0, 1) := by decide +kernel
theorem dX12_read_105 : decode cX12_read 105 = .ok (.getfield 269, 3) := by decide +kernel
theorem dX12_read_108 : decode cX12_read 108 = .ok (.ifCond .ge 22, 3) := by decide +kernel
theorem dX12_read_111 : decode cX12_read 111 = .ok (.aload_n 0, 1) := by decide +kernel
theorem dX12_read_112 : decode cX12_read 112 = .ok (.getfield 256, 3) := by decide +kernel
theorem dX12_read_115 : decode cX12_read 115 = .ok (.aload_n 0, 1) := by decide +kernel
theorem dX12_read_116 : decode cX12_read 116 = .ok (.getfield 253, 3) := by decide +kernel
theorem dX12_read_119 : decode cX12_read 119 = .ok (.if_icmp .ge 11, 3) := by decide +kernel
theorem dX12_read_122 : decode cX12_read 122 = .ok (.aload_n 0, 1) := by decide +kernel
theorem dX12_read_123 : decode cX12_read 123 = .ok (.aload_n 0, 1) := by decide +kernel
theorem dX12_read_124 : decode cX12_read 124 = .ok (.getfield 256, 3) := by decide +kernel
theorem dX12_read_127 : decode cX12_read 127 = .ok (.putfield 269, 3) := by decide +kernel
theorem dX12_read_130 : decode cX12_read 130 = .ok (.aload_n 0, 1) := by decide +kernel
theorem dX12_read_131 : decode cX12_read 131 = .ok (.iconst 0, 1) := by decide +kernel
theorem dX12_read_132 : decode cX12_read 132 = .ok (.putfield 253, 3) := by decide +kernel
theorem dX12_read_135 : decode cX12_read 135 = .ok (.aload_n 0, 1) := by decide +kernel
theorem dX12_read_136 : decode cX12_read 136 = .ok (.getfield 269, 3) := by decide +kernel
theorem dX12_read_139 : decode cX12_read 139 = .ok (.ifCond .lt 11, 3) := by decide +kernel
theorem dX12_read_142 : decode cX12_read 142 = .ok (.bipush (-100), 2) := by decide +kernel
theorem dX12_read_144 : decode cX12_read 144 = .ok (.aload_n 0, 1) := by decide +kernel
theorem dX12_read_145 : decode cX12_read 145 = .ok (.getfield 269, 3) := by decide +kernel
theorem dX12_read_148 : decode cX12_read 148 = .ok (.isub, 1) := by decide +kernel
theorem dX12_read_149 : decode cX12_read 149 = .ok (.ireturn, 1) := by decide +kernel
theorem dX12_read_150 : decode cX12_read 150 = .ok (.iconst 0, 1) := by decide +kernel
theorem dX12_read_151 : decode cX12_read 151 = .ok (.istore_n 2, 1) := by decide +kernel
theorem dX12_read_152 : decode cX12_read 152 = .ok (.iload_n 2, 1) := by decide +kernel
theorem dX12_read_153 : decode cX12_read 153 = .ok (.bipush 7, 2) := by decide +kernel
theorem dX12_read_155 : decode cX12_read 155 = .ok (.if_icmp .ge 58, 3) := by decide +kernel
theorem dX12_read_158 : decode cX12_read 158 = .ok (.aload_n 0, 1) := by decide +kernel
theorem dX12_read_159 : decode cX12_read 159 = .ok (.getfield 11, 3) := by decide +kernel
theorem dX12_read_162 : decode cX12_read 162 = .ok (.iconst 0, 1) := by decide +kernel
theorem dX12_read_163 : decode cX12_read 163 = .ok (.iload_n 2, 1) := by decide +kernel
theorem dX12_read_164 : decode cX12_read 164 = .ok (.iadd, 1) := by decide +kernel
theorem dX12_read_165 : decode cX12_read 165 = .ok (.aload_n 0, 1) := by decide +kernel
theorem dX12_read_166 : decode cX12_read 166 = .ok (.getfield 52, 3) := by decide +kernel
theorem dX12_read_169 : decode cX12_read 169 = .ok (.iload_n 2, 1) := by decide +kernel
theorem dX12_read_170 : decode cX12_read 170 = .ok (.iaload, 1) := by decide +kernel
theorem dX12_read_171 : decode cX12_read 171 = .ok (.iastore, 1) := by decide +kernel
theorem dX12_read_172 : decode cX12_read 172 = .ok (.aload_n 0, 1) := by decide +kernel
theorem dX12_read_173 : decode cX12_read 173 = .ok (.getfield 11, 3) := by decide +kernel
theorem dX12_read_176 : decode cX12_read 176 = .ok (.bipush 7, 2) := by decide +kernel
theorem dX12_read_178 : decode cX12_read 178 = .ok (.iload_n 2, 1) := by decide +kernel
theorem dX12_read_179 : decode cX12_read 179 = .ok (.iadd, 1) := by decide +kernel
theorem dX12_read_180 : decode cX12_read 180 = .ok (.iload_n 1, 1) := by decide +kernel
theorem dX12_read_181 : decode cX12_read 181 = .ok (.ifCond .eq 16, 3) := by decide +kernel
theorem dX12_read_184 : decode cX12_read 184 = .ok (.aload_n 0, 1) := by decide +kernel
theorem dX12_read_185 : decode cX12_read 185 = .ok (.getfield 52, 3) := by decide +kernel
theorem dX12_read_188 : decode cX12_read 188 = .ok (.bipush 7, 2) := by decide +kernel
theorem dX12_read_190 : decode cX12_read 190 = .ok (.iload_n 2, 1) := by decide +kernel
theorem dX12_read_191 : decode cX12_read 191 = .ok (.iadd, 1) := by decide +kernel
theorem dX12_read_192 : decode cX12_read 192 = .ok (.iaload, 1) := by decide +kernel
theorem dX12_read_193 : decode cX12_read 193 = .ok (.ineg, 1) := by decide +kernel
theorem dX12_read_194 : decode cX12_read 194 = .ok (.goto 12, 3) := by decide +kernel
theorem dX12_read_197 : decode cX12_read 197 = .ok (.aload_n 0, 1) := by decide +kernel
theorem dX12_read_198 : decode cX12_read 198 = .ok (.getfield 52, 3) := by decide +kernel
theorem dX12_read_201 : decode cX12_read 201 = .ok (.bipush 7, 2) := by decide +kernel
theorem dX12_read_203 : decode cX12_read 203 = .ok (.iload_n 2, 1) := by decide +kernel
theorem dX12_read_204 : decode cX12_read 204 = .ok (.iadd, 1) := by decide +kernel
theorem dX12_read_205 : decode cX12_read 205 = .ok (.iaload, 1) := by decide +kernel
theorem dX12_read_206 : decode cX12_read 206 = .ok (.iastore, 1) := by decide +kernel
theorem dX12_read_207 : decode cX12_read 207 = .ok (.iinc 2 1, 3) := by decide +kernel
theorem dX12_read_210 : decode cX12_read 210 = .ok (.goto (-58), 3) := by decide +kernel
theorem dX12_read_213 : decode cX12_read 213 = .ok (.aload_n 0, 1) := by decide +kernel
theorem dX12_read_214 : decode cX12_read 214 = .ok (.dup, 1) := by decide +kernel
theorem dX12_read_215 : decode cX12_read 215 = .ok (.getfield 291, 3) := by decide +kernel
theorem dX12_read_218 : decode cX12_read 218 = .ok (.iconst 1, 1) := by decide +kernel
theorem dX12_read_219 : decode cX12_read 219 = .ok (.iadd, 1) := by decide +kernel
theorem dX12_read_220 : decode cX12_read 220 = .ok (.putfield 291, 3) := by decide +kernel
theorem dX12_read_223 : decode cX12_read 223 = .ok (.aload_n 0, 1) := by decide +kernel
theorem dX12_read_224 : decode cX12_read 224 = .ok (.getfield 276, 3) := by decide +kernel
theorem dX12_read_227 : decode cX12_read 227 = .ok (.ireturn, 1) := by decide +kernel
theorem dX12_await_0 : decode cX12_await 0 = .ok (.iload_n 1, 1) := by decide +kernel
theorem dX12_await_1 : decode cX12_await 1 = .ok (.i2l, 1) := by decide +kernel
theorem dX12_await_2 : decode cX12_await 2 = .ok (.ldc2_w 101, 3) := by decide +kernel
theorem dX12_await_5 : decode cX12_await 5 = .ok (.ldc2_w 103, 3) := by decide +kernel
theorem dX12_await_8 : decode cX12_await 8 = .ok (.invokestatic 83, 3) := by decide +kernel
theorem dX12_await_11 : decode cX12_await 11 = .ok (.ifCond .ne 6, 3) := by decide +kernel
theorem dX12_await_14 : decode cX12_await 14 = .ok (.bipush (-2), 2) := by decide +kernel
theorem dX12_await_16 : decode cX12_await 16 = .ok (.ireturn, 1) := by decide +kernel
theorem dX12_await_17 : decode cX12_await 17 = .ok (.aload_n 0, 1) := by decide +kernel
theorem dX12_await_18 : decode cX12_await 18 = .ok (.getfield 11, 3) := by decide +kernel
theorem dX12_await_21 : decode cX12_await 21 = .ok (.bipush 15, 2) := by decide +kernel
theorem dX12_await_23 : decode cX12_await 23 = .ok (.iaload, 1) := by decide +kernel
theorem dX12_await_24 : decode cX12_await 24 = .ok (.bipush 16, 2) := by decide +kernel
theorem dX12_await_26 : decode cX12_await 26 = .ok (.if_icmp .ne 6, 3) := by decide +kernel
theorem dX12_await_29 : decode cX12_await 29 = .ok (.bipush (-4), 2) := by decide +kernel
theorem dX12_await_31 : decode cX12_await 31 = .ok (.ireturn, 1) := by decide +kernel
theorem dX12_await_32 : decode cX12_await 32 = .ok (.aload_n 0, 1) := by decide +kernel
theorem dX12_await_33 : decode cX12_await 33 = .ok (.getfield 11, 3) := by decide +kernel
theorem dX12_await_36 : decode cX12_await 36 = .ok (.bipush 16, 2) := by decide +kernel
theorem dX12_await_38 : decode cX12_await 38 = .ok (.aload_n 0, 1) := by decide +kernel
theorem dX12_await_39 : decode cX12_await 39 = .ok (.getfield 11, 3) := by decide +kernel
theorem dX12_await_42 : decode cX12_await 42 = .ok (.bipush 15, 2) := by decide +kernel
theorem dX12_await_44 : decode cX12_await 44 = .ok (.iaload, 1) := by decide +kernel
theorem dX12_await_45 : decode cX12_await 45 = .ok (.iadd, 1) := by decide +kernel
theorem dX12_await_46 : decode cX12_await 46 = .ok (.iload_n 1, 1) := by decide +kernel
theorem dX12_await_47 : decode cX12_await 47 = .ok (.iastore, 1) := by decide +kernel
theorem dX12_await_48 : decode cX12_await 48 = .ok (.aload_n 0, 1) := by decide +kernel
theorem dX12_await_49 : decode cX12_await 49 = .ok (.getfield 11, 3) := by decide +kernel
theorem dX12_await_52 : decode cX12_await 52 = .ok (.bipush 15, 2) := by decide +kernel
theorem dX12_await_54 : decode cX12_await 54 = .ok (.dup2, 1) := by decide +kernel
theorem dX12_await_55 : decode cX12_await 55 = .ok (.iaload, 1) := by decide +kernel
theorem dX12_await_56 : decode cX12_await 56 = .ok (.iconst 1, 1) := by decide +kernel
theorem dX12_await_57 : decode cX12_await 57 = .ok (.iadd, 1) := by decide +kernel
theorem dX12_await_58 : decode cX12_await 58 = .ok (.iastore, 1) := by decide +kernel
theorem dX12_await_59 : decode cX12_await 59 = .ok (.aload_n 0, 1) := by decide +kernel
theorem dX12_await_60 : decode cX12_await 60 = .ok (.getfield 11, 3) := by decide +kernel
theorem dX12_await_63 : decode cX12_await 63 = .ok (.bipush 15, 2) := by decide +kernel
theorem dX12_await_65 : decode cX12_await 65 = .ok (.iaload, 1) := by decide +kernel
theorem dX12_await_66 : decode cX12_await 66 = .ok (.ireturn, 1) := by decide +kernel
theorem dX12_leaves_0 : decode cX12_leaves 0 = .ok (.aload_n 0, 1) := by decide +kernel
theorem dX12_leaves_1 : decode cX12_leaves 1 = .ok (.getfield 11, 3) := by decide +kernel
theorem dX12_leaves_4 : decode cX12_leaves 4 = .ok (.bipush 15, 2) := by decide +kernel
theorem dX12_leaves_6 : decode cX12_leaves 6 = .ok (.dup2, 1) := by decide +kernel
theorem dX12_leaves_7 : decode cX12_leaves 7 = .ok (.iaload, 1) := by decide +kernel
theorem dX12_leaves_8 : decode cX12_leaves 8 = .ok (.iconst 1, 1) := by decide +kernel
theorem dX12_leaves_9 : decode cX12_leaves 9 = .ok (.isub, 1) := by decide +kernel
theorem dX12_leaves_10 : decode cX12_leaves 10 = .ok (.iastore, 1) := by decide +kernel
theorem dX12_leaves_11 : decode cX12_leaves 11 = .ok (.iload_n 1, 1) := by decide +kernel
theorem dX12_leaves_12 : decode cX12_leaves 12 = .ok (.istore_n 2, 1) := by decide +kernel
theorem dX12_leaves_13 : decode cX12_leaves 13 = .ok (.iload_n 2, 1) := by decide +kernel
theorem dX12_leaves_14 : decode cX12_leaves 14 = .ok (.aload_n 0, 1) := by decide +kernel
theorem dX12_leaves_15 : decode cX12_leaves 15 = .ok (.getfield 11, 3) := by decide +kernel
theorem dX12_leaves_18 : decode cX12_leaves 18 = .ok (.bipush 15, 2) := by decide +kernel
theorem dX12_leaves_20 : decode cX12_leaves 20 = .ok (.iaload, 1) := by decide +kernel
theorem dX12_leaves_21 : decode cX12_leaves 21 = .ok (.if_icmp .ge 29, 3) := by decide +kernel
theorem dX12_leaves_24 : decode cX12_leaves 24 = .ok (.aload_n 0, 1) := by decide +kernel
theorem dX12_leaves_25 : decode cX12_leaves 25 = .ok (.getfield 11, 3) := by decide +kernel
theorem dX12_leaves_28 : decode cX12_leaves 28 = .ok (.bipush 16, 2) := by decide +kernel
theorem dX12_leaves_30 : decode cX12_leaves 30 = .ok (.iload_n 2, 1) := by decide +kernel
theorem dX12_leaves_31 : decode cX12_leaves 31 = .ok (.iadd, 1) := by decide +kernel
theorem dX12_leaves_32 : decode cX12_leaves 32 = .ok (.aload_n 0, 1) := by decide +kernel
theorem dX12_leaves_33 : decode cX12_leaves 33 = .ok (.getfield 11, 3) := by decide +kernel
theorem dX12_leaves_36 : decode cX12_leaves 36 = .ok (.bipush 16, 2) := by decide +kernel
theorem dX12_leaves_38 : decode cX12_leaves 38 = .ok (.iload_n 2, 1) := by decide +kernel
theorem dX12_leaves_39 : decode cX12_leaves 39 = .ok (.iadd, 1) := by decide +kernel
theorem dX12_leaves_40 : decode cX12_leaves 40 = .ok (.iconst 1, 1) := by decide +kernel
theorem dX12_leaves_41 : decode cX12_leaves 41 = .ok (.iadd, 1) := by decide +kernel
theorem dX12_leaves_42 : decode cX12_leaves 42 = .ok (.iaload, 1) := by decide +kernel
theorem dX12_leaves_43 : decode cX12_leaves 43 = .ok (.iastore, 1) := by decide +kernel
theorem dX12_leaves_44 : decode cX12_leaves 44 = .ok (.iinc 2 1, 3) := by decide +kernel
theorem dX12_leaves_47 : decode cX12_leaves 47 = .ok (.goto (-34), 3) := by decide +kernel
theorem dX12_leaves_50 : decode cX12_leaves 50 = .ok (.return_, 1) := by decide +kernel
theorem dX12_next_0 : decode cX12_next 0 = .ok (.aload_n 0, 1) := by decide +kernel
theorem dX12_next_1 : decode cX12_next 1 = .ok (.getfield 11, 3) := by decide +kernel
theorem dX12_next_4 : decode cX12_next 4 = .ok (.bipush 15, 2) := by decide +kernel
theorem dX12_next_6 : decode cX12_next 6 = .ok (.iaload, 1) := by decide +kernel
theorem dX12_next_7 : decode cX12_next 7 = .ok (.ifCond .ne 6, 3) := by decide +kernel
theorem dX12_next_10 : decode cX12_next 10 = .ok (.bipush (-3), 2) := by decide +kernel
theorem dX12_next_12 : decode cX12_next 12 = .ok (.ireturn, 1) := by decide +kernel
theorem dX12_next_13 : decode cX12_next 13 = .ok (.aload_n 0, 1) := by decide +kernel
theorem dX12_next_14 : decode cX12_next 14 = .ok (.getfield 11, 3) := by decide +kernel
theorem dX12_next_17 : decode cX12_next 17 = .ok (.bipush 14, 2) := by decide +kernel
theorem dX12_next_19 : decode cX12_next 19 = .ok (.aload_n 0, 1) := by decide +kernel
theorem dX12_next_20 : decode cX12_next 20 = .ok (.getfield 11, 3) := by decide +kernel
theorem dX12_next_23 : decode cX12_next 23 = .ok (.bipush 16, 2) := by decide +kernel
theorem dX12_next_25 : decode cX12_next 25 = .ok (.iaload, 1) := by decide +kernel
theorem dX12_next_26 : decode cX12_next 26 = .ok (.iastore, 1) := by decide +kernel
theorem dX12_next_27 : decode cX12_next 27 = .ok (.aload_n 0, 1) := by decide +kernel
theorem dX12_next_28 : decode cX12_next 28 = .ok (.iconst 0, 1) := by decide +kernel
theorem dX12_next_29 : decode cX12_next 29 = .ok (.invokevirtual 294, 3) := by decide +kernel
theorem dX12_next_32 : decode cX12_next 32 = .ok (.aload_n 0, 1) := by decide +kernel
theorem dX12_next_33 : decode cX12_next 33 = .ok (.getfield 11, 3) := by decide +kernel
theorem dX12_next_36 : decode cX12_next 36 = .ok (.bipush 15, 2) := by decide +kernel
theorem dX12_next_38 : decode cX12_next 38 = .ok (.iaload, 1) := by decide +kernel
theorem dX12_next_39 : decode cX12_next 39 = .ok (.ireturn, 1) := by decide +kernel
theorem dX12_waiting_0 : decode cX12_waiting 0 = .ok (.iload_n 1, 1) := by decide +kernel
theorem dX12_waiting_1 : decode cX12_waiting 1 = .ok (.i2l, 1) := by decide +kernel
theorem dX12_waiting_2 : decode cX12_waiting 2 = .ok (.lconst 0, 1) := by decide +kernel
theorem dX12_waiting_3 : decode cX12_waiting 3 = .ok (.aload_n 0, 1) := by decide +kernel
theorem dX12_waiting_4 : decode cX12_waiting 4 = .ok (.getfield 11, 3) := by decide +kernel
theorem dX12_waiting_7 : decode cX12_waiting 7 = .ok (.bipush 15, 2) := by decide +kernel
theorem dX12_waiting_9 : decode cX12_waiting 9 = .ok (.iaload, 1) := by decide +kernel
theorem dX12_waiting_10 : decode cX12_waiting 10 = .ok (.iconst 1, 1) := by decide +kernel
theorem dX12_waiting_11 : decode cX12_waiting 11 = .ok (.isub, 1) := by decide +kernel
theorem dX12_waiting_12 : decode cX12_waiting 12 = .ok (.i2l, 1) := by decide +kernel
theorem dX12_waiting_13 : decode cX12_waiting 13 = .ok (.invokestatic 83, 3) := by decide +kernel
theorem dX12_waiting_16 : decode cX12_waiting 16 = .ok (.ifCond .eq 19, 3) := by decide +kernel
theorem dX12_waiting_19 : decode cX12_waiting 19 = .ok (.aload_n 0, 1) := by decide +kernel
theorem dX12_waiting_20 : decode cX12_waiting 20 = .ok (.getfield 11, 3) := by decide +kernel
theorem dX12_waiting_23 : decode cX12_waiting 23 = .ok (.bipush 16, 2) := by decide +kernel
theorem dX12_waiting_25 : decode cX12_waiting 25 = .ok (.iload_n 1, 1) := by decide +kernel
theorem dX12_waiting_26 : decode cX12_waiting 26 = .ok (.iadd, 1) := by decide +kernel
theorem dX12_waiting_27 : decode cX12_waiting 27 = .ok (.iaload, 1) := by decide +kernel
theorem dX12_waiting_28 : decode cX12_waiting 28 = .ok (.sipush 1000, 3) := by decide +kernel
theorem dX12_waiting_31 : decode cX12_waiting 31 = .ok (.iadd, 1) := by decide +kernel
theorem dX12_waiting_32 : decode cX12_waiting 32 = .ok (.goto 4, 3) := by decide +kernel
theorem dX12_waiting_35 : decode cX12_waiting 35 = .ok (.iconst (-1), 1) := by decide +kernel
theorem dX12_waiting_36 : decode cX12_waiting 36 = .ok (.ireturn, 1) := by decide +kernel
theorem dX12_isTwice_0 : decode cX12_isTwice 0 = .ok (.iconst 0, 1) := by decide +kernel
theorem dX12_isTwice_1 : decode cX12_isTwice 1 = .ok (.istore_n 2, 1) := by decide +kernel
theorem dX12_isTwice_2 : decode cX12_isTwice 2 = .ok (.iconst 0, 1) := by decide +kernel
theorem dX12_isTwice_3 : decode cX12_isTwice 3 = .ok (.istore_n 3, 1) := by decide +kernel
theorem dX12_isTwice_4 : decode cX12_isTwice 4 = .ok (.iload_n 3, 1) := by decide +kernel
theorem dX12_isTwice_5 : decode cX12_isTwice 5 = .ok (.iload_n 1, 1) := by decide +kernel
theorem dX12_isTwice_6 : decode cX12_isTwice 6 = .ok (.if_icmp .ge 40, 3) := by decide +kernel
theorem dX12_isTwice_9 : decode cX12_isTwice 9 = .ok (.iload_n 2, 1) := by decide +kernel
theorem dX12_isTwice_10 : decode cX12_isTwice 10 = .ok (.ifCond .ne 24, 3) := by decide +kernel
theorem dX12_isTwice_13 : decode cX12_isTwice 13 = .ok (.aload_n 0, 1) := by decide +kernel
theorem dX12_isTwice_14 : decode cX12_isTwice 14 = .ok (.getfield 11, 3) := by decide +kernel
theorem dX12_isTwice_17 : decode cX12_isTwice 17 = .ok (.bipush 16, 2) := by decide +kernel
theorem dX12_isTwice_19 : decode cX12_isTwice 19 = .ok (.iload_n 3, 1) := by decide +kernel
theorem dX12_isTwice_20 : decode cX12_isTwice 20 = .ok (.iadd, 1) := by decide +kernel
theorem dX12_isTwice_21 : decode cX12_isTwice 21 = .ok (.iaload, 1) := by decide +kernel
theorem dX12_isTwice_22 : decode cX12_isTwice 22 = .ok (.aload_n 0, 1) := by decide +kernel
theorem dX12_isTwice_23 : decode cX12_isTwice 23 = .ok (.getfield 11, 3) := by decide +kernel
theorem dX12_isTwice_26 : decode cX12_isTwice 26 = .ok (.bipush 16, 2) := by decide +kernel
theorem dX12_isTwice_28 : decode cX12_isTwice 28 = .ok (.iload_n 1, 1) := by decide +kernel
theorem dX12_isTwice_29 : decode cX12_isTwice 29 = .ok (.iadd, 1) := by decide +kernel
theorem dX12_isTwice_30 : decode cX12_isTwice 30 = .ok (.iaload, 1) := by decide +kernel
theorem dX12_isTwice_31 : decode cX12_isTwice 31 = .ok (.if_icmp .ne 7, 3) := by decide +kernel
theorem dX12_isTwice_34 : decode cX12_isTwice 34 = .ok (.iconst 1, 1) := by decide +kernel
theorem dX12_isTwice_35 : decode cX12_isTwice 35 = .ok (.goto 4, 3) := by decide +kernel
theorem dX12_isTwice_38 : decode cX12_isTwice 38 = .ok (.iconst 0, 1) := by decide +kernel
theorem dX12_isTwice_39 : decode cX12_isTwice 39 = .ok (.istore_n 2, 1) := by decide +kernel
theorem dX12_isTwice_40 : decode cX12_isTwice 40 = .ok (.iinc 3 1, 3) := by decide +kernel
theorem dX12_isTwice_43 : decode cX12_isTwice 43 = .ok (.goto (-39), 3) := by decide +kernel
theorem dX12_isTwice_46 : decode cX12_isTwice 46 = .ok (.iload_n 2, 1) := by decide +kernel
theorem dX12_isTwice_47 : decode cX12_isTwice 47 = .ok (.ireturn, 1) := by decide +kernel
theorem dX12_weed_0 : decode cX12_weed 0 = .ok (.iload_n 1, 1) := by decide +kernel
theorem dX12_weed_1 : decode cX12_weed 1 = .ok (.invokestatic 204, 3) := by decide +kernel
theorem dX12_weed_4 : decode cX12_weed 4 = .ok (.ifCond .eq 15, 3) := by decide +kernel
theorem dX12_weed_7 : decode cX12_weed 7 = .ok (.iload_n 2, 1) := by decide +kernel
theorem dX12_weed_8 : decode cX12_weed 8 = .ok (.i2l, 1) := by decide +kernel
theorem dX12_weed_9 : decode cX12_weed 9 = .ok (.lconst 0, 1) := by decide +kernel
theorem dX12_weed_10 : decode cX12_weed 10 = .ok (.ldc2_w 95, 3) := by decide +kernel
theorem dX12_weed_13 : decode cX12_weed 13 = .ok (.invokestatic 83, 3) := by decide +kernel
theorem dX12_weed_16 : decode cX12_weed 16 = .ok (.ifCond .ne 6, 3) := by decide +kernel
theorem dX12_weed_19 : decode cX12_weed 19 = .ok (.bipush (-2), 2) := by decide +kernel
theorem dX12_weed_21 : decode cX12_weed 21 = .ok (.ireturn, 1) := by decide +kernel
theorem dX12_weed_22 : decode cX12_weed 22 = .ok (.aload_n 0, 1) := by decide +kernel
theorem dX12_weed_23 : decode cX12_weed 23 = .ok (.getfield 11, 3) := by decide +kernel
theorem dX12_weed_26 : decode cX12_weed 26 = .ok (.bipush 15, 2) := by decide +kernel
theorem dX12_weed_28 : decode cX12_weed 28 = .ok (.iaload, 1) := by decide +kernel
theorem dX12_weed_29 : decode cX12_weed 29 = .ok (.istore_n 3, 1) := by decide +kernel
theorem dX12_weed_30 : decode cX12_weed 30 = .ok (.iload_n 3, 1) := by decide +kernel
theorem dX12_weed_31 : decode cX12_weed 31 = .ok (.iconst 1, 1) := by decide +kernel
theorem dX12_weed_32 : decode cX12_weed 32 = .ok (.isub, 1) := by decide +kernel
theorem dX12_weed_33 : decode cX12_weed 33 = .ok (.istore 4, 2) := by decide +kernel
theorem dX12_weed_35 : decode cX12_weed 35 = .ok (.iload 4, 2) := by decide +kernel
theorem dX12_weed_37 : decode cX12_weed 37 = .ok (.ifCond .lt 70, 3) := by decide +kernel
theorem dX12_weed_40 : decode cX12_weed 40 = .ok (.iload_n 2, 1) := by decide +kernel
theorem dX12_weed_41 : decode cX12_weed 41 = .ok (.iconst 2, 1) := by decide +kernel
theorem dX12_weed_42 : decode cX12_weed 42 = .ok (.if_icmp .ne 12, 3) := by decide +kernel
theorem dX12_weed_45 : decode cX12_weed 45 = .ok (.aload_n 0, 1) := by decide +kernel
theorem dX12_weed_46 : decode cX12_weed 46 = .ok (.iload 4, 2) := by decide +kernel
theorem dX12_weed_48 : decode cX12_weed 48 = .ok (.invokevirtual 297, 3) := by decide +kernel
theorem dX12_weed_51 : decode cX12_weed 51 = .ok (.goto 37, 3) := by decide +kernel
theorem dX12_weed_54 : decode cX12_weed 54 = .ok (.aload_n 0, 1) := by decide +kernel
theorem dX12_weed_55 : decode cX12_weed 55 = .ok (.iload_n 1, 1) := by decide +kernel
theorem dX12_weed_56 : decode cX12_weed 56 = .ok (.iconst 1, 1) := by decide +kernel
theorem dX12_weed_57 : decode cX12_weed 57 = .ok (.aload_n 0, 1) := by decide +kernel
theorem dX12_weed_58 : decode cX12_weed 58 = .ok (.getfield 11, 3) := by decide +kernel
theorem dX12_weed_61 : decode cX12_weed 61 = .ok (.bipush 16, 2) := by decide +kernel
theorem dX12_weed_63 : decode cX12_weed 63 = .ok (.iload 4, 2) := by decide +kernel
theorem dX12_weed_65 : decode cX12_weed 65 = .ok (.iadd, 1) := by decide +kernel
theorem dX12_weed_66 : decode cX12_weed 66 = .ok (.iaload, 1) := by decide +kernel
theorem dX12_weed_67 : decode cX12_weed 67 = .ok (.invokevirtual 213, 3) := by decide +kernel
theorem dX12_weed_70 : decode cX12_weed 70 = .ok (.iload_n 2, 1) := by decide +kernel
theorem dX12_weed_71 : decode cX12_weed 71 = .ok (.iconst 1, 1) := by decide +kernel
theorem dX12_weed_72 : decode cX12_weed 72 = .ok (.if_icmp .ne 7, 3) := by decide +kernel
theorem dX12_weed_75 : decode cX12_weed 75 = .ok (.iconst 1, 1) := by decide +kernel
theorem dX12_weed_76 : decode cX12_weed 76 = .ok (.goto 4, 3) := by decide +kernel
theorem dX12_weed_79 : decode cX12_weed 79 = .ok (.iconst 0, 1) := by decide +kernel
theorem dX12_weed_80 : decode cX12_weed 80 = .ok (.if_icmp .ne 7, 3) := by decide +kernel
theorem dX12_weed_83 : decode cX12_weed 83 = .ok (.iconst 1, 1) := by decide +kernel
theorem dX12_weed_84 : decode cX12_weed 84 = .ok (.goto 4, 3) := by decide +kernel
theorem dX12_weed_87 : decode cX12_weed 87 = .ok (.iconst 0, 1) := by decide +kernel
theorem dX12_weed_88 : decode cX12_weed 88 = .ok (.istore 5, 2) := by decide +kernel
theorem dX12_weed_90 : decode cX12_weed 90 = .ok (.iload 5, 2) := by decide +kernel
theorem dX12_weed_92 : decode cX12_weed 92 = .ok (.ifCond .eq 9, 3) := by decide +kernel
theorem dX12_weed_95 : decode cX12_weed 95 = .ok (.aload_n 0, 1) := by decide +kernel
theorem dX12_weed_96 : decode cX12_weed 96 = .ok (.iload 4, 2) := by decide +kernel
theorem dX12_weed_98 : decode cX12_weed 98 = .ok (.invokevirtual 294, 3) := by decide +kernel
theorem dX12_weed_101 : decode cX12_weed 101 = .ok (.iinc 4 (-1), 3) := by decide +kernel
theorem dX12_weed_104 : decode cX12_weed 104 = .ok (.goto (-69), 3) := by decide +kernel
theorem dX12_weed_107 : decode cX12_weed 107 = .ok (.iload_n 3, 1) := by decide +kernel
theorem dX12_weed_108 : decode cX12_weed 108 = .ok (.aload_n 0, 1) := by decide +kernel
theorem dX12_weed_109 : decode cX12_weed 109 = .ok (.getfield 11, 3) := by decide +kernel
theorem dX12_weed_112 : decode cX12_weed 112 = .ok (.bipush 15, 2) := by decide +kernel
theorem dX12_weed_114 : decode cX12_weed 114 = .ok (.iaload, 1) := by decide +kernel
theorem dX12_weed_115 : decode cX12_weed 115 = .ok (.isub, 1) := by decide +kernel
theorem dX12_weed_116 : decode cX12_weed 116 = .ok (.ireturn, 1) := by decide +kernel
theorem dX12_exchanges_0 : decode cX12_exchanges 0 = .ok (.aload_n 0, 1) := by decide +kernel
theorem dX12_exchanges_1 : decode cX12_exchanges 1 = .ok (.getfield 11, 3) := by decide +kernel
theorem dX12_exchanges_4 : decode cX12_exchanges 4 = .ok (.bipush 16, 2) := by decide +kernel
theorem dX12_exchanges_6 : decode cX12_exchanges 6 = .ok (.iload_n 1, 1) := by decide +kernel
theorem dX12_exchanges_7 : decode cX12_exchanges 7 = .ok (.iadd, 1) := by decide +kernel
theorem dX12_exchanges_8 : decode cX12_exchanges 8 = .ok (.iaload, 1) := by decide +kernel
theorem dX12_exchanges_9 : decode cX12_exchanges 9 = .ok (.istore_n 3, 1) := by decide +kernel
theorem dX12_exchanges_10 : decode cX12_exchanges 10 = .ok (.aload_n 0, 1) := by decide +kernel
theorem dX12_exchanges_11 : decode cX12_exchanges 11 = .ok (.getfield 11, 3) := by decide +kernel
theorem dX12_exchanges_14 : decode cX12_exchanges 14 = .ok (.bipush 16, 2) := by decide +kernel
theorem dX12_exchanges_16 : decode cX12_exchanges 16 = .ok (.iload_n 1, 1) := by decide +kernel
theorem dX12_exchanges_17 : decode cX12_exchanges 17 = .ok (.iadd, 1) := by decide +kernel
theorem dX12_exchanges_18 : decode cX12_exchanges 18 = .ok (.aload_n 0, 1) := by decide +kernel
theorem dX12_exchanges_19 : decode cX12_exchanges 19 = .ok (.getfield 11, 3) := by decide +kernel
theorem dX12_exchanges_22 : decode cX12_exchanges 22 = .ok (.bipush 16, 2) := by decide +kernel
theorem dX12_exchanges_24 : decode cX12_exchanges 24 = .ok (.iload_n 2, 1) := by decide +kernel
theorem dX12_exchanges_25 : decode cX12_exchanges 25 = .ok (.iadd, 1) := by decide +kernel
theorem dX12_exchanges_26 : decode cX12_exchanges 26 = .ok (.iaload, 1) := by decide +kernel
theorem dX12_exchanges_27 : decode cX12_exchanges 27 = .ok (.iastore, 1) := by decide +kernel
theorem dX12_exchanges_28 : decode cX12_exchanges 28 = .ok (.aload_n 0, 1) := by decide +kernel
theorem dX12_exchanges_29 : decode cX12_exchanges 29 = .ok (.getfield 11, 3) := by decide +kernel
theorem dX12_exchanges_32 : decode cX12_exchanges 32 = .ok (.bipush 16, 2) := by decide +kernel
theorem dX12_exchanges_34 : decode cX12_exchanges 34 = .ok (.iload_n 2, 1) := by decide +kernel
theorem dX12_exchanges_35 : decode cX12_exchanges 35 = .ok (.iadd, 1) := by decide +kernel
theorem dX12_exchanges_36 : decode cX12_exchanges 36 = .ok (.iload_n 3, 1) := by decide +kernel
theorem dX12_exchanges_37 : decode cX12_exchanges 37 = .ok (.iastore, 1) := by decide +kernel
theorem dX12_exchanges_38 : decode cX12_exchanges 38 = .ok (.return_, 1) := by decide +kernel
theorem dX12_swap_0 : decode cX12_swap 0 = .ok (.iload_n 1, 1) := by decide +kernel
theorem dX12_swap_1 : decode cX12_swap 1 = .ok (.i2l, 1) := by decide +kernel
theorem dX12_swap_2 : decode cX12_swap 2 = .ok (.lconst 0, 1) := by decide +kernel
theorem dX12_swap_3 : decode cX12_swap 3 = .ok (.ldc2_w 95, 3) := by decide +kernel
theorem dX12_swap_6 : decode cX12_swap 6 = .ok (.invokestatic 83, 3) := by decide +kernel
theorem dX12_swap_9 : decode cX12_swap 9 = .ok (.ifCond .ne 6, 3) := by decide +kernel
theorem dX12_swap_12 : decode cX12_swap 12 = .ok (.bipush (-2), 2) := by decide +kernel
theorem dX12_swap_14 : decode cX12_swap 14 = .ok (.ireturn, 1) := by decide +kernel
theorem dX12_swap_15 : decode cX12_swap 15 = .ok (.iconst 0, 1) := by decide +kernel
theorem dX12_swap_16 : decode cX12_swap 16 = .ok (.istore_n 2, 1) := by decide +kernel
theorem dX12_swap_17 : decode cX12_swap 17 = .ok (.iload_n 2, 1) := by decide +kernel
theorem dX12_swap_18 : decode cX12_swap 18 = .ok (.aload_n 0, 1) := by decide +kernel
theorem dX12_swap_19 : decode cX12_swap 19 = .ok (.getfield 11, 3) := by decide +kernel
theorem dX12_swap_22 : decode cX12_swap 22 = .ok (.bipush 15, 2) := by decide +kernel
theorem dX12_swap_24 : decode cX12_swap 24 = .ok (.iaload, 1) := by decide +kernel
theorem dX12_swap_25 : decode cX12_swap 25 = .ok (.if_icmp .ge 116, 3) := by decide +kernel
theorem dX12_swap_28 : decode cX12_swap 28 = .ok (.iload_n 2, 1) := by decide +kernel
theorem dX12_swap_29 : decode cX12_swap 29 = .ok (.iconst 1, 1) := by decide +kernel
theorem dX12_swap_30 : decode cX12_swap 30 = .ok (.iadd, 1) := by decide +kernel
theorem dX12_swap_31 : decode cX12_swap 31 = .ok (.istore_n 3, 1) := by decide +kernel
theorem dX12_swap_32 : decode cX12_swap 32 = .ok (.iload_n 3, 1) := by decide +kernel
theorem dX12_swap_33 : decode cX12_swap 33 = .ok (.aload_n 0, 1) := by decide +kernel
theorem dX12_swap_34 : decode cX12_swap 34 = .ok (.getfield 11, 3) := by decide +kernel
theorem dX12_swap_37 : decode cX12_swap 37 = .ok (.bipush 15, 2) := by decide +kernel
theorem dX12_swap_39 : decode cX12_swap 39 = .ok (.iaload, 1) := by decide +kernel
theorem dX12_swap_40 : decode cX12_swap 40 = .ok (.if_icmp .ge 95, 3) := by decide +kernel
theorem dX12_swap_43 : decode cX12_swap 43 = .ok (.iload_n 1, 1) := by decide +kernel
theorem dX12_swap_44 : decode cX12_swap 44 = .ok (.ifCond .ne 26, 3) := by decide +kernel
theorem dX12_swap_47 : decode cX12_swap 47 = .ok (.iload_n 2, 1) := by decide +kernel
theorem dX12_swap_48 : decode cX12_swap 48 = .ok (.iload_n 3, 1) := by decide +kernel
theorem dX12_swap_49 : decode cX12_swap 49 = .ok (.iadd, 1) := by decide +kernel
theorem dX12_swap_50 : decode cX12_swap 50 = .ok (.aload_n 0, 1) := by decide +kernel
theorem dX12_swap_51 : decode cX12_swap 51 = .ok (.getfield 11, 3) := by decide +kernel
theorem dX12_swap_54 : decode cX12_swap 54 = .ok (.bipush 15, 2) := by decide +kernel
theorem dX12_swap_56 : decode cX12_swap 56 = .ok (.iaload, 1) := by decide +kernel
theorem dX12_swap_57 : decode cX12_swap 57 = .ok (.iconst 1, 1) := by decide +kernel
theorem dX12_swap_58 : decode cX12_swap 58 = .ok (.isub, 1) := by decide +kernel
theorem dX12_swap_59 : decode cX12_swap 59 = .ok (.if_icmp .ne 7, 3) := by decide +kernel
theorem dX12_swap_62 : decode cX12_swap 62 = .ok (.iconst 1, 1) := by decide +kernel
theorem dX12_swap_63 : decode cX12_swap 63 = .ok (.goto 53, 3) := by decide +kernel
theorem dX12_swap_66 : decode cX12_swap 66 = .ok (.iconst 0, 1) := by decide +kernel
theorem dX12_swap_67 : decode cX12_swap 67 = .ok (.goto 49, 3) := by decide +kernel
theorem dX12_swap_70 : decode cX12_swap 70 = .ok (.iload_n 1, 1) := by decide +kernel
theorem dX12_swap_71 : decode cX12_swap 71 = .ok (.iconst 1, 1) := by decide +kernel
theorem dX12_swap_72 : decode cX12_swap 72 = .ok (.if_icmp .ne 32, 3) := by decide +kernel
theorem dX12_swap_75 : decode cX12_swap 75 = .ok (.aload_n 0, 1) := by decide +kernel
theorem dX12_swap_76 : decode cX12_swap 76 = .ok (.getfield 11, 3) := by decide +kernel
theorem dX12_swap_79 : decode cX12_swap 79 = .ok (.bipush 16, 2) := by decide +kernel
theorem dX12_swap_81 : decode cX12_swap 81 = .ok (.iload_n 3, 1) := by decide +kernel
theorem dX12_swap_82 : decode cX12_swap 82 = .ok (.iadd, 1) := by decide +kernel
theorem dX12_swap_83 : decode cX12_swap 83 = .ok (.iaload, 1) := by decide +kernel
theorem dX12_swap_84 : decode cX12_swap 84 = .ok (.aload_n 0, 1) := by decide +kernel
theorem dX12_swap_85 : decode cX12_swap 85 = .ok (.getfield 11, 3) := by decide +kernel
theorem dX12_swap_88 : decode cX12_swap 88 = .ok (.bipush 16, 2) := by decide +kernel
theorem dX12_swap_90 : decode cX12_swap 90 = .ok (.iload_n 2, 1) := by decide +kernel
theorem dX12_swap_91 : decode cX12_swap 91 = .ok (.iadd, 1) := by decide +kernel
theorem dX12_swap_92 : decode cX12_swap 92 = .ok (.iaload, 1) := by decide +kernel
theorem dX12_swap_93 : decode cX12_swap 93 = .ok (.if_icmp .ge 7, 3) := by decide +kernel
theorem dX12_swap_96 : decode cX12_swap 96 = .ok (.iconst 1, 1) := by decide +kernel
theorem dX12_swap_97 : decode cX12_swap 97 = .ok (.goto 19, 3) := by decide +kernel
theorem dX12_swap_100 : decode cX12_swap 100 = .ok (.iconst 0, 1) := by decide +kernel
theorem dX12_swap_101 : decode cX12_swap 101 = .ok (.goto 15, 3) := by decide +kernel
theorem dX12_swap_104 : decode cX12_swap 104 = .ok (.iload_n 3, 1) := by decide +kernel
theorem dX12_swap_105 : decode cX12_swap 105 = .ok (.iload_n 2, 1) := by decide +kernel
theorem dX12_swap_106 : decode cX12_swap 106 = .ok (.iconst 1, 1) := by decide +kernel
theorem dX12_swap_107 : decode cX12_swap 107 = .ok (.iadd, 1) := by decide +kernel
theorem dX12_swap_108 : decode cX12_swap 108 = .ok (.if_icmp .ne 7, 3) := by decide +kernel
theorem dX12_swap_111 : decode cX12_swap 111 = .ok (.iconst 1, 1) := by decide +kernel
theorem dX12_swap_112 : decode cX12_swap 112 = .ok (.goto 4, 3) := by decide +kernel
theorem dX12_swap_115 : decode cX12_swap 115 = .ok (.iconst 0, 1) := by decide +kernel
theorem dX12_swap_116 : decode cX12_swap 116 = .ok (.istore 4, 2) := by decide +kernel
theorem dX12_swap_118 : decode cX12_swap 118 = .ok (.iload 4, 2) := by decide +kernel
theorem dX12_swap_120 : decode cX12_swap 120 = .ok (.ifCond .eq 9, 3) := by decide +kernel
theorem dX12_swap_123 : decode cX12_swap 123 = .ok (.aload_n 0, 1) := by decide +kernel
theorem dX12_swap_124 : decode cX12_swap 124 = .ok (.iload_n 2, 1) := by decide +kernel
theorem dX12_swap_125 : decode cX12_swap 125 = .ok (.iload_n 3, 1) := by decide +kernel
theorem dX12_swap_126 : decode cX12_swap 126 = .ok (.invokevirtual 300, 3) := by decide +kernel
theorem dX12_swap_129 : decode cX12_swap 129 = .ok (.iinc 3 1, 3) := by decide +kernel
theorem dX12_swap_132 : decode cX12_swap 132 = .ok (.goto (-100), 3) := by decide +kernel
theorem dX12_swap_135 : decode cX12_swap 135 = .ok (.iinc 2 1, 3) := by decide +kernel
theorem dX12_swap_138 : decode cX12_swap 138 = .ok (.goto (-121), 3) := by decide +kernel
theorem dX12_swap_141 : decode cX12_swap 141 = .ok (.aload_n 0, 1) := by decide +kernel
theorem dX12_swap_142 : decode cX12_swap 142 = .ok (.getfield 11, 3) := by decide +kernel
theorem dX12_swap_145 : decode cX12_swap 145 = .ok (.bipush 15, 2) := by decide +kernel
theorem dX12_swap_147 : decode cX12_swap 147 = .ok (.iaload, 1) := by decide +kernel
theorem dX12_swap_148 : decode cX12_swap 148 = .ok (.ireturn, 1) := by decide +kernel
theorem dX12_isTray_0 : decode cX12_isTray 0 = .ok (.iload_n 0, 1) := by decide +kernel
theorem dX12_isTray_1 : decode cX12_isTray 1 = .ok (.i2l, 1) := by decide +kernel
theorem dX12_isTray_2 : decode cX12_isTray 2 = .ok (.lconst 0, 1) := by decide +kernel
theorem dX12_isTray_3 : decode cX12_isTray 3 = .ok (.ldc2_w 105, 3) := by decide +kernel
theorem dX12_isTray_6 : decode cX12_isTray 6 = .ok (.invokestatic 83, 3) := by decide +kernel
theorem dX12_isTray_9 : decode cX12_isTray 9 = .ok (.ireturn, 1) := by decide +kernel
theorem dX12_tray_0 : decode cX12_tray 0 = .ok (.iload_n 1, 1) := by decide +kernel
theorem dX12_tray_1 : decode cX12_tray 1 = .ok (.invokestatic 303, 3) := by decide +kernel
theorem dX12_tray_4 : decode cX12_tray 4 = .ok (.ifCond .ne 5, 3) := by decide +kernel
theorem dX12_tray_7 : decode cX12_tray 7 = .ok (.iconst (-1), 1) := by decide +kernel
theorem dX12_tray_8 : decode cX12_tray 8 = .ok (.ireturn, 1) := by decide +kernel
theorem dX12_tray_9 : decode cX12_tray 9 = .ok (.iload_n 2, 1) := by decide +kernel
theorem dX12_tray_10 : decode cX12_tray 10 = .ok (.i2l, 1) := by decide +kernel
theorem dX12_tray_11 : decode cX12_tray 11 = .ok (.ldc2_w 306, 3) := by decide +kernel
theorem dX12_tray_14 : decode cX12_tray 14 = .ok (.lconst 1, 1) := by decide +kernel
theorem dX12_tray_15 : decode cX12_tray 15 = .ok (.invokestatic 83, 3) := by decide +kernel
theorem dX12_tray_18 : decode cX12_tray 18 = .ok (.ifCond .eq 13, 3) := by decide +kernel
theorem dX12_tray_21 : decode cX12_tray 21 = .ok (.iload_n 2, 1) := by decide +kernel
theorem dX12_tray_22 : decode cX12_tray 22 = .ok (.ifCond .lt 12, 3) := by decide +kernel
theorem dX12_tray_25 : decode cX12_tray 25 = .ok (.iload_n 3, 1) := by decide +kernel
theorem dX12_tray_26 : decode cX12_tray 26 = .ok (.bipush 30, 2) := by decide +kernel
theorem dX12_tray_28 : decode cX12_tray 28 = .ok (.if_icmp .le 6, 3) := by decide +kernel
theorem dX12_tray_31 : decode cX12_tray 31 = .ok (.bipush (-2), 2) := by decide +kernel
theorem dX12_tray_33 : decode cX12_tray 33 = .ok (.ireturn, 1) := by decide +kernel
theorem dX12_tray_34 : decode cX12_tray 34 = .ok (.iload_n 2, 1) := by decide +kernel
theorem dX12_tray_35 : decode cX12_tray 35 = .ok (.ifCond .lt 10, 3) := by decide +kernel
theorem dX12_tray_38 : decode cX12_tray 38 = .ok (.iload_n 3, 1) := by decide +kernel
theorem dX12_tray_39 : decode cX12_tray 39 = .ok (.ifCond .ge 6, 3) := by decide +kernel
theorem dX12_tray_42 : decode cX12_tray 42 = .ok (.bipush (-14), 2) := by decide +kernel
theorem dX12_tray_44 : decode cX12_tray 44 = .ok (.ireturn, 1) := by decide +kernel
theorem dX12_tray_45 : decode cX12_tray 45 = .ok (.aload_n 0, 1) := by decide +kernel
theorem dX12_tray_46 : decode cX12_tray 46 = .ok (.getfield 55, 3) := by decide +kernel
theorem dX12_tray_49 : decode cX12_tray 49 = .ok (.iload_n 1, 1) := by decide +kernel
theorem dX12_tray_50 : decode cX12_tray 50 = .ok (.iload_n 2, 1) := by decide +kernel
theorem dX12_tray_51 : decode cX12_tray 51 = .ok (.iastore, 1) := by decide +kernel
theorem dX12_tray_52 : decode cX12_tray 52 = .ok (.aload_n 0, 1) := by decide +kernel
theorem dX12_tray_53 : decode cX12_tray 53 = .ok (.getfield 58, 3) := by decide +kernel
theorem dX12_tray_56 : decode cX12_tray 56 = .ok (.iload_n 1, 1) := by decide +kernel
theorem dX12_tray_57 : decode cX12_tray 57 = .ok (.iload_n 2, 1) := by decide +kernel
theorem dX12_tray_58 : decode cX12_tray 58 = .ok (.ifCond .ge 7, 3) := by decide +kernel
theorem dX12_tray_61 : decode cX12_tray 61 = .ok (.iconst 0, 1) := by decide +kernel
theorem dX12_tray_62 : decode cX12_tray 62 = .ok (.goto 4, 3) := by decide +kernel
theorem dX12_tray_65 : decode cX12_tray 65 = .ok (.iload_n 3, 1) := by decide +kernel
theorem dX12_tray_66 : decode cX12_tray 66 = .ok (.iastore, 1) := by decide +kernel
theorem dX12_tray_67 : decode cX12_tray 67 = .ok (.iconst 0, 1) := by decide +kernel
theorem dX12_tray_68 : decode cX12_tray 68 = .ok (.istore 4, 2) := by decide +kernel
theorem dX12_tray_70 : decode cX12_tray 70 = .ok (.iload 4, 2) := by decide +kernel
theorem dX12_tray_72 : decode cX12_tray 72 = .ok (.bipush 30, 2) := by decide +kernel
theorem dX12_tray_74 : decode cX12_tray 74 = .ok (.if_icmp .ge 22, 3) := by decide +kernel
theorem dX12_tray_77 : decode cX12_tray 77 = .ok (.aload_n 0, 1) := by decide +kernel
theorem dX12_tray_78 : decode cX12_tray 78 = .ok (.getfield 61, 3) := by decide +kernel
theorem dX12_tray_81 : decode cX12_tray 81 = .ok (.bipush 30, 2) := by decide +kernel
theorem dX12_tray_83 : decode cX12_tray 83 = .ok (.iload_n 1, 1) := by decide +kernel
theorem dX12_tray_84 : decode cX12_tray 84 = .ok (.imul, 1) := by decide +kernel
theorem dX12_tray_85 : decode cX12_tray 85 = .ok (.iload 4, 2) := by decide +kernel
theorem dX12_tray_87 : decode cX12_tray 87 = .ok (.iadd, 1) := by decide +kernel
theorem dX12_tray_88 : decode cX12_tray 88 = .ok (.lconst 0, 1) := by decide +kernel
theorem dX12_tray_89 : decode cX12_tray 89 = .ok (.lastore, 1) := by decide +kernel
theorem dX12_tray_90 : decode cX12_tray 90 = .ok (.iinc 4 1, 3) := by decide +kernel
theorem dX12_tray_93 : decode cX12_tray 93 = .ok (.goto (-23), 3) := by decide +kernel
theorem dX12_tray_96 : decode cX12_tray 96 = .ok (.iconst 1, 1) := by decide +kernel
theorem dX12_tray_97 : decode cX12_tray 97 = .ok (.ireturn, 1) := by decide +kernel
theorem dX12_lays_0 : decode cX12_lays 0 = .ok (.aload_n 0, 1) := by decide +kernel
theorem dX12_lays_1 : decode cX12_lays 1 = .ok (.getfield 61, 3) := by decide +kernel
theorem dX12_lays_4 : decode cX12_lays 4 = .ok (.bipush 30, 2) := by decide +kernel
theorem dX12_lays_6 : decode cX12_lays 6 = .ok (.iload_n 1, 1) := by decide +kernel
theorem dX12_lays_7 : decode cX12_lays 7 = .ok (.imul, 1) := by decide +kernel
theorem dX12_lays_8 : decode cX12_lays 8 = .ok (.iload_n 2, 1) := by decide +kernel
theorem dX12_lays_9 : decode cX12_lays 9 = .ok (.iadd, 1) := by decide +kernel
theorem dX12_lays_10 : decode cX12_lays 10 = .ok (.aload_n 0, 1) := by decide +kernel
theorem dX12_lays_11 : decode cX12_lays 11 = .ok (.getfield 55, 3) := by decide +kernel
theorem dX12_lays_14 : decode cX12_lays 14 = .ok (.iload_n 1, 1) := by decide +kernel
theorem dX12_lays_15 : decode cX12_lays 15 = .ok (.iaload, 1) := by decide +kernel
theorem dX12_lays_16 : decode cX12_lays 16 = .ok (.iconst 1, 1) := by decide +kernel
theorem dX12_lays_17 : decode cX12_lays 17 = .ok (.if_icmp .ne 9, 3) := by decide +kernel
theorem dX12_lays_20 : decode cX12_lays 20 = .ok (.lload_n 3, 1) := by decide +kernel
theorem dX12_lays_21 : decode cX12_lays 21 = .ok (.l2i, 1) := by decide +kernel
theorem dX12_lays_22 : decode cX12_lays 22 = .ok (.i2l, 1) := by decide +kernel
theorem dX12_lays_23 : decode cX12_lays 23 = .ok (.goto 4, 3) := by decide +kernel
theorem dX12_lays_26 : decode cX12_lays 26 = .ok (.lload_n 3, 1) := by decide +kernel
theorem dX12_lays_27 : decode cX12_lays 27 = .ok (.lastore, 1) := by decide +kernel
theorem dX12_lays_28 : decode cX12_lays 28 = .ok (.return_, 1) := by decide +kernel
theorem dX12_put_0 : decode cX12_put 0 = .ok (.iload_n 1, 1) := by decide +kernel
theorem dX12_put_1 : decode cX12_put 1 = .ok (.invokestatic 303, 3) := by decide +kernel
theorem dX12_put_4 : decode cX12_put 4 = .ok (.ifCond .ne 5, 3) := by decide +kernel
theorem dX12_put_7 : decode cX12_put 7 = .ok (.iconst (-1), 1) := by decide +kernel
theorem dX12_put_8 : decode cX12_put 8 = .ok (.ireturn, 1) := by decide +kernel
theorem dX12_put_9 : decode cX12_put 9 = .ok (.aload_n 0, 1) := by decide +kernel
theorem dX12_put_10 : decode cX12_put 10 = .ok (.getfield 55, 3) := by decide +kernel
theorem dX12_put_13 : decode cX12_put 13 = .ok (.iload_n 1, 1) := by decide +kernel
theorem dX12_put_14 : decode cX12_put 14 = .ok (.iaload, 1) := by decide +kernel
theorem dX12_put_15 : decode cX12_put 15 = .ok (.ifCond .ge 6, 3) := by decide +kernel
theorem dX12_put_18 : decode cX12_put 18 = .ok (.bipush (-11), 2) := by decide +kernel
theorem dX12_put_20 : decode cX12_put 20 = .ok (.ireturn, 1) := by decide +kernel
theorem dX12_put_21 : decode cX12_put 21 = .ok (.iload_n 2, 1) := by decide +kernel
theorem dX12_put_22 : decode cX12_put 22 = .ok (.i2l, 1) := by decide +kernel
theorem dX12_put_23 : decode cX12_put 23 = .ok (.lconst 0, 1) := by decide +kernel
theorem dX12_put_24 : decode cX12_put 24 = .ok (.aload_n 0, 1) := by decide +kernel
theorem dX12_put_25 : decode cX12_put 25 = .ok (.getfield 58, 3) := by decide +kernel
theorem dX12_put_28 : decode cX12_put 28 = .ok (.iload_n 1, 1) := by decide +kernel
theorem dX12_put_29 : decode cX12_put 29 = .ok (.iaload, 1) := by decide +kernel
theorem dX12_put_30 : decode cX12_put 30 = .ok (.iconst 1, 1) := by decide +kernel
theorem dX12_put_31 : decode cX12_put 31 = .ok (.isub, 1) := by decide +kernel
theorem dX12_put_32 : decode cX12_put 32 = .ok (.i2l, 1) := by decide +kernel
theorem dX12_put_33 : decode cX12_put 33 = .ok (.invokestatic 83, 3) := by decide +kernel
theorem dX12_put_36 : decode cX12_put 36 = .ok (.ifCond .ne 6, 3) := by decide +kernel
theorem dX12_put_39 : decode cX12_put 39 = .ok (.bipush (-13), 2) := by decide +kernel
theorem dX12_put_41 : decode cX12_put 41 = .ok (.ireturn, 1) := by decide +kernel
theorem dX12_put_42 : decode cX12_put 42 = .ok (.aload_n 0, 1) := by decide +kernel
theorem dX12_put_43 : decode cX12_put 43 = .ok (.iload_n 1, 1) := by decide +kernel
theorem dX12_put_44 : decode cX12_put 44 = .ok (.iload_n 2, 1) := by decide +kernel
theorem dX12_put_45 : decode cX12_put 45 = .ok (.lload_n 3, 1) := by decide +kernel
theorem dX12_put_46 : decode cX12_put 46 = .ok (.invokevirtual 308, 3) := by decide +kernel
theorem dX12_put_49 : decode cX12_put 49 = .ok (.iconst 1, 1) := by decide +kernel
theorem dX12_put_50 : decode cX12_put 50 = .ok (.ireturn, 1) := by decide +kernel
theorem dX12_get_0 : decode cX12_get 0 = .ok (.iload_n 1, 1) := by decide +kernel
theorem dX12_get_1 : decode cX12_get 1 = .ok (.invokestatic 303, 3) := by decide +kernel
theorem dX12_get_4 : decode cX12_get 4 = .ok (.ifCond .eq 35, 3) := by decide +kernel
theorem dX12_get_7 : decode cX12_get 7 = .ok (.iload_n 2, 1) := by decide +kernel
theorem dX12_get_8 : decode cX12_get 8 = .ok (.i2l, 1) := by decide +kernel
theorem dX12_get_9 : decode cX12_get 9 = .ok (.lconst 0, 1) := by decide +kernel
theorem dX12_get_10 : decode cX12_get 10 = .ok (.aload_n 0, 1) := by decide +kernel
theorem dX12_get_11 : decode cX12_get 11 = .ok (.getfield 58, 3) := by decide +kernel
theorem dX12_get_14 : decode cX12_get 14 = .ok (.iload_n 1, 1) := by decide +kernel
theorem dX12_get_15 : decode cX12_get 15 = .ok (.iaload, 1) := by decide +kernel
theorem dX12_get_16 : decode cX12_get 16 = .ok (.iconst 1, 1) := by decide +kernel
theorem dX12_get_17 : decode cX12_get 17 = .ok (.isub, 1) := by decide +kernel
theorem dX12_get_18 : decode cX12_get 18 = .ok (.i2l, 1) := by decide +kernel
theorem dX12_get_19 : decode cX12_get 19 = .ok (.invokestatic 83, 3) := by decide +kernel
theorem dX12_get_22 : decode cX12_get 22 = .ok (.ifCond .eq 17, 3) := by decide +kernel
theorem dX12_get_25 : decode cX12_get 25 = .ok (.aload_n 0, 1) := by decide +kernel
theorem dX12_get_26 : decode cX12_get 26 = .ok (.getfield 61, 3) := by decide +kernel
theorem dX12_get_29 : decode cX12_get 29 = .ok (.bipush 30, 2) := by decide +kernel
theorem dX12_get_31 : decode cX12_get 31 = .ok (.iload_n 1, 1) := by decide +kernel
theorem dX12_get_32 : decode cX12_get 32 = .ok (.imul, 1) := by decide +kernel
theorem dX12_get_33 : decode cX12_get 33 = .ok (.iload_n 2, 1) := by decide +kernel
theorem dX12_get_34 : decode cX12_get 34 = .ok (.iadd, 1) := by decide +kernel
theorem dX12_get_35 : decode cX12_get 35 = .ok (.laload, 1) := by decide +kernel
theorem dX12_get_36 : decode cX12_get 36 = .ok (.goto 6, 3) := by decide +kernel
theorem dX12_get_39 : decode cX12_get 39 = .ok (.ldc2_w 67, 3) := by decide +kernel
theorem dX12_get_42 : decode cX12_get 42 = .ok (.lreturn, 1) := by decide +kernel
theorem dX12_wrongRow_0 : decode cX12_wrongRow 0 = .ok (.iload_n 1, 1) := by decide +kernel
theorem dX12_wrongRow_1 : decode cX12_wrongRow 1 = .ok (.invokestatic 303, 3) := by decide +kernel
theorem dX12_wrongRow_4 : decode cX12_wrongRow 4 = .ok (.ifCond .ne 5, 3) := by decide +kernel
theorem dX12_wrongRow_7 : decode cX12_wrongRow 7 = .ok (.iconst (-1), 1) := by decide +kernel
theorem dX12_wrongRow_8 : decode cX12_wrongRow 8 = .ok (.ireturn, 1) := by decide +kernel
theorem dX12_wrongRow_9 : decode cX12_wrongRow 9 = .ok (.iload_n 2, 1) := by decide +kernel
theorem dX12_wrongRow_10 : decode cX12_wrongRow 10 = .ok (.invokestatic 130, 3) := by decide +kernel
theorem dX12_wrongRow_13 : decode cX12_wrongRow 13 = .ok (.ifCond .ne 6, 3) := by decide +kernel
theorem dX12_wrongRow_16 : decode cX12_wrongRow 16 = .ok (.bipush (-2), 2) := by decide +kernel
theorem dX12_wrongRow_18 : decode cX12_wrongRow 18 = .ok (.ireturn, 1) := by decide +kernel
theorem dX12_wrongRow_19 : decode cX12_wrongRow 19 = .ok (.aload_n 0, 1) := by decide +kernel
theorem dX12_wrongRow_20 : decode cX12_wrongRow 20 = .ok (.getfield 55, 3) := by decide +kernel
theorem dX12_wrongRow_23 : decode cX12_wrongRow 23 = .ok (.iload_n 1, 1) := by decide +kernel
theorem dX12_wrongRow_24 : decode cX12_wrongRow 24 = .ok (.iaload, 1) := by decide +kernel
theorem dX12_wrongRow_25 : decode cX12_wrongRow 25 = .ok (.ifCond .ge 6, 3) := by decide +kernel
theorem dX12_wrongRow_28 : decode cX12_wrongRow 28 = .ok (.bipush (-11), 2) := by decide +kernel
theorem dX12_wrongRow_30 : decode cX12_wrongRow 30 = .ok (.ireturn, 1) := by decide +kernel
theorem dX12_wrongRow_31 : decode cX12_wrongRow 31 = .ok (.aload_n 0, 1) := by decide +kernel
theorem dX12_wrongRow_32 : decode cX12_wrongRow 32 = .ok (.iload_n 2, 1) := by decide +kernel
theorem dX12_wrongRow_33 : decode cX12_wrongRow 33 = .ok (.invokevirtual 173, 3) := by decide +kernel
theorem dX12_wrongRow_36 : decode cX12_wrongRow 36 = .ok (.aload_n 0, 1) := by decide +kernel
theorem dX12_wrongRow_37 : decode cX12_wrongRow 37 = .ok (.iload_n 3, 1) := by decide +kernel
theorem dX12_wrongRow_38 : decode cX12_wrongRow 38 = .ok (.invokevirtual 176, 3) := by decide +kernel
theorem dX12_wrongRow_41 : decode cX12_wrongRow 41 = .ok (.ifCond .ne 7, 3) := by decide +kernel
theorem dX12_wrongRow_44 : decode cX12_wrongRow 44 = .ok (.iconst (-1), 1) := by decide +kernel
theorem dX12_wrongRow_45 : decode cX12_wrongRow 45 = .ok (.goto 16, 3) := by decide +kernel
theorem dX12_wrongRow_48 : decode cX12_wrongRow 48 = .ok (.aload_n 0, 1) := by decide +kernel
theorem dX12_wrongRow_49 : decode cX12_wrongRow 49 = .ok (.getfield 69, 3) := by decide +kernel
theorem dX12_wrongRow_52 : decode cX12_wrongRow 52 = .ok (.ifCond .eq 8, 3) := by decide +kernel
theorem dX12_wrongRow_55 : decode cX12_wrongRow 55 = .ok (.bipush (-7), 2) := by decide +kernel
theorem dX12_wrongRow_57 : decode cX12_wrongRow 57 = .ok (.goto 4, 3) := by decide +kernel
theorem dX12_wrongRow_60 : decode cX12_wrongRow 60 = .ok (.iconst 0, 1) := by decide +kernel
theorem dX12_wrongRow_61 : decode cX12_wrongRow 61 = .ok (.ireturn, 1) := by decide +kernel
theorem dX12_fill_0 : decode cX12_fill 0 = .ok (.aload_n 0, 1) := by decide +kernel
theorem dX12_fill_1 : decode cX12_fill 1 = .ok (.iload_n 1, 1) := by decide +kernel
theorem dX12_fill_2 : decode cX12_fill 2 = .ok (.iload_n 2, 1) := by decide +kernel
theorem dX12_fill_3 : decode cX12_fill 3 = .ok (.iload_n 3, 1) := by decide +kernel
theorem dX12_fill_4 : decode cX12_fill 4 = .ok (.invokevirtual 312, 3) := by decide +kernel
theorem dX12_fill_7 : decode cX12_fill 7 = .ok (.istore 4, 2) := by decide +kernel
theorem dX12_fill_9 : decode cX12_fill 9 = .ok (.iload 4, 2) := by decide +kernel
theorem dX12_fill_11 : decode cX12_fill 11 = .ok (.ifCond .ge 6, 3) := by decide +kernel
theorem dX12_fill_14 : decode cX12_fill 14 = .ok (.iload 4, 2) := by decide +kernel
theorem dX12_fill_16 : decode cX12_fill 16 = .ok (.ireturn, 1) := by decide +kernel
theorem dX12_fill_17 : decode cX12_fill 17 = .ok (.aload_n 0, 1) := by decide +kernel
theorem dX12_fill_18 : decode cX12_fill 18 = .ok (.iload_n 3, 1) := by decide +kernel
theorem dX12_fill_19 : decode cX12_fill 19 = .ok (.invokevirtual 136, 3) := by decide +kernel
theorem dX12_fill_22 : decode cX12_fill 22 = .ok (.aload_n 0, 1) := by decide +kernel
theorem dX12_fill_23 : decode cX12_fill 23 = .ok (.getfield 58, 3) := by decide +kernel
theorem dX12_fill_26 : decode cX12_fill 26 = .ok (.iload_n 1, 1) := by decide +kernel
theorem dX12_fill_27 : decode cX12_fill 27 = .ok (.iaload, 1) := by decide +kernel

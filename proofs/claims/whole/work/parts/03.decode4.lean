theorem dX12_degree_14 : decode cX12_degree 14 = .ok (.ifCond .ne 6, 3) := by decide +kernel
theorem dX12_degree_17 : decode cX12_degree 17 = .ok (.bipush (-2), 2) := by decide +kernel
theorem dX12_degree_19 : decode cX12_degree 19 = .ok (.ireturn, 1) := by decide +kernel
theorem dX12_degree_20 : decode cX12_degree 20 = .ok (.aload_n 0, 1) := by decide +kernel
theorem dX12_degree_21 : decode cX12_degree 21 = .ok (.iload_n 1, 1) := by decide +kernel
theorem dX12_degree_22 : decode cX12_degree 22 = .ok (.invokevirtual 133, 3) := by decide +kernel
theorem dX12_degree_25 : decode cX12_degree 25 = .ok (.iload_n 2, 1) := by decide +kernel
theorem dX12_degree_26 : decode cX12_degree 26 = .ok (.ifCond .ne 10, 3) := by decide +kernel
theorem dX12_degree_29 : decode cX12_degree 29 = .ok (.aload_n 0, 1) := by decide +kernel
theorem dX12_degree_30 : decode cX12_degree 30 = .ok (.getfield 121, 3) := by decide +kernel
theorem dX12_degree_33 : decode cX12_degree 33 = .ok (.goto 7, 3) := by decide +kernel
theorem dX12_degree_36 : decode cX12_degree 36 = .ok (.aload_n 0, 1) := by decide +kernel
theorem dX12_degree_37 : decode cX12_degree 37 = .ok (.getfield 124, 3) := by decide +kernel
theorem dX12_degree_40 : decode cX12_degree 40 = .ok (.ireturn, 1) := by decide +kernel
theorem dX12_itemMany_0 : decode cX12_itemMany 0 = .ok (.aload_n 0, 1) := by decide +kernel
theorem dX12_itemMany_1 : decode cX12_itemMany 1 = .ok (.getfield 121, 3) := by decide +kernel
theorem dX12_itemMany_4 : decode cX12_itemMany 4 = .ok (.iload_n 1, 1) := by decide +kernel
theorem dX12_itemMany_5 : decode cX12_itemMany 5 = .ok (.isub, 1) := by decide +kernel
theorem dX12_itemMany_6 : decode cX12_itemMany 6 = .ok (.iconst 2, 1) := by decide +kernel
theorem dX12_itemMany_7 : decode cX12_itemMany 7 = .ok (.idiv, 1) := by decide +kernel
theorem dX12_itemMany_8 : decode cX12_itemMany 8 = .ok (.iconst 1, 1) := by decide +kernel
theorem dX12_itemMany_9 : decode cX12_itemMany 9 = .ok (.iadd, 1) := by decide +kernel
theorem dX12_itemMany_10 : decode cX12_itemMany 10 = .ok (.ireturn, 1) := by decide +kernel
theorem dX12_item_0 : decode cX12_item 0 = .ok (.iload_n 2, 1) := by decide +kernel
theorem dX12_item_1 : decode cX12_item 1 = .ok (.bipush 6, 2) := by decide +kernel
theorem dX12_item_3 : decode cX12_item 3 = .ok (.if_icmp .ge 17, 3) := by decide +kernel
theorem dX12_item_6 : decode cX12_item 6 = .ok (.aload_n 0, 1) := by decide +kernel
theorem dX12_item_7 : decode cX12_item 7 = .ok (.getfield 28, 3) := by decide +kernel
theorem dX12_item_10 : decode cX12_item 10 = .ok (.bipush 6, 2) := by decide +kernel
theorem dX12_item_12 : decode cX12_item 12 = .ok (.iload_n 1, 1) := by decide +kernel
theorem dX12_item_13 : decode cX12_item 13 = .ok (.imul, 1) := by decide +kernel
theorem dX12_item_14 : decode cX12_item 14 = .ok (.iload_n 2, 1) := by decide +kernel
theorem dX12_item_15 : decode cX12_item 15 = .ok (.iadd, 1) := by decide +kernel
theorem dX12_item_16 : decode cX12_item 16 = .ok (.laload, 1) := by decide +kernel
theorem dX12_item_17 : decode cX12_item 17 = .ok (.goto 4, 3) := by decide +kernel
theorem dX12_item_20 : decode cX12_item 20 = .ok (.lconst 0, 1) := by decide +kernel
theorem dX12_item_21 : decode cX12_item 21 = .ok (.lreturn, 1) := by decide +kernel
theorem dX12_firstNot_0 : decode cX12_firstNot 0 = .ok (.iconst 0, 1) := by decide +kernel
theorem dX12_firstNot_1 : decode cX12_firstNot 1 = .ok (.istore_n 2, 1) := by decide +kernel
theorem dX12_firstNot_2 : decode cX12_firstNot 2 = .ok (.iload_n 2, 1) := by decide +kernel
theorem dX12_firstNot_3 : decode cX12_firstNot 3 = .ok (.aload_n 0, 1) := by decide +kernel
theorem dX12_firstNot_4 : decode cX12_firstNot 4 = .ok (.iload_n 1, 1) := by decide +kernel
theorem dX12_firstNot_5 : decode cX12_firstNot 5 = .ok (.invokevirtual 136, 3) := by decide +kernel
theorem dX12_firstNot_8 : decode cX12_firstNot 8 = .ok (.if_icmp .ge 20, 3) := by decide +kernel
theorem dX12_firstNot_11 : decode cX12_firstNot 11 = .ok (.aload_n 0, 1) := by decide +kernel
theorem dX12_firstNot_12 : decode cX12_firstNot 12 = .ok (.iload_n 1, 1) := by decide +kernel
theorem dX12_firstNot_13 : decode cX12_firstNot 13 = .ok (.iload_n 2, 1) := by decide +kernel
theorem dX12_firstNot_14 : decode cX12_firstNot 14 = .ok (.invokevirtual 140, 3) := by decide +kernel
theorem dX12_firstNot_17 : decode cX12_firstNot 17 = .ok (.lconst 0, 1) := by decide +kernel
theorem dX12_firstNot_18 : decode cX12_firstNot 18 = .ok (.lcmp, 1) := by decide +kernel
theorem dX12_firstNot_19 : decode cX12_firstNot 19 = .ok (.ifCond .ne 9, 3) := by decide +kernel
theorem dX12_firstNot_22 : decode cX12_firstNot 22 = .ok (.iinc 2 1, 3) := by decide +kernel
theorem dX12_firstNot_25 : decode cX12_firstNot 25 = .ok (.goto (-23), 3) := by decide +kernel
theorem dX12_firstNot_28 : decode cX12_firstNot 28 = .ok (.iload_n 2, 1) := by decide +kernel
theorem dX12_firstNot_29 : decode cX12_firstNot 29 = .ok (.ireturn, 1) := by decide +kernel
theorem dX12_mends_0 : decode cX12_mends 0 = .ok (.aload_n 0, 1) := by decide +kernel
theorem dX12_mends_1 : decode cX12_mends 1 = .ok (.iload_n 1, 1) := by decide +kernel
theorem dX12_mends_2 : decode cX12_mends 2 = .ok (.invokevirtual 144, 3) := by decide +kernel
theorem dX12_mends_5 : decode cX12_mends 5 = .ok (.istore_n 2, 1) := by decide +kernel
theorem dX12_mends_6 : decode cX12_mends 6 = .ok (.aload_n 0, 1) := by decide +kernel
theorem dX12_mends_7 : decode cX12_mends 7 = .ok (.iload_n 1, 1) := by decide +kernel
theorem dX12_mends_8 : decode cX12_mends 8 = .ok (.invokevirtual 136, 3) := by decide +kernel
theorem dX12_mends_11 : decode cX12_mends 11 = .ok (.istore_n 3, 1) := by decide +kernel
theorem dX12_mends_12 : decode cX12_mends 12 = .ok (.aload_n 0, 1) := by decide +kernel
theorem dX12_mends_13 : decode cX12_mends 13 = .ok (.getfield 34, 3) := by decide +kernel
theorem dX12_mends_16 : decode cX12_mends 16 = .ok (.iload_n 1, 1) := by decide +kernel
theorem dX12_mends_17 : decode cX12_mends 17 = .ok (.iload_n 1, 1) := by decide +kernel
theorem dX12_mends_18 : decode cX12_mends 18 = .ok (.ifCond .eq 7, 3) := by decide +kernel
theorem dX12_mends_21 : decode cX12_mends 21 = .ok (.iload_n 2, 1) := by decide +kernel
theorem dX12_mends_22 : decode cX12_mends 22 = .ok (.ifCond .ne 7, 3) := by decide +kernel
theorem dX12_mends_25 : decode cX12_mends 25 = .ok (.iconst 0, 1) := by decide +kernel
theorem dX12_mends_26 : decode cX12_mends 26 = .ok (.goto 13, 3) := by decide +kernel
theorem dX12_mends_29 : decode cX12_mends 29 = .ok (.iload_n 2, 1) := by decide +kernel
theorem dX12_mends_30 : decode cX12_mends 30 = .ok (.iload_n 3, 1) := by decide +kernel
theorem dX12_mends_31 : decode cX12_mends 31 = .ok (.if_icmp .ne 7, 3) := by decide +kernel
theorem dX12_mends_34 : decode cX12_mends 34 = .ok (.iconst 2, 1) := by decide +kernel
theorem dX12_mends_35 : decode cX12_mends 35 = .ok (.goto 4, 3) := by decide +kernel
theorem dX12_mends_38 : decode cX12_mends 38 = .ok (.iconst 1, 1) := by decide +kernel
theorem dX12_mends_39 : decode cX12_mends 39 = .ok (.iastore, 1) := by decide +kernel
theorem dX12_mends_40 : decode cX12_mends 40 = .ok (.iconst 0, 1) := by decide +kernel
theorem dX12_mends_41 : decode cX12_mends 41 = .ok (.istore 4, 2) := by decide +kernel
theorem dX12_mends_43 : decode cX12_mends 43 = .ok (.iload 4, 2) := by decide +kernel
theorem dX12_mends_45 : decode cX12_mends 45 = .ok (.bipush 6, 2) := by decide +kernel
theorem dX12_mends_47 : decode cX12_mends 47 = .ok (.if_icmp .ge 23, 3) := by decide +kernel
theorem dX12_mends_50 : decode cX12_mends 50 = .ok (.aload_n 0, 1) := by decide +kernel
theorem dX12_mends_51 : decode cX12_mends 51 = .ok (.getfield 31, 3) := by decide +kernel
theorem dX12_mends_54 : decode cX12_mends 54 = .ok (.iload 4, 2) := by decide +kernel
theorem dX12_mends_56 : decode cX12_mends 56 = .ok (.aload_n 0, 1) := by decide +kernel
theorem dX12_mends_57 : decode cX12_mends 57 = .ok (.iload_n 1, 1) := by decide +kernel
theorem dX12_mends_58 : decode cX12_mends 58 = .ok (.iload 4, 2) := by decide +kernel
theorem dX12_mends_60 : decode cX12_mends 60 = .ok (.invokevirtual 140, 3) := by decide +kernel
theorem dX12_mends_63 : decode cX12_mends 63 = .ok (.lastore, 1) := by decide +kernel
theorem dX12_mends_64 : decode cX12_mends 64 = .ok (.iinc 4 1, 3) := by decide +kernel
theorem dX12_mends_67 : decode cX12_mends 67 = .ok (.goto (-24), 3) := by decide +kernel
theorem dX12_mends_70 : decode cX12_mends 70 = .ok (.iconst 0, 1) := by decide +kernel
theorem dX12_mends_71 : decode cX12_mends 71 = .ok (.istore 4, 2) := by decide +kernel
theorem dX12_mends_73 : decode cX12_mends 73 = .ok (.iload 4, 2) := by decide +kernel
theorem dX12_mends_75 : decode cX12_mends 75 = .ok (.iload_n 3, 1) := by decide +kernel
theorem dX12_mends_76 : decode cX12_mends 76 = .ok (.if_icmp .ge 129, 3) := by decide +kernel
theorem dX12_mends_79 : decode cX12_mends 79 = .ok (.aload_n 0, 1) := by decide +kernel
theorem dX12_mends_80 : decode cX12_mends 80 = .ok (.getfield 34, 3) := by decide +kernel
theorem dX12_mends_83 : decode cX12_mends 83 = .ok (.iload_n 1, 1) := by decide +kernel
theorem dX12_mends_84 : decode cX12_mends 84 = .ok (.iaload, 1) := by decide +kernel
theorem dX12_mends_85 : decode cX12_mends 85 = .ok (.ifCond .le 120, 3) := by decide +kernel
theorem dX12_mends_88 : decode cX12_mends 88 = .ok (.iload 4, 2) := by decide +kernel
theorem dX12_mends_90 : decode cX12_mends 90 = .ok (.iload_n 2, 1) := by decide +kernel
theorem dX12_mends_91 : decode cX12_mends 91 = .ok (.iadd, 1) := by decide +kernel
theorem dX12_mends_92 : decode cX12_mends 92 = .ok (.iload_n 3, 1) := by decide +kernel
theorem dX12_mends_93 : decode cX12_mends 93 = .ok (.if_icmp .ge 38, 3) := by decide +kernel
theorem dX12_mends_96 : decode cX12_mends 96 = .ok (.iload_n 2, 1) := by decide +kernel
theorem dX12_mends_97 : decode cX12_mends 97 = .ok (.iconst 2, 1) := by decide +kernel
theorem dX12_mends_98 : decode cX12_mends 98 = .ok (.irem, 1) := by decide +kernel
theorem dX12_mends_99 : decode cX12_mends 99 = .ok (.iconst 1, 1) := by decide +kernel
theorem dX12_mends_100 : decode cX12_mends 100 = .ok (.if_icmp .ne 19, 3) := by decide +kernel
theorem dX12_mends_103 : decode cX12_mends 103 = .ok (.aload_n 0, 1) := by decide +kernel
theorem dX12_mends_104 : decode cX12_mends 104 = .ok (.aload_n 0, 1) := by decide +kernel
theorem dX12_mends_105 : decode cX12_mends 105 = .ok (.getfield 31, 3) := by decide +kernel
theorem dX12_mends_108 : decode cX12_mends 108 = .ok (.iload 4, 2) := by decide +kernel
theorem dX12_mends_110 : decode cX12_mends 110 = .ok (.iload_n 2, 1) := by decide +kernel
theorem dX12_mends_111 : decode cX12_mends 111 = .ok (.iadd, 1) := by decide +kernel
theorem dX12_mends_112 : decode cX12_mends 112 = .ok (.laload, 1) := by decide +kernel
theorem dX12_mends_113 : decode cX12_mends 113 = .ok (.invokevirtual 147, 3) := by decide +kernel
theorem dX12_mends_116 : decode cX12_mends 116 = .ok (.goto 16, 3) := by decide +kernel
theorem dX12_mends_119 : decode cX12_mends 119 = .ok (.aload_n 0, 1) := by decide +kernel
theorem dX12_mends_120 : decode cX12_mends 120 = .ok (.getfield 31, 3) := by decide +kernel
theorem dX12_mends_123 : decode cX12_mends 123 = .ok (.iload 4, 2) := by decide +kernel
theorem dX12_mends_125 : decode cX12_mends 125 = .ok (.iload_n 2, 1) := by decide +kernel
theorem dX12_mends_126 : decode cX12_mends 126 = .ok (.iadd, 1) := by decide +kernel
theorem dX12_mends_127 : decode cX12_mends 127 = .ok (.laload, 1) := by decide +kernel
theorem dX12_mends_128 : decode cX12_mends 128 = .ok (.goto 4, 3) := by decide +kernel
theorem dX12_mends_131 : decode cX12_mends 131 = .ok (.lconst 0, 1) := by decide +kernel
theorem dX12_mends_132 : decode cX12_mends 132 = .ok (.lstore 5, 2) := by decide +kernel
theorem dX12_mends_134 : decode cX12_mends 134 = .ok (.aload_n 0, 1) := by decide +kernel
theorem dX12_mends_135 : decode cX12_mends 135 = .ok (.getfield 28, 3) := by decide +kernel
theorem dX12_mends_138 : decode cX12_mends 138 = .ok (.bipush 6, 2) := by decide +kernel
theorem dX12_mends_140 : decode cX12_mends 140 = .ok (.iload_n 1, 1) := by decide +kernel
theorem dX12_mends_141 : decode cX12_mends 141 = .ok (.imul, 1) := by decide +kernel
theorem dX12_mends_142 : decode cX12_mends 142 = .ok (.iload 4, 2) := by decide +kernel
theorem dX12_mends_144 : decode cX12_mends 144 = .ok (.iadd, 1) := by decide +kernel
theorem dX12_mends_145 : decode cX12_mends 145 = .ok (.aload_n 0, 1) := by decide +kernel
theorem dX12_mends_146 : decode cX12_mends 146 = .ok (.getfield 34, 3) := by decide +kernel
theorem dX12_mends_149 : decode cX12_mends 149 = .ok (.iload_n 1, 1) := by decide +kernel
theorem dX12_mends_150 : decode cX12_mends 150 = .ok (.iaload, 1) := by decide +kernel
theorem dX12_mends_151 : decode cX12_mends 151 = .ok (.iconst 2, 1) := by decide +kernel
theorem dX12_mends_152 : decode cX12_mends 152 = .ok (.if_icmp .ne 33, 3) := by decide +kernel
theorem dX12_mends_155 : decode cX12_mends 155 = .ok (.aload_n 0, 1) := by decide +kernel
theorem dX12_mends_156 : decode cX12_mends 156 = .ok (.aload_n 0, 1) := by decide +kernel
theorem dX12_mends_157 : decode cX12_mends 157 = .ok (.iload_n 1, 1) := by decide +kernel
theorem dX12_mends_158 : decode cX12_mends 158 = .ok (.iconst 1, 1) := by decide +kernel
theorem dX12_mends_159 : decode cX12_mends 159 = .ok (.isub, 1) := by decide +kernel
theorem dX12_mends_160 : decode cX12_mends 160 = .ok (.iload 4, 2) := by decide +kernel
theorem dX12_mends_162 : decode cX12_mends 162 = .ok (.invokevirtual 140, 3) := by decide +kernel
theorem dX12_mends_165 : decode cX12_mends 165 = .ok (.aload_n 0, 1) := by decide +kernel
theorem dX12_mends_166 : decode cX12_mends 166 = .ok (.getfield 121, 3) := by decide +kernel
theorem dX12_mends_169 : decode cX12_mends 169 = .ok (.iload_n 1, 1) := by decide +kernel
theorem dX12_mends_170 : decode cX12_mends 170 = .ok (.isub, 1) := by decide +kernel
theorem dX12_mends_171 : decode cX12_mends 171 = .ok (.iconst 1, 1) := by decide +kernel
theorem dX12_mends_172 : decode cX12_mends 172 = .ok (.iadd, 1) := by decide +kernel
theorem dX12_mends_173 : decode cX12_mends 173 = .ok (.iconst 2, 1) := by decide +kernel
theorem dX12_mends_174 : decode cX12_mends 174 = .ok (.iload 4, 2) := by decide +kernel
theorem dX12_mends_176 : decode cX12_mends 176 = .ok (.imul, 1) := by decide +kernel
theorem dX12_mends_177 : decode cX12_mends 177 = .ok (.isub, 1) := by decide +kernel
theorem dX12_mends_178 : decode cX12_mends 178 = .ok (.i2l, 1) := by decide +kernel
theorem dX12_mends_179 : decode cX12_mends 179 = .ok (.invokevirtual 151, 3) := by decide +kernel
theorem dX12_mends_182 : decode cX12_mends 182 = .ok (.goto 16, 3) := by decide +kernel
theorem dX12_mends_185 : decode cX12_mends 185 = .ok (.aload_n 0, 1) := by decide +kernel
theorem dX12_mends_186 : decode cX12_mends 186 = .ok (.aload_n 0, 1) := by decide +kernel
theorem dX12_mends_187 : decode cX12_mends 187 = .ok (.getfield 31, 3) := by decide +kernel
theorem dX12_mends_190 : decode cX12_mends 190 = .ok (.iload 4, 2) := by decide +kernel
theorem dX12_mends_192 : decode cX12_mends 192 = .ok (.laload, 1) := by decide +kernel
theorem dX12_mends_193 : decode cX12_mends 193 = .ok (.lload 5, 2) := by decide +kernel
theorem dX12_mends_195 : decode cX12_mends 195 = .ok (.invokevirtual 155, 3) := by decide +kernel
theorem dX12_mends_198 : decode cX12_mends 198 = .ok (.lastore, 1) := by decide +kernel
theorem dX12_mends_199 : decode cX12_mends 199 = .ok (.iinc 4 1, 3) := by decide +kernel
theorem dX12_mends_202 : decode cX12_mends 202 = .ok (.goto (-129), 3) := by decide +kernel
theorem dX12_mends_205 : decode cX12_mends 205 = .ok (.lconst 0, 1) := by decide +kernel
theorem dX12_mends_206 : decode cX12_mends 206 = .ok (.lstore 4, 2) := by decide +kernel
theorem dX12_mends_208 : decode cX12_mends 208 = .ok (.iconst 0, 1) := by decide +kernel
theorem dX12_mends_209 : decode cX12_mends 209 = .ok (.istore 6, 2) := by decide +kernel
theorem dX12_mends_211 : decode cX12_mends 211 = .ok (.iload 6, 2) := by decide +kernel
theorem dX12_mends_213 : decode cX12_mends 213 = .ok (.iload_n 3, 1) := by decide +kernel
theorem dX12_mends_214 : decode cX12_mends 214 = .ok (.if_icmp .ge 23, 3) := by decide +kernel
theorem dX12_mends_217 : decode cX12_mends 217 = .ok (.aload_n 0, 1) := by decide +kernel
theorem dX12_mends_218 : decode cX12_mends 218 = .ok (.iload_n 1, 1) := by decide +kernel
theorem dX12_mends_219 : decode cX12_mends 219 = .ok (.iload 6, 2) := by decide +kernel
theorem dX12_mends_221 : decode cX12_mends 221 = .ok (.invokevirtual 140, 3) := by decide +kernel
theorem dX12_mends_224 : decode cX12_mends 224 = .ok (.lload 4, 2) := by decide +kernel
theorem dX12_mends_226 : decode cX12_mends 226 = .ok (.invokestatic 158, 3) := by decide +kernel
theorem dX12_mends_229 : decode cX12_mends 229 = .ok (.lstore 4, 2) := by decide +kernel
theorem dX12_mends_231 : decode cX12_mends 231 = .ok (.iinc 6 1, 3) := by decide +kernel
theorem dX12_mends_234 : decode cX12_mends 234 = .ok (.goto (-23), 3) := by decide +kernel
theorem dX12_mends_237 : decode cX12_mends 237 = .ok (.iconst 0, 1) := by decide +kernel
theorem dX12_mends_238 : decode cX12_mends 238 = .ok (.istore 6, 2) := by decide +kernel
theorem dX12_mends_240 : decode cX12_mends 240 = .ok (.iload 6, 2) := by decide +kernel
theorem dX12_mends_242 : decode cX12_mends 242 = .ok (.iload_n 3, 1) := by decide +kernel
theorem dX12_mends_243 : decode cX12_mends 243 = .ok (.if_icmp .ge 33, 3) := by decide +kernel
theorem dX12_mends_246 : decode cX12_mends 246 = .ok (.aload_n 0, 1) := by decide +kernel
theorem dX12_mends_247 : decode cX12_mends 247 = .ok (.getfield 69, 3) := by decide +kernel
theorem dX12_mends_250 : decode cX12_mends 250 = .ok (.ifCond .ne 26, 3) := by decide +kernel
theorem dX12_mends_253 : decode cX12_mends 253 = .ok (.aload_n 0, 1) := by decide +kernel
theorem dX12_mends_254 : decode cX12_mends 254 = .ok (.getfield 28, 3) := by decide +kernel
theorem dX12_mends_257 : decode cX12_mends 257 = .ok (.bipush 6, 2) := by decide +kernel
theorem dX12_mends_259 : decode cX12_mends 259 = .ok (.iload_n 1, 1) := by decide +kernel
theorem dX12_mends_260 : decode cX12_mends 260 = .ok (.imul, 1) := by decide +kernel
theorem dX12_mends_261 : decode cX12_mends 261 = .ok (.iload 6, 2) := by decide +kernel
theorem dX12_mends_263 : decode cX12_mends 263 = .ok (.iadd, 1) := by decide +kernel
theorem dX12_mends_264 : decode cX12_mends 264 = .ok (.dup2, 1) := by decide +kernel
theorem dX12_mends_265 : decode cX12_mends 265 = .ok (.laload, 1) := by decide +kernel
theorem dX12_mends_266 : decode cX12_mends 266 = .ok (.lload 4, 2) := by decide +kernel
theorem dX12_mends_268 : decode cX12_mends 268 = .ok (.ldiv, 1) := by decide +kernel
theorem dX12_mends_269 : decode cX12_mends 269 = .ok (.lastore, 1) := by decide +kernel
theorem dX12_mends_270 : decode cX12_mends 270 = .ok (.iinc 6 1, 3) := by decide +kernel
theorem dX12_mends_273 : decode cX12_mends 273 = .ok (.goto (-33), 3) := by decide +kernel
theorem dX12_mends_276 : decode cX12_mends 276 = .ok (.return_, 1) := by decide +kernel
theorem dX12_works_0 : decode cX12_works 0 = .ok (.aload_n 0, 1) := by decide +kernel
theorem dX12_works_1 : decode cX12_works 1 = .ok (.iload_n 1, 1) := by decide +kernel
theorem dX12_works_2 : decode cX12_works 2 = .ok (.iconst 2, 1) := by decide +kernel
theorem dX12_works_3 : decode cX12_works 3 = .ok (.isub, 1) := by decide +kernel
theorem dX12_works_4 : decode cX12_works 4 = .ok (.iconst 0, 1) := by decide +kernel
theorem dX12_works_5 : decode cX12_works 5 = .ok (.invokevirtual 140, 3) := by decide +kernel
theorem dX12_works_8 : decode cX12_works 8 = .ok (.lstore_n 2, 1) := by decide +kernel
theorem dX12_works_9 : decode cX12_works 9 = .ok (.aload_n 0, 1) := by decide +kernel
theorem dX12_works_10 : decode cX12_works 10 = .ok (.iload_n 1, 1) := by decide +kernel
theorem dX12_works_11 : decode cX12_works 11 = .ok (.iconst 1, 1) := by decide +kernel
theorem dX12_works_12 : decode cX12_works 12 = .ok (.isub, 1) := by decide +kernel
theorem dX12_works_13 : decode cX12_works 13 = .ok (.iconst 0, 1) := by decide +kernel
theorem dX12_works_14 : decode cX12_works 14 = .ok (.invokevirtual 140, 3) := by decide +kernel
theorem dX12_works_17 : decode cX12_works 17 = .ok (.lstore 4, 2) := by decide +kernel
theorem dX12_works_19 : decode cX12_works 19 = .ok (.iconst 0, 1) := by decide +kernel
theorem dX12_works_20 : decode cX12_works 20 = .ok (.istore 6, 2) := by decide +kernel
theorem dX12_works_22 : decode cX12_works 22 = .ok (.iload 6, 2) := by decide +kernel
theorem dX12_works_24 : decode cX12_works 24 = .ok (.aload_n 0, 1) := by decide +kernel
theorem dX12_works_25 : decode cX12_works 25 = .ok (.iload_n 1, 1) := by decide +kernel
theorem dX12_works_26 : decode cX12_works 26 = .ok (.invokevirtual 136, 3) := by decide +kernel
theorem dX12_works_29 : decode cX12_works 29 = .ok (.if_icmp .ge 78, 3) := by decide +kernel
theorem dX12_works_32 : decode cX12_works 32 = .ok (.aload_n 0, 1) := by decide +kernel
theorem dX12_works_33 : decode cX12_works 33 = .ok (.aload_n 0, 1) := by decide +kernel
theorem dX12_works_34 : decode cX12_works 34 = .ok (.lload 4, 2) := by decide +kernel
theorem dX12_works_36 : decode cX12_works 36 = .ok (.aload_n 0, 1) := by decide +kernel
theorem dX12_works_37 : decode cX12_works 37 = .ok (.iload_n 1, 1) := by decide +kernel
theorem dX12_works_38 : decode cX12_works 38 = .ok (.iconst 2, 1) := by decide +kernel
theorem dX12_works_39 : decode cX12_works 39 = .ok (.isub, 1) := by decide +kernel
theorem dX12_works_40 : decode cX12_works 40 = .ok (.iload 6, 2) := by decide +kernel
theorem dX12_works_42 : decode cX12_works 42 = .ok (.iconst 1, 1) := by decide +kernel
theorem dX12_works_43 : decode cX12_works 43 = .ok (.iadd, 1) := by decide +kernel
theorem dX12_works_44 : decode cX12_works 44 = .ok (.invokevirtual 140, 3) := by decide +kernel
theorem dX12_works_47 : decode cX12_works 47 = .ok (.invokevirtual 151, 3) := by decide +kernel
theorem dX12_works_50 : decode cX12_works 50 = .ok (.aload_n 0, 1) := by decide +kernel
theorem dX12_works_51 : decode cX12_works 51 = .ok (.lload_n 2, 1) := by decide +kernel
theorem dX12_works_52 : decode cX12_works 52 = .ok (.aload_n 0, 1) := by decide +kernel
theorem dX12_works_53 : decode cX12_works 53 = .ok (.iload_n 1, 1) := by decide +kernel
theorem dX12_works_54 : decode cX12_works 54 = .ok (.iconst 1, 1) := by decide +kernel
theorem dX12_works_55 : decode cX12_works 55 = .ok (.isub, 1) := by decide +kernel
theorem dX12_works_56 : decode cX12_works 56 = .ok (.iload 6, 2) := by decide +kernel
theorem dX12_works_58 : decode cX12_works 58 = .ok (.iconst 1, 1) := by decide +kernel
theorem dX12_works_59 : decode cX12_works 59 = .ok (.iadd, 1) := by decide +kernel
theorem dX12_works_60 : decode cX12_works 60 = .ok (.invokevirtual 140, 3) := by decide +kernel
theorem dX12_works_63 : decode cX12_works 63 = .ok (.invokevirtual 151, 3) := by decide +kernel
theorem dX12_works_66 : decode cX12_works 66 = .ok (.invokevirtual 161, 3) := by decide +kernel
theorem dX12_works_69 : decode cX12_works 69 = .ok (.lstore 7, 2) := by decide +kernel
theorem dX12_works_71 : decode cX12_works 71 = .ok (.aload_n 0, 1) := by decide +kernel
theorem dX12_works_72 : decode cX12_works 72 = .ok (.getfield 28, 3) := by decide +kernel
theorem dX12_works_75 : decode cX12_works 75 = .ok (.bipush 6, 2) := by decide +kernel
theorem dX12_works_77 : decode cX12_works 77 = .ok (.iload_n 1, 1) := by decide +kernel
theorem dX12_works_78 : decode cX12_works 78 = .ok (.imul, 1) := by decide +kernel
theorem dX12_works_79 : decode cX12_works 79 = .ok (.iload 6, 2) := by decide +kernel
theorem dX12_works_81 : decode cX12_works 81 = .ok (.iadd, 1) := by decide +kernel
theorem dX12_works_82 : decode cX12_works 82 = .ok (.lload 4, 2) := by decide +kernel
theorem dX12_works_84 : decode cX12_works 84 = .ok (.lconst 0, 1) := by decide +kernel
theorem dX12_works_85 : decode cX12_works 85 = .ok (.lcmp, 1) := by decide +kernel
theorem dX12_works_86 : decode cX12_works 86 = .ok (.ifCond .ge 12, 3) := by decide +kernel
theorem dX12_works_89 : decode cX12_works 89 = .ok (.aload_n 0, 1) := by decide +kernel
theorem dX12_works_90 : decode cX12_works 90 = .ok (.lload 7, 2) := by decide +kernel
theorem dX12_works_92 : decode cX12_works 92 = .ok (.invokevirtual 147, 3) := by decide +kernel
theorem dX12_works_95 : decode cX12_works 95 = .ok (.goto 5, 3) := by decide +kernel
theorem dX12_works_98 : decode cX12_works 98 = .ok (.lload 7, 2) := by decide +kernel
theorem dX12_works_100 : decode cX12_works 100 = .ok (.lastore, 1) := by decide +kernel
theorem dX12_works_101 : decode cX12_works 101 = .ok (.iinc 6 1, 3) := by decide +kernel
theorem dX12_works_104 : decode cX12_works 104 = .ok (.goto (-82), 3) := by decide +kernel
theorem dX12_works_107 : decode cX12_works 107 = .ok (.return_, 1) := by decide +kernel
theorem dX12_laysRows_0 : decode cX12_laysRows 0 = .ok (.aload_n 0, 1) := by decide +kernel
theorem dX12_laysRows_1 : decode cX12_laysRows 1 = .ok (.iconst 0, 1) := by decide +kernel
theorem dX12_laysRows_2 : decode cX12_laysRows 2 = .ok (.putfield 69, 3) := by decide +kernel
theorem dX12_laysRows_5 : decode cX12_laysRows 5 = .ok (.iconst 0, 1) := by decide +kernel
theorem dX12_laysRows_6 : decode cX12_laysRows 6 = .ok (.istore_n 1, 1) := by decide +kernel
theorem dX12_laysRows_7 : decode cX12_laysRows 7 = .ok (.iload_n 1, 1) := by decide +kernel
theorem dX12_laysRows_8 : decode cX12_laysRows 8 = .ok (.bipush 42, 2) := by decide +kernel
theorem dX12_laysRows_10 : decode cX12_laysRows 10 = .ok (.if_icmp .ge 16, 3) := by decide +kernel
theorem dX12_laysRows_13 : decode cX12_laysRows 13 = .ok (.aload_n 0, 1) := by decide +kernel
theorem dX12_laysRows_14 : decode cX12_laysRows 14 = .ok (.getfield 28, 3) := by decide +kernel
theorem dX12_laysRows_17 : decode cX12_laysRows 17 = .ok (.iload_n 1, 1) := by decide +kernel
theorem dX12_laysRows_18 : decode cX12_laysRows 18 = .ok (.lconst 0, 1) := by decide +kernel
theorem dX12_laysRows_19 : decode cX12_laysRows 19 = .ok (.lastore, 1) := by decide +kernel
theorem dX12_laysRows_20 : decode cX12_laysRows 20 = .ok (.iinc 1 1, 3) := by decide +kernel
theorem dX12_laysRows_23 : decode cX12_laysRows 23 = .ok (.goto (-16), 3) := by decide +kernel
theorem dX12_laysRows_26 : decode cX12_laysRows 26 = .ok (.iconst 0, 1) := by decide +kernel
theorem dX12_laysRows_27 : decode cX12_laysRows 27 = .ok (.istore_n 1, 1) := by decide +kernel
theorem dX12_laysRows_28 : decode cX12_laysRows 28 = .ok (.iload_n 1, 1) := by decide +kernel
theorem dX12_laysRows_29 : decode cX12_laysRows 29 = .ok (.aload_n 0, 1) := by decide +kernel
theorem dX12_laysRows_30 : decode cX12_laysRows 30 = .ok (.getfield 121, 3) := by decide +kernel
theorem dX12_laysRows_33 : decode cX12_laysRows 33 = .ok (.if_icmp .gt 86, 3) := by decide +kernel
theorem dX12_laysRows_36 : decode cX12_laysRows 36 = .ok (.aload_n 0, 1) := by decide +kernel
theorem dX12_laysRows_37 : decode cX12_laysRows 37 = .ok (.getfield 69, 3) := by decide +kernel
theorem dX12_laysRows_40 : decode cX12_laysRows 40 = .ok (.ifCond .ne 79, 3) := by decide +kernel
theorem dX12_laysRows_43 : decode cX12_laysRows 43 = .ok (.iconst 0, 1) := by decide +kernel
theorem dX12_laysRows_44 : decode cX12_laysRows 44 = .ok (.istore_n 2, 1) := by decide +kernel
theorem dX12_laysRows_45 : decode cX12_laysRows 45 = .ok (.iload_n 2, 1) := by decide +kernel
theorem dX12_laysRows_46 : decode cX12_laysRows 46 = .ok (.aload_n 0, 1) := by decide +kernel
theorem dX12_laysRows_47 : decode cX12_laysRows 47 = .ok (.iload_n 1, 1) := by decide +kernel
theorem dX12_laysRows_48 : decode cX12_laysRows 48 = .ok (.invokevirtual 136, 3) := by decide +kernel
theorem dX12_laysRows_51 : decode cX12_laysRows 51 = .ok (.if_icmp .ge 40, 3) := by decide +kernel
theorem dX12_laysRows_54 : decode cX12_laysRows 54 = .ok (.iload_n 1, 1) := by decide +kernel
theorem dX12_laysRows_55 : decode cX12_laysRows 55 = .ok (.iconst 2, 1) := by decide +kernel
theorem dX12_laysRows_56 : decode cX12_laysRows 56 = .ok (.if_icmp .ge 35, 3) := by decide +kernel
theorem dX12_laysRows_59 : decode cX12_laysRows 59 = .ok (.aload_n 0, 1) := by decide +kernel
theorem dX12_laysRows_60 : decode cX12_laysRows 60 = .ok (.getfield 28, 3) := by decide +kernel
theorem dX12_laysRows_63 : decode cX12_laysRows 63 = .ok (.bipush 6, 2) := by decide +kernel
theorem dX12_laysRows_65 : decode cX12_laysRows 65 = .ok (.iload_n 1, 1) := by decide +kernel
theorem dX12_laysRows_66 : decode cX12_laysRows 66 = .ok (.imul, 1) := by decide +kernel
theorem dX12_laysRows_67 : decode cX12_laysRows 67 = .ok (.iload_n 2, 1) := by decide +kernel
theorem dX12_laysRows_68 : decode cX12_laysRows 68 = .ok (.iadd, 1) := by decide +kernel
theorem dX12_laysRows_69 : decode cX12_laysRows 69 = .ok (.aload_n 0, 1) := by decide +kernel
theorem dX12_laysRows_70 : decode cX12_laysRows 70 = .ok (.getfield 22, 3) := by decide +kernel
theorem dX12_laysRows_73 : decode cX12_laysRows 73 = .ok (.aload_n 0, 1) := by decide +kernel
theorem dX12_laysRows_74 : decode cX12_laysRows 74 = .ok (.getfield 121, 3) := by decide +kernel
theorem dX12_laysRows_77 : decode cX12_laysRows 77 = .ok (.iload_n 1, 1) := by decide +kernel
theorem dX12_laysRows_78 : decode cX12_laysRows 78 = .ok (.isub, 1) := by decide +kernel
theorem dX12_laysRows_79 : decode cX12_laysRows 79 = .ok (.iconst 2, 1) := by decide +kernel
theorem dX12_laysRows_80 : decode cX12_laysRows 80 = .ok (.iload_n 2, 1) := by decide +kernel
theorem dX12_laysRows_81 : decode cX12_laysRows 81 = .ok (.imul, 1) := by decide +kernel
theorem dX12_laysRows_82 : decode cX12_laysRows 82 = .ok (.isub, 1) := by decide +kernel
theorem dX12_laysRows_83 : decode cX12_laysRows 83 = .ok (.laload, 1) := by decide +kernel
theorem dX12_laysRows_84 : decode cX12_laysRows 84 = .ok (.lastore, 1) := by decide +kernel
theorem dX12_laysRows_85 : decode cX12_laysRows 85 = .ok (.iinc 2 1, 3) := by decide +kernel
theorem dX12_laysRows_88 : decode cX12_laysRows 88 = .ok (.goto (-43), 3) := by decide +kernel
theorem dX12_laysRows_91 : decode cX12_laysRows 91 = .ok (.iload_n 1, 1) := by decide +kernel
theorem dX12_laysRows_92 : decode cX12_laysRows 92 = .ok (.iconst 1, 1) := by decide +kernel
theorem dX12_laysRows_93 : decode cX12_laysRows 93 = .ok (.if_icmp .le 8, 3) := by decide +kernel
theorem dX12_laysRows_96 : decode cX12_laysRows 96 = .ok (.aload_n 0, 1) := by decide +kernel
theorem dX12_laysRows_97 : decode cX12_laysRows 97 = .ok (.iload_n 1, 1) := by decide +kernel
theorem dX12_laysRows_98 : decode cX12_laysRows 98 = .ok (.invokevirtual 164, 3) := by decide +kernel
theorem dX12_laysRows_101 : decode cX12_laysRows 101 = .ok (.aload_n 0, 1) := by decide +kernel
theorem dX12_laysRows_102 : decode cX12_laysRows 102 = .ok (.getfield 69, 3) := by decide +kernel
theorem dX12_laysRows_105 : decode cX12_laysRows 105 = .ok (.ifCond .ne 8, 3) := by decide +kernel
theorem dX12_laysRows_108 : decode cX12_laysRows 108 = .ok (.aload_n 0, 1) := by decide +kernel
theorem dX12_laysRows_109 : decode cX12_laysRows 109 = .ok (.iload_n 1, 1) := by decide +kernel
theorem dX12_laysRows_110 : decode cX12_laysRows 110 = .ok (.invokevirtual 167, 3) := by decide +kernel
theorem dX12_laysRows_113 : decode cX12_laysRows 113 = .ok (.iinc 1 1, 3) := by decide +kernel
theorem dX12_laysRows_116 : decode cX12_laysRows 116 = .ok (.goto (-88), 3) := by decide +kernel
theorem dX12_laysRows_119 : decode cX12_laysRows 119 = .ok (.return_, 1) := by decide +kernel
theorem dX12_laysRowsOf_0 : decode cX12_laysRowsOf 0 = .ok (.aload_n 0, 1) := by decide +kernel
theorem dX12_laysRowsOf_1 : decode cX12_laysRowsOf 1 = .ok (.iload_n 1, 1) := by decide +kernel
theorem dX12_laysRowsOf_2 : decode cX12_laysRowsOf 2 = .ok (.invokevirtual 133, 3) := by decide +kernel
theorem dX12_laysRowsOf_5 : decode cX12_laysRowsOf 5 = .ok (.aload_n 0, 1) := by decide +kernel
theorem dX12_laysRowsOf_6 : decode cX12_laysRowsOf 6 = .ok (.invokevirtual 170, 3) := by decide +kernel
theorem dX12_laysRowsOf_9 : decode cX12_laysRowsOf 9 = .ok (.return_, 1) := by decide +kernel
theorem dX12_isRow_0 : decode cX12_isRow 0 = .ok (.iload_n 1, 1) := by decide +kernel
theorem dX12_isRow_1 : decode cX12_isRow 1 = .ok (.i2l, 1) := by decide +kernel
theorem dX12_isRow_2 : decode cX12_isRow 2 = .ok (.lconst 0, 1) := by decide +kernel
theorem dX12_isRow_3 : decode cX12_isRow 3 = .ok (.aload_n 0, 1) := by decide +kernel
theorem dX12_isRow_4 : decode cX12_isRow 4 = .ok (.getfield 121, 3) := by decide +kernel
theorem dX12_isRow_7 : decode cX12_isRow 7 = .ok (.i2l, 1) := by decide +kernel
theorem dX12_isRow_8 : decode cX12_isRow 8 = .ok (.invokestatic 83, 3) := by decide +kernel
theorem dX12_isRow_11 : decode cX12_isRow 11 = .ok (.ireturn, 1) := by decide +kernel
theorem dX12_row_0 : decode cX12_row 0 = .ok (.iload_n 1, 1) := by decide +kernel
theorem dX12_row_1 : decode cX12_row 1 = .ok (.invokestatic 130, 3) := by decide +kernel
theorem dX12_row_4 : decode cX12_row 4 = .ok (.ifCond .ne 7, 3) := by decide +kernel
theorem dX12_row_7 : decode cX12_row 7 = .ok (.ldc2_w 67, 3) := by decide +kernel
theorem dX12_row_10 : decode cX12_row 10 = .ok (.lreturn, 1) := by decide +kernel
theorem dX12_row_11 : decode cX12_row 11 = .ok (.aload_n 0, 1) := by decide +kernel
theorem dX12_row_12 : decode cX12_row 12 = .ok (.iload_n 1, 1) := by decide +kernel
theorem dX12_row_13 : decode cX12_row 13 = .ok (.invokevirtual 173, 3) := by decide +kernel
theorem dX12_row_16 : decode cX12_row 16 = .ok (.aload_n 0, 1) := by decide +kernel
theorem dX12_row_17 : decode cX12_row 17 = .ok (.iload_n 2, 1) := by decide +kernel
theorem dX12_row_18 : decode cX12_row 18 = .ok (.invokevirtual 176, 3) := by decide +kernel
theorem dX12_row_21 : decode cX12_row 21 = .ok (.ifCond .eq 27, 3) := by decide +kernel
theorem dX12_row_24 : decode cX12_row 24 = .ok (.iload_n 3, 1) := by decide +kernel
theorem dX12_row_25 : decode cX12_row 25 = .ok (.i2l, 1) := by decide +kernel
theorem dX12_row_26 : decode cX12_row 26 = .ok (.lconst 0, 1) := by decide +kernel
theorem dX12_row_27 : decode cX12_row 27 = .ok (.aload_n 0, 1) := by decide +kernel
theorem dX12_row_28 : decode cX12_row 28 = .ok (.iload_n 2, 1) := by decide +kernel
theorem dX12_row_29 : decode cX12_row 29 = .ok (.invokevirtual 136, 3) := by decide +kernel
theorem dX12_row_32 : decode cX12_row 32 = .ok (.iconst 1, 1) := by decide +kernel
theorem dX12_row_33 : decode cX12_row 33 = .ok (.isub, 1) := by decide +kernel
theorem dX12_row_34 : decode cX12_row 34 = .ok (.i2l, 1) := by decide +kernel
theorem dX12_row_35 : decode cX12_row 35 = .ok (.invokestatic 83, 3) := by decide +kernel
theorem dX12_row_38 : decode cX12_row 38 = .ok (.ifCond .eq 10, 3) := by decide +kernel
theorem dX12_row_41 : decode cX12_row 41 = .ok (.aload_n 0, 1) := by decide +kernel
theorem dX12_row_42 : decode cX12_row 42 = .ok (.getfield 69, 3) := by decide +kernel
theorem dX12_row_45 : decode cX12_row 45 = .ok (.ifCond .eq 9, 3) := by decide +kernel
theorem dX12_row_48 : decode cX12_row 48 = .ok (.ldc2_w 67, 3) := by decide +kernel
theorem dX12_row_51 : decode cX12_row 51 = .ok (.goto 9, 3) := by decide +kernel
theorem dX12_row_54 : decode cX12_row 54 = .ok (.aload_n 0, 1) := by decide +kernel
theorem dX12_row_55 : decode cX12_row 55 = .ok (.iload_n 2, 1) := by decide +kernel
theorem dX12_row_56 : decode cX12_row 56 = .ok (.iload_n 3, 1) := by decide +kernel
theorem dX12_row_57 : decode cX12_row 57 = .ok (.invokevirtual 140, 3) := by decide +kernel
theorem dX12_row_60 : decode cX12_row 60 = .ok (.lreturn, 1) := by decide +kernel
theorem dX12_caseOf_0 : decode cX12_caseOf 0 = .ok (.iload_n 1, 1) := by decide +kernel
theorem dX12_caseOf_1 : decode cX12_caseOf 1 = .ok (.invokestatic 130, 3) := by decide +kernel
theorem dX12_caseOf_4 : decode cX12_caseOf 4 = .ok (.ifCond .ne 6, 3) := by decide +kernel
theorem dX12_caseOf_7 : decode cX12_caseOf 7 = .ok (.bipush (-2), 2) := by decide +kernel
theorem dX12_caseOf_9 : decode cX12_caseOf 9 = .ok (.ireturn, 1) := by decide +kernel
theorem dX12_caseOf_10 : decode cX12_caseOf 10 = .ok (.aload_n 0, 1) := by decide +kernel
theorem dX12_caseOf_11 : decode cX12_caseOf 11 = .ok (.iload_n 1, 1) := by decide +kernel
theorem dX12_caseOf_12 : decode cX12_caseOf 12 = .ok (.invokevirtual 173, 3) := by decide +kernel
theorem dX12_caseOf_15 : decode cX12_caseOf 15 = .ok (.aload_n 0, 1) := by decide +kernel
theorem dX12_caseOf_16 : decode cX12_caseOf 16 = .ok (.iload_n 2, 1) := by decide +kernel
theorem dX12_caseOf_17 : decode cX12_caseOf 17 = .ok (.invokevirtual 176, 3) := by decide +kernel
theorem dX12_caseOf_20 : decode cX12_caseOf 20 = .ok (.ifCond .ne 7, 3) := by decide +kernel
theorem dX12_caseOf_23 : decode cX12_caseOf 23 = .ok (.iconst (-1), 1) := by decide +kernel
theorem dX12_caseOf_24 : decode cX12_caseOf 24 = .ok (.goto 21, 3) := by decide +kernel
theorem dX12_caseOf_27 : decode cX12_caseOf 27 = .ok (.aload_n 0, 1) := by decide +kernel
theorem dX12_caseOf_28 : decode cX12_caseOf 28 = .ok (.getfield 69, 3) := by decide +kernel
theorem dX12_caseOf_31 : decode cX12_caseOf 31 = .ok (.ifCond .eq 8, 3) := by decide +kernel
theorem dX12_caseOf_34 : decode cX12_caseOf 34 = .ok (.bipush (-7), 2) := by decide +kernel
theorem dX12_caseOf_36 : decode cX12_caseOf 36 = .ok (.goto 9, 3) := by decide +kernel
theorem dX12_caseOf_39 : decode cX12_caseOf 39 = .ok (.aload_n 0, 1) := by decide +kernel
theorem dX12_caseOf_40 : decode cX12_caseOf 40 = .ok (.getfield 34, 3) := by decide +kernel
theorem dX12_caseOf_43 : decode cX12_caseOf 43 = .ok (.iload_n 2, 1) := by decide +kernel
theorem dX12_caseOf_44 : decode cX12_caseOf 44 = .ok (.iaload, 1) := by decide +kernel
theorem dX12_caseOf_45 : decode cX12_caseOf 45 = .ok (.ireturn, 1) := by decide +kernel
theorem dX12_changesIn_0 : decode cX12_changesIn 0 = .ok (.iconst 0, 1) := by decide +kernel
theorem dX12_changesIn_1 : decode cX12_changesIn 1 = .ok (.istore_n 3, 1) := by decide +kernel
theorem dX12_changesIn_2 : decode cX12_changesIn 2 = .ok (.iload_n 1, 1) := by decide +kernel
theorem dX12_changesIn_3 : decode cX12_changesIn 3 = .ok (.iconst 1, 1) := by decide +kernel
theorem dX12_changesIn_4 : decode cX12_changesIn 4 = .ok (.iadd, 1) := by decide +kernel
theorem dX12_changesIn_5 : decode cX12_changesIn 5 = .ok (.istore 4, 2) := by decide +kernel
theorem dX12_changesIn_7 : decode cX12_changesIn 7 = .ok (.iload 4, 2) := by decide +kernel
theorem dX12_changesIn_9 : decode cX12_changesIn 9 = .ok (.iload_n 2, 1) := by decide +kernel
theorem dX12_changesIn_10 : decode cX12_changesIn 10 = .ok (.if_icmp .gt 56, 3) := by decide +kernel
theorem dX12_changesIn_13 : decode cX12_changesIn 13 = .ok (.iload_n 3, 1) := by decide +kernel
theorem dX12_changesIn_14 : decode cX12_changesIn 14 = .ok (.aload_n 0, 1) := by decide +kernel
theorem dX12_changesIn_15 : decode cX12_changesIn 15 = .ok (.iload 4, 2) := by decide +kernel
theorem dX12_changesIn_17 : decode cX12_changesIn 17 = .ok (.iconst 0, 1) := by decide +kernel
theorem dX12_changesIn_18 : decode cX12_changesIn 18 = .ok (.invokevirtual 140, 3) := by decide +kernel
theorem dX12_changesIn_21 : decode cX12_changesIn 21 = .ok (.lconst 0, 1) := by decide +kernel
theorem dX12_changesIn_22 : decode cX12_changesIn 22 = .ok (.lcmp, 1) := by decide +kernel
theorem dX12_changesIn_23 : decode cX12_changesIn 23 = .ok (.ifCond .ge 7, 3) := by decide +kernel
theorem dX12_changesIn_26 : decode cX12_changesIn 26 = .ok (.iconst 1, 1) := by decide +kernel
theorem dX12_changesIn_27 : decode cX12_changesIn 27 = .ok (.goto 4, 3) := by decide +kernel
theorem dX12_changesIn_30 : decode cX12_changesIn 30 = .ok (.iconst 0, 1) := by decide +kernel
theorem dX12_changesIn_31 : decode cX12_changesIn 31 = .ok (.aload_n 0, 1) := by decide +kernel
theorem dX12_changesIn_32 : decode cX12_changesIn 32 = .ok (.iload 4, 2) := by decide +kernel
theorem dX12_changesIn_34 : decode cX12_changesIn 34 = .ok (.iconst 1, 1) := by decide +kernel
theorem dX12_changesIn_35 : decode cX12_changesIn 35 = .ok (.isub, 1) := by decide +kernel
theorem dX12_changesIn_36 : decode cX12_changesIn 36 = .ok (.iconst 0, 1) := by decide +kernel
theorem dX12_changesIn_37 : decode cX12_changesIn 37 = .ok (.invokevirtual 140, 3) := by decide +kernel
theorem dX12_changesIn_40 : decode cX12_changesIn 40 = .ok (.lconst 0, 1) := by decide +kernel
theorem dX12_changesIn_41 : decode cX12_changesIn 41 = .ok (.lcmp, 1) := by decide +kernel
theorem dX12_changesIn_42 : decode cX12_changesIn 42 = .ok (.ifCond .ge 7, 3) := by decide +kernel
theorem dX12_changesIn_45 : decode cX12_changesIn 45 = .ok (.iconst 1, 1) := by decide +kernel
theorem dX12_changesIn_46 : decode cX12_changesIn 46 = .ok (.goto 4, 3) := by decide +kernel
theorem dX12_changesIn_49 : decode cX12_changesIn 49 = .ok (.iconst 0, 1) := by decide +kernel
theorem dX12_changesIn_50 : decode cX12_changesIn 50 = .ok (.if_icmp .ne 7, 3) := by decide +kernel
theorem dX12_changesIn_53 : decode cX12_changesIn 53 = .ok (.iconst 0, 1) := by decide +kernel
theorem dX12_changesIn_54 : decode cX12_changesIn 54 = .ok (.goto 4, 3) := by decide +kernel
theorem dX12_changesIn_57 : decode cX12_changesIn 57 = .ok (.iconst 1, 1) := by decide +kernel
theorem dX12_changesIn_58 : decode cX12_changesIn 58 = .ok (.iadd, 1) := by decide +kernel
theorem dX12_changesIn_59 : decode cX12_changesIn 59 = .ok (.istore_n 3, 1) := by decide +kernel
theorem dX12_changesIn_60 : decode cX12_changesIn 60 = .ok (.iinc 4 1, 3) := by decide +kernel
theorem dX12_changesIn_63 : decode cX12_changesIn 63 = .ok (.goto (-56), 3) := by decide +kernel
theorem dX12_changesIn_66 : decode cX12_changesIn 66 = .ok (.iload_n 3, 1) := by decide +kernel
theorem dX12_changesIn_67 : decode cX12_changesIn 67 = .ok (.ireturn, 1) := by decide +kernel
theorem dX12_firstCase_0 : decode cX12_firstCase 0 = .ok (.iconst 0, 1) := by decide +kernel
theorem dX12_firstCase_1 : decode cX12_firstCase 1 = .ok (.istore_n 1, 1) := by decide +kernel
theorem dX12_firstCase_2 : decode cX12_firstCase 2 = .ok (.iload_n 1, 1) := by decide +kernel
theorem dX12_firstCase_3 : decode cX12_firstCase 3 = .ok (.aload_n 0, 1) := by decide +kernel
theorem dX12_firstCase_4 : decode cX12_firstCase 4 = .ok (.getfield 121, 3) := by decide +kernel
theorem dX12_firstCase_7 : decode cX12_firstCase 7 = .ok (.if_icmp .gt 21, 3) := by decide +kernel
theorem dX12_firstCase_10 : decode cX12_firstCase 10 = .ok (.aload_n 0, 1) := by decide +kernel
theorem dX12_firstCase_11 : decode cX12_firstCase 11 = .ok (.getfield 34, 3) := by decide +kernel
theorem dX12_firstCase_14 : decode cX12_firstCase 14 = .ok (.iload_n 1, 1) := by decide +kernel
theorem dX12_firstCase_15 : decode cX12_firstCase 15 = .ok (.iaload, 1) := by decide +kernel
theorem dX12_firstCase_16 : decode cX12_firstCase 16 = .ok (.iconst 2, 1) := by decide +kernel
theorem dX12_firstCase_17 : decode cX12_firstCase 17 = .ok (.if_icmp .ne 5, 3) := by decide +kernel
theorem dX12_firstCase_20 : decode cX12_firstCase 20 = .ok (.iload_n 1, 1) := by decide +kernel
theorem dX12_firstCase_21 : decode cX12_firstCase 21 = .ok (.ireturn, 1) := by decide +kernel
theorem dX12_firstCase_22 : decode cX12_firstCase 22 = .ok (.iinc 1 1, 3) := by decide +kernel
theorem dX12_firstCase_25 : decode cX12_firstCase 25 = .ok (.goto (-23), 3) := by decide +kernel
theorem dX12_firstCase_28 : decode cX12_firstCase 28 = .ok (.iconst (-1), 1) := by decide +kernel
theorem dX12_firstCase_29 : decode cX12_firstCase 29 = .ok (.ireturn, 1) := by decide +kernel
theorem dX12_right_0 : decode cX12_right 0 = .ok (.aload_n 0, 1) := by decide +kernel
theorem dX12_right_1 : decode cX12_right 1 = .ok (.iconst 0, 1) := by decide +kernel
theorem dX12_right_2 : decode cX12_right 2 = .ok (.aload_n 0, 1) := by decide +kernel
theorem dX12_right_3 : decode cX12_right 3 = .ok (.getfield 121, 3) := by decide +kernel
theorem dX12_right_6 : decode cX12_right 6 = .ok (.invokevirtual 179, 3) := by decide +kernel
theorem dX12_right_9 : decode cX12_right 9 = .ok (.ireturn, 1) := by decide +kernel
theorem dX12_axis_0 : decode cX12_axis 0 = .ok (.aload_n 0, 1) := by decide +kernel
theorem dX12_axis_1 : decode cX12_axis 1 = .ok (.invokevirtual 183, 3) := by decide +kernel
theorem dX12_axis_4 : decode cX12_axis 4 = .ok (.istore_n 1, 1) := by decide +kernel
theorem dX12_axis_5 : decode cX12_axis 5 = .ok (.iload_n 1, 1) := by decide +kernel
theorem dX12_axis_6 : decode cX12_axis 6 = .ok (.ifCond .ge 7, 3) := by decide +kernel
theorem dX12_axis_9 : decode cX12_axis 9 = .ok (.iconst 0, 1) := by decide +kernel
theorem dX12_axis_10 : decode cX12_axis 10 = .ok (.goto 25, 3) := by decide +kernel
theorem dX12_axis_13 : decode cX12_axis 13 = .ok (.aload_n 0, 1) := by decide +kernel
theorem dX12_axis_14 : decode cX12_axis 14 = .ok (.getfield 121, 3) := by decide +kernel
theorem dX12_axis_17 : decode cX12_axis 17 = .ok (.iload_n 1, 1) := by decide +kernel
theorem dX12_axis_18 : decode cX12_axis 18 = .ok (.isub, 1) := by decide +kernel
theorem dX12_axis_19 : decode cX12_axis 19 = .ok (.iconst 1, 1) := by decide +kernel
theorem dX12_axis_20 : decode cX12_axis 20 = .ok (.iadd, 1) := by decide +kernel
theorem dX12_axis_21 : decode cX12_axis 21 = .ok (.iconst 2, 1) := by decide +kernel
theorem dX12_axis_22 : decode cX12_axis 22 = .ok (.aload_n 0, 1) := by decide +kernel
theorem dX12_axis_23 : decode cX12_axis 23 = .ok (.iload_n 1, 1) := by decide +kernel
theorem dX12_axis_24 : decode cX12_axis 24 = .ok (.iconst 1, 1) := by decide +kernel
theorem dX12_axis_25 : decode cX12_axis 25 = .ok (.isub, 1) := by decide +kernel
theorem dX12_axis_26 : decode cX12_axis 26 = .ok (.aload_n 0, 1) := by decide +kernel
theorem dX12_axis_27 : decode cX12_axis 27 = .ok (.getfield 121, 3) := by decide +kernel
theorem dX12_axis_30 : decode cX12_axis 30 = .ok (.invokevirtual 179, 3) := by decide +kernel
theorem dX12_axis_33 : decode cX12_axis 33 = .ok (.imul, 1) := by decide +kernel
theorem dX12_axis_34 : decode cX12_axis 34 = .ok (.isub, 1) := by decide +kernel
theorem dX12_axis_35 : decode cX12_axis 35 = .ok (.ireturn, 1) := by decide +kernel
theorem dX12_left_0 : decode cX12_left 0 = .ok (.aload_n 0, 1) := by decide +kernel
theorem dX12_left_1 : decode cX12_left 1 = .ok (.getfield 121, 3) := by decide +kernel
theorem dX12_left_4 : decode cX12_left 4 = .ok (.ifCond .ge 7, 3) := by decide +kernel
theorem dX12_left_7 : decode cX12_left 7 = .ok (.iconst 0, 1) := by decide +kernel
theorem dX12_left_8 : decode cX12_left 8 = .ok (.goto 17, 3) := by decide +kernel
theorem dX12_left_11 : decode cX12_left 11 = .ok (.aload_n 0, 1) := by decide +kernel
theorem dX12_left_12 : decode cX12_left 12 = .ok (.getfield 121, 3) := by decide +kernel
theorem dX12_left_15 : decode cX12_left 15 = .ok (.aload_n 0, 1) := by decide +kernel
theorem dX12_left_16 : decode cX12_left 16 = .ok (.invokevirtual 187, 3) := by decide +kernel
theorem dX12_left_19 : decode cX12_left 19 = .ok (.isub, 1) := by decide +kernel
theorem dX12_left_20 : decode cX12_left 20 = .ok (.aload_n 0, 1) := by decide +kernel
theorem dX12_left_21 : decode cX12_left 21 = .ok (.invokevirtual 190, 3) := by decide +kernel
theorem dX12_left_24 : decode cX12_left 24 = .ok (.isub, 1) := by decide +kernel
theorem dX12_left_25 : decode cX12_left 25 = .ok (.ireturn, 1) := by decide +kernel
theorem dX12_roots_0 : decode cX12_roots 0 = .ok (.iload_n 1, 1) := by decide +kernel
theorem dX12_roots_1 : decode cX12_roots 1 = .ok (.invokestatic 130, 3) := by decide +kernel
theorem dX12_roots_4 : decode cX12_roots 4 = .ok (.ifCond .eq 15, 3) := by decide +kernel
theorem dX12_roots_7 : decode cX12_roots 7 = .ok (.iload_n 2, 1) := by decide +kernel
theorem dX12_roots_8 : decode cX12_roots 8 = .ok (.i2l, 1) := by decide +kernel
theorem dX12_roots_9 : decode cX12_roots 9 = .ok (.lconst 0, 1) := by decide +kernel
theorem dX12_roots_10 : decode cX12_roots 10 = .ok (.ldc2_w 193, 3) := by decide +kernel
theorem dX12_roots_13 : decode cX12_roots 13 = .ok (.invokestatic 83, 3) := by decide +kernel
theorem dX12_roots_16 : decode cX12_roots 16 = .ok (.ifCond .ne 6, 3) := by decide +kernel
theorem dX12_roots_19 : decode cX12_roots 19 = .ok (.bipush (-2), 2) := by decide +kernel
theorem dX12_roots_21 : decode cX12_roots 21 = .ok (.ireturn, 1) := by decide +kernel
theorem dX12_roots_22 : decode cX12_roots 22 = .ok (.aload_n 0, 1) := by decide +kernel
theorem dX12_roots_23 : decode cX12_roots 23 = .ok (.iload_n 1, 1) := by decide +kernel
theorem dX12_roots_24 : decode cX12_roots 24 = .ok (.invokevirtual 173, 3) := by decide +kernel
theorem dX12_roots_27 : decode cX12_roots 27 = .ok (.aload_n 0, 1) := by decide +kernel
theorem dX12_roots_28 : decode cX12_roots 28 = .ok (.getfield 69, 3) := by decide +kernel
theorem dX12_roots_31 : decode cX12_roots 31 = .ok (.ifCond .eq 6, 3) := by decide +kernel
theorem dX12_roots_34 : decode cX12_roots 34 = .ok (.bipush (-7), 2) := by decide +kernel
theorem dX12_roots_36 : decode cX12_roots 36 = .ok (.ireturn, 1) := by decide +kernel
theorem dX12_roots_37 : decode cX12_roots 37 = .ok (.iload_n 2, 1) := by decide +kernel
theorem dX12_roots_38 : decode cX12_roots 38 = .ok (.tableswitch 50 0 3 #[30, 35, 40, 45], 30) := by decide +kernel
theorem dX12_roots_68 : decode cX12_roots 68 = .ok (.aload_n 0, 1) := by decide +kernel
theorem dX12_roots_69 : decode cX12_roots 69 = .ok (.invokevirtual 187, 3) := by decide +kernel
theorem dX12_roots_72 : decode cX12_roots 72 = .ok (.ireturn, 1) := by decide +kernel
theorem dX12_roots_73 : decode cX12_roots 73 = .ok (.aload_n 0, 1) := by decide +kernel
theorem dX12_roots_74 : decode cX12_roots 74 = .ok (.invokevirtual 190, 3) := by decide +kernel
theorem dX12_roots_77 : decode cX12_roots 77 = .ok (.ireturn, 1) := by decide +kernel
theorem dX12_roots_78 : decode cX12_roots 78 = .ok (.aload_n 0, 1) := by decide +kernel
theorem dX12_roots_79 : decode cX12_roots 79 = .ok (.invokevirtual 195, 3) := by decide +kernel
theorem dX12_roots_82 : decode cX12_roots 82 = .ok (.ireturn, 1) := by decide +kernel
theorem dX12_roots_83 : decode cX12_roots 83 = .ok (.aload_n 0, 1) := by decide +kernel
theorem dX12_roots_84 : decode cX12_roots 84 = .ok (.invokevirtual 183, 3) := by decide +kernel
theorem dX12_roots_87 : decode cX12_roots 87 = .ok (.ireturn, 1) := by decide +kernel
theorem dX12_roots_88 : decode cX12_roots 88 = .ok (.aload_n 0, 1) := by decide +kernel
theorem dX12_roots_89 : decode cX12_roots 89 = .ok (.invokevirtual 190, 3) := by decide +kernel
theorem dX12_roots_92 : decode cX12_roots 92 = .ok (.iload_n 1, 1) := by decide +kernel
theorem dX12_roots_93 : decode cX12_roots 93 = .ok (.iconst 3, 1) := by decide +kernel
theorem dX12_roots_94 : decode cX12_roots 94 = .ok (.if_icmp .ne 10, 3) := by decide +kernel
theorem dX12_roots_97 : decode cX12_roots 97 = .ok (.aload_n 0, 1) := by decide +kernel
theorem dX12_roots_98 : decode cX12_roots 98 = .ok (.getfield 124, 3) := by decide +kernel
theorem dX12_roots_101 : decode cX12_roots 101 = .ok (.goto 4, 3) := by decide +kernel
theorem dX12_roots_104 : decode cX12_roots 104 = .ok (.iconst 0, 1) := by decide +kernel
theorem dX12_roots_105 : decode cX12_roots 105 = .ok (.iadd, 1) := by decide +kernel
theorem dX12_roots_106 : decode cX12_roots 106 = .ok (.ireturn, 1) := by decide +kernel
theorem dX12_changes_0 : decode cX12_changes 0 = .ok (.iload_n 1, 1) := by decide +kernel
theorem dX12_changes_1 : decode cX12_changes 1 = .ok (.invokestatic 130, 3) := by decide +kernel
theorem dX12_changes_4 : decode cX12_changes 4 = .ok (.ifCond .ne 6, 3) := by decide +kernel
theorem dX12_changes_7 : decode cX12_changes 7 = .ok (.bipush (-2), 2) := by decide +kernel
theorem dX12_changes_9 : decode cX12_changes 9 = .ok (.ireturn, 1) := by decide +kernel
theorem dX12_changes_10 : decode cX12_changes 10 = .ok (.aload_n 0, 1) := by decide +kernel
theorem dX12_changes_11 : decode cX12_changes 11 = .ok (.iload_n 1, 1) := by decide +kernel
theorem dX12_changes_12 : decode cX12_changes 12 = .ok (.invokevirtual 173, 3) := by decide +kernel
theorem dX12_changes_15 : decode cX12_changes 15 = .ok (.aload_n 0, 1) := by decide +kernel
theorem dX12_changes_16 : decode cX12_changes 16 = .ok (.iload_n 2, 1) := by decide +kernel
theorem dX12_changes_17 : decode cX12_changes 17 = .ok (.invokevirtual 176, 3) := by decide +kernel
theorem dX12_changes_20 : decode cX12_changes 20 = .ok (.ifCond .eq 16, 3) := by decide +kernel
theorem dX12_changes_23 : decode cX12_changes 23 = .ok (.aload_n 0, 1) := by decide +kernel
theorem dX12_changes_24 : decode cX12_changes 24 = .ok (.iload_n 3, 1) := by decide +kernel
theorem dX12_changes_25 : decode cX12_changes 25 = .ok (.invokevirtual 176, 3) := by decide +kernel
theorem dX12_changes_28 : decode cX12_changes 28 = .ok (.ifCond .eq 8, 3) := by decide +kernel
theorem dX12_changes_31 : decode cX12_changes 31 = .ok (.iload_n 3, 1) := by decide +kernel
theorem dX12_changes_32 : decode cX12_changes 32 = .ok (.iload_n 2, 1) := by decide +kernel
theorem dX12_changes_33 : decode cX12_changes 33 = .ok (.if_icmp .ge 7, 3) := by decide +kernel
theorem dX12_changes_36 : decode cX12_changes 36 = .ok (.iconst (-1), 1) := by decide +kernel
theorem dX12_changes_37 : decode cX12_changes 37 = .ok (.goto 21, 3) := by decide +kernel
theorem dX12_changes_40 : decode cX12_changes 40 = .ok (.aload_n 0, 1) := by decide +kernel
theorem dX12_changes_41 : decode cX12_changes 41 = .ok (.getfield 69, 3) := by decide +kernel
theorem dX12_changes_44 : decode cX12_changes 44 = .ok (.ifCond .eq 8, 3) := by decide +kernel
theorem dX12_changes_47 : decode cX12_changes 47 = .ok (.bipush (-7), 2) := by decide +kernel
theorem dX12_changes_49 : decode cX12_changes 49 = .ok (.goto 9, 3) := by decide +kernel
theorem dX12_changes_52 : decode cX12_changes 52 = .ok (.aload_n 0, 1) := by decide +kernel
theorem dX12_changes_53 : decode cX12_changes 53 = .ok (.iload_n 2, 1) := by decide +kernel
theorem dX12_changes_54 : decode cX12_changes 54 = .ok (.iload_n 3, 1) := by decide +kernel
theorem dX12_changes_55 : decode cX12_changes 55 = .ok (.invokevirtual 179, 3) := by decide +kernel
theorem dX12_changes_58 : decode cX12_changes 58 = .ok (.ireturn, 1) := by decide +kernel
theorem dX12_isFar_0 : decode cX12_isFar 0 = .ok (.iload_n 0, 1) := by decide +kernel
theorem dX12_isFar_1 : decode cX12_isFar 1 = .ok (.i2l, 1) := by decide +kernel
theorem dX12_isFar_2 : decode cX12_isFar 2 = .ok (.ldc2_w 197, 3) := by decide +kernel
theorem dX12_isFar_5 : decode cX12_isFar 5 = .ok (.ldc2_w 199, 3) := by decide +kernel
theorem dX12_isFar_8 : decode cX12_isFar 8 = .ok (.invokestatic 83, 3) := by decide +kernel
theorem dX12_isFar_11 : decode cX12_isFar 11 = .ok (.ireturn, 1) := by decide +kernel
theorem dX12_strip_0 : decode cX12_strip 0 = .ok (.iload_n 1, 1) := by decide +kernel
theorem dX12_strip_1 : decode cX12_strip 1 = .ok (.invokestatic 201, 3) := by decide +kernel
theorem dX12_strip_4 : decode cX12_strip 4 = .ok (.ifCond .eq 15, 3) := by decide +kernel
theorem dX12_strip_7 : decode cX12_strip 7 = .ok (.iload_n 2, 1) := by decide +kernel
theorem dX12_strip_8 : decode cX12_strip 8 = .ok (.invokestatic 201, 3) := by decide +kernel
theorem dX12_strip_11 : decode cX12_strip 11 = .ok (.ifCond .eq 8, 3) := by decide +kernel
theorem dX12_strip_14 : decode cX12_strip 14 = .ok (.iload_n 2, 1) := by decide +kernel
theorem dX12_strip_15 : decode cX12_strip 15 = .ok (.iload_n 1, 1) := by decide +kernel
theorem dX12_strip_16 : decode cX12_strip 16 = .ok (.if_icmp .gt 6, 3) := by decide +kernel
theorem dX12_strip_19 : decode cX12_strip 19 = .ok (.bipush (-2), 2) := by decide +kernel
theorem dX12_strip_21 : decode cX12_strip 21 = .ok (.ireturn, 1) := by decide +kernel
theorem dX12_strip_22 : decode cX12_strip 22 = .ok (.aload_n 0, 1) := by decide +kernel
theorem dX12_strip_23 : decode cX12_strip 23 = .ok (.bipush 30, 2) := by decide +kernel
theorem dX12_strip_25 : decode cX12_strip 25 = .ok (.iload_n 2, 1) := by decide +kernel
theorem dX12_strip_26 : decode cX12_strip 26 = .ok (.iadd, 1) := by decide +kernel
theorem dX12_strip_27 : decode cX12_strip 27 = .ok (.invokevirtual 173, 3) := by decide +kernel
theorem dX12_strip_30 : decode cX12_strip 30 = .ok (.aload_n 0, 1) := by decide +kernel
theorem dX12_strip_31 : decode cX12_strip 31 = .ok (.invokevirtual 195, 3) := by decide +kernel
theorem dX12_strip_34 : decode cX12_strip 34 = .ok (.istore_n 3, 1) := by decide +kernel
theorem dX12_strip_35 : decode cX12_strip 35 = .ok (.aload_n 0, 1) := by decide +kernel
theorem dX12_strip_36 : decode cX12_strip 36 = .ok (.getfield 69, 3) := by decide +kernel
theorem dX12_strip_39 : decode cX12_strip 39 = .ok (.istore 4, 2) := by decide +kernel
theorem dX12_strip_41 : decode cX12_strip 41 = .ok (.aload_n 0, 1) := by decide +kernel
theorem dX12_strip_42 : decode cX12_strip 42 = .ok (.bipush 30, 2) := by decide +kernel
theorem dX12_strip_44 : decode cX12_strip 44 = .ok (.iload_n 1, 1) := by decide +kernel
theorem dX12_strip_45 : decode cX12_strip 45 = .ok (.iadd, 1) := by decide +kernel
theorem dX12_strip_46 : decode cX12_strip 46 = .ok (.invokevirtual 173, 3) := by decide +kernel
theorem dX12_strip_49 : decode cX12_strip 49 = .ok (.iload 4, 2) := by decide +kernel
theorem dX12_strip_51 : decode cX12_strip 51 = .ok (.ifCond .ne 10, 3) := by decide +kernel
theorem dX12_strip_54 : decode cX12_strip 54 = .ok (.aload_n 0, 1) := by decide +kernel
theorem dX12_strip_55 : decode cX12_strip 55 = .ok (.getfield 69, 3) := by decide +kernel
theorem dX12_strip_58 : decode cX12_strip 58 = .ok (.ifCond .eq 8, 3) := by decide +kernel
theorem dX12_strip_61 : decode cX12_strip 61 = .ok (.bipush (-7), 2) := by decide +kernel
theorem dX12_strip_63 : decode cX12_strip 63 = .ok (.goto 14, 3) := by decide +kernel
theorem dX12_strip_66 : decode cX12_strip 66 = .ok (.iload_n 3, 1) := by decide +kernel
theorem dX12_strip_67 : decode cX12_strip 67 = .ok (.aload_n 0, 1) := by decide +kernel
theorem dX12_strip_68 : decode cX12_strip 68 = .ok (.invokevirtual 195, 3) := by decide +kernel
theorem dX12_strip_71 : decode cX12_strip 71 = .ok (.isub, 1) := by decide +kernel
theorem dX12_strip_72 : decode cX12_strip 72 = .ok (.aload_n 0, 1) := by decide +kernel
theorem dX12_strip_73 : decode cX12_strip 73 = .ok (.invokevirtual 190, 3) := by decide +kernel
theorem dX12_strip_76 : decode cX12_strip 76 = .ok (.isub, 1) := by decide +kernel
theorem dX12_strip_77 : decode cX12_strip 77 = .ok (.ireturn, 1) := by decide +kernel
theorem dX12_reach_0 : decode cX12_reach 0 = .ok (.aload_n 0, 1) := by decide +kernel
theorem dX12_reach_1 : decode cX12_reach 1 = .ok (.iconst 1, 1) := by decide +kernel
theorem dX12_reach_2 : decode cX12_reach 2 = .ok (.aload_n 0, 1) := by decide +kernel
theorem dX12_reach_3 : decode cX12_reach 3 = .ok (.getfield 11, 3) := by decide +kernel
theorem dX12_reach_6 : decode cX12_reach 6 = .ok (.bipush 14, 2) := by decide +kernel
theorem dX12_reach_8 : decode cX12_reach 8 = .ok (.iaload, 1) := by decide +kernel
theorem dX12_reach_9 : decode cX12_reach 9 = .ok (.invokevirtual 97, 3) := by decide +kernel
theorem dX12_reach_12 : decode cX12_reach 12 = .ok (.aload_n 0, 1) := by decide +kernel
theorem dX12_reach_13 : decode cX12_reach 13 = .ok (.getfield 77, 3) := by decide +kernel
theorem dX12_reach_16 : decode cX12_reach 16 = .ok (.iconst 1, 1) := by decide +kernel
theorem dX12_reach_17 : decode cX12_reach 17 = .ok (.if_icmp .ge 6, 3) := by decide +kernel
theorem dX12_reach_20 : decode cX12_reach 20 = .ok (.bipush (-2), 2) := by decide +kernel
theorem dX12_reach_22 : decode cX12_reach 22 = .ok (.ireturn, 1) := by decide +kernel
theorem dX12_reach_23 : decode cX12_reach 23 = .ok (.bipush (-21), 2) := by decide +kernel
theorem dX12_reach_25 : decode cX12_reach 25 = .ok (.istore_n 1, 1) := by decide +kernel
theorem dX12_reach_26 : decode cX12_reach 26 = .ok (.bipush 21, 2) := by decide +kernel
theorem dX12_reach_28 : decode cX12_reach 28 = .ok (.istore_n 2, 1) := by decide +kernel
theorem dX12_reach_29 : decode cX12_reach 29 = .ok (.iload_n 2, 1) := by decide +kernel
theorem dX12_reach_30 : decode cX12_reach 30 = .ok (.iload_n 1, 1) := by decide +kernel
theorem dX12_reach_31 : decode cX12_reach 31 = .ok (.isub, 1) := by decide +kernel
theorem dX12_reach_32 : decode cX12_reach 32 = .ok (.iconst 1, 1) := by decide +kernel
theorem dX12_reach_33 : decode cX12_reach 33 = .ok (.if_icmp .le 70, 3) := by decide +kernel
theorem dX12_reach_36 : decode cX12_reach 36 = .ok (.iload_n 1, 1) := by decide +kernel
theorem dX12_reach_37 : decode cX12_reach 37 = .ok (.iload_n 2, 1) := by decide +kernel
theorem dX12_reach_38 : decode cX12_reach 38 = .ok (.iadd, 1) := by decide +kernel
theorem dX12_reach_39 : decode cX12_reach 39 = .ok (.iconst 2, 1) := by decide +kernel
theorem dX12_reach_40 : decode cX12_reach 40 = .ok (.idiv, 1) := by decide +kernel
theorem dX12_reach_41 : decode cX12_reach 41 = .ok (.istore_n 3, 1) := by decide +kernel
theorem dX12_reach_42 : decode cX12_reach 42 = .ok (.aload_n 0, 1) := by decide +kernel
theorem dX12_reach_43 : decode cX12_reach 43 = .ok (.bipush 30, 2) := by decide +kernel
theorem dX12_reach_45 : decode cX12_reach 45 = .ok (.iload_n 3, 1) := by decide +kernel
theorem dX12_reach_46 : decode cX12_reach 46 = .ok (.iadd, 1) := by decide +kernel
theorem dX12_reach_47 : decode cX12_reach 47 = .ok (.invokevirtual 173, 3) := by decide +kernel
theorem dX12_reach_50 : decode cX12_reach 50 = .ok (.aload_n 0, 1) := by decide +kernel
theorem dX12_reach_51 : decode cX12_reach 51 = .ok (.getfield 69, 3) := by decide +kernel
theorem dX12_reach_54 : decode cX12_reach 54 = .ok (.ifCond .eq 6, 3) := by decide +kernel
theorem dX12_reach_57 : decode cX12_reach 57 = .ok (.bipush (-7), 2) := by decide +kernel
theorem dX12_reach_59 : decode cX12_reach 59 = .ok (.ireturn, 1) := by decide +kernel
theorem dX12_reach_60 : decode cX12_reach 60 = .ok (.aload_n 0, 1) := by decide +kernel
theorem dX12_reach_61 : decode cX12_reach 61 = .ok (.invokevirtual 195, 3) := by decide +kernel
theorem dX12_reach_64 : decode cX12_reach 64 = .ok (.aload_n 0, 1) := by decide +kernel
theorem dX12_reach_65 : decode cX12_reach 65 = .ok (.getfield 77, 3) := by decide +kernel
theorem dX12_reach_68 : decode cX12_reach 68 = .ok (.if_icmp .ne 7, 3) := by decide +kernel
theorem dX12_reach_71 : decode cX12_reach 71 = .ok (.iconst 1, 1) := by decide +kernel
theorem dX12_reach_72 : decode cX12_reach 72 = .ok (.goto 4, 3) := by decide +kernel
theorem dX12_reach_75 : decode cX12_reach 75 = .ok (.iconst 0, 1) := by decide +kernel
theorem dX12_reach_76 : decode cX12_reach 76 = .ok (.istore 4, 2) := by decide +kernel
theorem dX12_reach_78 : decode cX12_reach 78 = .ok (.iload 4, 2) := by decide +kernel
theorem dX12_reach_80 : decode cX12_reach 80 = .ok (.ifCond .eq 7, 3) := by decide +kernel
theorem dX12_reach_83 : decode cX12_reach 83 = .ok (.iload_n 3, 1) := by decide +kernel
theorem dX12_reach_84 : decode cX12_reach 84 = .ok (.goto 4, 3) := by decide +kernel
theorem dX12_reach_87 : decode cX12_reach 87 = .ok (.iload_n 2, 1) := by decide +kernel
theorem dX12_reach_88 : decode cX12_reach 88 = .ok (.istore_n 2, 1) := by decide +kernel
theorem dX12_reach_89 : decode cX12_reach 89 = .ok (.iload 4, 2) := by decide +kernel
theorem dX12_reach_91 : decode cX12_reach 91 = .ok (.ifCond .eq 7, 3) := by decide +kernel
theorem dX12_reach_94 : decode cX12_reach 94 = .ok (.iload_n 1, 1) := by decide +kernel
theorem dX12_reach_95 : decode cX12_reach 95 = .ok (.goto 4, 3) := by decide +kernel
theorem dX12_reach_98 : decode cX12_reach 98 = .ok (.iload_n 3, 1) := by decide +kernel
theorem dX12_reach_99 : decode cX12_reach 99 = .ok (.istore_n 1, 1) := by decide +kernel
theorem dX12_reach_100 : decode cX12_reach 100 = .ok (.goto (-71), 3) := by decide +kernel
theorem dX12_reach_103 : decode cX12_reach 103 = .ok (.iload_n 2, 1) := by decide +kernel
theorem dX12_reach_104 : decode cX12_reach 104 = .ok (.bipush 20, 2) := by decide +kernel
theorem dX12_reach_106 : decode cX12_reach 106 = .ok (.if_icmp .le 7, 3) := by decide +kernel
theorem dX12_reach_109 : decode cX12_reach 109 = .ok (.iconst (-1), 1) := by decide +kernel
theorem dX12_reach_110 : decode cX12_reach 110 = .ok (.goto 8, 3) := by decide +kernel
theorem dX12_reach_113 : decode cX12_reach 113 = .ok (.iload_n 2, 1) := by decide +kernel
theorem dX12_reach_114 : decode cX12_reach 114 = .ok (.sipush 1000, 3) := by decide +kernel
theorem dX12_reach_117 : decode cX12_reach 117 = .ok (.iadd, 1) := by decide +kernel
theorem dX12_reach_118 : decode cX12_reach 118 = .ok (.ireturn, 1) := by decide +kernel
theorem dX12_isSteady_0 : decode cX12_isSteady 0 = .ok (.bipush 6, 2) := by decide +kernel
theorem dX12_isSteady_2 : decode cX12_isSteady 2 = .ok (.istore 4, 2) := by decide +kernel
theorem dX12_isSteady_4 : decode cX12_isSteady 4 = .ok (.iload 4, 2) := by decide +kernel
theorem dX12_isSteady_6 : decode cX12_isSteady 6 = .ok (.ifCond .lt 34, 3) := by decide +kernel
theorem dX12_isSteady_9 : decode cX12_isSteady 9 = .ok (.aload_n 0, 1) := by decide +kernel
theorem dX12_isSteady_10 : decode cX12_isSteady 10 = .ok (.getfield 11, 3) := by decide +kernel
theorem dX12_isSteady_13 : decode cX12_isSteady 13 = .ok (.iconst 0, 1) := by decide +kernel
theorem dX12_isSteady_14 : decode cX12_isSteady 14 = .ok (.iload 4, 2) := by decide +kernel
theorem dX12_isSteady_16 : decode cX12_isSteady 16 = .ok (.iadd, 1) := by decide +kernel
theorem dX12_isSteady_17 : decode cX12_isSteady 17 = .ok (.iaload, 1) := by decide +kernel
theorem dX12_isSteady_18 : decode cX12_isSteady 18 = .ok (.ifCond .ne 22, 3) := by decide +kernel
theorem dX12_isSteady_21 : decode cX12_isSteady 21 = .ok (.aload_n 0, 1) := by decide +kernel
theorem dX12_isSteady_22 : decode cX12_isSteady 22 = .ok (.getfield 11, 3) := by decide +kernel
theorem dX12_isSteady_25 : decode cX12_isSteady 25 = .ok (.bipush 7, 2) := by decide +kernel
theorem dX12_isSteady_27 : decode cX12_isSteady 27 = .ok (.iload 4, 2) := by decide +kernel
theorem dX12_isSteady_29 : decode cX12_isSteady 29 = .ok (.iadd, 1) := by decide +kernel
theorem dX12_isSteady_30 : decode cX12_isSteady 30 = .ok (.iaload, 1) := by decide +kernel
theorem dX12_isSteady_31 : decode cX12_isSteady 31 = .ok (.ifCond .ne 9, 3) := by decide +kernel
theorem dX12_isSteady_34 : decode cX12_isSteady 34 = .ok (.iinc 4 (-1), 3) := by decide +kernel
theorem dX12_isSteady_37 : decode cX12_isSteady 37 = .ok (.goto (-33), 3) := by decide +kernel
theorem dX12_isSteady_40 : decode cX12_isSteady 40 = .ok (.aload_n 0, 1) := by decide +kernel
theorem dX12_isSteady_41 : decode cX12_isSteady 41 = .ok (.iload_n 2, 1) := by decide +kernel
theorem dX12_isSteady_42 : decode cX12_isSteady 42 = .ok (.iload_n 3, 1) := by decide +kernel
theorem dX12_isSteady_43 : decode cX12_isSteady 43 = .ok (.invokevirtual 97, 3) := by decide +kernel
theorem dX12_isSteady_46 : decode cX12_isSteady 46 = .ok (.aload_n 0, 1) := by decide +kernel
theorem dX12_isSteady_47 : decode cX12_isSteady 47 = .ok (.getfield 77, 3) := by decide +kernel
theorem dX12_isSteady_50 : decode cX12_isSteady 50 = .ok (.iconst 1, 1) := by decide +kernel
theorem dX12_isSteady_51 : decode cX12_isSteady 51 = .ok (.if_icmp .lt 12, 3) := by decide +kernel
theorem dX12_isSteady_54 : decode cX12_isSteady 54 = .ok (.aload_n 0, 1) := by decide +kernel
theorem dX12_isSteady_55 : decode cX12_isSteady 55 = .ok (.getfield 77, 3) := by decide +kernel
theorem dX12_isSteady_58 : decode cX12_isSteady 58 = .ok (.iload 4, 2) := by decide +kernel
theorem dX12_isSteady_60 : decode cX12_isSteady 60 = .ok (.if_icmp .eq 5, 3) := by decide +kernel
theorem dX12_isSteady_63 : decode cX12_isSteady 63 = .ok (.iconst 0, 1) := by decide +kernel
theorem dX12_isSteady_64 : decode cX12_isSteady 64 = .ok (.ireturn, 1) := by decide +kernel
theorem dX12_isSteady_65 : decode cX12_isSteady 65 = .ok (.aload_n 0, 1) := by decide +kernel
theorem dX12_isSteady_66 : decode cX12_isSteady 66 = .ok (.iload_n 1, 1) := by decide +kernel
theorem dX12_isSteady_67 : decode cX12_isSteady 67 = .ok (.ifCond .ne 7, 3) := by decide +kernel
theorem dX12_isSteady_70 : decode cX12_isSteady 70 = .ok (.iconst 0, 1) := by decide +kernel
theorem dX12_isSteady_71 : decode cX12_isSteady 71 = .ok (.goto 4, 3) := by decide +kernel
theorem dX12_isSteady_74 : decode cX12_isSteady 74 = .ok (.iconst 3, 1) := by decide +kernel
theorem dX12_isSteady_75 : decode cX12_isSteady 75 = .ok (.invokevirtual 127, 3) := by decide +kernel
theorem dX12_isSteady_78 : decode cX12_isSteady 78 = .ok (.aload_n 0, 1) := by decide +kernel
theorem dX12_isSteady_79 : decode cX12_isSteady 79 = .ok (.invokevirtual 170, 3) := by decide +kernel
theorem dX12_isSteady_82 : decode cX12_isSteady 82 = .ok (.aload_n 0, 1) := by decide +kernel
theorem dX12_isSteady_83 : decode cX12_isSteady 83 = .ok (.getfield 69, 3) := by decide +kernel
theorem dX12_isSteady_86 : decode cX12_isSteady 86 = .ok (.ifCond .ne 32, 3) := by decide +kernel
theorem dX12_isSteady_89 : decode cX12_isSteady 89 = .ok (.aload_n 0, 1) := by decide +kernel
theorem dX12_isSteady_90 : decode cX12_isSteady 90 = .ok (.invokevirtual 187, 3) := by decide +kernel
theorem dX12_isSteady_93 : decode cX12_isSteady 93 = .ok (.ifCond .ne 25, 3) := by decide +kernel
theorem dX12_isSteady_96 : decode cX12_isSteady 96 = .ok (.aload_n 0, 1) := by decide +kernel
theorem dX12_isSteady_97 : decode cX12_isSteady 97 = .ok (.invokevirtual 190, 3) := by decide +kernel
theorem dX12_isSteady_100 : decode cX12_isSteady 100 = .ok (.ifCond .ne 18, 3) := by decide +kernel
theorem dX12_isSteady_103 : decode cX12_isSteady 103 = .ok (.iload_n 1, 1) := by decide +kernel
theorem dX12_isSteady_104 : decode cX12_isSteady 104 = .ok (.ifCond .eq 10, 3) := by decide +kernel
theorem dX12_isSteady_107 : decode cX12_isSteady 107 = .ok (.aload_n 0, 1) := by decide +kernel
theorem dX12_isSteady_108 : decode cX12_isSteady 108 = .ok (.getfield 124, 3) := by decide +kernel
theorem dX12_isSteady_111 : decode cX12_isSteady 111 = .ok (.ifCond .ne 7, 3) := by decide +kernel
theorem dX12_isSteady_114 : decode cX12_isSteady 114 = .ok (.iconst 1, 1) := by decide +kernel
theorem dX12_isSteady_115 : decode cX12_isSteady 115 = .ok (.goto 4, 3) := by decide +kernel
theorem dX12_isSteady_118 : decode cX12_isSteady 118 = .ok (.iconst 0, 1) := by decide +kernel
theorem dX12_isSteady_119 : decode cX12_isSteady 119 = .ok (.ireturn, 1) := by decide +kernel
theorem dX12_isKind_0 : decode cX12_isKind 0 = .ok (.iload_n 0, 1) := by decide +kernel
theorem dX12_isKind_1 : decode cX12_isKind 1 = .ok (.i2l, 1) := by decide +kernel
theorem dX12_isKind_2 : decode cX12_isKind 2 = .ok (.lconst 0, 1) := by decide +kernel
theorem dX12_isKind_3 : decode cX12_isKind 3 = .ok (.lconst 1, 1) := by decide +kernel
theorem dX12_isKind_4 : decode cX12_isKind 4 = .ok (.invokestatic 83, 3) := by decide +kernel
theorem dX12_isKind_7 : decode cX12_isKind 7 = .ok (.ireturn, 1) := by decide +kernel
theorem dX12_steady_0 : decode cX12_steady 0 = .ok (.iload_n 1, 1) := by decide +kernel
theorem dX12_steady_1 : decode cX12_steady 1 = .ok (.invokestatic 204, 3) := by decide +kernel
theorem dX12_steady_4 : decode cX12_steady 4 = .ok (.ifCond .eq 29, 3) := by decide +kernel
theorem dX12_steady_7 : decode cX12_steady 7 = .ok (.iload_n 2, 1) := by decide +kernel
theorem dX12_steady_8 : decode cX12_steady 8 = .ok (.i2l, 1) := by decide +kernel
theorem dX12_steady_9 : decode cX12_steady 9 = .ok (.lconst 1, 1) := by decide +kernel
theorem dX12_steady_10 : decode cX12_steady 10 = .ok (.ldc2_w 207, 3) := by decide +kernel
theorem dX12_steady_13 : decode cX12_steady 13 = .ok (.invokestatic 83, 3) := by decide +kernel
theorem dX12_steady_16 : decode cX12_steady 16 = .ok (.ifCond .eq 17, 3) := by decide +kernel
theorem dX12_steady_19 : decode cX12_steady 19 = .ok (.iload_n 3, 1) := by decide +kernel
theorem dX12_steady_20 : decode cX12_steady 20 = .ok (.i2l, 1) := by decide +kernel
theorem dX12_steady_21 : decode cX12_steady 21 = .ok (.ldc2_w 209, 3) := by decide +kernel
theorem dX12_steady_24 : decode cX12_steady 24 = .ok (.ldc2_w 211, 3) := by decide +kernel
theorem dX12_steady_27 : decode cX12_steady 27 = .ok (.invokestatic 83, 3) := by decide +kernel
theorem dX12_steady_30 : decode cX12_steady 30 = .ok (.ifCond .ne 6, 3) := by decide +kernel
theorem dX12_steady_33 : decode cX12_steady 33 = .ok (.bipush (-2), 2) := by decide +kernel
theorem dX12_steady_35 : decode cX12_steady 35 = .ok (.ireturn, 1) := by decide +kernel
theorem dX12_steady_36 : decode cX12_steady 36 = .ok (.aload_n 0, 1) := by decide +kernel
theorem dX12_steady_37 : decode cX12_steady 37 = .ok (.iload_n 1, 1) := by decide +kernel
theorem dX12_steady_38 : decode cX12_steady 38 = .ok (.iload_n 2, 1) := by decide +kernel
theorem dX12_steady_39 : decode cX12_steady 39 = .ok (.iload_n 3, 1) := by decide +kernel
theorem dX12_steady_40 : decode cX12_steady 40 = .ok (.invokevirtual 213, 3) := by decide +kernel
theorem dX12_steady_43 : decode cX12_steady 43 = .ok (.ifCond .eq 7, 3) := by decide +kernel
theorem dX12_steady_46 : decode cX12_steady 46 = .ok (.iconst 1, 1) := by decide +kernel
theorem dX12_steady_47 : decode cX12_steady 47 = .ok (.goto 4, 3) := by decide +kernel
theorem dX12_steady_50 : decode cX12_steady 50 = .ok (.iconst 0, 1) := by decide +kernel
theorem dX12_steady_51 : decode cX12_steady 51 = .ok (.ireturn, 1) := by decide +kernel
theorem dX12_laysSpans_0 : decode cX12_laysSpans 0 = .ok (.aload_n 0, 1) := by decide +kernel
theorem dX12_laysSpans_1 : decode cX12_laysSpans 1 = .ok (.iconst 0, 1) := by decide +kernel
theorem dX12_laysSpans_2 : decode cX12_laysSpans 2 = .ok (.putfield 217, 3) := by decide +kernel
theorem dX12_laysSpans_5 : decode cX12_laysSpans 5 = .ok (.iconst 0, 1) := by decide +kernel
theorem dX12_laysSpans_6 : decode cX12_laysSpans 6 = .ok (.istore_n 2, 1) := by decide +kernel
theorem dX12_laysSpans_7 : decode cX12_laysSpans 7 = .ok (.bipush (-100), 2) := by decide +kernel
theorem dX12_laysSpans_9 : decode cX12_laysSpans 9 = .ok (.istore_n 3, 1) := by decide +kernel
theorem dX12_laysSpans_10 : decode cX12_laysSpans 10 = .ok (.iload_n 3, 1) := by decide +kernel
theorem dX12_laysSpans_11 : decode cX12_laysSpans 11 = .ok (.bipush 100, 2) := by decide +kernel
theorem dX12_laysSpans_13 : decode cX12_laysSpans 13 = .ok (.if_icmp .gt 67, 3) := by decide +kernel
theorem dX12_laysSpans_16 : decode cX12_laysSpans 16 = .ok (.aload_n 0, 1) := by decide +kernel
theorem dX12_laysSpans_17 : decode cX12_laysSpans 17 = .ok (.iload_n 1, 1) := by decide +kernel
theorem dX12_laysSpans_18 : decode cX12_laysSpans 18 = .ok (.iconst 1, 1) := by decide +kernel
theorem dX12_laysSpans_19 : decode cX12_laysSpans 19 = .ok (.iload_n 3, 1) := by decide +kernel
theorem dX12_laysSpans_20 : decode cX12_laysSpans 20 = .ok (.invokevirtual 213, 3) := by decide +kernel
theorem dX12_laysSpans_23 : decode cX12_laysSpans 23 = .ok (.istore 4, 2) := by decide +kernel
theorem dX12_laysSpans_25 : decode cX12_laysSpans 25 = .ok (.iload 4, 2) := by decide +kernel
theorem dX12_laysSpans_27 : decode cX12_laysSpans 27 = .ok (.ifCond .eq 27, 3) := by decide +kernel
theorem dX12_laysSpans_30 : decode cX12_laysSpans 30 = .ok (.iload_n 2, 1) := by decide +kernel
theorem dX12_laysSpans_31 : decode cX12_laysSpans 31 = .ok (.ifCond .ne 23, 3) := by decide +kernel
theorem dX12_laysSpans_34 : decode cX12_laysSpans 34 = .ok (.aload_n 0, 1) := by decide +kernel
theorem dX12_laysSpans_35 : decode cX12_laysSpans 35 = .ok (.getfield 37, 3) := by decide +kernel
theorem dX12_laysSpans_38 : decode cX12_laysSpans 38 = .ok (.aload_n 0, 1) := by decide +kernel
theorem dX12_laysSpans_39 : decode cX12_laysSpans 39 = .ok (.getfield 217, 3) := by decide +kernel
theorem dX12_laysSpans_42 : decode cX12_laysSpans 42 = .ok (.iload_n 3, 1) := by decide +kernel
theorem dX12_laysSpans_43 : decode cX12_laysSpans 43 = .ok (.iastore, 1) := by decide +kernel
theorem dX12_laysSpans_44 : decode cX12_laysSpans 44 = .ok (.aload_n 0, 1) := by decide +kernel
theorem dX12_laysSpans_45 : decode cX12_laysSpans 45 = .ok (.dup, 1) := by decide +kernel
theorem dX12_laysSpans_46 : decode cX12_laysSpans 46 = .ok (.getfield 217, 3) := by decide +kernel
theorem dX12_laysSpans_49 : decode cX12_laysSpans 49 = .ok (.iconst 1, 1) := by decide +kernel
theorem dX12_laysSpans_50 : decode cX12_laysSpans 50 = .ok (.iadd, 1) := by decide +kernel
theorem dX12_laysSpans_51 : decode cX12_laysSpans 51 = .ok (.putfield 217, 3) := by decide +kernel
theorem dX12_laysSpans_54 : decode cX12_laysSpans 54 = .ok (.iload 4, 2) := by decide +kernel
theorem dX12_laysSpans_56 : decode cX12_laysSpans 56 = .ok (.ifCond .eq 15, 3) := by decide +kernel
theorem dX12_laysSpans_59 : decode cX12_laysSpans 59 = .ok (.aload_n 0, 1) := by decide +kernel
theorem dX12_laysSpans_60 : decode cX12_laysSpans 60 = .ok (.getfield 40, 3) := by decide +kernel
theorem dX12_laysSpans_63 : decode cX12_laysSpans 63 = .ok (.aload_n 0, 1) := by decide +kernel
theorem dX12_laysSpans_64 : decode cX12_laysSpans 64 = .ok (.getfield 217, 3) := by decide +kernel
theorem dX12_laysSpans_67 : decode cX12_laysSpans 67 = .ok (.iconst 1, 1) := by decide +kernel
theorem dX12_laysSpans_68 : decode cX12_laysSpans 68 = .ok (.isub, 1) := by decide +kernel
theorem dX12_laysSpans_69 : decode cX12_laysSpans 69 = .ok (.iload_n 3, 1) := by decide +kernel
theorem dX12_laysSpans_70 : decode cX12_laysSpans 70 = .ok (.iastore, 1) := by decide +kernel
theorem dX12_laysSpans_71 : decode cX12_laysSpans 71 = .ok (.iload 4, 2) := by decide +kernel
theorem dX12_laysSpans_73 : decode cX12_laysSpans 73 = .ok (.istore_n 2, 1) := by decide +kernel
theorem dX12_laysSpans_74 : decode cX12_laysSpans 74 = .ok (.iinc 3 1, 3) := by decide +kernel
theorem dX12_laysSpans_77 : decode cX12_laysSpans 77 = .ok (.goto (-67), 3) := by decide +kernel
theorem dX12_laysSpans_80 : decode cX12_laysSpans 80 = .ok (.return_, 1) := by decide +kernel
theorem dX12_spans_0 : decode cX12_spans 0 = .ok (.iload_n 1, 1) := by decide +kernel
theorem dX12_spans_1 : decode cX12_spans 1 = .ok (.invokestatic 204, 3) := by decide +kernel
theorem dX12_spans_4 : decode cX12_spans 4 = .ok (.ifCond .ne 6, 3) := by decide +kernel
theorem dX12_spans_7 : decode cX12_spans 7 = .ok (.bipush (-2), 2) := by decide +kernel
theorem dX12_spans_9 : decode cX12_spans 9 = .ok (.ireturn, 1) := by decide +kernel
theorem dX12_spans_10 : decode cX12_spans 10 = .ok (.aload_n 0, 1) := by decide +kernel
theorem dX12_spans_11 : decode cX12_spans 11 = .ok (.iload_n 1, 1) := by decide +kernel
theorem dX12_spans_12 : decode cX12_spans 12 = .ok (.invokevirtual 220, 3) := by decide +kernel
theorem dX12_spans_15 : decode cX12_spans 15 = .ok (.aload_n 0, 1) := by decide +kernel
theorem dX12_spans_16 : decode cX12_spans 16 = .ok (.getfield 217, 3) := by decide +kernel
theorem dX12_spans_19 : decode cX12_spans 19 = .ok (.ireturn, 1) := by decide +kernel
theorem dX12_lastEdge_0 : decode cX12_lastEdge 0 = .ok (.bipush 16, 2) := by decide +kernel
theorem dX12_lastEdge_2 : decode cX12_lastEdge 2 = .ok (.iload_n 2, 1) := by decide +kernel
theorem dX12_lastEdge_3 : decode cX12_lastEdge 3 = .ok (.imul, 1) := by decide +kernel
theorem dX12_lastEdge_4 : decode cX12_lastEdge 4 = .ok (.istore_n 3, 1) := by decide +kernel
theorem dX12_lastEdge_5 : decode cX12_lastEdge 5 = .ok (.iload_n 3, 1) := by decide +kernel
theorem dX12_lastEdge_6 : decode cX12_lastEdge 6 = .ok (.bipush 16, 2) := by decide +kernel
theorem dX12_lastEdge_8 : decode cX12_lastEdge 8 = .ok (.iadd, 1) := by decide +kernel
theorem dX12_lastEdge_9 : decode cX12_lastEdge 9 = .ok (.istore 4, 2) := by decide +kernel
theorem dX12_lastEdge_11 : decode cX12_lastEdge 11 = .ok (.iconst 0, 1) := by decide +kernel
theorem dX12_lastEdge_12 : decode cX12_lastEdge 12 = .ok (.istore 5, 2) := by decide +kernel
theorem dX12_lastEdge_14 : decode cX12_lastEdge 14 = .ok (.iload 5, 2) := by decide +kernel
theorem dX12_lastEdge_16 : decode cX12_lastEdge 16 = .ok (.iconst 4, 1) := by decide +kernel
theorem dX12_lastEdge_17 : decode cX12_lastEdge 17 = .ok (.if_icmp .ge 60, 3) := by decide +kernel
theorem dX12_lastEdge_20 : decode cX12_lastEdge 20 = .ok (.iload_n 2, 1) := by decide +kernel
theorem dX12_lastEdge_21 : decode cX12_lastEdge 21 = .ok (.bipush 100, 2) := by decide +kernel
theorem dX12_lastEdge_23 : decode cX12_lastEdge 23 = .ok (.if_icmp .ge 54, 3) := by decide +kernel
theorem dX12_lastEdge_26 : decode cX12_lastEdge 26 = .ok (.iload_n 3, 1) := by decide +kernel
theorem dX12_lastEdge_27 : decode cX12_lastEdge 27 = .ok (.iload 4, 2) := by decide +kernel
theorem dX12_lastEdge_29 : decode cX12_lastEdge 29 = .ok (.iadd, 1) := by decide +kernel
theorem dX12_lastEdge_30 : decode cX12_lastEdge 30 = .ok (.iconst 2, 1) := by decide +kernel
theorem dX12_lastEdge_31 : decode cX12_lastEdge 31 = .ok (.idiv, 1) := by decide +kernel
theorem dX12_lastEdge_32 : decode cX12_lastEdge 32 = .ok (.istore 6, 2) := by decide +kernel
theorem dX12_lastEdge_34 : decode cX12_lastEdge 34 = .ok (.aload_n 0, 1) := by decide +kernel
theorem dX12_lastEdge_35 : decode cX12_lastEdge 35 = .ok (.iload_n 1, 1) := by decide +kernel
theorem dX12_lastEdge_36 : decode cX12_lastEdge 36 = .ok (.bipush 16, 2) := by decide +kernel
theorem dX12_lastEdge_38 : decode cX12_lastEdge 38 = .ok (.iload 6, 2) := by decide +kernel
theorem dX12_lastEdge_40 : decode cX12_lastEdge 40 = .ok (.invokevirtual 213, 3) := by decide +kernel
theorem dX12_lastEdge_43 : decode cX12_lastEdge 43 = .ok (.istore 7, 2) := by decide +kernel
theorem dX12_lastEdge_45 : decode cX12_lastEdge 45 = .ok (.iload 7, 2) := by decide +kernel
theorem dX12_lastEdge_47 : decode cX12_lastEdge 47 = .ok (.ifCond .eq 8, 3) := by decide +kernel
theorem dX12_lastEdge_50 : decode cX12_lastEdge 50 = .ok (.iload 6, 2) := by decide +kernel
theorem dX12_lastEdge_52 : decode cX12_lastEdge 52 = .ok (.goto 4, 3) := by decide +kernel
theorem dX12_lastEdge_55 : decode cX12_lastEdge 55 = .ok (.iload_n 3, 1) := by decide +kernel
theorem dX12_lastEdge_56 : decode cX12_lastEdge 56 = .ok (.istore_n 3, 1) := by decide +kernel
theorem dX12_lastEdge_57 : decode cX12_lastEdge 57 = .ok (.iload 7, 2) := by decide +kernel
theorem dX12_lastEdge_59 : decode cX12_lastEdge 59 = .ok (.ifCond .eq 8, 3) := by decide +kernel
theorem dX12_lastEdge_62 : decode cX12_lastEdge 62 = .ok (.iload 4, 2) := by decide +kernel
theorem dX12_lastEdge_64 : decode cX12_lastEdge 64 = .ok (.goto 5, 3) := by decide +kernel
theorem dX12_lastEdge_67 : decode cX12_lastEdge 67 = .ok (.iload 6, 2) := by decide +kernel
theorem dX12_lastEdge_69 : decode cX12_lastEdge 69 = .ok (.istore 4, 2) := by decide +kernel
theorem dX12_lastEdge_71 : decode cX12_lastEdge 71 = .ok (.iinc 5 1, 3) := by decide +kernel
theorem dX12_lastEdge_74 : decode cX12_lastEdge 74 = .ok (.goto (-60), 3) := by decide +kernel
theorem dX12_lastEdge_77 : decode cX12_lastEdge 77 = .ok (.iload_n 3, 1) := by decide +kernel
theorem dX12_lastEdge_78 : decode cX12_lastEdge 78 = .ok (.ireturn, 1) := by decide +kernel
theorem dX12_firstEdge_0 : decode cX12_firstEdge 0 = .ok (.bipush 16, 2) := by decide +kernel
theorem dX12_firstEdge_2 : decode cX12_firstEdge 2 = .ok (.iload_n 2, 1) := by decide +kernel
theorem dX12_firstEdge_3 : decode cX12_firstEdge 3 = .ok (.imul, 1) := by decide +kernel
theorem dX12_firstEdge_4 : decode cX12_firstEdge 4 = .ok (.istore_n 3, 1) := by decide +kernel
theorem dX12_firstEdge_5 : decode cX12_firstEdge 5 = .ok (.iload_n 3, 1) := by decide +kernel
theorem dX12_firstEdge_6 : decode cX12_firstEdge 6 = .ok (.bipush 16, 2) := by decide +kernel
theorem dX12_firstEdge_8 : decode cX12_firstEdge 8 = .ok (.isub, 1) := by decide +kernel
theorem dX12_firstEdge_9 : decode cX12_firstEdge 9 = .ok (.istore 4, 2) := by decide +kernel
theorem dX12_firstEdge_11 : decode cX12_firstEdge 11 = .ok (.iconst 0, 1) := by decide +kernel
theorem dX12_firstEdge_12 : decode cX12_firstEdge 12 = .ok (.istore 5, 2) := by decide +kernel
theorem dX12_firstEdge_14 : decode cX12_firstEdge 14 = .ok (.iload 5, 2) := by decide +kernel
theorem dX12_firstEdge_16 : decode cX12_firstEdge 16 = .ok (.iconst 4, 1) := by decide +kernel
theorem dX12_firstEdge_17 : decode cX12_firstEdge 17 = .ok (.if_icmp .ge 60, 3) := by decide +kernel
theorem dX12_firstEdge_20 : decode cX12_firstEdge 20 = .ok (.iload_n 2, 1) := by decide +kernel
theorem dX12_firstEdge_21 : decode cX12_firstEdge 21 = .ok (.bipush (-100), 2) := by decide +kernel
theorem dX12_firstEdge_23 : decode cX12_firstEdge 23 = .ok (.if_icmp .le 54, 3) := by decide +kernel
theorem dX12_firstEdge_26 : decode cX12_firstEdge 26 = .ok (.iload 4, 2) := by decide +kernel
theorem dX12_firstEdge_28 : decode cX12_firstEdge 28 = .ok (.iload_n 3, 1) := by decide +kernel
theorem dX12_firstEdge_29 : decode cX12_firstEdge 29 = .ok (.iadd, 1) := by decide +kernel
theorem dX12_firstEdge_30 : decode cX12_firstEdge 30 = .ok (.iconst 2, 1) := by decide +kernel
theorem dX12_firstEdge_31 : decode cX12_firstEdge 31 = .ok (.idiv, 1) := by decide +kernel
theorem dX12_firstEdge_32 : decode cX12_firstEdge 32 = .ok (.istore 6, 2) := by decide +kernel
theorem dX12_firstEdge_34 : decode cX12_firstEdge 34 = .ok (.aload_n 0, 1) := by decide +kernel
theorem dX12_firstEdge_35 : decode cX12_firstEdge 35 = .ok (.iload_n 1, 1) := by decide +kernel
theorem dX12_firstEdge_36 : decode cX12_firstEdge 36 = .ok (.bipush 16, 2) := by decide +kernel
theorem dX12_firstEdge_38 : decode cX12_firstEdge 38 = .ok (.iload 6, 2) := by decide +kernel
theorem dX12_firstEdge_40 : decode cX12_firstEdge 40 = .ok (.invokevirtual 213, 3) := by decide +kernel
theorem dX12_firstEdge_43 : decode cX12_firstEdge 43 = .ok (.istore 7, 2) := by decide +kernel
theorem dX12_firstEdge_45 : decode cX12_firstEdge 45 = .ok (.iload 7, 2) := by decide +kernel
theorem dX12_firstEdge_47 : decode cX12_firstEdge 47 = .ok (.ifCond .eq 8, 3) := by decide +kernel
theorem dX12_firstEdge_50 : decode cX12_firstEdge 50 = .ok (.iload 6, 2) := by decide +kernel
theorem dX12_firstEdge_52 : decode cX12_firstEdge 52 = .ok (.goto 4, 3) := by decide +kernel
theorem dX12_firstEdge_55 : decode cX12_firstEdge 55 = .ok (.iload_n 3, 1) := by decide +kernel
theorem dX12_firstEdge_56 : decode cX12_firstEdge 56 = .ok (.istore_n 3, 1) := by decide +kernel
theorem dX12_firstEdge_57 : decode cX12_firstEdge 57 = .ok (.iload 7, 2) := by decide +kernel
theorem dX12_firstEdge_59 : decode cX12_firstEdge 59 = .ok (.ifCond .eq 8, 3) := by decide +kernel
theorem dX12_firstEdge_62 : decode cX12_firstEdge 62 = .ok (.iload 4, 2) := by decide +kernel
theorem dX12_firstEdge_64 : decode cX12_firstEdge 64 = .ok (.goto 5, 3) := by decide +kernel
theorem dX12_firstEdge_67 : decode cX12_firstEdge 67 = .ok (.iload 6, 2) := by decide +kernel
theorem dX12_firstEdge_69 : decode cX12_firstEdge 69 = .ok (.istore 4, 2) := by decide +kernel
theorem dX12_firstEdge_71 : decode cX12_firstEdge 71 = .ok (.iinc 5 1, 3) := by decide +kernel
theorem dX12_firstEdge_74 : decode cX12_firstEdge 74 = .ok (.goto (-60), 3) := by decide +kernel
theorem dX12_firstEdge_77 : decode cX12_firstEdge 77 = .ok (.iload_n 3, 1) := by decide +kernel
theorem dX12_firstEdge_78 : decode cX12_firstEdge 78 = .ok (.ireturn, 1) := by decide +kernel
theorem dX12_span_0 : decode cX12_span 0 = .ok (.iload_n 1, 1) := by decide +kernel
theorem dX12_span_1 : decode cX12_span 1 = .ok (.invokestatic 204, 3) := by decide +kernel
theorem dX12_span_4 : decode cX12_span 4 = .ok (.ifCond .eq 15, 3) := by decide +kernel
theorem dX12_span_7 : decode cX12_span 7 = .ok (.iload_n 3, 1) := by decide +kernel
theorem dX12_span_8 : decode cX12_span 8 = .ok (.i2l, 1) := by decide +kernel
theorem dX12_span_9 : decode cX12_span 9 = .ok (.lconst 0, 1) := by decide +kernel
theorem dX12_span_10 : decode cX12_span 10 = .ok (.ldc2_w 193, 3) := by decide +kernel
theorem dX12_span_13 : decode cX12_span 13 = .ok (.invokestatic 83, 3) := by decide +kernel
theorem dX12_span_16 : decode cX12_span 16 = .ok (.ifCond .ne 6, 3) := by decide +kernel
theorem dX12_span_19 : decode cX12_span 19 = .ok (.bipush (-2), 2) := by decide +kernel
theorem dX12_span_21 : decode cX12_span 21 = .ok (.ireturn, 1) := by decide +kernel
theorem dX12_span_22 : decode cX12_span 22 = .ok (.aload_n 0, 1) := by decide +kernel
theorem dX12_span_23 : decode cX12_span 23 = .ok (.iload_n 1, 1) := by decide +kernel
theorem dX12_span_24 : decode cX12_span 24 = .ok (.invokevirtual 220, 3) := by decide +kernel
theorem dX12_span_27 : decode cX12_span 27 = .ok (.iload_n 2, 1) := by decide +kernel
theorem dX12_span_28 : decode cX12_span 28 = .ok (.i2l, 1) := by decide +kernel
theorem dX12_span_29 : decode cX12_span 29 = .ok (.lconst 0, 1) := by decide +kernel
theorem dX12_span_30 : decode cX12_span 30 = .ok (.aload_n 0, 1) := by decide +kernel
theorem dX12_span_31 : decode cX12_span 31 = .ok (.getfield 217, 3) := by decide +kernel
theorem dX12_span_34 : decode cX12_span 34 = .ok (.iconst 1, 1) := by decide +kernel
theorem dX12_span_35 : decode cX12_span 35 = .ok (.isub, 1) := by decide +kernel
theorem dX12_span_36 : decode cX12_span 36 = .ok (.i2l, 1) := by decide +kernel
theorem dX12_span_37 : decode cX12_span 37 = .ok (.invokestatic 83, 3) := by decide +kernel
theorem dX12_span_40 : decode cX12_span 40 = .ok (.ifCond .ne 5, 3) := by decide +kernel
theorem dX12_span_43 : decode cX12_span 43 = .ok (.iconst (-1), 1) := by decide +kernel
theorem dX12_span_44 : decode cX12_span 44 = .ok (.ireturn, 1) := by decide +kernel
theorem dX12_span_45 : decode cX12_span 45 = .ok (.aload_n 0, 1) := by decide +kernel
theorem dX12_span_46 : decode cX12_span 46 = .ok (.getfield 37, 3) := by decide +kernel
theorem dX12_span_49 : decode cX12_span 49 = .ok (.iload_n 2, 1) := by decide +kernel
theorem dX12_span_50 : decode cX12_span 50 = .ok (.iaload, 1) := by decide +kernel
theorem dX12_span_51 : decode cX12_span 51 = .ok (.istore 4, 2) := by decide +kernel
theorem dX12_span_53 : decode cX12_span 53 = .ok (.aload_n 0, 1) := by decide +kernel
theorem dX12_span_54 : decode cX12_span 54 = .ok (.getfield 40, 3) := by decide +kernel
theorem dX12_span_57 : decode cX12_span 57 = .ok (.iload_n 2, 1) := by decide +kernel
theorem dX12_span_58 : decode cX12_span 58 = .ok (.iaload, 1) := by decide +kernel
theorem dX12_span_59 : decode cX12_span 59 = .ok (.istore 5, 2) := by decide +kernel
theorem dX12_span_61 : decode cX12_span 61 = .ok (.iload_n 3, 1) := by decide +kernel
theorem dX12_span_62 : decode cX12_span 62 = .ok (.tableswitch 68 0 3 #[30, 37, 44, 56], 30) := by decide +kernel
theorem dX12_span_92 : decode cX12_span 92 = .ok (.iload 4, 2) := by decide +kernel
theorem dX12_span_94 : decode cX12_span 94 = .ok (.sipush 1000, 3) := by decide +kernel
theorem dX12_span_97 : decode cX12_span 97 = .ok (.iadd, 1) := by decide +kernel
theorem dX12_span_98 : decode cX12_span 98 = .ok (.ireturn, 1) := by decide +kernel
theorem dX12_span_99 : decode cX12_span 99 = .ok (.iload 5, 2) := by decide +kernel
theorem dX12_span_101 : decode cX12_span 101 = .ok (.sipush 1000, 3) := by decide +kernel
theorem dX12_span_104 : decode cX12_span 104 = .ok (.iadd, 1) := by decide +kernel
theorem dX12_span_105 : decode cX12_span 105 = .ok (.ireturn, 1) := by decide +kernel
theorem dX12_span_106 : decode cX12_span 106 = .ok (.aload_n 0, 1) := by decide +kernel
theorem dX12_span_107 : decode cX12_span 107 = .ok (.iload_n 1, 1) := by decide +kernel
theorem dX12_span_108 : decode cX12_span 108 = .ok (.iload 4, 2) := by decide +kernel
theorem dX12_span_110 : decode cX12_span 110 = .ok (.invokevirtual 223, 3) := by decide +kernel
theorem dX12_span_113 : decode cX12_span 113 = .ok (.sipush 10000, 3) := by decide +kernel
theorem dX12_span_116 : decode cX12_span 116 = .ok (.iadd, 1) := by decide +kernel
theorem dX12_span_117 : decode cX12_span 117 = .ok (.ireturn, 1) := by decide +kernel
theorem dX12_span_118 : decode cX12_span 118 = .ok (.aload_n 0, 1) := by decide +kernel
theorem dX12_span_119 : decode cX12_span 119 = .ok (.iload_n 1, 1) := by decide +kernel
theorem dX12_span_120 : decode cX12_span 120 = .ok (.iload 5, 2) := by decide +kernel
theorem dX12_span_122 : decode cX12_span 122 = .ok (.invokevirtual 226, 3) := by decide +kernel
theorem dX12_span_125 : decode cX12_span 125 = .ok (.sipush 10000, 3) := by decide +kernel
theorem dX12_span_128 : decode cX12_span 128 = .ok (.iadd, 1) := by decide +kernel
theorem dX12_span_129 : decode cX12_span 129 = .ok (.ireturn, 1) := by decide +kernel
theorem dX12_span_130 : decode cX12_span 130 = .ok (.iload 5, 2) := by decide +kernel
theorem dX12_span_132 : decode cX12_span 132 = .ok (.iload 4, 2) := by decide +kernel
theorem dX12_span_134 : decode cX12_span 134 = .ok (.isub, 1) := by decide +kernel
theorem dX12_span_135 : decode cX12_span 135 = .ok (.iconst 1, 1) := by decide +kernel
theorem dX12_span_136 : decode cX12_span 136 = .ok (.iadd, 1) := by decide +kernel
theorem dX12_span_137 : decode cX12_span 137 = .ok (.ireturn, 1) := by decide +kernel
theorem dX12_nearest_0 : decode cX12_nearest 0 = .ok (.iload_n 1, 1) := by decide +kernel
theorem dX12_nearest_1 : decode cX12_nearest 1 = .ok (.invokestatic 204, 3) := by decide +kernel
theorem dX12_nearest_4 : decode cX12_nearest 4 = .ok (.ifCond .eq 17, 3) := by decide +kernel
theorem dX12_nearest_7 : decode cX12_nearest 7 = .ok (.iload_n 2, 1) := by decide +kernel
theorem dX12_nearest_8 : decode cX12_nearest 8 = .ok (.i2l, 1) := by decide +kernel
theorem dX12_nearest_9 : decode cX12_nearest 9 = .ok (.ldc2_w 101, 3) := by decide +kernel
theorem dX12_nearest_12 : decode cX12_nearest 12 = .ok (.ldc2_w 103, 3) := by decide +kernel
theorem dX12_nearest_15 : decode cX12_nearest 15 = .ok (.invokestatic 83, 3) := by decide +kernel
theorem dX12_nearest_18 : decode cX12_nearest 18 = .ok (.ifCond .ne 6, 3) := by decide +kernel
theorem dX12_nearest_21 : decode cX12_nearest 21 = .ok (.bipush (-2), 2) := by decide +kernel
theorem dX12_nearest_23 : decode cX12_nearest 23 = .ok (.ireturn, 1) := by decide +kernel
theorem dX12_nearest_24 : decode cX12_nearest 24 = .ok (.aload_n 0, 1) := by decide +kernel
theorem dX12_nearest_25 : decode cX12_nearest 25 = .ok (.iload_n 1, 1) := by decide +kernel
theorem dX12_nearest_26 : decode cX12_nearest 26 = .ok (.invokevirtual 220, 3) := by decide +kernel
theorem dX12_nearest_29 : decode cX12_nearest 29 = .ok (.iconst (-1), 1) := by decide +kernel
theorem dX12_nearest_30 : decode cX12_nearest 30 = .ok (.istore_n 3, 1) := by decide +kernel
theorem dX12_nearest_31 : decode cX12_nearest 31 = .ok (.iconst 0, 1) := by decide +kernel
theorem dX12_nearest_32 : decode cX12_nearest 32 = .ok (.istore 4, 2) := by decide +kernel
theorem dX12_nearest_34 : decode cX12_nearest 34 = .ok (.iconst 0, 1) := by decide +kernel
theorem dX12_nearest_35 : decode cX12_nearest 35 = .ok (.istore 5, 2) := by decide +kernel
theorem dX12_nearest_37 : decode cX12_nearest 37 = .ok (.iload 5, 2) := by decide +kernel
theorem dX12_nearest_39 : decode cX12_nearest 39 = .ok (.aload_n 0, 1) := by decide +kernel
theorem dX12_nearest_40 : decode cX12_nearest 40 = .ok (.getfield 217, 3) := by decide +kernel
theorem dX12_nearest_43 : decode cX12_nearest 43 = .ok (.if_icmp .ge 76, 3) := by decide +kernel
theorem dX12_nearest_46 : decode cX12_nearest 46 = .ok (.iload_n 2, 1) := by decide +kernel
theorem dX12_nearest_47 : decode cX12_nearest 47 = .ok (.aload_n 0, 1) := by decide +kernel
theorem dX12_nearest_48 : decode cX12_nearest 48 = .ok (.getfield 37, 3) := by decide +kernel
theorem dX12_nearest_51 : decode cX12_nearest 51 = .ok (.iload 5, 2) := by decide +kernel
theorem dX12_nearest_53 : decode cX12_nearest 53 = .ok (.iaload, 1) := by decide +kernel
theorem dX12_nearest_54 : decode cX12_nearest 54 = .ok (.if_icmp .ge 15, 3) := by decide +kernel
theorem dX12_nearest_57 : decode cX12_nearest 57 = .ok (.aload_n 0, 1) := by decide +kernel
theorem dX12_nearest_58 : decode cX12_nearest 58 = .ok (.getfield 37, 3) := by decide +kernel
theorem dX12_nearest_61 : decode cX12_nearest 61 = .ok (.iload 5, 2) := by decide +kernel
theorem dX12_nearest_63 : decode cX12_nearest 63 = .ok (.iaload, 1) := by decide +kernel
theorem dX12_nearest_64 : decode cX12_nearest 64 = .ok (.iload_n 2, 1) := by decide +kernel
theorem dX12_nearest_65 : decode cX12_nearest 65 = .ok (.isub, 1) := by decide +kernel
theorem dX12_nearest_66 : decode cX12_nearest 66 = .ok (.goto 27, 3) := by decide +kernel
theorem dX12_nearest_69 : decode cX12_nearest 69 = .ok (.iload_n 2, 1) := by decide +kernel
theorem dX12_nearest_70 : decode cX12_nearest 70 = .ok (.aload_n 0, 1) := by decide +kernel
theorem dX12_nearest_71 : decode cX12_nearest 71 = .ok (.getfield 40, 3) := by decide +kernel
theorem dX12_nearest_74 : decode cX12_nearest 74 = .ok (.iload 5, 2) := by decide +kernel
theorem dX12_nearest_76 : decode cX12_nearest 76 = .ok (.iaload, 1) := by decide +kernel
theorem dX12_nearest_77 : decode cX12_nearest 77 = .ok (.if_icmp .le 15, 3) := by decide +kernel
theorem dX12_nearest_80 : decode cX12_nearest 80 = .ok (.iload_n 2, 1) := by decide +kernel
theorem dX12_nearest_81 : decode cX12_nearest 81 = .ok (.aload_n 0, 1) := by decide +kernel
theorem dX12_nearest_82 : decode cX12_nearest 82 = .ok (.getfield 40, 3) := by decide +kernel
theorem dX12_nearest_85 : decode cX12_nearest 85 = .ok (.iload 5, 2) := by decide +kernel
theorem dX12_nearest_87 : decode cX12_nearest 87 = .ok (.iaload, 1) := by decide +kernel
theorem dX12_nearest_88 : decode cX12_nearest 88 = .ok (.isub, 1) := by decide +kernel
theorem dX12_nearest_89 : decode cX12_nearest 89 = .ok (.goto 4, 3) := by decide +kernel
theorem dX12_nearest_92 : decode cX12_nearest 92 = .ok (.iconst 0, 1) := by decide +kernel
theorem dX12_nearest_93 : decode cX12_nearest 93 = .ok (.istore 6, 2) := by decide +kernel
theorem dX12_nearest_95 : decode cX12_nearest 95 = .ok (.iload_n 3, 1) := by decide +kernel
theorem dX12_nearest_96 : decode cX12_nearest 96 = .ok (.ifCond .lt 10, 3) := by decide +kernel
theorem dX12_nearest_99 : decode cX12_nearest 99 = .ok (.iload 6, 2) := by decide +kernel
theorem dX12_nearest_101 : decode cX12_nearest 101 = .ok (.iload 4, 2) := by decide +kernel
theorem dX12_nearest_103 : decode cX12_nearest 103 = .ok (.if_icmp .ge 10, 3) := by decide +kernel
theorem dX12_nearest_106 : decode cX12_nearest 106 = .ok (.iload 5, 2) := by decide +kernel
theorem dX12_nearest_108 : decode cX12_nearest 108 = .ok (.istore_n 3, 1) := by decide +kernel
theorem dX12_nearest_109 : decode cX12_nearest 109 = .ok (.iload 6, 2) := by decide +kernel
theorem dX12_nearest_111 : decode cX12_nearest 111 = .ok (.istore 4, 2) := by decide +kernel
theorem dX12_nearest_113 : decode cX12_nearest 113 = .ok (.iinc 5 1, 3) := by decide +kernel
theorem dX12_nearest_116 : decode cX12_nearest 116 = .ok (.goto (-79), 3) := by decide +kernel
theorem dX12_nearest_119 : decode cX12_nearest 119 = .ok (.iload_n 3, 1) := by decide +kernel
theorem dX12_nearest_120 : decode cX12_nearest 120 = .ok (.ireturn, 1) := by decide +kernel
theorem dX12_degreeOfLink_0 : decode cX12_degreeOfLink 0 = .ok (.bipush 6, 2) := by decide +kernel
theorem dX12_degreeOfLink_2 : decode cX12_degreeOfLink 2 = .ok (.istore_n 2, 1) := by decide +kernel
theorem dX12_degreeOfLink_3 : decode cX12_degreeOfLink 3 = .ok (.iload_n 2, 1) := by decide +kernel
theorem dX12_degreeOfLink_4 : decode cX12_degreeOfLink 4 = .ok (.ifCond .lt 25, 3) := by decide +kernel
theorem dX12_degreeOfLink_7 : decode cX12_degreeOfLink 7 = .ok (.aload_n 0, 1) := by decide +kernel
theorem dX12_degreeOfLink_8 : decode cX12_degreeOfLink 8 = .ok (.getfield 43, 3) := by decide +kernel
theorem dX12_degreeOfLink_11 : decode cX12_degreeOfLink 11 = .ok (.bipush 7, 2) := by decide +kernel
theorem dX12_degreeOfLink_13 : decode cX12_degreeOfLink 13 = .ok (.iload_n 1, 1) := by decide +kernel
theorem dX12_degreeOfLink_14 : decode cX12_degreeOfLink 14 = .ok (.imul, 1) := by decide +kernel
theorem dX12_degreeOfLink_15 : decode cX12_degreeOfLink 15 = .ok (.iload_n 2, 1) := by decide +kernel
theorem dX12_degreeOfLink_16 : decode cX12_degreeOfLink 16 = .ok (.iadd, 1) := by decide +kernel
theorem dX12_degreeOfLink_17 : decode cX12_degreeOfLink 17 = .ok (.laload, 1) := by decide +kernel
theorem dX12_degreeOfLink_18 : decode cX12_degreeOfLink 18 = .ok (.lconst 0, 1) := by decide +kernel
theorem dX12_degreeOfLink_19 : decode cX12_degreeOfLink 19 = .ok (.lcmp, 1) := by decide +kernel
theorem dX12_degreeOfLink_20 : decode cX12_degreeOfLink 20 = .ok (.ifCond .ne 9, 3) := by decide +kernel
theorem dX12_degreeOfLink_23 : decode cX12_degreeOfLink 23 = .ok (.iinc 2 (-1), 3) := by decide +kernel
theorem dX12_degreeOfLink_26 : decode cX12_degreeOfLink 26 = .ok (.goto (-23), 3) := by decide +kernel
theorem dX12_degreeOfLink_29 : decode cX12_degreeOfLink 29 = .ok (.iload_n 2, 1) := by decide +kernel
theorem dX12_degreeOfLink_30 : decode cX12_degreeOfLink 30 = .ok (.ireturn, 1) := by decide +kernel
theorem dX12_dividesLink_0 : decode cX12_dividesLink 0 = .ok (.lconst 0, 1) := by decide +kernel
theorem dX12_dividesLink_1 : decode cX12_dividesLink 1 = .ok (.lstore_n 2, 1) := by decide +kernel
theorem dX12_dividesLink_2 : decode cX12_dividesLink 2 = .ok (.iconst 0, 1) := by decide +kernel
theorem dX12_dividesLink_3 : decode cX12_dividesLink 3 = .ok (.istore 4, 2) := by decide +kernel
theorem dX12_dividesLink_5 : decode cX12_dividesLink 5 = .ok (.iload 4, 2) := by decide +kernel
theorem dX12_dividesLink_7 : decode cX12_dividesLink 7 = .ok (.bipush 7, 2) := by decide +kernel
theorem dX12_dividesLink_9 : decode cX12_dividesLink 9 = .ok (.if_icmp .ge 26, 3) := by decide +kernel
theorem dX12_dividesLink_12 : decode cX12_dividesLink 12 = .ok (.aload_n 0, 1) := by decide +kernel
theorem dX12_dividesLink_13 : decode cX12_dividesLink 13 = .ok (.getfield 43, 3) := by decide +kernel
theorem dX12_dividesLink_16 : decode cX12_dividesLink 16 = .ok (.bipush 7, 2) := by decide +kernel
theorem dX12_dividesLink_18 : decode cX12_dividesLink 18 = .ok (.iload_n 1, 1) := by decide +kernel
theorem dX12_dividesLink_19 : decode cX12_dividesLink 19 = .ok (.imul, 1) := by decide +kernel
theorem dX12_dividesLink_20 : decode cX12_dividesLink 20 = .ok (.iload 4, 2) := by decide +kernel
theorem dX12_dividesLink_22 : decode cX12_dividesLink 22 = .ok (.iadd, 1) := by decide +kernel
theorem dX12_dividesLink_23 : decode cX12_dividesLink 23 = .ok (.laload, 1) := by decide +kernel
theorem dX12_dividesLink_24 : decode cX12_dividesLink 24 = .ok (.lload_n 2, 1) := by decide +kernel
theorem dX12_dividesLink_25 : decode cX12_dividesLink 25 = .ok (.invokestatic 158, 3) := by decide +kernel
theorem dX12_dividesLink_28 : decode cX12_dividesLink 28 = .ok (.lstore_n 2, 1) := by decide +kernel
theorem dX12_dividesLink_29 : decode cX12_dividesLink 29 = .ok (.iinc 4 1, 3) := by decide +kernel
theorem dX12_dividesLink_32 : decode cX12_dividesLink 32 = .ok (.goto (-27), 3) := by decide +kernel
theorem dX12_dividesLink_35 : decode cX12_dividesLink 35 = .ok (.iconst 0, 1) := by decide +kernel
theorem dX12_dividesLink_36 : decode cX12_dividesLink 36 = .ok (.istore 4, 2) := by decide +kernel
theorem dX12_dividesLink_38 : decode cX12_dividesLink 38 = .ok (.iload 4, 2) := by decide +kernel
theorem dX12_dividesLink_40 : decode cX12_dividesLink 40 = .ok (.bipush 7, 2) := by decide +kernel
theorem dX12_dividesLink_42 : decode cX12_dividesLink 42 = .ok (.if_icmp .ge 25, 3) := by decide +kernel
theorem dX12_dividesLink_45 : decode cX12_dividesLink 45 = .ok (.aload_n 0, 1) := by decide +kernel
theorem dX12_dividesLink_46 : decode cX12_dividesLink 46 = .ok (.getfield 43, 3) := by decide +kernel
theorem dX12_dividesLink_49 : decode cX12_dividesLink 49 = .ok (.bipush 7, 2) := by decide +kernel
theorem dX12_dividesLink_51 : decode cX12_dividesLink 51 = .ok (.iload_n 1, 1) := by decide +kernel
theorem dX12_dividesLink_52 : decode cX12_dividesLink 52 = .ok (.imul, 1) := by decide +kernel
theorem dX12_dividesLink_53 : decode cX12_dividesLink 53 = .ok (.iload 4, 2) := by decide +kernel
theorem dX12_dividesLink_55 : decode cX12_dividesLink 55 = .ok (.iadd, 1) := by decide +kernel
theorem dX12_dividesLink_56 : decode cX12_dividesLink 56 = .ok (.dup2, 1) := by decide +kernel
theorem dX12_dividesLink_57 : decode cX12_dividesLink 57 = .ok (.laload, 1) := by decide +kernel
theorem dX12_dividesLink_58 : decode cX12_dividesLink 58 = .ok (.lload_n 2, 1) := by decide +kernel
theorem dX12_dividesLink_59 : decode cX12_dividesLink 59 = .ok (.ldiv, 1) := by decide +kernel
theorem dX12_dividesLink_60 : decode cX12_dividesLink 60 = .ok (.lastore, 1) := by decide +kernel
theorem dX12_dividesLink_61 : decode cX12_dividesLink 61 = .ok (.iinc 4 1, 3) := by decide +kernel
theorem dX12_dividesLink_64 : decode cX12_dividesLink 64 = .ok (.goto (-26), 3) := by decide +kernel
theorem dX12_dividesLink_67 : decode cX12_dividesLink 67 = .ok (.aload_n 0, 1) := by decide +kernel
theorem dX12_dividesLink_68 : decode cX12_dividesLink 68 = .ok (.dup, 1) := by decide +kernel
theorem dX12_dividesLink_69 : decode cX12_dividesLink 69 = .ok (.getfield 229, 3) := by decide +kernel
theorem dX12_dividesLink_72 : decode cX12_dividesLink 72 = .ok (.iconst 1, 1) := by decide +kernel
theorem dX12_dividesLink_73 : decode cX12_dividesLink 73 = .ok (.iadd, 1) := by decide +kernel
theorem dX12_dividesLink_74 : decode cX12_dividesLink 74 = .ok (.putfield 229, 3) := by decide +kernel
theorem dX12_dividesLink_77 : decode cX12_dividesLink 77 = .ok (.return_, 1) := by decide +kernel
theorem dX12_goesOn_0 : decode cX12_goesOn 0 = .ok (.aload_n 0, 1) := by decide +kernel
theorem dX12_goesOn_1 : decode cX12_goesOn 1 = .ok (.getfield 229, 3) := by decide +kernel
theorem dX12_goesOn_4 : decode cX12_goesOn 4 = .ok (.iconst 1, 1) := by decide +kernel
theorem dX12_goesOn_5 : decode cX12_goesOn 5 = .ok (.isub, 1) := by decide +kernel
theorem dX12_goesOn_6 : decode cX12_goesOn 6 = .ok (.istore_n 1, 1) := by decide +kernel
theorem dX12_goesOn_7 : decode cX12_goesOn 7 = .ok (.aload_n 0, 1) := by decide +kernel
theorem dX12_goesOn_8 : decode cX12_goesOn 8 = .ok (.iload_n 1, 1) := by decide +kernel
theorem dX12_goesOn_9 : decode cX12_goesOn 9 = .ok (.invokevirtual 232, 3) := by decide +kernel
theorem dX12_goesOn_12 : decode cX12_goesOn 12 = .ok (.istore_n 2, 1) := by decide +kernel
theorem dX12_goesOn_13 : decode cX12_goesOn 13 = .ok (.iconst 0, 1) := by decide +kernel
theorem dX12_goesOn_14 : decode cX12_goesOn 14 = .ok (.istore_n 3, 1) := by decide +kernel
theorem dX12_goesOn_15 : decode cX12_goesOn 15 = .ok (.iload_n 3, 1) := by decide +kernel
theorem dX12_goesOn_16 : decode cX12_goesOn 16 = .ok (.bipush 7, 2) := by decide +kernel
theorem dX12_goesOn_18 : decode cX12_goesOn 18 = .ok (.if_icmp .ge 28, 3) := by decide +kernel
theorem dX12_goesOn_21 : decode cX12_goesOn 21 = .ok (.aload_n 0, 1) := by decide +kernel
theorem dX12_goesOn_22 : decode cX12_goesOn 22 = .ok (.getfield 46, 3) := by decide +kernel
theorem dX12_goesOn_25 : decode cX12_goesOn 25 = .ok (.iload_n 3, 1) := by decide +kernel
theorem dX12_goesOn_26 : decode cX12_goesOn 26 = .ok (.aload_n 0, 1) := by decide +kernel
theorem dX12_goesOn_27 : decode cX12_goesOn 27 = .ok (.getfield 43, 3) := by decide +kernel
theorem dX12_goesOn_30 : decode cX12_goesOn 30 = .ok (.bipush 7, 2) := by decide +kernel
theorem dX12_goesOn_32 : decode cX12_goesOn 32 = .ok (.iload_n 1, 1) := by decide +kernel
theorem dX12_goesOn_33 : decode cX12_goesOn 33 = .ok (.iconst 1, 1) := by decide +kernel
theorem dX12_goesOn_34 : decode cX12_goesOn 34 = .ok (.isub, 1) := by decide +kernel
theorem dX12_goesOn_35 : decode cX12_goesOn 35 = .ok (.imul, 1) := by decide +kernel
theorem dX12_goesOn_36 : decode cX12_goesOn 36 = .ok (.iload_n 3, 1) := by decide +kernel
theorem dX12_goesOn_37 : decode cX12_goesOn 37 = .ok (.iadd, 1) := by decide +kernel
theorem dX12_goesOn_38 : decode cX12_goesOn 38 = .ok (.laload, 1) := by decide +kernel
theorem dX12_goesOn_39 : decode cX12_goesOn 39 = .ok (.lastore, 1) := by decide +kernel
theorem dX12_goesOn_40 : decode cX12_goesOn 40 = .ok (.iinc 3 1, 3) := by decide +kernel
theorem dX12_goesOn_43 : decode cX12_goesOn 43 = .ok (.goto (-28), 3) := by decide +kernel
theorem dX12_goesOn_46 : decode cX12_goesOn 46 = .ok (.aload_n 0, 1) := by decide +kernel
theorem dX12_goesOn_47 : decode cX12_goesOn 47 = .ok (.getfield 43, 3) := by decide +kernel
theorem dX12_goesOn_50 : decode cX12_goesOn 50 = .ok (.bipush 7, 2) := by decide +kernel
theorem dX12_goesOn_52 : decode cX12_goesOn 52 = .ok (.iload_n 1, 1) := by decide +kernel
theorem dX12_goesOn_53 : decode cX12_goesOn 53 = .ok (.imul, 1) := by decide +kernel
theorem dX12_goesOn_54 : decode cX12_goesOn 54 = .ok (.iload_n 2, 1) := by decide +kernel
theorem dX12_goesOn_55 : decode cX12_goesOn 55 = .ok (.iadd, 1) := by decide +kernel
theorem dX12_goesOn_56 : decode cX12_goesOn 56 = .ok (.laload, 1) := by decide +kernel
theorem dX12_goesOn_57 : decode cX12_goesOn 57 = .ok (.lstore_n 3, 1) := by decide +kernel
theorem dX12_goesOn_58 : decode cX12_goesOn 58 = .ok (.lload_n 3, 1) := by decide +kernel
theorem dX12_goesOn_59 : decode cX12_goesOn 59 = .ok (.lconst 0, 1) := by decide +kernel
theorem dX12_goesOn_60 : decode cX12_goesOn 60 = .ok (.lcmp, 1) := by decide +kernel
theorem dX12_goesOn_61 : decode cX12_goesOn 61 = .ok (.ifCond .ge 11, 3) := by decide +kernel
theorem dX12_goesOn_64 : decode cX12_goesOn 64 = .ok (.aload_n 0, 1) := by decide +kernel
theorem dX12_goesOn_65 : decode cX12_goesOn 65 = .ok (.lload_n 3, 1) := by decide +kernel
theorem dX12_goesOn_66 : decode cX12_goesOn 66 = .ok (.invokevirtual 147, 3) := by decide +kernel
theorem dX12_goesOn_69 : decode cX12_goesOn 69 = .ok (.goto 4, 3) := by decide +kernel
theorem dX12_goesOn_72 : decode cX12_goesOn 72 = .ok (.lload_n 3, 1) := by decide +kernel
theorem dX12_goesOn_73 : decode cX12_goesOn 73 = .ok (.lstore 5, 2) := by decide +kernel
theorem dX12_goesOn_75 : decode cX12_goesOn 75 = .ok (.aload_n 0, 1) := by decide +kernel
theorem dX12_goesOn_76 : decode cX12_goesOn 76 = .ok (.getfield 46, 3) := by decide +kernel
theorem dX12_goesOn_79 : decode cX12_goesOn 79 = .ok (.invokestatic 73, 3) := by decide +kernel
theorem dX12_goesOn_82 : decode cX12_goesOn 82 = .ok (.istore 7, 2) := by decide +kernel
theorem dX12_goesOn_84 : decode cX12_goesOn 84 = .ok (.iload 7, 2) := by decide +kernel
theorem dX12_goesOn_86 : decode cX12_goesOn 86 = .ok (.iload_n 2, 1) := by decide +kernel
theorem dX12_goesOn_87 : decode cX12_goesOn 87 = .ok (.if_icmp .lt 147, 3) := by decide +kernel
theorem dX12_goesOn_90 : decode cX12_goesOn 90 = .ok (.aload_n 0, 1) := by decide +kernel
theorem dX12_goesOn_91 : decode cX12_goesOn 91 = .ok (.getfield 69, 3) := by decide +kernel
theorem dX12_goesOn_94 : decode cX12_goesOn 94 = .ok (.ifCond .ne 140, 3) := by decide +kernel
theorem dX12_goesOn_97 : decode cX12_goesOn 97 = .ok (.aload_n 0, 1) := by decide +kernel
theorem dX12_goesOn_98 : decode cX12_goesOn 98 = .ok (.getfield 46, 3) := by decide +kernel
theorem dX12_goesOn_101 : decode cX12_goesOn 101 = .ok (.iload 7, 2) := by decide +kernel
theorem dX12_goesOn_103 : decode cX12_goesOn 103 = .ok (.laload, 1) := by decide +kernel
theorem dX12_goesOn_104 : decode cX12_goesOn 104 = .ok (.lstore 8, 2) := by decide +kernel
theorem dX12_goesOn_106 : decode cX12_goesOn 106 = .ok (.iconst 0, 1) := by decide +kernel
theorem dX12_goesOn_107 : decode cX12_goesOn 107 = .ok (.istore 10, 2) := by decide +kernel
theorem dX12_goesOn_109 : decode cX12_goesOn 109 = .ok (.iload 10, 2) := by decide +kernel
theorem dX12_goesOn_111 : decode cX12_goesOn 111 = .ok (.bipush 7, 2) := by decide +kernel
theorem dX12_goesOn_113 : decode cX12_goesOn 113 = .ok (.if_icmp .ge 29, 3) := by decide +kernel
theorem dX12_goesOn_116 : decode cX12_goesOn 116 = .ok (.aload_n 0, 1) := by decide +kernel
theorem dX12_goesOn_117 : decode cX12_goesOn 117 = .ok (.getfield 46, 3) := by decide +kernel
theorem dX12_goesOn_120 : decode cX12_goesOn 120 = .ok (.iload 10, 2) := by decide +kernel
theorem dX12_goesOn_122 : decode cX12_goesOn 122 = .ok (.aload_n 0, 1) := by decide +kernel
theorem dX12_goesOn_123 : decode cX12_goesOn 123 = .ok (.aload_n 0, 1) := by decide +kernel
theorem dX12_goesOn_124 : decode cX12_goesOn 124 = .ok (.getfield 46, 3) := by decide +kernel
theorem dX12_goesOn_127 : decode cX12_goesOn 127 = .ok (.iload 10, 2) := by decide +kernel
theorem dX12_goesOn_129 : decode cX12_goesOn 129 = .ok (.laload, 1) := by decide +kernel
theorem dX12_goesOn_130 : decode cX12_goesOn 130 = .ok (.lload 5, 2) := by decide +kernel
theorem dX12_goesOn_132 : decode cX12_goesOn 132 = .ok (.invokevirtual 151, 3) := by decide +kernel
theorem dX12_goesOn_135 : decode cX12_goesOn 135 = .ok (.lastore, 1) := by decide +kernel
theorem dX12_goesOn_136 : decode cX12_goesOn 136 = .ok (.iinc 10 1, 3) := by decide +kernel
theorem dX12_goesOn_139 : decode cX12_goesOn 139 = .ok (.goto (-30), 3) := by decide +kernel
theorem dX12_goesOn_142 : decode cX12_goesOn 142 = .ok (.iconst 0, 1) := by decide +kernel
theorem dX12_goesOn_143 : decode cX12_goesOn 143 = .ok (.istore 10, 2) := by decide +kernel
theorem dX12_goesOn_145 : decode cX12_goesOn 145 = .ok (.iload 10, 2) := by decide +kernel
theorem dX12_goesOn_147 : decode cX12_goesOn 147 = .ok (.iload_n 2, 1) := by decide +kernel
theorem dX12_goesOn_148 : decode cX12_goesOn 148 = .ok (.if_icmp .gt 74, 3) := by decide +kernel
theorem dX12_goesOn_151 : decode cX12_goesOn 151 = .ok (.aload_n 0, 1) := by decide +kernel
theorem dX12_goesOn_152 : decode cX12_goesOn 152 = .ok (.lload 8, 2) := by decide +kernel
theorem dX12_goesOn_154 : decode cX12_goesOn 154 = .ok (.aload_n 0, 1) := by decide +kernel
theorem dX12_goesOn_155 : decode cX12_goesOn 155 = .ok (.getfield 43, 3) := by decide +kernel
theorem dX12_goesOn_158 : decode cX12_goesOn 158 = .ok (.bipush 7, 2) := by decide +kernel
theorem dX12_goesOn_160 : decode cX12_goesOn 160 = .ok (.iload_n 1, 1) := by decide +kernel
theorem dX12_goesOn_161 : decode cX12_goesOn 161 = .ok (.imul, 1) := by decide +kernel
theorem dX12_goesOn_162 : decode cX12_goesOn 162 = .ok (.iload 10, 2) := by decide +kernel
theorem dX12_goesOn_164 : decode cX12_goesOn 164 = .ok (.iadd, 1) := by decide +kernel
theorem dX12_goesOn_165 : decode cX12_goesOn 165 = .ok (.laload, 1) := by decide +kernel

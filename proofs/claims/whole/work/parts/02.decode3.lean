theorem dX6_read_66 : decode cX6_read 66 = .ok (.iconst (-1), 1) := by decide +kernel
theorem dX6_read_67 : decode cX6_read 67 = .ok (.aload_n 0, 1) := by decide +kernel
theorem dX6_read_68 : decode cX6_read 68 = .ok (.getfield 92, 3) := by decide +kernel
theorem dX6_read_71 : decode cX6_read 71 = .ok (.isub, 1) := by decide +kernel
theorem dX6_read_72 : decode cX6_read 72 = .ok (.ireturn, 1) := by decide +kernel
theorem dX6_read_73 : decode cX6_read 73 = .ok (.aload_n 0, 1) := by decide +kernel
theorem dX6_read_74 : decode cX6_read 74 = .ok (.invokevirtual 190, 3) := by decide +kernel
theorem dX6_read_77 : decode cX6_read 77 = .ok (.istore_n 1, 1) := by decide +kernel
theorem dX6_read_78 : decode cX6_read 78 = .ok (.iload_n 1, 1) := by decide +kernel
theorem dX6_read_79 : decode cX6_read 79 = .ok (.iconst (-1), 1) := by decide +kernel
theorem dX6_read_80 : decode cX6_read 80 = .ok (.if_icmp .ne 12, 3) := by decide +kernel
theorem dX6_read_83 : decode cX6_read 83 = .ok (.aload_n 0, 1) := by decide +kernel
theorem dX6_read_84 : decode cX6_read 84 = .ok (.invokevirtual 193, 3) := by decide +kernel
theorem dX6_read_87 : decode cX6_read 87 = .ok (.aload_n 0, 1) := by decide +kernel
theorem dX6_read_88 : decode cX6_read 88 = .ok (.invokevirtual 196, 3) := by decide +kernel
theorem dX6_read_91 : decode cX6_read 91 = .ok (.istore_n 1, 1) := by decide +kernel
theorem dX6_read_92 : decode cX6_read 92 = .ok (.iload_n 1, 1) := by decide +kernel
theorem dX6_read_93 : decode cX6_read 93 = .ok (.iconst (-1), 1) := by decide +kernel
theorem dX6_read_94 : decode cX6_read 94 = .ok (.if_icmp .ne 10, 3) := by decide +kernel
theorem dX6_read_97 : decode cX6_read 97 = .ok (.aload_n 0, 1) := by decide +kernel
theorem dX6_read_98 : decode cX6_read 98 = .ok (.invokevirtual 199, 3) := by decide +kernel
theorem dX6_read_101 : decode cX6_read 101 = .ok (.goto 4, 3) := by decide +kernel
theorem dX6_read_104 : decode cX6_read 104 = .ok (.iload_n 1, 1) := by decide +kernel
theorem dX6_read_105 : decode cX6_read 105 = .ok (.istore_n 1, 1) := by decide +kernel
theorem dX6_read_106 : decode cX6_read 106 = .ok (.iload_n 1, 1) := by decide +kernel
theorem dX6_read_107 : decode cX6_read 107 = .ok (.iconst (-1), 1) := by decide +kernel
theorem dX6_read_108 : decode cX6_read 108 = .ok (.if_icmp .eq 7, 3) := by decide +kernel
theorem dX6_read_111 : decode cX6_read 111 = .ok (.iconst (-1), 1) := by decide +kernel
theorem dX6_read_112 : decode cX6_read 112 = .ok (.iload_n 1, 1) := by decide +kernel
theorem dX6_read_113 : decode cX6_read 113 = .ok (.isub, 1) := by decide +kernel
theorem dX6_read_114 : decode cX6_read 114 = .ok (.ireturn, 1) := by decide +kernel
theorem dX6_read_115 : decode cX6_read 115 = .ok (.aload_n 0, 1) := by decide +kernel
theorem dX6_read_116 : decode cX6_read 116 = .ok (.invokevirtual 202, 3) := by decide +kernel
theorem dX6_read_119 : decode cX6_read 119 = .ok (.aload_n 0, 1) := by decide +kernel
theorem dX6_read_120 : decode cX6_read 120 = .ok (.getfield 205, 3) := by decide +kernel
theorem dX6_read_123 : decode cX6_read 123 = .ok (.ireturn, 1) := by decide +kernel
theorem dX6_adopt_0 : decode cX6_adopt 0 = .ok (.aload_n 0, 1) := by decide +kernel
theorem dX6_adopt_1 : decode cX6_adopt 1 = .ok (.aload_n 0, 1) := by decide +kernel
theorem dX6_adopt_2 : decode cX6_adopt 2 = .ok (.getfield 133, 3) := by decide +kernel
theorem dX6_adopt_5 : decode cX6_adopt 5 = .ok (.putfield 205, 3) := by decide +kernel
theorem dX6_adopt_8 : decode cX6_adopt 8 = .ok (.aload_n 0, 1) := by decide +kernel
theorem dX6_adopt_9 : decode cX6_adopt 9 = .ok (.aload_n 0, 1) := by decide +kernel
theorem dX6_adopt_10 : decode cX6_adopt 10 = .ok (.getfield 126, 3) := by decide +kernel
theorem dX6_adopt_13 : decode cX6_adopt 13 = .ok (.putfield 208, 3) := by decide +kernel
theorem dX6_adopt_16 : decode cX6_adopt 16 = .ok (.iconst 0, 1) := by decide +kernel
theorem dX6_adopt_17 : decode cX6_adopt 17 = .ok (.istore_n 1, 1) := by decide +kernel
theorem dX6_adopt_18 : decode cX6_adopt 18 = .ok (.iload_n 1, 1) := by decide +kernel
theorem dX6_adopt_19 : decode cX6_adopt 19 = .ok (.aload_n 0, 1) := by decide +kernel
theorem dX6_adopt_20 : decode cX6_adopt 20 = .ok (.getfield 205, 3) := by decide +kernel
theorem dX6_adopt_23 : decode cX6_adopt 23 = .ok (.if_icmp .ge 171, 3) := by decide +kernel
theorem dX6_adopt_26 : decode cX6_adopt 26 = .ok (.aload_n 0, 1) := by decide +kernel
theorem dX6_adopt_27 : decode cX6_adopt 27 = .ok (.getfield 19, 3) := by decide +kernel
theorem dX6_adopt_30 : decode cX6_adopt 30 = .ok (.iload_n 1, 1) := by decide +kernel
theorem dX6_adopt_31 : decode cX6_adopt 31 = .ok (.aload_n 0, 1) := by decide +kernel
theorem dX6_adopt_32 : decode cX6_adopt 32 = .ok (.getfield 19, 3) := by decide +kernel
theorem dX6_adopt_35 : decode cX6_adopt 35 = .ok (.bipush 40, 2) := by decide +kernel
theorem dX6_adopt_37 : decode cX6_adopt 37 = .ok (.iload_n 1, 1) := by decide +kernel
theorem dX6_adopt_38 : decode cX6_adopt 38 = .ok (.iadd, 1) := by decide +kernel
theorem dX6_adopt_39 : decode cX6_adopt 39 = .ok (.iaload, 1) := by decide +kernel
theorem dX6_adopt_40 : decode cX6_adopt 40 = .ok (.iastore, 1) := by decide +kernel
theorem dX6_adopt_41 : decode cX6_adopt 41 = .ok (.aload_n 0, 1) := by decide +kernel
theorem dX6_adopt_42 : decode cX6_adopt 42 = .ok (.getfield 22, 3) := by decide +kernel
theorem dX6_adopt_45 : decode cX6_adopt 45 = .ok (.iload_n 1, 1) := by decide +kernel
theorem dX6_adopt_46 : decode cX6_adopt 46 = .ok (.aload_n 0, 1) := by decide +kernel
theorem dX6_adopt_47 : decode cX6_adopt 47 = .ok (.getfield 22, 3) := by decide +kernel
theorem dX6_adopt_50 : decode cX6_adopt 50 = .ok (.bipush 40, 2) := by decide +kernel
theorem dX6_adopt_52 : decode cX6_adopt 52 = .ok (.iload_n 1, 1) := by decide +kernel
theorem dX6_adopt_53 : decode cX6_adopt 53 = .ok (.iadd, 1) := by decide +kernel
theorem dX6_adopt_54 : decode cX6_adopt 54 = .ok (.laload, 1) := by decide +kernel
theorem dX6_adopt_55 : decode cX6_adopt 55 = .ok (.lastore, 1) := by decide +kernel
theorem dX6_adopt_56 : decode cX6_adopt 56 = .ok (.aload_n 0, 1) := by decide +kernel
theorem dX6_adopt_57 : decode cX6_adopt 57 = .ok (.getfield 26, 3) := by decide +kernel
theorem dX6_adopt_60 : decode cX6_adopt 60 = .ok (.iload_n 1, 1) := by decide +kernel
theorem dX6_adopt_61 : decode cX6_adopt 61 = .ok (.aload_n 0, 1) := by decide +kernel
theorem dX6_adopt_62 : decode cX6_adopt 62 = .ok (.getfield 26, 3) := by decide +kernel
theorem dX6_adopt_65 : decode cX6_adopt 65 = .ok (.bipush 40, 2) := by decide +kernel
theorem dX6_adopt_67 : decode cX6_adopt 67 = .ok (.iload_n 1, 1) := by decide +kernel
theorem dX6_adopt_68 : decode cX6_adopt 68 = .ok (.iadd, 1) := by decide +kernel
theorem dX6_adopt_69 : decode cX6_adopt 69 = .ok (.laload, 1) := by decide +kernel
theorem dX6_adopt_70 : decode cX6_adopt 70 = .ok (.lastore, 1) := by decide +kernel
theorem dX6_adopt_71 : decode cX6_adopt 71 = .ok (.aload_n 0, 1) := by decide +kernel
theorem dX6_adopt_72 : decode cX6_adopt 72 = .ok (.getfield 29, 3) := by decide +kernel
theorem dX6_adopt_75 : decode cX6_adopt 75 = .ok (.iload_n 1, 1) := by decide +kernel
theorem dX6_adopt_76 : decode cX6_adopt 76 = .ok (.aload_n 0, 1) := by decide +kernel
theorem dX6_adopt_77 : decode cX6_adopt 77 = .ok (.getfield 29, 3) := by decide +kernel
theorem dX6_adopt_80 : decode cX6_adopt 80 = .ok (.bipush 40, 2) := by decide +kernel
theorem dX6_adopt_82 : decode cX6_adopt 82 = .ok (.iload_n 1, 1) := by decide +kernel
theorem dX6_adopt_83 : decode cX6_adopt 83 = .ok (.iadd, 1) := by decide +kernel
theorem dX6_adopt_84 : decode cX6_adopt 84 = .ok (.iaload, 1) := by decide +kernel
theorem dX6_adopt_85 : decode cX6_adopt 85 = .ok (.iastore, 1) := by decide +kernel
theorem dX6_adopt_86 : decode cX6_adopt 86 = .ok (.aload_n 0, 1) := by decide +kernel
theorem dX6_adopt_87 : decode cX6_adopt 87 = .ok (.getfield 32, 3) := by decide +kernel
theorem dX6_adopt_90 : decode cX6_adopt 90 = .ok (.iload_n 1, 1) := by decide +kernel
theorem dX6_adopt_91 : decode cX6_adopt 91 = .ok (.aload_n 0, 1) := by decide +kernel
theorem dX6_adopt_92 : decode cX6_adopt 92 = .ok (.getfield 32, 3) := by decide +kernel
theorem dX6_adopt_95 : decode cX6_adopt 95 = .ok (.bipush 40, 2) := by decide +kernel
theorem dX6_adopt_97 : decode cX6_adopt 97 = .ok (.iload_n 1, 1) := by decide +kernel
theorem dX6_adopt_98 : decode cX6_adopt 98 = .ok (.iadd, 1) := by decide +kernel
theorem dX6_adopt_99 : decode cX6_adopt 99 = .ok (.iaload, 1) := by decide +kernel
theorem dX6_adopt_100 : decode cX6_adopt 100 = .ok (.iastore, 1) := by decide +kernel
theorem dX6_adopt_101 : decode cX6_adopt 101 = .ok (.aload_n 0, 1) := by decide +kernel
theorem dX6_adopt_102 : decode cX6_adopt 102 = .ok (.getfield 35, 3) := by decide +kernel
theorem dX6_adopt_105 : decode cX6_adopt 105 = .ok (.iload_n 1, 1) := by decide +kernel
theorem dX6_adopt_106 : decode cX6_adopt 106 = .ok (.aload_n 0, 1) := by decide +kernel
theorem dX6_adopt_107 : decode cX6_adopt 107 = .ok (.getfield 35, 3) := by decide +kernel
theorem dX6_adopt_110 : decode cX6_adopt 110 = .ok (.bipush 40, 2) := by decide +kernel
theorem dX6_adopt_112 : decode cX6_adopt 112 = .ok (.iload_n 1, 1) := by decide +kernel
theorem dX6_adopt_113 : decode cX6_adopt 113 = .ok (.iadd, 1) := by decide +kernel
theorem dX6_adopt_114 : decode cX6_adopt 114 = .ok (.iaload, 1) := by decide +kernel
theorem dX6_adopt_115 : decode cX6_adopt 115 = .ok (.iastore, 1) := by decide +kernel
theorem dX6_adopt_116 : decode cX6_adopt 116 = .ok (.iconst 3, 1) := by decide +kernel
theorem dX6_adopt_117 : decode cX6_adopt 117 = .ok (.iload_n 1, 1) := by decide +kernel
theorem dX6_adopt_118 : decode cX6_adopt 118 = .ok (.imul, 1) := by decide +kernel
theorem dX6_adopt_119 : decode cX6_adopt 119 = .ok (.istore_n 2, 1) := by decide +kernel
theorem dX6_adopt_120 : decode cX6_adopt 120 = .ok (.iload_n 2, 1) := by decide +kernel
theorem dX6_adopt_121 : decode cX6_adopt 121 = .ok (.iconst 3, 1) := by decide +kernel
theorem dX6_adopt_122 : decode cX6_adopt 122 = .ok (.iload_n 1, 1) := by decide +kernel
theorem dX6_adopt_123 : decode cX6_adopt 123 = .ok (.imul, 1) := by decide +kernel
theorem dX6_adopt_124 : decode cX6_adopt 124 = .ok (.iconst 3, 1) := by decide +kernel
theorem dX6_adopt_125 : decode cX6_adopt 125 = .ok (.iadd, 1) := by decide +kernel
theorem dX6_adopt_126 : decode cX6_adopt 126 = .ok (.if_icmp .ge 62, 3) := by decide +kernel
theorem dX6_adopt_129 : decode cX6_adopt 129 = .ok (.aload_n 0, 1) := by decide +kernel
theorem dX6_adopt_130 : decode cX6_adopt 130 = .ok (.getfield 41, 3) := by decide +kernel
theorem dX6_adopt_133 : decode cX6_adopt 133 = .ok (.iload_n 2, 1) := by decide +kernel
theorem dX6_adopt_134 : decode cX6_adopt 134 = .ok (.aload_n 0, 1) := by decide +kernel
theorem dX6_adopt_135 : decode cX6_adopt 135 = .ok (.getfield 41, 3) := by decide +kernel
theorem dX6_adopt_138 : decode cX6_adopt 138 = .ok (.bipush 120, 2) := by decide +kernel
theorem dX6_adopt_140 : decode cX6_adopt 140 = .ok (.iload_n 2, 1) := by decide +kernel
theorem dX6_adopt_141 : decode cX6_adopt 141 = .ok (.iadd, 1) := by decide +kernel
theorem dX6_adopt_142 : decode cX6_adopt 142 = .ok (.iaload, 1) := by decide +kernel
theorem dX6_adopt_143 : decode cX6_adopt 143 = .ok (.iastore, 1) := by decide +kernel
theorem dX6_adopt_144 : decode cX6_adopt 144 = .ok (.bipush 16, 2) := by decide +kernel
theorem dX6_adopt_146 : decode cX6_adopt 146 = .ok (.iload_n 2, 1) := by decide +kernel
theorem dX6_adopt_147 : decode cX6_adopt 147 = .ok (.imul, 1) := by decide +kernel
theorem dX6_adopt_148 : decode cX6_adopt 148 = .ok (.istore_n 3, 1) := by decide +kernel
theorem dX6_adopt_149 : decode cX6_adopt 149 = .ok (.iload_n 3, 1) := by decide +kernel
theorem dX6_adopt_150 : decode cX6_adopt 150 = .ok (.bipush 16, 2) := by decide +kernel
theorem dX6_adopt_152 : decode cX6_adopt 152 = .ok (.iload_n 2, 1) := by decide +kernel
theorem dX6_adopt_153 : decode cX6_adopt 153 = .ok (.imul, 1) := by decide +kernel
theorem dX6_adopt_154 : decode cX6_adopt 154 = .ok (.bipush 16, 2) := by decide +kernel
theorem dX6_adopt_156 : decode cX6_adopt 156 = .ok (.iadd, 1) := by decide +kernel
theorem dX6_adopt_157 : decode cX6_adopt 157 = .ok (.if_icmp .ge 25, 3) := by decide +kernel
theorem dX6_adopt_160 : decode cX6_adopt 160 = .ok (.aload_n 0, 1) := by decide +kernel
theorem dX6_adopt_161 : decode cX6_adopt 161 = .ok (.getfield 38, 3) := by decide +kernel
theorem dX6_adopt_164 : decode cX6_adopt 164 = .ok (.iload_n 3, 1) := by decide +kernel
theorem dX6_adopt_165 : decode cX6_adopt 165 = .ok (.aload_n 0, 1) := by decide +kernel
theorem dX6_adopt_166 : decode cX6_adopt 166 = .ok (.getfield 38, 3) := by decide +kernel
theorem dX6_adopt_169 : decode cX6_adopt 169 = .ok (.sipush 1920, 3) := by decide +kernel
theorem dX6_adopt_172 : decode cX6_adopt 172 = .ok (.iload_n 3, 1) := by decide +kernel
theorem dX6_adopt_173 : decode cX6_adopt 173 = .ok (.iadd, 1) := by decide +kernel
theorem dX6_adopt_174 : decode cX6_adopt 174 = .ok (.iaload, 1) := by decide +kernel
theorem dX6_adopt_175 : decode cX6_adopt 175 = .ok (.iastore, 1) := by decide +kernel
theorem dX6_adopt_176 : decode cX6_adopt 176 = .ok (.iinc 3 1, 3) := by decide +kernel
theorem dX6_adopt_179 : decode cX6_adopt 179 = .ok (.goto (-30), 3) := by decide +kernel
theorem dX6_adopt_182 : decode cX6_adopt 182 = .ok (.iinc 2 1, 3) := by decide +kernel
theorem dX6_adopt_185 : decode cX6_adopt 185 = .ok (.goto (-65), 3) := by decide +kernel
theorem dX6_adopt_188 : decode cX6_adopt 188 = .ok (.iinc 1 1, 3) := by decide +kernel
theorem dX6_adopt_191 : decode cX6_adopt 191 = .ok (.goto (-173), 3) := by decide +kernel
theorem dX6_adopt_194 : decode cX6_adopt 194 = .ok (.iconst 0, 1) := by decide +kernel
theorem dX6_adopt_195 : decode cX6_adopt 195 = .ok (.istore_n 1, 1) := by decide +kernel
theorem dX6_adopt_196 : decode cX6_adopt 196 = .ok (.iload_n 1, 1) := by decide +kernel
theorem dX6_adopt_197 : decode cX6_adopt 197 = .ok (.aload_n 0, 1) := by decide +kernel
theorem dX6_adopt_198 : decode cX6_adopt 198 = .ok (.getfield 208, 3) := by decide +kernel
theorem dX6_adopt_201 : decode cX6_adopt 201 = .ok (.if_icmp .ge 99, 3) := by decide +kernel
theorem dX6_adopt_204 : decode cX6_adopt 204 = .ok (.aload_n 0, 1) := by decide +kernel
theorem dX6_adopt_205 : decode cX6_adopt 205 = .ok (.getfield 44, 3) := by decide +kernel
theorem dX6_adopt_208 : decode cX6_adopt 208 = .ok (.iload_n 1, 1) := by decide +kernel
theorem dX6_adopt_209 : decode cX6_adopt 209 = .ok (.aload_n 0, 1) := by decide +kernel
theorem dX6_adopt_210 : decode cX6_adopt 210 = .ok (.getfield 44, 3) := by decide +kernel
theorem dX6_adopt_213 : decode cX6_adopt 213 = .ok (.bipush 12, 2) := by decide +kernel
theorem dX6_adopt_215 : decode cX6_adopt 215 = .ok (.iload_n 1, 1) := by decide +kernel
theorem dX6_adopt_216 : decode cX6_adopt 216 = .ok (.iadd, 1) := by decide +kernel
theorem dX6_adopt_217 : decode cX6_adopt 217 = .ok (.iaload, 1) := by decide +kernel
theorem dX6_adopt_218 : decode cX6_adopt 218 = .ok (.iastore, 1) := by decide +kernel
theorem dX6_adopt_219 : decode cX6_adopt 219 = .ok (.aload_n 0, 1) := by decide +kernel
theorem dX6_adopt_220 : decode cX6_adopt 220 = .ok (.getfield 47, 3) := by decide +kernel
theorem dX6_adopt_223 : decode cX6_adopt 223 = .ok (.iload_n 1, 1) := by decide +kernel
theorem dX6_adopt_224 : decode cX6_adopt 224 = .ok (.aload_n 0, 1) := by decide +kernel
theorem dX6_adopt_225 : decode cX6_adopt 225 = .ok (.getfield 47, 3) := by decide +kernel
theorem dX6_adopt_228 : decode cX6_adopt 228 = .ok (.bipush 12, 2) := by decide +kernel
theorem dX6_adopt_230 : decode cX6_adopt 230 = .ok (.iload_n 1, 1) := by decide +kernel
theorem dX6_adopt_231 : decode cX6_adopt 231 = .ok (.iadd, 1) := by decide +kernel
theorem dX6_adopt_232 : decode cX6_adopt 232 = .ok (.iaload, 1) := by decide +kernel
theorem dX6_adopt_233 : decode cX6_adopt 233 = .ok (.iastore, 1) := by decide +kernel
theorem dX6_adopt_234 : decode cX6_adopt 234 = .ok (.aload_n 0, 1) := by decide +kernel
theorem dX6_adopt_235 : decode cX6_adopt 235 = .ok (.getfield 50, 3) := by decide +kernel
theorem dX6_adopt_238 : decode cX6_adopt 238 = .ok (.iload_n 1, 1) := by decide +kernel
theorem dX6_adopt_239 : decode cX6_adopt 239 = .ok (.aload_n 0, 1) := by decide +kernel
theorem dX6_adopt_240 : decode cX6_adopt 240 = .ok (.getfield 50, 3) := by decide +kernel
theorem dX6_adopt_243 : decode cX6_adopt 243 = .ok (.bipush 12, 2) := by decide +kernel
theorem dX6_adopt_245 : decode cX6_adopt 245 = .ok (.iload_n 1, 1) := by decide +kernel
theorem dX6_adopt_246 : decode cX6_adopt 246 = .ok (.iadd, 1) := by decide +kernel
theorem dX6_adopt_247 : decode cX6_adopt 247 = .ok (.laload, 1) := by decide +kernel
theorem dX6_adopt_248 : decode cX6_adopt 248 = .ok (.lastore, 1) := by decide +kernel
theorem dX6_adopt_249 : decode cX6_adopt 249 = .ok (.aload_n 0, 1) := by decide +kernel
theorem dX6_adopt_250 : decode cX6_adopt 250 = .ok (.getfield 53, 3) := by decide +kernel
theorem dX6_adopt_253 : decode cX6_adopt 253 = .ok (.iload_n 1, 1) := by decide +kernel
theorem dX6_adopt_254 : decode cX6_adopt 254 = .ok (.aload_n 0, 1) := by decide +kernel
theorem dX6_adopt_255 : decode cX6_adopt 255 = .ok (.getfield 53, 3) := by decide +kernel
theorem dX6_adopt_258 : decode cX6_adopt 258 = .ok (.bipush 12, 2) := by decide +kernel
theorem dX6_adopt_260 : decode cX6_adopt 260 = .ok (.iload_n 1, 1) := by decide +kernel
theorem dX6_adopt_261 : decode cX6_adopt 261 = .ok (.iadd, 1) := by decide +kernel
theorem dX6_adopt_262 : decode cX6_adopt 262 = .ok (.laload, 1) := by decide +kernel
theorem dX6_adopt_263 : decode cX6_adopt 263 = .ok (.lastore, 1) := by decide +kernel
theorem dX6_adopt_264 : decode cX6_adopt 264 = .ok (.aload_n 0, 1) := by decide +kernel
theorem dX6_adopt_265 : decode cX6_adopt 265 = .ok (.getfield 56, 3) := by decide +kernel
theorem dX6_adopt_268 : decode cX6_adopt 268 = .ok (.iload_n 1, 1) := by decide +kernel
theorem dX6_adopt_269 : decode cX6_adopt 269 = .ok (.aload_n 0, 1) := by decide +kernel
theorem dX6_adopt_270 : decode cX6_adopt 270 = .ok (.getfield 56, 3) := by decide +kernel
theorem dX6_adopt_273 : decode cX6_adopt 273 = .ok (.bipush 12, 2) := by decide +kernel
theorem dX6_adopt_275 : decode cX6_adopt 275 = .ok (.iload_n 1, 1) := by decide +kernel
theorem dX6_adopt_276 : decode cX6_adopt 276 = .ok (.iadd, 1) := by decide +kernel
theorem dX6_adopt_277 : decode cX6_adopt 277 = .ok (.laload, 1) := by decide +kernel
theorem dX6_adopt_278 : decode cX6_adopt 278 = .ok (.lastore, 1) := by decide +kernel
theorem dX6_adopt_279 : decode cX6_adopt 279 = .ok (.aload_n 0, 1) := by decide +kernel
theorem dX6_adopt_280 : decode cX6_adopt 280 = .ok (.getfield 59, 3) := by decide +kernel
theorem dX6_adopt_283 : decode cX6_adopt 283 = .ok (.iload_n 1, 1) := by decide +kernel
theorem dX6_adopt_284 : decode cX6_adopt 284 = .ok (.aload_n 0, 1) := by decide +kernel
theorem dX6_adopt_285 : decode cX6_adopt 285 = .ok (.getfield 59, 3) := by decide +kernel
theorem dX6_adopt_288 : decode cX6_adopt 288 = .ok (.bipush 12, 2) := by decide +kernel
theorem dX6_adopt_290 : decode cX6_adopt 290 = .ok (.iload_n 1, 1) := by decide +kernel
theorem dX6_adopt_291 : decode cX6_adopt 291 = .ok (.iadd, 1) := by decide +kernel
theorem dX6_adopt_292 : decode cX6_adopt 292 = .ok (.laload, 1) := by decide +kernel
theorem dX6_adopt_293 : decode cX6_adopt 293 = .ok (.lastore, 1) := by decide +kernel
theorem dX6_adopt_294 : decode cX6_adopt 294 = .ok (.iinc 1 1, 3) := by decide +kernel
theorem dX6_adopt_297 : decode cX6_adopt 297 = .ok (.goto (-101), 3) := by decide +kernel
theorem dX6_adopt_300 : decode cX6_adopt 300 = .ok (.return_, 1) := by decide +kernel
theorem dX6_matches_0 : decode cX6_matches 0 = .ok (.iconst 3, 1) := by decide +kernel
theorem dX6_matches_1 : decode cX6_matches 1 = .ok (.iload_n 1, 1) := by decide +kernel
theorem dX6_matches_2 : decode cX6_matches 2 = .ok (.imul, 1) := by decide +kernel
theorem dX6_matches_3 : decode cX6_matches 3 = .ok (.iload_n 2, 1) := by decide +kernel
theorem dX6_matches_4 : decode cX6_matches 4 = .ok (.iadd, 1) := by decide +kernel
theorem dX6_matches_5 : decode cX6_matches 5 = .ok (.istore 4, 2) := by decide +kernel
theorem dX6_matches_7 : decode cX6_matches 7 = .ok (.aload_n 0, 1) := by decide +kernel
theorem dX6_matches_8 : decode cX6_matches 8 = .ok (.getfield 13, 3) := by decide +kernel
theorem dX6_matches_11 : decode cX6_matches 11 = .ok (.iload_n 3, 1) := by decide +kernel
theorem dX6_matches_12 : decode cX6_matches 12 = .ok (.iaload, 1) := by decide +kernel
theorem dX6_matches_13 : decode cX6_matches 13 = .ok (.istore 5, 2) := by decide +kernel
theorem dX6_matches_15 : decode cX6_matches 15 = .ok (.iload 5, 2) := by decide +kernel
theorem dX6_matches_17 : decode cX6_matches 17 = .ok (.ifCond .eq 13, 3) := by decide +kernel
theorem dX6_matches_20 : decode cX6_matches 20 = .ok (.aload_n 0, 1) := by decide +kernel
theorem dX6_matches_21 : decode cX6_matches 21 = .ok (.getfield 41, 3) := by decide +kernel
theorem dX6_matches_24 : decode cX6_matches 24 = .ok (.iload 4, 2) := by decide +kernel
theorem dX6_matches_26 : decode cX6_matches 26 = .ok (.iaload, 1) := by decide +kernel
theorem dX6_matches_27 : decode cX6_matches 27 = .ok (.ifCond .ne 5, 3) := by decide +kernel
theorem dX6_matches_30 : decode cX6_matches 30 = .ok (.iconst 0, 1) := by decide +kernel
theorem dX6_matches_31 : decode cX6_matches 31 = .ok (.ireturn, 1) := by decide +kernel
theorem dX6_matches_32 : decode cX6_matches 32 = .ok (.iconst 0, 1) := by decide +kernel
theorem dX6_matches_33 : decode cX6_matches 33 = .ok (.istore 6, 2) := by decide +kernel
theorem dX6_matches_35 : decode cX6_matches 35 = .ok (.iload 6, 2) := by decide +kernel
theorem dX6_matches_37 : decode cX6_matches 37 = .ok (.iload 5, 2) := by decide +kernel
theorem dX6_matches_39 : decode cX6_matches 39 = .ok (.if_icmp .gt 26, 3) := by decide +kernel
theorem dX6_matches_42 : decode cX6_matches 42 = .ok (.aload_n 0, 1) := by decide +kernel
theorem dX6_matches_43 : decode cX6_matches 43 = .ok (.getfield 72, 3) := by decide +kernel
theorem dX6_matches_46 : decode cX6_matches 46 = .ok (.iload 6, 2) := by decide +kernel
theorem dX6_matches_48 : decode cX6_matches 48 = .ok (.iload 6, 2) := by decide +kernel
theorem dX6_matches_50 : decode cX6_matches 50 = .ok (.ifCond .ne 7, 3) := by decide +kernel
theorem dX6_matches_53 : decode cX6_matches 53 = .ok (.iconst 1, 1) := by decide +kernel
theorem dX6_matches_54 : decode cX6_matches 54 = .ok (.goto 4, 3) := by decide +kernel
theorem dX6_matches_57 : decode cX6_matches 57 = .ok (.iconst 0, 1) := by decide +kernel
theorem dX6_matches_58 : decode cX6_matches 58 = .ok (.bastore, 1) := by decide +kernel
theorem dX6_matches_59 : decode cX6_matches 59 = .ok (.iinc 6 1, 3) := by decide +kernel
theorem dX6_matches_62 : decode cX6_matches 62 = .ok (.goto (-27), 3) := by decide +kernel
theorem dX6_matches_65 : decode cX6_matches 65 = .ok (.iconst 0, 1) := by decide +kernel
theorem dX6_matches_66 : decode cX6_matches 66 = .ok (.istore 6, 2) := by decide +kernel
theorem dX6_matches_68 : decode cX6_matches 68 = .ok (.iload 6, 2) := by decide +kernel
theorem dX6_matches_70 : decode cX6_matches 70 = .ok (.aload_n 0, 1) := by decide +kernel
theorem dX6_matches_71 : decode cX6_matches 71 = .ok (.getfield 41, 3) := by decide +kernel
theorem dX6_matches_74 : decode cX6_matches 74 = .ok (.iload 4, 2) := by decide +kernel
theorem dX6_matches_76 : decode cX6_matches 76 = .ok (.iaload, 1) := by decide +kernel
theorem dX6_matches_77 : decode cX6_matches 77 = .ok (.if_icmp .ge 156, 3) := by decide +kernel
theorem dX6_matches_80 : decode cX6_matches 80 = .ok (.aload_n 0, 1) := by decide +kernel
theorem dX6_matches_81 : decode cX6_matches 81 = .ok (.getfield 38, 3) := by decide +kernel
theorem dX6_matches_84 : decode cX6_matches 84 = .ok (.bipush 16, 2) := by decide +kernel
theorem dX6_matches_86 : decode cX6_matches 86 = .ok (.iload 4, 2) := by decide +kernel
theorem dX6_matches_88 : decode cX6_matches 88 = .ok (.imul, 1) := by decide +kernel
theorem dX6_matches_89 : decode cX6_matches 89 = .ok (.iload 6, 2) := by decide +kernel
theorem dX6_matches_91 : decode cX6_matches 91 = .ok (.iadd, 1) := by decide +kernel
theorem dX6_matches_92 : decode cX6_matches 92 = .ok (.iaload, 1) := by decide +kernel
theorem dX6_matches_93 : decode cX6_matches 93 = .ok (.istore 7, 2) := by decide +kernel
theorem dX6_matches_95 : decode cX6_matches 95 = .ok (.iload 7, 2) := by decide +kernel
theorem dX6_matches_97 : decode cX6_matches 97 = .ok (.bipush 42, 2) := by decide +kernel
theorem dX6_matches_99 : decode cX6_matches 99 = .ok (.if_icmp .ne 56, 3) := by decide +kernel
theorem dX6_matches_102 : decode cX6_matches 102 = .ok (.iconst 1, 1) := by decide +kernel
theorem dX6_matches_103 : decode cX6_matches 103 = .ok (.istore 8, 2) := by decide +kernel
theorem dX6_matches_105 : decode cX6_matches 105 = .ok (.iload 8, 2) := by decide +kernel
theorem dX6_matches_107 : decode cX6_matches 107 = .ok (.iload 5, 2) := by decide +kernel
theorem dX6_matches_109 : decode cX6_matches 109 = .ok (.if_icmp .gt 43, 3) := by decide +kernel
theorem dX6_matches_112 : decode cX6_matches 112 = .ok (.aload_n 0, 1) := by decide +kernel
theorem dX6_matches_113 : decode cX6_matches 113 = .ok (.getfield 72, 3) := by decide +kernel
theorem dX6_matches_116 : decode cX6_matches 116 = .ok (.iload 8, 2) := by decide +kernel
theorem dX6_matches_118 : decode cX6_matches 118 = .ok (.aload_n 0, 1) := by decide +kernel
theorem dX6_matches_119 : decode cX6_matches 119 = .ok (.getfield 72, 3) := by decide +kernel
theorem dX6_matches_122 : decode cX6_matches 122 = .ok (.iload 8, 2) := by decide +kernel
theorem dX6_matches_124 : decode cX6_matches 124 = .ok (.baload, 1) := by decide +kernel
theorem dX6_matches_125 : decode cX6_matches 125 = .ok (.ifCond .ne 15, 3) := by decide +kernel
theorem dX6_matches_128 : decode cX6_matches 128 = .ok (.aload_n 0, 1) := by decide +kernel
theorem dX6_matches_129 : decode cX6_matches 129 = .ok (.getfield 72, 3) := by decide +kernel
theorem dX6_matches_132 : decode cX6_matches 132 = .ok (.iload 8, 2) := by decide +kernel
theorem dX6_matches_134 : decode cX6_matches 134 = .ok (.iconst 1, 1) := by decide +kernel
theorem dX6_matches_135 : decode cX6_matches 135 = .ok (.isub, 1) := by decide +kernel
theorem dX6_matches_136 : decode cX6_matches 136 = .ok (.baload, 1) := by decide +kernel
theorem dX6_matches_137 : decode cX6_matches 137 = .ok (.ifCond .eq 7, 3) := by decide +kernel
theorem dX6_matches_140 : decode cX6_matches 140 = .ok (.iconst 1, 1) := by decide +kernel
theorem dX6_matches_141 : decode cX6_matches 141 = .ok (.goto 4, 3) := by decide +kernel
theorem dX6_matches_144 : decode cX6_matches 144 = .ok (.iconst 0, 1) := by decide +kernel
theorem dX6_matches_145 : decode cX6_matches 145 = .ok (.bastore, 1) := by decide +kernel
theorem dX6_matches_146 : decode cX6_matches 146 = .ok (.iinc 8 1, 3) := by decide +kernel
theorem dX6_matches_149 : decode cX6_matches 149 = .ok (.goto (-44), 3) := by decide +kernel
theorem dX6_matches_152 : decode cX6_matches 152 = .ok (.goto 75, 3) := by decide +kernel
theorem dX6_matches_155 : decode cX6_matches 155 = .ok (.iload 5, 2) := by decide +kernel
theorem dX6_matches_157 : decode cX6_matches 157 = .ok (.istore 8, 2) := by decide +kernel
theorem dX6_matches_159 : decode cX6_matches 159 = .ok (.iload 8, 2) := by decide +kernel
theorem dX6_matches_161 : decode cX6_matches 161 = .ok (.ifCond .le 59, 3) := by decide +kernel
theorem dX6_matches_164 : decode cX6_matches 164 = .ok (.aload_n 0, 1) := by decide +kernel
theorem dX6_matches_165 : decode cX6_matches 165 = .ok (.getfield 72, 3) := by decide +kernel
theorem dX6_matches_168 : decode cX6_matches 168 = .ok (.iload 8, 2) := by decide +kernel
theorem dX6_matches_170 : decode cX6_matches 170 = .ok (.aload_n 0, 1) := by decide +kernel
theorem dX6_matches_171 : decode cX6_matches 171 = .ok (.getfield 72, 3) := by decide +kernel
theorem dX6_matches_174 : decode cX6_matches 174 = .ok (.iload 8, 2) := by decide +kernel
theorem dX6_matches_176 : decode cX6_matches 176 = .ok (.iconst 1, 1) := by decide +kernel
theorem dX6_matches_177 : decode cX6_matches 177 = .ok (.isub, 1) := by decide +kernel
theorem dX6_matches_178 : decode cX6_matches 178 = .ok (.baload, 1) := by decide +kernel
theorem dX6_matches_179 : decode cX6_matches 179 = .ok (.ifCond .eq 33, 3) := by decide +kernel
theorem dX6_matches_182 : decode cX6_matches 182 = .ok (.iload 7, 2) := by decide +kernel
theorem dX6_matches_184 : decode cX6_matches 184 = .ok (.bipush 63, 2) := by decide +kernel
theorem dX6_matches_186 : decode cX6_matches 186 = .ok (.if_icmp .eq 22, 3) := by decide +kernel
theorem dX6_matches_189 : decode cX6_matches 189 = .ok (.iload 7, 2) := by decide +kernel
theorem dX6_matches_191 : decode cX6_matches 191 = .ok (.aload_n 0, 1) := by decide +kernel
theorem dX6_matches_192 : decode cX6_matches 192 = .ok (.getfield 7, 3) := by decide +kernel
theorem dX6_matches_195 : decode cX6_matches 195 = .ok (.bipush 16, 2) := by decide +kernel
theorem dX6_matches_197 : decode cX6_matches 197 = .ok (.iload_n 3, 1) := by decide +kernel
theorem dX6_matches_198 : decode cX6_matches 198 = .ok (.imul, 1) := by decide +kernel
theorem dX6_matches_199 : decode cX6_matches 199 = .ok (.iload 8, 2) := by decide +kernel
theorem dX6_matches_201 : decode cX6_matches 201 = .ok (.iadd, 1) := by decide +kernel
theorem dX6_matches_202 : decode cX6_matches 202 = .ok (.iconst 1, 1) := by decide +kernel
theorem dX6_matches_203 : decode cX6_matches 203 = .ok (.isub, 1) := by decide +kernel
theorem dX6_matches_204 : decode cX6_matches 204 = .ok (.iaload, 1) := by decide +kernel
theorem dX6_matches_205 : decode cX6_matches 205 = .ok (.if_icmp .ne 7, 3) := by decide +kernel
theorem dX6_matches_208 : decode cX6_matches 208 = .ok (.iconst 1, 1) := by decide +kernel
theorem dX6_matches_209 : decode cX6_matches 209 = .ok (.goto 4, 3) := by decide +kernel
theorem dX6_matches_212 : decode cX6_matches 212 = .ok (.iconst 0, 1) := by decide +kernel
theorem dX6_matches_213 : decode cX6_matches 213 = .ok (.bastore, 1) := by decide +kernel
theorem dX6_matches_214 : decode cX6_matches 214 = .ok (.iinc 8 (-1), 3) := by decide +kernel
theorem dX6_matches_217 : decode cX6_matches 217 = .ok (.goto (-58), 3) := by decide +kernel
theorem dX6_matches_220 : decode cX6_matches 220 = .ok (.aload_n 0, 1) := by decide +kernel
theorem dX6_matches_221 : decode cX6_matches 221 = .ok (.getfield 72, 3) := by decide +kernel
theorem dX6_matches_224 : decode cX6_matches 224 = .ok (.iconst 0, 1) := by decide +kernel
theorem dX6_matches_225 : decode cX6_matches 225 = .ok (.iconst 0, 1) := by decide +kernel
theorem dX6_matches_226 : decode cX6_matches 226 = .ok (.bastore, 1) := by decide +kernel
theorem dX6_matches_227 : decode cX6_matches 227 = .ok (.iinc 6 1, 3) := by decide +kernel
theorem dX6_matches_230 : decode cX6_matches 230 = .ok (.goto (-162), 3) := by decide +kernel
theorem dX6_matches_233 : decode cX6_matches 233 = .ok (.aload_n 0, 1) := by decide +kernel
theorem dX6_matches_234 : decode cX6_matches 234 = .ok (.getfield 72, 3) := by decide +kernel
theorem dX6_matches_237 : decode cX6_matches 237 = .ok (.iload 5, 2) := by decide +kernel
theorem dX6_matches_239 : decode cX6_matches 239 = .ok (.baload, 1) := by decide +kernel
theorem dX6_matches_240 : decode cX6_matches 240 = .ok (.ireturn, 1) := by decide +kernel
theorem dX6_matched_0 : decode cX6_matched 0 = .ok (.iconst 0, 1) := by decide +kernel
theorem dX6_matched_1 : decode cX6_matched 1 = .ok (.istore_n 3, 1) := by decide +kernel
theorem dX6_matched_2 : decode cX6_matched 2 = .ok (.iconst 0, 1) := by decide +kernel
theorem dX6_matched_3 : decode cX6_matched 3 = .ok (.istore 4, 2) := by decide +kernel
theorem dX6_matched_5 : decode cX6_matched 5 = .ok (.iload 4, 2) := by decide +kernel
theorem dX6_matched_7 : decode cX6_matched 7 = .ok (.bipush 40, 2) := by decide +kernel
theorem dX6_matched_9 : decode cX6_matched 9 = .ok (.if_icmp .ge 28, 3) := by decide +kernel
theorem dX6_matched_12 : decode cX6_matched 12 = .ok (.iload_n 3, 1) := by decide +kernel
theorem dX6_matched_13 : decode cX6_matched 13 = .ok (.aload_n 0, 1) := by decide +kernel
theorem dX6_matched_14 : decode cX6_matched 14 = .ok (.iload_n 1, 1) := by decide +kernel
theorem dX6_matched_15 : decode cX6_matched 15 = .ok (.iload_n 2, 1) := by decide +kernel
theorem dX6_matched_16 : decode cX6_matched 16 = .ok (.iload 4, 2) := by decide +kernel
theorem dX6_matched_18 : decode cX6_matched 18 = .ok (.invokevirtual 211, 3) := by decide +kernel
theorem dX6_matched_21 : decode cX6_matched 21 = .ok (.ifCond .eq 7, 3) := by decide +kernel
theorem dX6_matched_24 : decode cX6_matched 24 = .ok (.iconst 1, 1) := by decide +kernel
theorem dX6_matched_25 : decode cX6_matched 25 = .ok (.goto 4, 3) := by decide +kernel
theorem dX6_matched_28 : decode cX6_matched 28 = .ok (.iconst 0, 1) := by decide +kernel
theorem dX6_matched_29 : decode cX6_matched 29 = .ok (.iadd, 1) := by decide +kernel
theorem dX6_matched_30 : decode cX6_matched 30 = .ok (.istore_n 3, 1) := by decide +kernel
theorem dX6_matched_31 : decode cX6_matched 31 = .ok (.iinc 4 1, 3) := by decide +kernel
theorem dX6_matched_34 : decode cX6_matched 34 = .ok (.goto (-29), 3) := by decide +kernel
theorem dX6_matched_37 : decode cX6_matched 37 = .ok (.iload_n 3, 1) := by decide +kernel
theorem dX6_matched_38 : decode cX6_matched 38 = .ok (.ireturn, 1) := by decide +kernel
theorem dX6_isClock_0 : decode cX6_isClock 0 = .ok (.iload_n 1, 1) := by decide +kernel
theorem dX6_isClock_1 : decode cX6_isClock 1 = .ok (.ifCond .lt 15, 3) := by decide +kernel
theorem dX6_isClock_4 : decode cX6_isClock 4 = .ok (.iload_n 1, 1) := by decide +kernel
theorem dX6_isClock_5 : decode cX6_isClock 5 = .ok (.aload_n 0, 1) := by decide +kernel
theorem dX6_isClock_6 : decode cX6_isClock 6 = .ok (.getfield 208, 3) := by decide +kernel
theorem dX6_isClock_9 : decode cX6_isClock 9 = .ok (.if_icmp .ge 7, 3) := by decide +kernel
theorem dX6_isClock_12 : decode cX6_isClock 12 = .ok (.iconst 1, 1) := by decide +kernel
theorem dX6_isClock_13 : decode cX6_isClock 13 = .ok (.goto 4, 3) := by decide +kernel
theorem dX6_isClock_16 : decode cX6_isClock 16 = .ok (.iconst 0, 1) := by decide +kernel
theorem dX6_isClock_17 : decode cX6_isClock 17 = .ok (.ireturn, 1) := by decide +kernel
theorem dX6_clock_0 : decode cX6_clock 0 = .ok (.aload_n 0, 1) := by decide +kernel
theorem dX6_clock_1 : decode cX6_clock 1 = .ok (.aload_n 0, 1) := by decide +kernel
theorem dX6_clock_2 : decode cX6_clock 2 = .ok (.iload_n 1, 1) := by decide +kernel
theorem dX6_clock_3 : decode cX6_clock 3 = .ok (.invokevirtual 215, 3) := by decide +kernel
theorem dX6_clock_6 : decode cX6_clock 6 = .ok (.ifCond .eq 13, 3) := by decide +kernel
theorem dX6_clock_9 : decode cX6_clock 9 = .ok (.iload_n 2, 1) := by decide +kernel
theorem dX6_clock_10 : decode cX6_clock 10 = .ok (.ifCond .lt 9, 3) := by decide +kernel
theorem dX6_clock_13 : decode cX6_clock 13 = .ok (.iload_n 2, 1) := by decide +kernel
theorem dX6_clock_14 : decode cX6_clock 14 = .ok (.bipush 6, 2) := by decide +kernel
theorem dX6_clock_16 : decode cX6_clock 16 = .ok (.if_icmp .le 7, 3) := by decide +kernel
theorem dX6_clock_19 : decode cX6_clock 19 = .ok (.iconst 1, 1) := by decide +kernel
theorem dX6_clock_20 : decode cX6_clock 20 = .ok (.goto 4, 3) := by decide +kernel
theorem dX6_clock_23 : decode cX6_clock 23 = .ok (.iconst 0, 1) := by decide +kernel
theorem dX6_clock_24 : decode cX6_clock 24 = .ok (.putfield 75, 3) := by decide +kernel
theorem dX6_clock_27 : decode cX6_clock 27 = .ok (.aload_n 0, 1) := by decide +kernel
theorem dX6_clock_28 : decode cX6_clock 28 = .ok (.getfield 75, 3) := by decide +kernel
theorem dX6_clock_31 : decode cX6_clock 31 = .ok (.ifCond .le 5, 3) := by decide +kernel
theorem dX6_clock_34 : decode cX6_clock 34 = .ok (.iconst 0, 1) := by decide +kernel
theorem dX6_clock_35 : decode cX6_clock 35 = .ok (.ireturn, 1) := by decide +kernel
theorem dX6_clock_36 : decode cX6_clock 36 = .ok (.iload_n 2, 1) := by decide +kernel
theorem dX6_clock_37 : decode cX6_clock 37 = .ok (.tableswitch 87 0 5 #[39, 47, 55, 63, 71, 80], 39) := by decide +kernel
theorem dX6_clock_76 : decode cX6_clock 76 = .ok (.aload_n 0, 1) := by decide +kernel
theorem dX6_clock_77 : decode cX6_clock 77 = .ok (.getfield 50, 3) := by decide +kernel
theorem dX6_clock_80 : decode cX6_clock 80 = .ok (.iload_n 1, 1) := by decide +kernel
theorem dX6_clock_81 : decode cX6_clock 81 = .ok (.laload, 1) := by decide +kernel
theorem dX6_clock_82 : decode cX6_clock 82 = .ok (.l2i, 1) := by decide +kernel
theorem dX6_clock_83 : decode cX6_clock 83 = .ok (.ireturn, 1) := by decide +kernel
theorem dX6_clock_84 : decode cX6_clock 84 = .ok (.aload_n 0, 1) := by decide +kernel
theorem dX6_clock_85 : decode cX6_clock 85 = .ok (.getfield 53, 3) := by decide +kernel
theorem dX6_clock_88 : decode cX6_clock 88 = .ok (.iload_n 1, 1) := by decide +kernel
theorem dX6_clock_89 : decode cX6_clock 89 = .ok (.laload, 1) := by decide +kernel
theorem dX6_clock_90 : decode cX6_clock 90 = .ok (.l2i, 1) := by decide +kernel
theorem dX6_clock_91 : decode cX6_clock 91 = .ok (.ireturn, 1) := by decide +kernel
theorem dX6_clock_92 : decode cX6_clock 92 = .ok (.aload_n 0, 1) := by decide +kernel
theorem dX6_clock_93 : decode cX6_clock 93 = .ok (.getfield 56, 3) := by decide +kernel
theorem dX6_clock_96 : decode cX6_clock 96 = .ok (.iload_n 1, 1) := by decide +kernel
theorem dX6_clock_97 : decode cX6_clock 97 = .ok (.laload, 1) := by decide +kernel
theorem dX6_clock_98 : decode cX6_clock 98 = .ok (.l2i, 1) := by decide +kernel
theorem dX6_clock_99 : decode cX6_clock 99 = .ok (.ireturn, 1) := by decide +kernel
theorem dX6_clock_100 : decode cX6_clock 100 = .ok (.aload_n 0, 1) := by decide +kernel
theorem dX6_clock_101 : decode cX6_clock 101 = .ok (.getfield 59, 3) := by decide +kernel
theorem dX6_clock_104 : decode cX6_clock 104 = .ok (.iload_n 1, 1) := by decide +kernel
theorem dX6_clock_105 : decode cX6_clock 105 = .ok (.laload, 1) := by decide +kernel
theorem dX6_clock_106 : decode cX6_clock 106 = .ok (.l2i, 1) := by decide +kernel
theorem dX6_clock_107 : decode cX6_clock 107 = .ok (.ireturn, 1) := by decide +kernel
theorem dX6_clock_108 : decode cX6_clock 108 = .ok (.aload_n 0, 1) := by decide +kernel
theorem dX6_clock_109 : decode cX6_clock 109 = .ok (.getfield 44, 3) := by decide +kernel
theorem dX6_clock_112 : decode cX6_clock 112 = .ok (.iload_n 1, 1) := by decide +kernel
theorem dX6_clock_113 : decode cX6_clock 113 = .ok (.iaload, 1) := by decide +kernel
theorem dX6_clock_114 : decode cX6_clock 114 = .ok (.iconst 1, 1) := by decide +kernel
theorem dX6_clock_115 : decode cX6_clock 115 = .ok (.iadd, 1) := by decide +kernel
theorem dX6_clock_116 : decode cX6_clock 116 = .ok (.ireturn, 1) := by decide +kernel
theorem dX6_clock_117 : decode cX6_clock 117 = .ok (.aload_n 0, 1) := by decide +kernel
theorem dX6_clock_118 : decode cX6_clock 118 = .ok (.getfield 47, 3) := by decide +kernel
theorem dX6_clock_121 : decode cX6_clock 121 = .ok (.iload_n 1, 1) := by decide +kernel
theorem dX6_clock_122 : decode cX6_clock 122 = .ok (.iaload, 1) := by decide +kernel
theorem dX6_clock_123 : decode cX6_clock 123 = .ok (.ireturn, 1) := by decide +kernel
theorem dX6_clock_124 : decode cX6_clock 124 = .ok (.aload_n 0, 1) := by decide +kernel
theorem dX6_clock_125 : decode cX6_clock 125 = .ok (.aload_n 0, 1) := by decide +kernel
theorem dX6_clock_126 : decode cX6_clock 126 = .ok (.getfield 44, 3) := by decide +kernel
theorem dX6_clock_129 : decode cX6_clock 129 = .ok (.iload_n 1, 1) := by decide +kernel
theorem dX6_clock_130 : decode cX6_clock 130 = .ok (.iaload, 1) := by decide +kernel
theorem dX6_clock_131 : decode cX6_clock 131 = .ok (.iconst 0, 1) := by decide +kernel
theorem dX6_clock_132 : decode cX6_clock 132 = .ok (.invokevirtual 218, 3) := by decide +kernel
theorem dX6_clock_135 : decode cX6_clock 135 = .ok (.ireturn, 1) := by decide +kernel
theorem dX6_part_0 : decode cX6_part 0 = .ok (.lload_n 0, 1) := by decide +kernel
theorem dX6_part_1 : decode cX6_part 1 = .ok (.lload_n 2, 1) := by decide +kernel
theorem dX6_part_2 : decode cX6_part 2 = .ok (.invokestatic 172, 3) := by decide +kernel
theorem dX6_part_5 : decode cX6_part 5 = .ok (.lstore 5, 2) := by decide +kernel
theorem dX6_part_7 : decode cX6_part 7 = .ok (.iload 4, 2) := by decide +kernel
theorem dX6_part_9 : decode cX6_part 9 = .ok (.ifCond .ne 10, 3) := by decide +kernel
theorem dX6_part_12 : decode cX6_part 12 = .ok (.lload_n 0, 1) := by decide +kernel
theorem dX6_part_13 : decode cX6_part 13 = .ok (.lload 5, 2) := by decide +kernel
theorem dX6_part_15 : decode cX6_part 15 = .ok (.ldiv, 1) := by decide +kernel
theorem dX6_part_16 : decode cX6_part 16 = .ok (.goto 7, 3) := by decide +kernel
theorem dX6_part_19 : decode cX6_part 19 = .ok (.lload_n 2, 1) := by decide +kernel
theorem dX6_part_20 : decode cX6_part 20 = .ok (.lload 5, 2) := by decide +kernel
theorem dX6_part_22 : decode cX6_part 22 = .ok (.ldiv, 1) := by decide +kernel
theorem dX6_part_23 : decode cX6_part 23 = .ok (.lreturn, 1) := by decide +kernel
theorem dX6_edge_0 : decode cX6_edge 0 = .ok (.aload_n 0, 1) := by decide +kernel
theorem dX6_edge_1 : decode cX6_edge 1 = .ok (.aload_n 0, 1) := by decide +kernel
theorem dX6_edge_2 : decode cX6_edge 2 = .ok (.iload_n 1, 1) := by decide +kernel
theorem dX6_edge_3 : decode cX6_edge 3 = .ok (.invokevirtual 215, 3) := by decide +kernel
theorem dX6_edge_6 : decode cX6_edge 6 = .ok (.ifCond .eq 23, 3) := by decide +kernel
theorem dX6_edge_9 : decode cX6_edge 9 = .ok (.iload_n 2, 1) := by decide +kernel
theorem dX6_edge_10 : decode cX6_edge 10 = .ok (.ifCond .lt 19, 3) := by decide +kernel
theorem dX6_edge_13 : decode cX6_edge 13 = .ok (.iload_n 2, 1) := by decide +kernel
theorem dX6_edge_14 : decode cX6_edge 14 = .ok (.sipush 1000, 3) := by decide +kernel
theorem dX6_edge_17 : decode cX6_edge 17 = .ok (.if_icmp .gt 12, 3) := by decide +kernel
theorem dX6_edge_20 : decode cX6_edge 20 = .ok (.iload_n 3, 1) := by decide +kernel
theorem dX6_edge_21 : decode cX6_edge 21 = .ok (.ifCond .lt 8, 3) := by decide +kernel
theorem dX6_edge_24 : decode cX6_edge 24 = .ok (.iload_n 3, 1) := by decide +kernel
theorem dX6_edge_25 : decode cX6_edge 25 = .ok (.iconst 2, 1) := by decide +kernel
theorem dX6_edge_26 : decode cX6_edge 26 = .ok (.if_icmp .le 7, 3) := by decide +kernel
theorem dX6_edge_29 : decode cX6_edge 29 = .ok (.iconst 1, 1) := by decide +kernel
theorem dX6_edge_30 : decode cX6_edge 30 = .ok (.goto 4, 3) := by decide +kernel
theorem dX6_edge_33 : decode cX6_edge 33 = .ok (.iconst 0, 1) := by decide +kernel
theorem dX6_edge_34 : decode cX6_edge 34 = .ok (.putfield 75, 3) := by decide +kernel
theorem dX6_edge_37 : decode cX6_edge 37 = .ok (.aload_n 0, 1) := by decide +kernel
theorem dX6_edge_38 : decode cX6_edge 38 = .ok (.getfield 75, 3) := by decide +kernel
theorem dX6_edge_41 : decode cX6_edge 41 = .ok (.ifCond .le 5, 3) := by decide +kernel
theorem dX6_edge_44 : decode cX6_edge 44 = .ok (.lconst 0, 1) := by decide +kernel
theorem dX6_edge_45 : decode cX6_edge 45 = .ok (.lreturn, 1) := by decide +kernel
theorem dX6_edge_46 : decode cX6_edge 46 = .ok (.aload_n 0, 1) := by decide +kernel
theorem dX6_edge_47 : decode cX6_edge 47 = .ok (.getfield 53, 3) := by decide +kernel
theorem dX6_edge_50 : decode cX6_edge 50 = .ok (.iload_n 1, 1) := by decide +kernel
theorem dX6_edge_51 : decode cX6_edge 51 = .ok (.laload, 1) := by decide +kernel
theorem dX6_edge_52 : decode cX6_edge 52 = .ok (.aload_n 0, 1) := by decide +kernel
theorem dX6_edge_53 : decode cX6_edge 53 = .ok (.getfield 56, 3) := by decide +kernel
theorem dX6_edge_56 : decode cX6_edge 56 = .ok (.iload_n 1, 1) := by decide +kernel
theorem dX6_edge_57 : decode cX6_edge 57 = .ok (.laload, 1) := by decide +kernel
theorem dX6_edge_58 : decode cX6_edge 58 = .ok (.lcmp, 1) := by decide +kernel
theorem dX6_edge_59 : decode cX6_edge 59 = .ok (.ifCond .ge 7, 3) := by decide +kernel
theorem dX6_edge_62 : decode cX6_edge 62 = .ok (.iconst 1, 1) := by decide +kernel
theorem dX6_edge_63 : decode cX6_edge 63 = .ok (.goto 4, 3) := by decide +kernel
theorem dX6_edge_66 : decode cX6_edge 66 = .ok (.iconst 0, 1) := by decide +kernel
theorem dX6_edge_67 : decode cX6_edge 67 = .ok (.iload_n 2, 1) := by decide +kernel
theorem dX6_edge_68 : decode cX6_edge 68 = .ok (.iconst 2, 1) := by decide +kernel
theorem dX6_edge_69 : decode cX6_edge 69 = .ok (.irem, 1) := by decide +kernel
theorem dX6_edge_70 : decode cX6_edge 70 = .ok (.ifCond .ne 7, 3) := by decide +kernel
theorem dX6_edge_73 : decode cX6_edge 73 = .ok (.iconst 1, 1) := by decide +kernel
theorem dX6_edge_74 : decode cX6_edge 74 = .ok (.goto 4, 3) := by decide +kernel
theorem dX6_edge_77 : decode cX6_edge 77 = .ok (.iconst 0, 1) := by decide +kernel
theorem dX6_edge_78 : decode cX6_edge 78 = .ok (.if_icmp .ne 7, 3) := by decide +kernel
theorem dX6_edge_81 : decode cX6_edge 81 = .ok (.iconst 1, 1) := by decide +kernel
theorem dX6_edge_82 : decode cX6_edge 82 = .ok (.goto 4, 3) := by decide +kernel
theorem dX6_edge_85 : decode cX6_edge 85 = .ok (.iconst 0, 1) := by decide +kernel
theorem dX6_edge_86 : decode cX6_edge 86 = .ok (.istore 4, 2) := by decide +kernel
theorem dX6_edge_88 : decode cX6_edge 88 = .ok (.iload_n 2, 1) := by decide +kernel
theorem dX6_edge_89 : decode cX6_edge 89 = .ok (.iconst 2, 1) := by decide +kernel
theorem dX6_edge_90 : decode cX6_edge 90 = .ok (.idiv, 1) := by decide +kernel
theorem dX6_edge_91 : decode cX6_edge 91 = .ok (.i2l, 1) := by decide +kernel
theorem dX6_edge_92 : decode cX6_edge 92 = .ok (.aload_n 0, 1) := by decide +kernel
theorem dX6_edge_93 : decode cX6_edge 93 = .ok (.getfield 50, 3) := by decide +kernel
theorem dX6_edge_96 : decode cX6_edge 96 = .ok (.iload_n 1, 1) := by decide +kernel
theorem dX6_edge_97 : decode cX6_edge 97 = .ok (.laload, 1) := by decide +kernel
theorem dX6_edge_98 : decode cX6_edge 98 = .ok (.lmul, 1) := by decide +kernel
theorem dX6_edge_99 : decode cX6_edge 99 = .ok (.iload 4, 2) := by decide +kernel
theorem dX6_edge_101 : decode cX6_edge 101 = .ok (.ifCond .eq 12, 3) := by decide +kernel
theorem dX6_edge_104 : decode cX6_edge 104 = .ok (.aload_n 0, 1) := by decide +kernel
theorem dX6_edge_105 : decode cX6_edge 105 = .ok (.getfield 53, 3) := by decide +kernel
theorem dX6_edge_108 : decode cX6_edge 108 = .ok (.iload_n 1, 1) := by decide +kernel
theorem dX6_edge_109 : decode cX6_edge 109 = .ok (.laload, 1) := by decide +kernel
theorem dX6_edge_110 : decode cX6_edge 110 = .ok (.goto 9, 3) := by decide +kernel
theorem dX6_edge_113 : decode cX6_edge 113 = .ok (.aload_n 0, 1) := by decide +kernel
theorem dX6_edge_114 : decode cX6_edge 114 = .ok (.getfield 56, 3) := by decide +kernel
theorem dX6_edge_117 : decode cX6_edge 117 = .ok (.iload_n 1, 1) := by decide +kernel
theorem dX6_edge_118 : decode cX6_edge 118 = .ok (.laload, 1) := by decide +kernel
theorem dX6_edge_119 : decode cX6_edge 119 = .ok (.ladd, 1) := by decide +kernel
theorem dX6_edge_120 : decode cX6_edge 120 = .ok (.lstore 5, 2) := by decide +kernel
theorem dX6_edge_122 : decode cX6_edge 122 = .ok (.iload_n 3, 1) := by decide +kernel
theorem dX6_edge_123 : decode cX6_edge 123 = .ok (.iconst 2, 1) := by decide +kernel
theorem dX6_edge_124 : decode cX6_edge 124 = .ok (.if_icmp .ne 16, 3) := by decide +kernel
theorem dX6_edge_127 : decode cX6_edge 127 = .ok (.iload 4, 2) := by decide +kernel
theorem dX6_edge_129 : decode cX6_edge 129 = .ok (.ifCond .eq 7, 3) := by decide +kernel
theorem dX6_edge_132 : decode cX6_edge 132 = .ok (.lconst 1, 1) := by decide +kernel
theorem dX6_edge_133 : decode cX6_edge 133 = .ok (.goto 19, 3) := by decide +kernel
theorem dX6_edge_136 : decode cX6_edge 136 = .ok (.lconst 0, 1) := by decide +kernel
theorem dX6_edge_137 : decode cX6_edge 137 = .ok (.goto 15, 3) := by decide +kernel
theorem dX6_edge_140 : decode cX6_edge 140 = .ok (.lload 5, 2) := by decide +kernel
theorem dX6_edge_142 : decode cX6_edge 142 = .ok (.aload_n 0, 1) := by decide +kernel
theorem dX6_edge_143 : decode cX6_edge 143 = .ok (.getfield 59, 3) := by decide +kernel
theorem dX6_edge_146 : decode cX6_edge 146 = .ok (.iload_n 1, 1) := by decide +kernel
theorem dX6_edge_147 : decode cX6_edge 147 = .ok (.laload, 1) := by decide +kernel
theorem dX6_edge_148 : decode cX6_edge 148 = .ok (.iload_n 3, 1) := by decide +kernel
theorem dX6_edge_149 : decode cX6_edge 149 = .ok (.invokestatic 221, 3) := by decide +kernel
theorem dX6_edge_152 : decode cX6_edge 152 = .ok (.lreturn, 1) := by decide +kernel
theorem dX6_areApart_0 : decode cX6_areApart 0 = .ok (.iconst 0, 1) := by decide +kernel
theorem dX6_areApart_1 : decode cX6_areApart 1 = .ok (.istore_n 3, 1) := by decide +kernel
theorem dX6_areApart_2 : decode cX6_areApart 2 = .ok (.aload_n 0, 1) := by decide +kernel
theorem dX6_areApart_3 : decode cX6_areApart 3 = .ok (.getfield 22, 3) := by decide +kernel
theorem dX6_areApart_6 : decode cX6_areApart 6 = .ok (.aload_n 0, 1) := by decide +kernel
theorem dX6_areApart_7 : decode cX6_areApart 7 = .ok (.getfield 44, 3) := by decide +kernel
theorem dX6_areApart_10 : decode cX6_areApart 10 = .ok (.iload_n 1, 1) := by decide +kernel
theorem dX6_areApart_11 : decode cX6_areApart 11 = .ok (.iaload, 1) := by decide +kernel
theorem dX6_areApart_12 : decode cX6_areApart 12 = .ok (.laload, 1) := by decide +kernel
theorem dX6_areApart_13 : decode cX6_areApart 13 = .ok (.lstore 4, 2) := by decide +kernel
theorem dX6_areApart_15 : decode cX6_areApart 15 = .ok (.aload_n 0, 1) := by decide +kernel
theorem dX6_areApart_16 : decode cX6_areApart 16 = .ok (.getfield 22, 3) := by decide +kernel
theorem dX6_areApart_19 : decode cX6_areApart 19 = .ok (.aload_n 0, 1) := by decide +kernel
theorem dX6_areApart_20 : decode cX6_areApart 20 = .ok (.getfield 44, 3) := by decide +kernel
theorem dX6_areApart_23 : decode cX6_areApart 23 = .ok (.iload_n 2, 1) := by decide +kernel
theorem dX6_areApart_24 : decode cX6_areApart 24 = .ok (.iaload, 1) := by decide +kernel
theorem dX6_areApart_25 : decode cX6_areApart 25 = .ok (.laload, 1) := by decide +kernel
theorem dX6_areApart_26 : decode cX6_areApart 26 = .ok (.lstore 6, 2) := by decide +kernel
theorem dX6_areApart_28 : decode cX6_areApart 28 = .ok (.iconst 0, 1) := by decide +kernel
theorem dX6_areApart_29 : decode cX6_areApart 29 = .ok (.istore 8, 2) := by decide +kernel
theorem dX6_areApart_31 : decode cX6_areApart 31 = .ok (.iload 8, 2) := by decide +kernel
theorem dX6_areApart_33 : decode cX6_areApart 33 = .ok (.aload_n 0, 1) := by decide +kernel
theorem dX6_areApart_34 : decode cX6_areApart 34 = .ok (.getfield 205, 3) := by decide +kernel
theorem dX6_areApart_37 : decode cX6_areApart 37 = .ok (.if_icmp .ge 82, 3) := by decide +kernel
theorem dX6_areApart_40 : decode cX6_areApart 40 = .ok (.iload_n 3, 1) := by decide +kernel
theorem dX6_areApart_41 : decode cX6_areApart 41 = .ok (.ifCond .ne 66, 3) := by decide +kernel
theorem dX6_areApart_44 : decode cX6_areApart 44 = .ok (.aload_n 0, 1) := by decide +kernel
theorem dX6_areApart_45 : decode cX6_areApart 45 = .ok (.getfield 19, 3) := by decide +kernel
theorem dX6_areApart_48 : decode cX6_areApart 48 = .ok (.iload 8, 2) := by decide +kernel
theorem dX6_areApart_50 : decode cX6_areApart 50 = .ok (.iaload, 1) := by decide +kernel
theorem dX6_areApart_51 : decode cX6_areApart 51 = .ok (.iconst 3, 1) := by decide +kernel
theorem dX6_areApart_52 : decode cX6_areApart 52 = .ok (.if_icmp .ne 59, 3) := by decide +kernel
theorem dX6_areApart_55 : decode cX6_areApart 55 = .ok (.aload_n 0, 1) := by decide +kernel
theorem dX6_areApart_56 : decode cX6_areApart 56 = .ok (.getfield 22, 3) := by decide +kernel
theorem dX6_areApart_59 : decode cX6_areApart 59 = .ok (.iload 8, 2) := by decide +kernel
theorem dX6_areApart_61 : decode cX6_areApart 61 = .ok (.laload, 1) := by decide +kernel
theorem dX6_areApart_62 : decode cX6_areApart 62 = .ok (.lload 4, 2) := by decide +kernel
theorem dX6_areApart_64 : decode cX6_areApart 64 = .ok (.lcmp, 1) := by decide +kernel
theorem dX6_areApart_65 : decode cX6_areApart 65 = .ok (.ifCond .ne 16, 3) := by decide +kernel
theorem dX6_areApart_68 : decode cX6_areApart 68 = .ok (.aload_n 0, 1) := by decide +kernel
theorem dX6_areApart_69 : decode cX6_areApart 69 = .ok (.getfield 26, 3) := by decide +kernel
theorem dX6_areApart_72 : decode cX6_areApart 72 = .ok (.iload 8, 2) := by decide +kernel
theorem dX6_areApart_74 : decode cX6_areApart 74 = .ok (.laload, 1) := by decide +kernel
theorem dX6_areApart_75 : decode cX6_areApart 75 = .ok (.lload 6, 2) := by decide +kernel
theorem dX6_areApart_77 : decode cX6_areApart 77 = .ok (.lcmp, 1) := by decide +kernel
theorem dX6_areApart_78 : decode cX6_areApart 78 = .ok (.ifCond .eq 29, 3) := by decide +kernel
theorem dX6_areApart_81 : decode cX6_areApart 81 = .ok (.aload_n 0, 1) := by decide +kernel
theorem dX6_areApart_82 : decode cX6_areApart 82 = .ok (.getfield 22, 3) := by decide +kernel
theorem dX6_areApart_85 : decode cX6_areApart 85 = .ok (.iload 8, 2) := by decide +kernel
theorem dX6_areApart_87 : decode cX6_areApart 87 = .ok (.laload, 1) := by decide +kernel
theorem dX6_areApart_88 : decode cX6_areApart 88 = .ok (.lload 6, 2) := by decide +kernel
theorem dX6_areApart_90 : decode cX6_areApart 90 = .ok (.lcmp, 1) := by decide +kernel
theorem dX6_areApart_91 : decode cX6_areApart 91 = .ok (.ifCond .ne 20, 3) := by decide +kernel
theorem dX6_areApart_94 : decode cX6_areApart 94 = .ok (.aload_n 0, 1) := by decide +kernel
theorem dX6_areApart_95 : decode cX6_areApart 95 = .ok (.getfield 26, 3) := by decide +kernel
theorem dX6_areApart_98 : decode cX6_areApart 98 = .ok (.iload 8, 2) := by decide +kernel
theorem dX6_areApart_100 : decode cX6_areApart 100 = .ok (.laload, 1) := by decide +kernel
theorem dX6_areApart_101 : decode cX6_areApart 101 = .ok (.lload 4, 2) := by decide +kernel
theorem dX6_areApart_103 : decode cX6_areApart 103 = .ok (.lcmp, 1) := by decide +kernel
theorem dX6_areApart_104 : decode cX6_areApart 104 = .ok (.ifCond .ne 7, 3) := by decide +kernel
theorem dX6_areApart_107 : decode cX6_areApart 107 = .ok (.iconst 1, 1) := by decide +kernel
theorem dX6_areApart_108 : decode cX6_areApart 108 = .ok (.goto 4, 3) := by decide +kernel
theorem dX6_areApart_111 : decode cX6_areApart 111 = .ok (.iconst 0, 1) := by decide +kernel
theorem dX6_areApart_112 : decode cX6_areApart 112 = .ok (.istore_n 3, 1) := by decide +kernel
theorem dX6_areApart_113 : decode cX6_areApart 113 = .ok (.iinc 8 1, 3) := by decide +kernel
theorem dX6_areApart_116 : decode cX6_areApart 116 = .ok (.goto (-85), 3) := by decide +kernel
theorem dX6_areApart_119 : decode cX6_areApart 119 = .ok (.iload_n 3, 1) := by decide +kernel
theorem dX6_areApart_120 : decode cX6_areApart 120 = .ok (.ireturn, 1) := by decide +kernel
theorem dX6_distance_0 : decode cX6_distance 0 = .ok (.aload_n 0, 1) := by decide +kernel
theorem dX6_distance_1 : decode cX6_distance 1 = .ok (.aload_n 0, 1) := by decide +kernel
theorem dX6_distance_2 : decode cX6_distance 2 = .ok (.iload_n 1, 1) := by decide +kernel
theorem dX6_distance_3 : decode cX6_distance 3 = .ok (.invokevirtual 215, 3) := by decide +kernel
theorem dX6_distance_6 : decode cX6_distance 6 = .ok (.ifCond .eq 20, 3) := by decide +kernel
theorem dX6_distance_9 : decode cX6_distance 9 = .ok (.aload_n 0, 1) := by decide +kernel
theorem dX6_distance_10 : decode cX6_distance 10 = .ok (.iload_n 2, 1) := by decide +kernel
theorem dX6_distance_11 : decode cX6_distance 11 = .ok (.invokevirtual 215, 3) := by decide +kernel
theorem dX6_distance_14 : decode cX6_distance 14 = .ok (.ifCond .eq 12, 3) := by decide +kernel
theorem dX6_distance_17 : decode cX6_distance 17 = .ok (.iload_n 3, 1) := by decide +kernel
theorem dX6_distance_18 : decode cX6_distance 18 = .ok (.ifCond .lt 8, 3) := by decide +kernel
theorem dX6_distance_21 : decode cX6_distance 21 = .ok (.iload_n 3, 1) := by decide +kernel
theorem dX6_distance_22 : decode cX6_distance 22 = .ok (.iconst 1, 1) := by decide +kernel
theorem dX6_distance_23 : decode cX6_distance 23 = .ok (.if_icmp .le 7, 3) := by decide +kernel
theorem dX6_distance_26 : decode cX6_distance 26 = .ok (.iconst 1, 1) := by decide +kernel
theorem dX6_distance_27 : decode cX6_distance 27 = .ok (.goto 4, 3) := by decide +kernel
theorem dX6_distance_30 : decode cX6_distance 30 = .ok (.iconst 0, 1) := by decide +kernel
theorem dX6_distance_31 : decode cX6_distance 31 = .ok (.putfield 75, 3) := by decide +kernel
theorem dX6_distance_34 : decode cX6_distance 34 = .ok (.aload_n 0, 1) := by decide +kernel
theorem dX6_distance_35 : decode cX6_distance 35 = .ok (.getfield 75, 3) := by decide +kernel
theorem dX6_distance_38 : decode cX6_distance 38 = .ok (.ifCond .le 5, 3) := by decide +kernel
theorem dX6_distance_41 : decode cX6_distance 41 = .ok (.lconst 0, 1) := by decide +kernel
theorem dX6_distance_42 : decode cX6_distance 42 = .ok (.lreturn, 1) := by decide +kernel
theorem dX6_distance_43 : decode cX6_distance 43 = .ok (.aload_n 0, 1) := by decide +kernel
theorem dX6_distance_44 : decode cX6_distance 44 = .ok (.iload_n 1, 1) := by decide +kernel
theorem dX6_distance_45 : decode cX6_distance 45 = .ok (.iload_n 2, 1) := by decide +kernel
theorem dX6_distance_46 : decode cX6_distance 46 = .ok (.invokevirtual 225, 3) := by decide +kernel
theorem dX6_distance_49 : decode cX6_distance 49 = .ok (.ifCond .eq 6, 3) := by decide +kernel
theorem dX6_distance_52 : decode cX6_distance 52 = .ok (.iload_n 3, 1) := by decide +kernel
theorem dX6_distance_53 : decode cX6_distance 53 = .ok (.i2l, 1) := by decide +kernel
theorem dX6_distance_54 : decode cX6_distance 54 = .ok (.lreturn, 1) := by decide +kernel
theorem dX6_distance_55 : decode cX6_distance 55 = .ok (.aload_n 0, 1) := by decide +kernel
theorem dX6_distance_56 : decode cX6_distance 56 = .ok (.getfield 59, 3) := by decide +kernel
theorem dX6_distance_59 : decode cX6_distance 59 = .ok (.iload_n 1, 1) := by decide +kernel
theorem dX6_distance_60 : decode cX6_distance 60 = .ok (.laload, 1) := by decide +kernel
theorem dX6_distance_61 : decode cX6_distance 61 = .ok (.aload_n 0, 1) := by decide +kernel
theorem dX6_distance_62 : decode cX6_distance 62 = .ok (.getfield 59, 3) := by decide +kernel
theorem dX6_distance_65 : decode cX6_distance 65 = .ok (.iload_n 1, 1) := by decide +kernel
theorem dX6_distance_66 : decode cX6_distance 66 = .ok (.laload, 1) := by decide +kernel
theorem dX6_distance_67 : decode cX6_distance 67 = .ok (.aload_n 0, 1) := by decide +kernel
theorem dX6_distance_68 : decode cX6_distance 68 = .ok (.getfield 59, 3) := by decide +kernel
theorem dX6_distance_71 : decode cX6_distance 71 = .ok (.iload_n 2, 1) := by decide +kernel
theorem dX6_distance_72 : decode cX6_distance 72 = .ok (.laload, 1) := by decide +kernel
theorem dX6_distance_73 : decode cX6_distance 73 = .ok (.invokestatic 172, 3) := by decide +kernel
theorem dX6_distance_76 : decode cX6_distance 76 = .ok (.ldiv, 1) := by decide +kernel
theorem dX6_distance_77 : decode cX6_distance 77 = .ok (.aload_n 0, 1) := by decide +kernel
theorem dX6_distance_78 : decode cX6_distance 78 = .ok (.getfield 59, 3) := by decide +kernel
theorem dX6_distance_81 : decode cX6_distance 81 = .ok (.iload_n 2, 1) := by decide +kernel
theorem dX6_distance_82 : decode cX6_distance 82 = .ok (.laload, 1) := by decide +kernel
theorem dX6_distance_83 : decode cX6_distance 83 = .ok (.lmul, 1) := by decide +kernel
theorem dX6_distance_84 : decode cX6_distance 84 = .ok (.lstore 4, 2) := by decide +kernel
theorem dX6_distance_86 : decode cX6_distance 86 = .ok (.aload_n 0, 1) := by decide +kernel
theorem dX6_distance_87 : decode cX6_distance 87 = .ok (.getfield 50, 3) := by decide +kernel
theorem dX6_distance_90 : decode cX6_distance 90 = .ok (.iload_n 1, 1) := by decide +kernel
theorem dX6_distance_91 : decode cX6_distance 91 = .ok (.laload, 1) := by decide +kernel
theorem dX6_distance_92 : decode cX6_distance 92 = .ok (.lload 4, 2) := by decide +kernel
theorem dX6_distance_94 : decode cX6_distance 94 = .ok (.aload_n 0, 1) := by decide +kernel
theorem dX6_distance_95 : decode cX6_distance 95 = .ok (.getfield 59, 3) := by decide +kernel
theorem dX6_distance_98 : decode cX6_distance 98 = .ok (.iload_n 1, 1) := by decide +kernel
theorem dX6_distance_99 : decode cX6_distance 99 = .ok (.laload, 1) := by decide +kernel
theorem dX6_distance_100 : decode cX6_distance 100 = .ok (.ldiv, 1) := by decide +kernel
theorem dX6_distance_101 : decode cX6_distance 101 = .ok (.lmul, 1) := by decide +kernel
theorem dX6_distance_102 : decode cX6_distance 102 = .ok (.aload_n 0, 1) := by decide +kernel
theorem dX6_distance_103 : decode cX6_distance 103 = .ok (.getfield 50, 3) := by decide +kernel
theorem dX6_distance_106 : decode cX6_distance 106 = .ok (.iload_n 2, 1) := by decide +kernel
theorem dX6_distance_107 : decode cX6_distance 107 = .ok (.laload, 1) := by decide +kernel
theorem dX6_distance_108 : decode cX6_distance 108 = .ok (.lload 4, 2) := by decide +kernel
theorem dX6_distance_110 : decode cX6_distance 110 = .ok (.aload_n 0, 1) := by decide +kernel
theorem dX6_distance_111 : decode cX6_distance 111 = .ok (.getfield 59, 3) := by decide +kernel
theorem dX6_distance_114 : decode cX6_distance 114 = .ok (.iload_n 2, 1) := by decide +kernel
theorem dX6_distance_115 : decode cX6_distance 115 = .ok (.laload, 1) := by decide +kernel
theorem dX6_distance_116 : decode cX6_distance 116 = .ok (.ldiv, 1) := by decide +kernel
theorem dX6_distance_117 : decode cX6_distance 117 = .ok (.lmul, 1) := by decide +kernel
theorem dX6_distance_118 : decode cX6_distance 118 = .ok (.invokestatic 172, 3) := by decide +kernel
theorem dX6_distance_121 : decode cX6_distance 121 = .ok (.lstore 6, 2) := by decide +kernel
theorem dX6_distance_123 : decode cX6_distance 123 = .ok (.aload_n 0, 1) := by decide +kernel
theorem dX6_distance_124 : decode cX6_distance 124 = .ok (.getfield 53, 3) := by decide +kernel
theorem dX6_distance_127 : decode cX6_distance 127 = .ok (.iload_n 2, 1) := by decide +kernel
theorem dX6_distance_128 : decode cX6_distance 128 = .ok (.laload, 1) := by decide +kernel
theorem dX6_distance_129 : decode cX6_distance 129 = .ok (.lload 4, 2) := by decide +kernel
theorem dX6_distance_131 : decode cX6_distance 131 = .ok (.aload_n 0, 1) := by decide +kernel
theorem dX6_distance_132 : decode cX6_distance 132 = .ok (.getfield 59, 3) := by decide +kernel
theorem dX6_distance_135 : decode cX6_distance 135 = .ok (.iload_n 2, 1) := by decide +kernel
theorem dX6_distance_136 : decode cX6_distance 136 = .ok (.laload, 1) := by decide +kernel
theorem dX6_distance_137 : decode cX6_distance 137 = .ok (.ldiv, 1) := by decide +kernel
theorem dX6_distance_138 : decode cX6_distance 138 = .ok (.lmul, 1) := by decide +kernel
theorem dX6_distance_139 : decode cX6_distance 139 = .ok (.aload_n 0, 1) := by decide +kernel
theorem dX6_distance_140 : decode cX6_distance 140 = .ok (.getfield 53, 3) := by decide +kernel
theorem dX6_distance_143 : decode cX6_distance 143 = .ok (.iload_n 1, 1) := by decide +kernel
theorem dX6_distance_144 : decode cX6_distance 144 = .ok (.laload, 1) := by decide +kernel
theorem dX6_distance_145 : decode cX6_distance 145 = .ok (.lload 4, 2) := by decide +kernel
theorem dX6_distance_147 : decode cX6_distance 147 = .ok (.aload_n 0, 1) := by decide +kernel
theorem dX6_distance_148 : decode cX6_distance 148 = .ok (.getfield 59, 3) := by decide +kernel
theorem dX6_distance_151 : decode cX6_distance 151 = .ok (.iload_n 1, 1) := by decide +kernel
theorem dX6_distance_152 : decode cX6_distance 152 = .ok (.laload, 1) := by decide +kernel
theorem dX6_distance_153 : decode cX6_distance 153 = .ok (.ldiv, 1) := by decide +kernel
theorem dX6_distance_154 : decode cX6_distance 154 = .ok (.lmul, 1) := by decide +kernel
theorem dX6_distance_155 : decode cX6_distance 155 = .ok (.lsub, 1) := by decide +kernel
theorem dX6_distance_156 : decode cX6_distance 156 = .ok (.lload 6, 2) := by decide +kernel
theorem dX6_distance_158 : decode cX6_distance 158 = .ok (.lrem, 1) := by decide +kernel
theorem dX6_distance_159 : decode cX6_distance 159 = .ok (.lstore 8, 2) := by decide +kernel
theorem dX6_distance_161 : decode cX6_distance 161 = .ok (.lload 8, 2) := by decide +kernel
theorem dX6_distance_163 : decode cX6_distance 163 = .ok (.lconst 0, 1) := by decide +kernel
theorem dX6_distance_164 : decode cX6_distance 164 = .ok (.lcmp, 1) := by decide +kernel
theorem dX6_distance_165 : decode cX6_distance 165 = .ok (.ifCond .gt 11, 3) := by decide +kernel
theorem dX6_distance_168 : decode cX6_distance 168 = .ok (.lload 8, 2) := by decide +kernel
theorem dX6_distance_170 : decode cX6_distance 170 = .ok (.lload 6, 2) := by decide +kernel
theorem dX6_distance_172 : decode cX6_distance 172 = .ok (.ladd, 1) := by decide +kernel
theorem dX6_distance_173 : decode cX6_distance 173 = .ok (.goto 5, 3) := by decide +kernel
theorem dX6_distance_176 : decode cX6_distance 176 = .ok (.lload 8, 2) := by decide +kernel
theorem dX6_distance_178 : decode cX6_distance 178 = .ok (.lstore 8, 2) := by decide +kernel
theorem dX6_distance_180 : decode cX6_distance 180 = .ok (.lload 8, 2) := by decide +kernel
theorem dX6_distance_182 : decode cX6_distance 182 = .ok (.lload 4, 2) := by decide +kernel
theorem dX6_distance_184 : decode cX6_distance 184 = .ok (.iload_n 3, 1) := by decide +kernel
theorem dX6_distance_185 : decode cX6_distance 185 = .ok (.invokestatic 221, 3) := by decide +kernel
theorem dX6_distance_188 : decode cX6_distance 188 = .ok (.lreturn, 1) := by decide +kernel
theorem dX6_fits_0 : decode cX6_fits 0 = .ok (.aload_n 0, 1) := by decide +kernel
theorem dX6_fits_1 : decode cX6_fits 1 = .ok (.getfield 41, 3) := by decide +kernel
theorem dX6_fits_4 : decode cX6_fits 4 = .ok (.iconst 3, 1) := by decide +kernel
theorem dX6_fits_5 : decode cX6_fits 5 = .ok (.iload_n 1, 1) := by decide +kernel
theorem dX6_fits_6 : decode cX6_fits 6 = .ok (.imul, 1) := by decide +kernel
theorem dX6_fits_7 : decode cX6_fits 7 = .ok (.iload_n 2, 1) := by decide +kernel
theorem dX6_fits_8 : decode cX6_fits 8 = .ok (.iadd, 1) := by decide +kernel
theorem dX6_fits_9 : decode cX6_fits 9 = .ok (.iaload, 1) := by decide +kernel
theorem dX6_fits_10 : decode cX6_fits 10 = .ok (.ifCond .eq 18, 3) := by decide +kernel
theorem dX6_fits_13 : decode cX6_fits 13 = .ok (.iload_n 3, 1) := by decide +kernel
theorem dX6_fits_14 : decode cX6_fits 14 = .ok (.iconst (-1), 1) := by decide +kernel
theorem dX6_fits_15 : decode cX6_fits 15 = .ok (.if_icmp .eq 17, 3) := by decide +kernel
theorem dX6_fits_18 : decode cX6_fits 18 = .ok (.aload_n 0, 1) := by decide +kernel
theorem dX6_fits_19 : decode cX6_fits 19 = .ok (.iload_n 1, 1) := by decide +kernel
theorem dX6_fits_20 : decode cX6_fits 20 = .ok (.iload_n 2, 1) := by decide +kernel
theorem dX6_fits_21 : decode cX6_fits 21 = .ok (.iload_n 3, 1) := by decide +kernel
theorem dX6_fits_22 : decode cX6_fits 22 = .ok (.invokevirtual 211, 3) := by decide +kernel
theorem dX6_fits_25 : decode cX6_fits 25 = .ok (.ifCond .eq 7, 3) := by decide +kernel
theorem dX6_fits_28 : decode cX6_fits 28 = .ok (.iconst 1, 1) := by decide +kernel
theorem dX6_fits_29 : decode cX6_fits 29 = .ok (.goto 4, 3) := by decide +kernel
theorem dX6_fits_32 : decode cX6_fits 32 = .ok (.iconst 0, 1) := by decide +kernel
theorem dX6_fits_33 : decode cX6_fits 33 = .ok (.ireturn, 1) := by decide +kernel
theorem dX6_strength_0 : decode cX6_strength 0 = .ok (.aload_n 0, 1) := by decide +kernel
theorem dX6_strength_1 : decode cX6_strength 1 = .ok (.getfield 19, 3) := by decide +kernel
theorem dX6_strength_4 : decode cX6_strength 4 = .ok (.iload_n 1, 1) := by decide +kernel
theorem dX6_strength_5 : decode cX6_strength 5 = .ok (.iaload, 1) := by decide +kernel
theorem dX6_strength_6 : decode cX6_strength 6 = .ok (.iconst 4, 1) := by decide +kernel
theorem dX6_strength_7 : decode cX6_strength 7 = .ok (.if_icmp .ne 7, 3) := by decide +kernel
theorem dX6_strength_10 : decode cX6_strength 10 = .ok (.iconst 2, 1) := by decide +kernel
theorem dX6_strength_11 : decode cX6_strength 11 = .ok (.goto 18, 3) := by decide +kernel
theorem dX6_strength_14 : decode cX6_strength 14 = .ok (.aload_n 0, 1) := by decide +kernel
theorem dX6_strength_15 : decode cX6_strength 15 = .ok (.getfield 19, 3) := by decide +kernel
theorem dX6_strength_18 : decode cX6_strength 18 = .ok (.iload_n 1, 1) := by decide +kernel
theorem dX6_strength_19 : decode cX6_strength 19 = .ok (.iaload, 1) := by decide +kernel
theorem dX6_strength_20 : decode cX6_strength 20 = .ok (.iconst 5, 1) := by decide +kernel
theorem dX6_strength_21 : decode cX6_strength 21 = .ok (.if_icmp .ne 7, 3) := by decide +kernel
theorem dX6_strength_24 : decode cX6_strength 24 = .ok (.iconst 0, 1) := by decide +kernel
theorem dX6_strength_25 : decode cX6_strength 25 = .ok (.goto 4, 3) := by decide +kernel
theorem dX6_strength_28 : decode cX6_strength 28 = .ok (.iconst 1, 1) := by decide +kernel
theorem dX6_strength_29 : decode cX6_strength 29 = .ok (.istore_n 2, 1) := by decide +kernel
theorem dX6_strength_30 : decode cX6_strength 30 = .ok (.bipush 8, 2) := by decide +kernel
theorem dX6_strength_32 : decode cX6_strength 32 = .ok (.iload_n 2, 1) := by decide +kernel
theorem dX6_strength_33 : decode cX6_strength 33 = .ok (.imul, 1) := by decide +kernel
theorem dX6_strength_34 : decode cX6_strength 34 = .ok (.aload_n 0, 1) := by decide +kernel
theorem dX6_strength_35 : decode cX6_strength 35 = .ok (.getfield 41, 3) := by decide +kernel
theorem dX6_strength_38 : decode cX6_strength 38 = .ok (.iconst 3, 1) := by decide +kernel
theorem dX6_strength_39 : decode cX6_strength 39 = .ok (.iload_n 1, 1) := by decide +kernel
theorem dX6_strength_40 : decode cX6_strength 40 = .ok (.imul, 1) := by decide +kernel
theorem dX6_strength_41 : decode cX6_strength 41 = .ok (.iaload, 1) := by decide +kernel
theorem dX6_strength_42 : decode cX6_strength 42 = .ok (.ifCond .le 7, 3) := by decide +kernel
theorem dX6_strength_45 : decode cX6_strength 45 = .ok (.iconst 4, 1) := by decide +kernel
theorem dX6_strength_46 : decode cX6_strength 46 = .ok (.goto 4, 3) := by decide +kernel
theorem dX6_strength_49 : decode cX6_strength 49 = .ok (.iconst 0, 1) := by decide +kernel
theorem dX6_strength_50 : decode cX6_strength 50 = .ok (.iadd, 1) := by decide +kernel
theorem dX6_strength_51 : decode cX6_strength 51 = .ok (.aload_n 0, 1) := by decide +kernel
theorem dX6_strength_52 : decode cX6_strength 52 = .ok (.getfield 41, 3) := by decide +kernel
theorem dX6_strength_55 : decode cX6_strength 55 = .ok (.iconst 3, 1) := by decide +kernel
theorem dX6_strength_56 : decode cX6_strength 56 = .ok (.iload_n 1, 1) := by decide +kernel
theorem dX6_strength_57 : decode cX6_strength 57 = .ok (.imul, 1) := by decide +kernel
theorem dX6_strength_58 : decode cX6_strength 58 = .ok (.iconst 2, 1) := by decide +kernel
theorem dX6_strength_59 : decode cX6_strength 59 = .ok (.iadd, 1) := by decide +kernel
theorem dX6_strength_60 : decode cX6_strength 60 = .ok (.iaload, 1) := by decide +kernel
theorem dX6_strength_61 : decode cX6_strength 61 = .ok (.ifCond .le 7, 3) := by decide +kernel
theorem dX6_strength_64 : decode cX6_strength 64 = .ok (.iconst 2, 1) := by decide +kernel
theorem dX6_strength_65 : decode cX6_strength 65 = .ok (.goto 4, 3) := by decide +kernel
theorem dX6_strength_68 : decode cX6_strength 68 = .ok (.iconst 0, 1) := by decide +kernel
theorem dX6_strength_69 : decode cX6_strength 69 = .ok (.iadd, 1) := by decide +kernel
theorem dX6_strength_70 : decode cX6_strength 70 = .ok (.aload_n 0, 1) := by decide +kernel
theorem dX6_strength_71 : decode cX6_strength 71 = .ok (.getfield 41, 3) := by decide +kernel
theorem dX6_strength_74 : decode cX6_strength 74 = .ok (.iconst 3, 1) := by decide +kernel
theorem dX6_strength_75 : decode cX6_strength 75 = .ok (.iload_n 1, 1) := by decide +kernel
theorem dX6_strength_76 : decode cX6_strength 76 = .ok (.imul, 1) := by decide +kernel
theorem dX6_strength_77 : decode cX6_strength 77 = .ok (.iconst 1, 1) := by decide +kernel
theorem dX6_strength_78 : decode cX6_strength 78 = .ok (.iadd, 1) := by decide +kernel
theorem dX6_strength_79 : decode cX6_strength 79 = .ok (.iaload, 1) := by decide +kernel
theorem dX6_strength_80 : decode cX6_strength 80 = .ok (.ifCond .le 7, 3) := by decide +kernel
theorem dX6_strength_83 : decode cX6_strength 83 = .ok (.iconst 1, 1) := by decide +kernel
theorem dX6_strength_84 : decode cX6_strength 84 = .ok (.goto 4, 3) := by decide +kernel
theorem dX6_strength_87 : decode cX6_strength 87 = .ok (.iconst 0, 1) := by decide +kernel
theorem dX6_strength_88 : decode cX6_strength 88 = .ok (.iadd, 1) := by decide +kernel
theorem dX6_strength_89 : decode cX6_strength 89 = .ok (.ireturn, 1) := by decide +kernel
theorem dX6_isPin_0 : decode cX6_isPin 0 = .ok (.iload_n 0, 1) := by decide +kernel
theorem dX6_isPin_1 : decode cX6_isPin 1 = .ok (.iconst (-1), 1) := by decide +kernel
theorem dX6_isPin_2 : decode cX6_isPin 2 = .ok (.if_icmp .lt 13, 3) := by decide +kernel
theorem dX6_isPin_5 : decode cX6_isPin 5 = .ok (.iload_n 0, 1) := by decide +kernel
theorem dX6_isPin_6 : decode cX6_isPin 6 = .ok (.bipush 40, 2) := by decide +kernel
theorem dX6_isPin_8 : decode cX6_isPin 8 = .ok (.if_icmp .ge 7, 3) := by decide +kernel
theorem dX6_isPin_11 : decode cX6_isPin 11 = .ok (.iconst 1, 1) := by decide +kernel
theorem dX6_isPin_12 : decode cX6_isPin 12 = .ok (.goto 4, 3) := by decide +kernel
theorem dX6_isPin_15 : decode cX6_isPin 15 = .ok (.iconst 0, 1) := by decide +kernel
theorem dX6_isPin_16 : decode cX6_isPin 16 = .ok (.ireturn, 1) := by decide +kernel
theorem dX6_exception_0 : decode cX6_exception 0 = .ok (.aload_n 0, 1) := by decide +kernel
theorem dX6_exception_1 : decode cX6_exception 1 = .ok (.iload_n 1, 1) := by decide +kernel
theorem dX6_exception_2 : decode cX6_exception 2 = .ok (.invokestatic 229, 3) := by decide +kernel
theorem dX6_exception_5 : decode cX6_exception 5 = .ok (.ifCond .eq 21, 3) := by decide +kernel
theorem dX6_exception_8 : decode cX6_exception 8 = .ok (.iload_n 2, 1) := by decide +kernel
theorem dX6_exception_9 : decode cX6_exception 9 = .ok (.invokestatic 229, 3) := by decide +kernel
theorem dX6_exception_12 : decode cX6_exception 12 = .ok (.ifCond .eq 14, 3) := by decide +kernel
theorem dX6_exception_15 : decode cX6_exception 15 = .ok (.iload_n 3, 1) := by decide +kernel
theorem dX6_exception_16 : decode cX6_exception 16 = .ok (.invokestatic 229, 3) := by decide +kernel
theorem dX6_exception_19 : decode cX6_exception 19 = .ok (.ifCond .eq 7, 3) := by decide +kernel
theorem dX6_exception_22 : decode cX6_exception 22 = .ok (.iconst 0, 1) := by decide +kernel
theorem dX6_exception_23 : decode cX6_exception 23 = .ok (.goto 4, 3) := by decide +kernel
theorem dX6_exception_26 : decode cX6_exception 26 = .ok (.iconst 1, 1) := by decide +kernel
theorem dX6_exception_27 : decode cX6_exception 27 = .ok (.putfield 75, 3) := by decide +kernel
theorem dX6_exception_30 : decode cX6_exception 30 = .ok (.iconst (-1), 1) := by decide +kernel
theorem dX6_exception_31 : decode cX6_exception 31 = .ok (.istore 4, 2) := by decide +kernel
theorem dX6_exception_33 : decode cX6_exception 33 = .ok (.iconst 0, 1) := by decide +kernel
theorem dX6_exception_34 : decode cX6_exception 34 = .ok (.istore 5, 2) := by decide +kernel
theorem dX6_exception_36 : decode cX6_exception 36 = .ok (.iload 5, 2) := by decide +kernel
theorem dX6_exception_38 : decode cX6_exception 38 = .ok (.aload_n 0, 1) := by decide +kernel
theorem dX6_exception_39 : decode cX6_exception 39 = .ok (.getfield 205, 3) := by decide +kernel
theorem dX6_exception_42 : decode cX6_exception 42 = .ok (.if_icmp .ge 114, 3) := by decide +kernel
theorem dX6_exception_45 : decode cX6_exception 45 = .ok (.aload_n 0, 1) := by decide +kernel
theorem dX6_exception_46 : decode cX6_exception 46 = .ok (.getfield 75, 3) := by decide +kernel
theorem dX6_exception_49 : decode cX6_exception 49 = .ok (.ifCond .ne 107, 3) := by decide +kernel
theorem dX6_exception_52 : decode cX6_exception 52 = .ok (.aload_n 0, 1) := by decide +kernel
theorem dX6_exception_53 : decode cX6_exception 53 = .ok (.getfield 19, 3) := by decide +kernel
theorem dX6_exception_56 : decode cX6_exception 56 = .ok (.iload 5, 2) := by decide +kernel
theorem dX6_exception_58 : decode cX6_exception 58 = .ok (.iaload, 1) := by decide +kernel
theorem dX6_exception_59 : decode cX6_exception 59 = .ok (.iconst 4, 1) := by decide +kernel
theorem dX6_exception_60 : decode cX6_exception 60 = .ok (.if_icmp .lt 52, 3) := by decide +kernel
theorem dX6_exception_63 : decode cX6_exception 63 = .ok (.aload_n 0, 1) := by decide +kernel
theorem dX6_exception_64 : decode cX6_exception 64 = .ok (.getfield 19, 3) := by decide +kernel
theorem dX6_exception_67 : decode cX6_exception 67 = .ok (.iload 5, 2) := by decide +kernel
theorem dX6_exception_69 : decode cX6_exception 69 = .ok (.iaload, 1) := by decide +kernel
theorem dX6_exception_70 : decode cX6_exception 70 = .ok (.bipush 7, 2) := by decide +kernel
theorem dX6_exception_72 : decode cX6_exception 72 = .ok (.if_icmp .gt 40, 3) := by decide +kernel
theorem dX6_exception_75 : decode cX6_exception 75 = .ok (.aload_n 0, 1) := by decide +kernel
theorem dX6_exception_76 : decode cX6_exception 76 = .ok (.iload 5, 2) := by decide +kernel
theorem dX6_exception_78 : decode cX6_exception 78 = .ok (.iconst 0, 1) := by decide +kernel
theorem dX6_exception_79 : decode cX6_exception 79 = .ok (.iload_n 1, 1) := by decide +kernel
theorem dX6_exception_80 : decode cX6_exception 80 = .ok (.invokevirtual 232, 3) := by decide +kernel
theorem dX6_exception_83 : decode cX6_exception 83 = .ok (.ifCond .eq 29, 3) := by decide +kernel
theorem dX6_exception_86 : decode cX6_exception 86 = .ok (.aload_n 0, 1) := by decide +kernel
theorem dX6_exception_87 : decode cX6_exception 87 = .ok (.iload 5, 2) := by decide +kernel
theorem dX6_exception_89 : decode cX6_exception 89 = .ok (.iconst 1, 1) := by decide +kernel
theorem dX6_exception_90 : decode cX6_exception 90 = .ok (.iload_n 2, 1) := by decide +kernel
theorem dX6_exception_91 : decode cX6_exception 91 = .ok (.invokevirtual 232, 3) := by decide +kernel
theorem dX6_exception_94 : decode cX6_exception 94 = .ok (.ifCond .eq 18, 3) := by decide +kernel
theorem dX6_exception_97 : decode cX6_exception 97 = .ok (.aload_n 0, 1) := by decide +kernel
theorem dX6_exception_98 : decode cX6_exception 98 = .ok (.iload 5, 2) := by decide +kernel
theorem dX6_exception_100 : decode cX6_exception 100 = .ok (.iconst 2, 1) := by decide +kernel
theorem dX6_exception_101 : decode cX6_exception 101 = .ok (.iload_n 3, 1) := by decide +kernel
theorem dX6_exception_102 : decode cX6_exception 102 = .ok (.invokevirtual 232, 3) := by decide +kernel
theorem dX6_exception_105 : decode cX6_exception 105 = .ok (.ifCond .eq 7, 3) := by decide +kernel
theorem dX6_exception_108 : decode cX6_exception 108 = .ok (.iconst 1, 1) := by decide +kernel
theorem dX6_exception_109 : decode cX6_exception 109 = .ok (.goto 4, 3) := by decide +kernel
theorem dX6_exception_112 : decode cX6_exception 112 = .ok (.iconst 0, 1) := by decide +kernel
theorem dX6_exception_113 : decode cX6_exception 113 = .ok (.istore 6, 2) := by decide +kernel
theorem dX6_exception_115 : decode cX6_exception 115 = .ok (.iload 6, 2) := by decide +kernel
theorem dX6_exception_117 : decode cX6_exception 117 = .ok (.ifCond .eq 29, 3) := by decide +kernel
theorem dX6_exception_120 : decode cX6_exception 120 = .ok (.iload 4, 2) := by decide +kernel
theorem dX6_exception_122 : decode cX6_exception 122 = .ok (.iconst (-1), 1) := by decide +kernel
theorem dX6_exception_123 : decode cX6_exception 123 = .ok (.if_icmp .eq 18, 3) := by decide +kernel
theorem dX6_exception_126 : decode cX6_exception 126 = .ok (.aload_n 0, 1) := by decide +kernel
theorem dX6_exception_127 : decode cX6_exception 127 = .ok (.iload 5, 2) := by decide +kernel
theorem dX6_exception_129 : decode cX6_exception 129 = .ok (.invokevirtual 235, 3) := by decide +kernel
theorem dX6_exception_132 : decode cX6_exception 132 = .ok (.aload_n 0, 1) := by decide +kernel
theorem dX6_exception_133 : decode cX6_exception 133 = .ok (.iload 4, 2) := by decide +kernel
theorem dX6_exception_135 : decode cX6_exception 135 = .ok (.invokevirtual 235, 3) := by decide +kernel
theorem dX6_exception_138 : decode cX6_exception 138 = .ok (.if_icmp .lt 8, 3) := by decide +kernel
theorem dX6_exception_141 : decode cX6_exception 141 = .ok (.iload 5, 2) := by decide +kernel
theorem dX6_exception_143 : decode cX6_exception 143 = .ok (.goto 5, 3) := by decide +kernel
theorem dX6_exception_146 : decode cX6_exception 146 = .ok (.iload 4, 2) := by decide +kernel
theorem dX6_exception_148 : decode cX6_exception 148 = .ok (.istore 4, 2) := by decide +kernel
theorem dX6_exception_150 : decode cX6_exception 150 = .ok (.iinc 5 1, 3) := by decide +kernel
theorem dX6_exception_153 : decode cX6_exception 153 = .ok (.goto (-117), 3) := by decide +kernel
theorem dX6_exception_156 : decode cX6_exception 156 = .ok (.iload 4, 2) := by decide +kernel
theorem dX6_exception_158 : decode cX6_exception 158 = .ok (.iconst 1, 1) := by decide +kernel
theorem dX6_exception_159 : decode cX6_exception 159 = .ok (.iadd, 1) := by decide +kernel
theorem dX6_exception_160 : decode cX6_exception 160 = .ok (.ireturn, 1) := by decide +kernel
theorem dX6_row_0 : decode cX6_row 0 = .ok (.aload_n 0, 1) := by decide +kernel
theorem dX6_row_1 : decode cX6_row 1 = .ok (.iload_n 1, 1) := by decide +kernel
theorem dX6_row_2 : decode cX6_row 2 = .ok (.iconst 1, 1) := by decide +kernel
theorem dX6_row_3 : decode cX6_row 3 = .ok (.if_icmp .lt 20, 3) := by decide +kernel
theorem dX6_row_6 : decode cX6_row 6 = .ok (.iload_n 1, 1) := by decide +kernel
theorem dX6_row_7 : decode cX6_row 7 = .ok (.aload_n 0, 1) := by decide +kernel
theorem dX6_row_8 : decode cX6_row 8 = .ok (.getfield 205, 3) := by decide +kernel
theorem dX6_row_11 : decode cX6_row 11 = .ok (.if_icmp .gt 12, 3) := by decide +kernel
theorem dX6_row_14 : decode cX6_row 14 = .ok (.iload_n 2, 1) := by decide +kernel
theorem dX6_row_15 : decode cX6_row 15 = .ok (.ifCond .lt 8, 3) := by decide +kernel
theorem dX6_row_18 : decode cX6_row 18 = .ok (.iload_n 2, 1) := by decide +kernel
theorem dX6_row_19 : decode cX6_row 19 = .ok (.iconst 1, 1) := by decide +kernel
theorem dX6_row_20 : decode cX6_row 20 = .ok (.if_icmp .le 7, 3) := by decide +kernel
theorem dX6_row_23 : decode cX6_row 23 = .ok (.iconst 1, 1) := by decide +kernel
theorem dX6_row_24 : decode cX6_row 24 = .ok (.goto 4, 3) := by decide +kernel
theorem dX6_row_27 : decode cX6_row 27 = .ok (.iconst 0, 1) := by decide +kernel
theorem dX6_row_28 : decode cX6_row 28 = .ok (.putfield 75, 3) := by decide +kernel
theorem dX6_row_31 : decode cX6_row 31 = .ok (.aload_n 0, 1) := by decide +kernel
theorem dX6_row_32 : decode cX6_row 32 = .ok (.getfield 75, 3) := by decide +kernel
theorem dX6_row_35 : decode cX6_row 35 = .ok (.ifCond .le 5, 3) := by decide +kernel
theorem dX6_row_38 : decode cX6_row 38 = .ok (.iconst 0, 1) := by decide +kernel
theorem dX6_row_39 : decode cX6_row 39 = .ok (.ireturn, 1) := by decide +kernel
theorem dX6_row_40 : decode cX6_row 40 = .ok (.aload_n 0, 1) := by decide +kernel
theorem dX6_row_41 : decode cX6_row 41 = .ok (.getfield 19, 3) := by decide +kernel
theorem dX6_row_44 : decode cX6_row 44 = .ok (.iload_n 1, 1) := by decide +kernel
theorem dX6_row_45 : decode cX6_row 45 = .ok (.iconst 1, 1) := by decide +kernel
theorem dX6_row_46 : decode cX6_row 46 = .ok (.isub, 1) := by decide +kernel
theorem dX6_row_47 : decode cX6_row 47 = .ok (.iaload, 1) := by decide +kernel
theorem dX6_row_48 : decode cX6_row 48 = .ok (.istore_n 3, 1) := by decide +kernel
theorem dX6_row_49 : decode cX6_row 49 = .ok (.iload_n 2, 1) := by decide +kernel
theorem dX6_row_50 : decode cX6_row 50 = .ok (.ifCond .ne 7, 3) := by decide +kernel
theorem dX6_row_53 : decode cX6_row 53 = .ok (.iload_n 3, 1) := by decide +kernel
theorem dX6_row_54 : decode cX6_row 54 = .ok (.goto 20, 3) := by decide +kernel
theorem dX6_row_57 : decode cX6_row 57 = .ok (.iload_n 3, 1) := by decide +kernel
theorem dX6_row_58 : decode cX6_row 58 = .ok (.iconst 5, 1) := by decide +kernel
theorem dX6_row_59 : decode cX6_row 59 = .ok (.if_icmp .lt 14, 3) := by decide +kernel
theorem dX6_row_62 : decode cX6_row 62 = .ok (.aload_n 0, 1) := by decide +kernel
theorem dX6_row_63 : decode cX6_row 63 = .ok (.getfield 29, 3) := by decide +kernel
theorem dX6_row_66 : decode cX6_row 66 = .ok (.iload_n 1, 1) := by decide +kernel
theorem dX6_row_67 : decode cX6_row 67 = .ok (.iconst 1, 1) := by decide +kernel
theorem dX6_row_68 : decode cX6_row 68 = .ok (.isub, 1) := by decide +kernel
theorem dX6_row_69 : decode cX6_row 69 = .ok (.iaload, 1) := by decide +kernel
theorem dX6_row_70 : decode cX6_row 70 = .ok (.goto 4, 3) := by decide +kernel
theorem dX6_row_73 : decode cX6_row 73 = .ok (.iconst 0, 1) := by decide +kernel
theorem dX6_row_74 : decode cX6_row 74 = .ok (.ireturn, 1) := by decide +kernel
theorem dX6_load_0 : decode cX6_load 0 = .ok (.aload_n 0, 1) := by decide +kernel
theorem dX6_load_1 : decode cX6_load 1 = .ok (.iload_n 1, 1) := by decide +kernel
theorem dX6_load_2 : decode cX6_load 2 = .ok (.ifCond .lt 18, 3) := by decide +kernel
theorem dX6_load_5 : decode cX6_load 5 = .ok (.iload_n 1, 1) := by decide +kernel
theorem dX6_load_6 : decode cX6_load 6 = .ok (.bipush 40, 2) := by decide +kernel
theorem dX6_load_8 : decode cX6_load 8 = .ok (.if_icmp .ge 12, 3) := by decide +kernel
theorem dX6_load_11 : decode cX6_load 11 = .ok (.iload_n 2, 1) := by decide +kernel
theorem dX6_load_12 : decode cX6_load 12 = .ok (.ifCond .lt 8, 3) := by decide +kernel
theorem dX6_load_15 : decode cX6_load 15 = .ok (.iload_n 2, 1) := by decide +kernel
theorem dX6_load_16 : decode cX6_load 16 = .ok (.iconst 1, 1) := by decide +kernel
theorem dX6_load_17 : decode cX6_load 17 = .ok (.if_icmp .le 7, 3) := by decide +kernel
theorem dX6_load_20 : decode cX6_load 20 = .ok (.iconst 1, 1) := by decide +kernel
theorem dX6_load_21 : decode cX6_load 21 = .ok (.goto 4, 3) := by decide +kernel
theorem dX6_load_24 : decode cX6_load 24 = .ok (.iconst 0, 1) := by decide +kernel
theorem dX6_load_25 : decode cX6_load 25 = .ok (.putfield 75, 3) := by decide +kernel
theorem dX6_load_28 : decode cX6_load 28 = .ok (.iconst (-1), 1) := by decide +kernel
theorem dX6_load_29 : decode cX6_load 29 = .ok (.istore_n 3, 1) := by decide +kernel
theorem dX6_load_30 : decode cX6_load 30 = .ok (.iconst 0, 1) := by decide +kernel
theorem dX6_load_31 : decode cX6_load 31 = .ok (.istore 4, 2) := by decide +kernel
theorem dX6_load_33 : decode cX6_load 33 = .ok (.iload 4, 2) := by decide +kernel
theorem dX6_load_35 : decode cX6_load 35 = .ok (.aload_n 0, 1) := by decide +kernel
theorem dX6_load_36 : decode cX6_load 36 = .ok (.getfield 205, 3) := by decide +kernel
theorem dX6_load_39 : decode cX6_load 39 = .ok (.if_icmp .ge 53, 3) := by decide +kernel
theorem dX6_load_42 : decode cX6_load 42 = .ok (.aload_n 0, 1) := by decide +kernel
theorem dX6_load_43 : decode cX6_load 43 = .ok (.getfield 75, 3) := by decide +kernel
theorem dX6_load_46 : decode cX6_load 46 = .ok (.ifCond .ne 46, 3) := by decide +kernel
theorem dX6_load_49 : decode cX6_load 49 = .ok (.aload_n 0, 1) := by decide +kernel
theorem dX6_load_50 : decode cX6_load 50 = .ok (.getfield 19, 3) := by decide +kernel
theorem dX6_load_53 : decode cX6_load 53 = .ok (.iload 4, 2) := by decide +kernel
theorem dX6_load_55 : decode cX6_load 55 = .ok (.iaload, 1) := by decide +kernel
theorem dX6_load_56 : decode cX6_load 56 = .ok (.bipush 8, 2) := by decide +kernel
theorem dX6_load_58 : decode cX6_load 58 = .ok (.iload_n 2, 1) := by decide +kernel
theorem dX6_load_59 : decode cX6_load 59 = .ok (.iadd, 1) := by decide +kernel
theorem dX6_load_60 : decode cX6_load 60 = .ok (.if_icmp .ne 24, 3) := by decide +kernel
theorem dX6_load_63 : decode cX6_load 63 = .ok (.aload_n 0, 1) := by decide +kernel
theorem dX6_load_64 : decode cX6_load 64 = .ok (.iload 4, 2) := by decide +kernel
theorem dX6_load_66 : decode cX6_load 66 = .ok (.iconst 0, 1) := by decide +kernel
theorem dX6_load_67 : decode cX6_load 67 = .ok (.iload_n 1, 1) := by decide +kernel
theorem dX6_load_68 : decode cX6_load 68 = .ok (.invokevirtual 211, 3) := by decide +kernel
theorem dX6_load_71 : decode cX6_load 71 = .ok (.ifCond .eq 13, 3) := by decide +kernel
theorem dX6_load_74 : decode cX6_load 74 = .ok (.aload_n 0, 1) := by decide +kernel
theorem dX6_load_75 : decode cX6_load 75 = .ok (.getfield 29, 3) := by decide +kernel
theorem dX6_load_78 : decode cX6_load 78 = .ok (.iload 4, 2) := by decide +kernel
theorem dX6_load_80 : decode cX6_load 80 = .ok (.iaload, 1) := by decide +kernel
theorem dX6_load_81 : decode cX6_load 81 = .ok (.goto 4, 3) := by decide +kernel
theorem dX6_load_84 : decode cX6_load 84 = .ok (.iload_n 3, 1) := by decide +kernel
theorem dX6_load_85 : decode cX6_load 85 = .ok (.istore_n 3, 1) := by decide +kernel
theorem dX6_load_86 : decode cX6_load 86 = .ok (.iinc 4 1, 3) := by decide +kernel
theorem dX6_load_89 : decode cX6_load 89 = .ok (.goto (-56), 3) := by decide +kernel
theorem dX6_load_92 : decode cX6_load 92 = .ok (.aload_n 0, 1) := by decide +kernel
theorem dX6_load_93 : decode cX6_load 93 = .ok (.getfield 75, 3) := by decide +kernel
theorem dX6_load_96 : decode cX6_load 96 = .ok (.ifCond .le 7, 3) := by decide +kernel
theorem dX6_load_99 : decode cX6_load 99 = .ok (.iconst 0, 1) := by decide +kernel
theorem dX6_load_100 : decode cX6_load 100 = .ok (.goto 4, 3) := by decide +kernel
theorem dX6_load_103 : decode cX6_load 103 = .ok (.iload_n 3, 1) := by decide +kernel
theorem dX6_load_104 : decode cX6_load 104 = .ok (.ireturn, 1) := by decide +kernel
theorem dX6_isUnmatched_0 : decode cX6_isUnmatched 0 = .ok (.iconst 0, 1) := by decide +kernel
theorem dX6_isUnmatched_1 : decode cX6_isUnmatched 1 = .ok (.istore_n 2, 1) := by decide +kernel
theorem dX6_isUnmatched_2 : decode cX6_isUnmatched 2 = .ok (.iconst 0, 1) := by decide +kernel
theorem dX6_isUnmatched_3 : decode cX6_isUnmatched 3 = .ok (.istore_n 3, 1) := by decide +kernel
theorem dX6_isUnmatched_4 : decode cX6_isUnmatched 4 = .ok (.iload_n 3, 1) := by decide +kernel
theorem dX6_isUnmatched_5 : decode cX6_isUnmatched 5 = .ok (.iconst 3, 1) := by decide +kernel
theorem dX6_isUnmatched_6 : decode cX6_isUnmatched 6 = .ok (.if_icmp .ge 41, 3) := by decide +kernel
theorem dX6_isUnmatched_9 : decode cX6_isUnmatched 9 = .ok (.iload_n 2, 1) := by decide +kernel
theorem dX6_isUnmatched_10 : decode cX6_isUnmatched 10 = .ok (.ifCond .ne 25, 3) := by decide +kernel
theorem dX6_isUnmatched_13 : decode cX6_isUnmatched 13 = .ok (.aload_n 0, 1) := by decide +kernel
theorem dX6_isUnmatched_14 : decode cX6_isUnmatched 14 = .ok (.getfield 41, 3) := by decide +kernel
theorem dX6_isUnmatched_17 : decode cX6_isUnmatched 17 = .ok (.iconst 3, 1) := by decide +kernel
theorem dX6_isUnmatched_18 : decode cX6_isUnmatched 18 = .ok (.iload_n 1, 1) := by decide +kernel
theorem dX6_isUnmatched_19 : decode cX6_isUnmatched 19 = .ok (.imul, 1) := by decide +kernel
theorem dX6_isUnmatched_20 : decode cX6_isUnmatched 20 = .ok (.iload_n 3, 1) := by decide +kernel
theorem dX6_isUnmatched_21 : decode cX6_isUnmatched 21 = .ok (.iadd, 1) := by decide +kernel
theorem dX6_isUnmatched_22 : decode cX6_isUnmatched 22 = .ok (.iaload, 1) := by decide +kernel
theorem dX6_isUnmatched_23 : decode cX6_isUnmatched 23 = .ok (.ifCond .le 16, 3) := by decide +kernel
theorem dX6_isUnmatched_26 : decode cX6_isUnmatched 26 = .ok (.aload_n 0, 1) := by decide +kernel
theorem dX6_isUnmatched_27 : decode cX6_isUnmatched 27 = .ok (.iload_n 1, 1) := by decide +kernel
theorem dX6_isUnmatched_28 : decode cX6_isUnmatched 28 = .ok (.iload_n 3, 1) := by decide +kernel
theorem dX6_isUnmatched_29 : decode cX6_isUnmatched 29 = .ok (.invokevirtual 218, 3) := by decide +kernel
theorem dX6_isUnmatched_32 : decode cX6_isUnmatched 32 = .ok (.ifCond .ne 7, 3) := by decide +kernel
theorem dX6_isUnmatched_35 : decode cX6_isUnmatched 35 = .ok (.iconst 1, 1) := by decide +kernel
theorem dX6_isUnmatched_36 : decode cX6_isUnmatched 36 = .ok (.goto 4, 3) := by decide +kernel
theorem dX6_isUnmatched_39 : decode cX6_isUnmatched 39 = .ok (.iconst 0, 1) := by decide +kernel
theorem dX6_isUnmatched_40 : decode cX6_isUnmatched 40 = .ok (.istore_n 2, 1) := by decide +kernel
theorem dX6_isUnmatched_41 : decode cX6_isUnmatched 41 = .ok (.iinc 3 1, 3) := by decide +kernel
theorem dX6_isUnmatched_44 : decode cX6_isUnmatched 44 = .ok (.goto (-40), 3) := by decide +kernel
theorem dX6_isUnmatched_47 : decode cX6_isUnmatched 47 = .ok (.iload_n 2, 1) := by decide +kernel
theorem dX6_isUnmatched_48 : decode cX6_isUnmatched 48 = .ok (.ireturn, 1) := by decide +kernel
theorem dX6_unmatched_0 : decode cX6_unmatched 0 = .ok (.aload_n 0, 1) := by decide +kernel
theorem dX6_unmatched_1 : decode cX6_unmatched 1 = .ok (.iload_n 1, 1) := by decide +kernel
theorem dX6_unmatched_2 : decode cX6_unmatched 2 = .ok (.ifCond .ge 7, 3) := by decide +kernel
theorem dX6_unmatched_5 : decode cX6_unmatched 5 = .ok (.iconst 1, 1) := by decide +kernel
theorem dX6_unmatched_6 : decode cX6_unmatched 6 = .ok (.goto 4, 3) := by decide +kernel
theorem dX6_unmatched_9 : decode cX6_unmatched 9 = .ok (.iconst 0, 1) := by decide +kernel
theorem dX6_unmatched_10 : decode cX6_unmatched 10 = .ok (.putfield 75, 3) := by decide +kernel
theorem dX6_unmatched_13 : decode cX6_unmatched 13 = .ok (.iload_n 1, 1) := by decide +kernel
theorem dX6_unmatched_14 : decode cX6_unmatched 14 = .ok (.istore_n 2, 1) := by decide +kernel
theorem dX6_unmatched_15 : decode cX6_unmatched 15 = .ok (.iconst 0, 1) := by decide +kernel
theorem dX6_unmatched_16 : decode cX6_unmatched 16 = .ok (.istore_n 3, 1) := by decide +kernel
theorem dX6_unmatched_17 : decode cX6_unmatched 17 = .ok (.iload_n 3, 1) := by decide +kernel
theorem dX6_unmatched_18 : decode cX6_unmatched 18 = .ok (.aload_n 0, 1) := by decide +kernel
theorem dX6_unmatched_19 : decode cX6_unmatched 19 = .ok (.getfield 205, 3) := by decide +kernel
theorem dX6_unmatched_22 : decode cX6_unmatched 22 = .ok (.if_icmp .ge 35, 3) := by decide +kernel
theorem dX6_unmatched_25 : decode cX6_unmatched 25 = .ok (.aload_n 0, 1) := by decide +kernel
theorem dX6_unmatched_26 : decode cX6_unmatched 26 = .ok (.getfield 75, 3) := by decide +kernel
theorem dX6_unmatched_29 : decode cX6_unmatched 29 = .ok (.ifCond .ne 28, 3) := by decide +kernel
theorem dX6_unmatched_32 : decode cX6_unmatched 32 = .ok (.aload_n 0, 1) := by decide +kernel
theorem dX6_unmatched_33 : decode cX6_unmatched 33 = .ok (.iload_n 3, 1) := by decide +kernel
theorem dX6_unmatched_34 : decode cX6_unmatched 34 = .ok (.invokevirtual 238, 3) := by decide +kernel
theorem dX6_unmatched_37 : decode cX6_unmatched 37 = .ok (.ifCond .eq 14, 3) := by decide +kernel
theorem dX6_unmatched_40 : decode cX6_unmatched 40 = .ok (.iload_n 2, 1) := by decide +kernel
theorem dX6_unmatched_41 : decode cX6_unmatched 41 = .ok (.ifCond .ne 7, 3) := by decide +kernel
theorem dX6_unmatched_44 : decode cX6_unmatched 44 = .ok (.iload_n 3, 1) := by decide +kernel
theorem dX6_unmatched_45 : decode cX6_unmatched 45 = .ok (.iconst 1, 1) := by decide +kernel
theorem dX6_unmatched_46 : decode cX6_unmatched 46 = .ok (.iadd, 1) := by decide +kernel
theorem dX6_unmatched_47 : decode cX6_unmatched 47 = .ok (.ireturn, 1) := by decide +kernel
theorem dX6_unmatched_48 : decode cX6_unmatched 48 = .ok (.iinc 2 (-1), 3) := by decide +kernel
theorem dX6_unmatched_51 : decode cX6_unmatched 51 = .ok (.iinc 3 1, 3) := by decide +kernel
theorem dX6_unmatched_54 : decode cX6_unmatched 54 = .ok (.goto (-37), 3) := by decide +kernel
theorem dX6_unmatched_57 : decode cX6_unmatched 57 = .ok (.aload_n 0, 1) := by decide +kernel
theorem dX6_unmatched_58 : decode cX6_unmatched 58 = .ok (.getfield 75, 3) := by decide +kernel
theorem dX6_unmatched_61 : decode cX6_unmatched 61 = .ok (.ifCond .le 7, 3) := by decide +kernel
theorem dX6_unmatched_64 : decode cX6_unmatched 64 = .ok (.iconst 0, 1) := by decide +kernel
theorem dX6_unmatched_65 : decode cX6_unmatched 65 = .ok (.goto 4, 3) := by decide +kernel
theorem dX6_unmatched_68 : decode cX6_unmatched 68 = .ok (.iconst (-1), 1) := by decide +kernel
theorem dX6_unmatched_69 : decode cX6_unmatched 69 = .ok (.ireturn, 1) := by decide +kernel
theorem dX6_areClashing_0 : decode cX6_areClashing 0 = .ok (.aload_n 0, 1) := by decide +kernel
theorem dX6_areClashing_1 : decode cX6_areClashing 1 = .ok (.getfield 19, 3) := by decide +kernel
theorem dX6_areClashing_4 : decode cX6_areClashing 4 = .ok (.iload_n 1, 1) := by decide +kernel
theorem dX6_areClashing_5 : decode cX6_areClashing 5 = .ok (.iaload, 1) := by decide +kernel
theorem dX6_areClashing_6 : decode cX6_areClashing 6 = .ok (.iconst 2, 1) := by decide +kernel
theorem dX6_areClashing_7 : decode cX6_areClashing 7 = .ok (.if_icmp .gt 13, 3) := by decide +kernel
theorem dX6_areClashing_10 : decode cX6_areClashing 10 = .ok (.aload_n 0, 1) := by decide +kernel
theorem dX6_areClashing_11 : decode cX6_areClashing 11 = .ok (.getfield 19, 3) := by decide +kernel
theorem dX6_areClashing_14 : decode cX6_areClashing 14 = .ok (.iload_n 2, 1) := by decide +kernel
theorem dX6_areClashing_15 : decode cX6_areClashing 15 = .ok (.iaload, 1) := by decide +kernel
theorem dX6_areClashing_16 : decode cX6_areClashing 16 = .ok (.iconst 2, 1) := by decide +kernel
theorem dX6_areClashing_17 : decode cX6_areClashing 17 = .ok (.if_icmp .le 44, 3) := by decide +kernel
theorem dX6_areClashing_20 : decode cX6_areClashing 20 = .ok (.aload_n 0, 1) := by decide +kernel
theorem dX6_areClashing_21 : decode cX6_areClashing 21 = .ok (.getfield 19, 3) := by decide +kernel
theorem dX6_areClashing_24 : decode cX6_areClashing 24 = .ok (.iload_n 1, 1) := by decide +kernel
theorem dX6_areClashing_25 : decode cX6_areClashing 25 = .ok (.iaload, 1) := by decide +kernel
theorem dX6_areClashing_26 : decode cX6_areClashing 26 = .ok (.bipush 8, 2) := by decide +kernel
theorem dX6_areClashing_28 : decode cX6_areClashing 28 = .ok (.if_icmp .lt 37, 3) := by decide +kernel
theorem dX6_areClashing_31 : decode cX6_areClashing 31 = .ok (.aload_n 0, 1) := by decide +kernel
theorem dX6_areClashing_32 : decode cX6_areClashing 32 = .ok (.getfield 19, 3) := by decide +kernel
theorem dX6_areClashing_35 : decode cX6_areClashing 35 = .ok (.iload_n 1, 1) := by decide +kernel
theorem dX6_areClashing_36 : decode cX6_areClashing 36 = .ok (.iaload, 1) := by decide +kernel
theorem dX6_areClashing_37 : decode cX6_areClashing 37 = .ok (.aload_n 0, 1) := by decide +kernel
theorem dX6_areClashing_38 : decode cX6_areClashing 38 = .ok (.getfield 19, 3) := by decide +kernel
theorem dX6_areClashing_41 : decode cX6_areClashing 41 = .ok (.iload_n 2, 1) := by decide +kernel
theorem dX6_areClashing_42 : decode cX6_areClashing 42 = .ok (.iaload, 1) := by decide +kernel
theorem dX6_areClashing_43 : decode cX6_areClashing 43 = .ok (.if_icmp .ne 22, 3) := by decide +kernel
theorem dX6_areClashing_46 : decode cX6_areClashing 46 = .ok (.aload_n 0, 1) := by decide +kernel
theorem dX6_areClashing_47 : decode cX6_areClashing 47 = .ok (.getfield 29, 3) := by decide +kernel
theorem dX6_areClashing_50 : decode cX6_areClashing 50 = .ok (.iload_n 1, 1) := by decide +kernel
theorem dX6_areClashing_51 : decode cX6_areClashing 51 = .ok (.iaload, 1) := by decide +kernel
theorem dX6_areClashing_52 : decode cX6_areClashing 52 = .ok (.aload_n 0, 1) := by decide +kernel
theorem dX6_areClashing_53 : decode cX6_areClashing 53 = .ok (.getfield 29, 3) := by decide +kernel
theorem dX6_areClashing_56 : decode cX6_areClashing 56 = .ok (.iload_n 2, 1) := by decide +kernel
theorem dX6_areClashing_57 : decode cX6_areClashing 57 = .ok (.iaload, 1) := by decide +kernel
theorem dX6_areClashing_58 : decode cX6_areClashing 58 = .ok (.if_icmp .eq 7, 3) := by decide +kernel
theorem dX6_areClashing_61 : decode cX6_areClashing 61 = .ok (.iconst 1, 1) := by decide +kernel
theorem dX6_areClashing_62 : decode cX6_areClashing 62 = .ok (.goto 4, 3) := by decide +kernel
theorem dX6_areClashing_65 : decode cX6_areClashing 65 = .ok (.iconst 0, 1) := by decide +kernel
theorem dX6_areClashing_66 : decode cX6_areClashing 66 = .ok (.istore_n 3, 1) := by decide +kernel
theorem dX6_areClashing_67 : decode cX6_areClashing 67 = .ok (.iconst 0, 1) := by decide +kernel
theorem dX6_areClashing_68 : decode cX6_areClashing 68 = .ok (.istore 4, 2) := by decide +kernel
theorem dX6_areClashing_70 : decode cX6_areClashing 70 = .ok (.iconst 0, 1) := by decide +kernel
theorem dX6_areClashing_71 : decode cX6_areClashing 71 = .ok (.istore 5, 2) := by decide +kernel
theorem dX6_areClashing_73 : decode cX6_areClashing 73 = .ok (.iload 5, 2) := by decide +kernel
theorem dX6_areClashing_75 : decode cX6_areClashing 75 = .ok (.bipush 40, 2) := by decide +kernel
theorem dX6_areClashing_77 : decode cX6_areClashing 77 = .ok (.if_icmp .ge 47, 3) := by decide +kernel
theorem dX6_areClashing_80 : decode cX6_areClashing 80 = .ok (.iload_n 3, 1) := by decide +kernel
theorem dX6_areClashing_81 : decode cX6_areClashing 81 = .ok (.ifCond .eq 43, 3) := by decide +kernel
theorem dX6_areClashing_84 : decode cX6_areClashing 84 = .ok (.iload 4, 2) := by decide +kernel
theorem dX6_areClashing_86 : decode cX6_areClashing 86 = .ok (.ifCond .ne 25, 3) := by decide +kernel
theorem dX6_areClashing_89 : decode cX6_areClashing 89 = .ok (.aload_n 0, 1) := by decide +kernel
theorem dX6_areClashing_90 : decode cX6_areClashing 90 = .ok (.iload_n 1, 1) := by decide +kernel
theorem dX6_areClashing_91 : decode cX6_areClashing 91 = .ok (.iconst 0, 1) := by decide +kernel
theorem dX6_areClashing_92 : decode cX6_areClashing 92 = .ok (.iload 5, 2) := by decide +kernel
theorem dX6_areClashing_94 : decode cX6_areClashing 94 = .ok (.invokevirtual 211, 3) := by decide +kernel
theorem dX6_areClashing_97 : decode cX6_areClashing 97 = .ok (.ifCond .eq 18, 3) := by decide +kernel
theorem dX6_areClashing_100 : decode cX6_areClashing 100 = .ok (.aload_n 0, 1) := by decide +kernel
theorem dX6_areClashing_101 : decode cX6_areClashing 101 = .ok (.iload_n 2, 1) := by decide +kernel
theorem dX6_areClashing_102 : decode cX6_areClashing 102 = .ok (.iconst 0, 1) := by decide +kernel
theorem dX6_areClashing_103 : decode cX6_areClashing 103 = .ok (.iload 5, 2) := by decide +kernel
theorem dX6_areClashing_105 : decode cX6_areClashing 105 = .ok (.invokevirtual 211, 3) := by decide +kernel
theorem dX6_areClashing_108 : decode cX6_areClashing 108 = .ok (.ifCond .eq 7, 3) := by decide +kernel
theorem dX6_areClashing_111 : decode cX6_areClashing 111 = .ok (.iconst 1, 1) := by decide +kernel
theorem dX6_areClashing_112 : decode cX6_areClashing 112 = .ok (.goto 4, 3) := by decide +kernel
theorem dX6_areClashing_115 : decode cX6_areClashing 115 = .ok (.iconst 0, 1) := by decide +kernel
theorem dX6_areClashing_116 : decode cX6_areClashing 116 = .ok (.istore 4, 2) := by decide +kernel
theorem dX6_areClashing_118 : decode cX6_areClashing 118 = .ok (.iinc 5 1, 3) := by decide +kernel
theorem dX6_areClashing_121 : decode cX6_areClashing 121 = .ok (.goto (-48), 3) := by decide +kernel
theorem dX6_areClashing_124 : decode cX6_areClashing 124 = .ok (.iload 4, 2) := by decide +kernel
theorem dX6_areClashing_126 : decode cX6_areClashing 126 = .ok (.ireturn, 1) := by decide +kernel
theorem dX6_clash_0 : decode cX6_clash 0 = .ok (.aload_n 0, 1) := by decide +kernel
theorem dX6_clash_1 : decode cX6_clash 1 = .ok (.iload_n 1, 1) := by decide +kernel
theorem dX6_clash_2 : decode cX6_clash 2 = .ok (.ifCond .lt 12, 3) := by decide +kernel
theorem dX6_clash_5 : decode cX6_clash 5 = .ok (.iload_n 2, 1) := by decide +kernel
theorem dX6_clash_6 : decode cX6_clash 6 = .ok (.ifCond .lt 8, 3) := by decide +kernel
theorem dX6_clash_9 : decode cX6_clash 9 = .ok (.iload_n 2, 1) := by decide +kernel
theorem dX6_clash_10 : decode cX6_clash 10 = .ok (.iconst 1, 1) := by decide +kernel
theorem dX6_clash_11 : decode cX6_clash 11 = .ok (.if_icmp .le 7, 3) := by decide +kernel
theorem dX6_clash_14 : decode cX6_clash 14 = .ok (.iconst 1, 1) := by decide +kernel
theorem dX6_clash_15 : decode cX6_clash 15 = .ok (.goto 4, 3) := by decide +kernel
theorem dX6_clash_18 : decode cX6_clash 18 = .ok (.iconst 0, 1) := by decide +kernel
theorem dX6_clash_19 : decode cX6_clash 19 = .ok (.putfield 75, 3) := by decide +kernel
theorem dX6_clash_22 : decode cX6_clash 22 = .ok (.iload_n 1, 1) := by decide +kernel
theorem dX6_clash_23 : decode cX6_clash 23 = .ok (.istore_n 3, 1) := by decide +kernel
theorem dX6_clash_24 : decode cX6_clash 24 = .ok (.iconst 0, 1) := by decide +kernel
theorem dX6_clash_25 : decode cX6_clash 25 = .ok (.istore 4, 2) := by decide +kernel
theorem dX6_clash_27 : decode cX6_clash 27 = .ok (.iload 4, 2) := by decide +kernel
theorem dX6_clash_29 : decode cX6_clash 29 = .ok (.aload_n 0, 1) := by decide +kernel
theorem dX6_clash_30 : decode cX6_clash 30 = .ok (.getfield 205, 3) := by decide +kernel
theorem dX6_clash_33 : decode cX6_clash 33 = .ok (.if_icmp .ge 71, 3) := by decide +kernel
theorem dX6_clash_36 : decode cX6_clash 36 = .ok (.aload_n 0, 1) := by decide +kernel
theorem dX6_clash_37 : decode cX6_clash 37 = .ok (.getfield 75, 3) := by decide +kernel
theorem dX6_clash_40 : decode cX6_clash 40 = .ok (.ifCond .ne 64, 3) := by decide +kernel
theorem dX6_clash_43 : decode cX6_clash 43 = .ok (.iload 4, 2) := by decide +kernel
theorem dX6_clash_45 : decode cX6_clash 45 = .ok (.iconst 1, 1) := by decide +kernel
theorem dX6_clash_46 : decode cX6_clash 46 = .ok (.iadd, 1) := by decide +kernel
theorem dX6_clash_47 : decode cX6_clash 47 = .ok (.istore 5, 2) := by decide +kernel
theorem dX6_clash_49 : decode cX6_clash 49 = .ok (.iload 5, 2) := by decide +kernel
theorem dX6_clash_51 : decode cX6_clash 51 = .ok (.aload_n 0, 1) := by decide +kernel
theorem dX6_clash_52 : decode cX6_clash 52 = .ok (.getfield 205, 3) := by decide +kernel
theorem dX6_clash_55 : decode cX6_clash 55 = .ok (.if_icmp .ge 43, 3) := by decide +kernel
theorem dX6_clash_58 : decode cX6_clash 58 = .ok (.aload_n 0, 1) := by decide +kernel
theorem dX6_clash_59 : decode cX6_clash 59 = .ok (.iload 4, 2) := by decide +kernel
theorem dX6_clash_61 : decode cX6_clash 61 = .ok (.iload 5, 2) := by decide +kernel
theorem dX6_clash_63 : decode cX6_clash 63 = .ok (.invokevirtual 241, 3) := by decide +kernel
theorem dX6_clash_66 : decode cX6_clash 66 = .ok (.ifCond .eq 26, 3) := by decide +kernel
theorem dX6_clash_69 : decode cX6_clash 69 = .ok (.iload_n 3, 1) := by decide +kernel
theorem dX6_clash_70 : decode cX6_clash 70 = .ok (.ifCond .ne 19, 3) := by decide +kernel
theorem dX6_clash_73 : decode cX6_clash 73 = .ok (.iload_n 2, 1) := by decide +kernel
theorem dX6_clash_74 : decode cX6_clash 74 = .ok (.ifCond .ne 10, 3) := by decide +kernel
theorem dX6_clash_77 : decode cX6_clash 77 = .ok (.iload 4, 2) := by decide +kernel
theorem dX6_clash_79 : decode cX6_clash 79 = .ok (.iconst 1, 1) := by decide +kernel
theorem dX6_clash_80 : decode cX6_clash 80 = .ok (.iadd, 1) := by decide +kernel
theorem dX6_clash_81 : decode cX6_clash 81 = .ok (.goto 7, 3) := by decide +kernel
theorem dX6_clash_84 : decode cX6_clash 84 = .ok (.iload 5, 2) := by decide +kernel
theorem dX6_clash_86 : decode cX6_clash 86 = .ok (.iconst 1, 1) := by decide +kernel
theorem dX6_clash_87 : decode cX6_clash 87 = .ok (.iadd, 1) := by decide +kernel
theorem dX6_clash_88 : decode cX6_clash 88 = .ok (.ireturn, 1) := by decide +kernel
theorem dX6_clash_89 : decode cX6_clash 89 = .ok (.iinc 3 (-1), 3) := by decide +kernel
theorem dX6_clash_92 : decode cX6_clash 92 = .ok (.iinc 5 1, 3) := by decide +kernel
theorem dX6_clash_95 : decode cX6_clash 95 = .ok (.goto (-46), 3) := by decide +kernel
theorem dX6_clash_98 : decode cX6_clash 98 = .ok (.iinc 4 1, 3) := by decide +kernel
theorem dX6_clash_101 : decode cX6_clash 101 = .ok (.goto (-74), 3) := by decide +kernel
theorem dX6_clash_104 : decode cX6_clash 104 = .ok (.aload_n 0, 1) := by decide +kernel
theorem dX6_clash_105 : decode cX6_clash 105 = .ok (.getfield 75, 3) := by decide +kernel
theorem dX6_clash_108 : decode cX6_clash 108 = .ok (.ifCond .le 7, 3) := by decide +kernel
theorem dX6_clash_111 : decode cX6_clash 111 = .ok (.iconst 0, 1) := by decide +kernel
theorem dX6_clash_112 : decode cX6_clash 112 = .ok (.goto 4, 3) := by decide +kernel
theorem dX6_clash_115 : decode cX6_clash 115 = .ok (.iconst (-1), 1) := by decide +kernel
theorem dX6_clash_116 : decode cX6_clash 116 = .ok (.ireturn, 1) := by decide +kernel
theorem dX6_put_0 : decode cX6_put 0 = .ok (.aload_n 0, 1) := by decide +kernel
theorem dX6_put_1 : decode cX6_put 1 = .ok (.aload_n 0, 1) := by decide +kernel
theorem dX6_put_2 : decode cX6_put 2 = .ok (.getfield 244, 3) := by decide +kernel
theorem dX6_put_5 : decode cX6_put 5 = .ok (.aload_n 0, 1) := by decide +kernel
theorem dX6_put_6 : decode cX6_put 6 = .ok (.getfield 247, 3) := by decide +kernel
theorem dX6_put_9 : decode cX6_put 9 = .ok (.if_icmp .ne 7, 3) := by decide +kernel
theorem dX6_put_12 : decode cX6_put 12 = .ok (.iload_n 1, 1) := by decide +kernel
theorem dX6_put_13 : decode cX6_put 13 = .ok (.goto 7, 3) := by decide +kernel
theorem dX6_put_16 : decode cX6_put 16 = .ok (.aload_n 0, 1) := by decide +kernel
theorem dX6_put_17 : decode cX6_put 17 = .ok (.getfield 250, 3) := by decide +kernel
theorem dX6_put_20 : decode cX6_put 20 = .ok (.putfield 250, 3) := by decide +kernel
theorem dX6_put_23 : decode cX6_put 23 = .ok (.aload_n 0, 1) := by decide +kernel
theorem dX6_put_24 : decode cX6_put 24 = .ok (.dup, 1) := by decide +kernel
theorem dX6_put_25 : decode cX6_put 25 = .ok (.getfield 244, 3) := by decide +kernel
theorem dX6_put_28 : decode cX6_put 28 = .ok (.iconst 1, 1) := by decide +kernel
theorem dX6_put_29 : decode cX6_put 29 = .ok (.iadd, 1) := by decide +kernel
theorem dX6_put_30 : decode cX6_put 30 = .ok (.putfield 244, 3) := by decide +kernel
theorem dX6_put_33 : decode cX6_put 33 = .ok (.return_, 1) := by decide +kernel
theorem dX6_putWord_0 : decode cX6_putWord 0 = .ok (.lconst 1, 1) := by decide +kernel
theorem dX6_putWord_1 : decode cX6_putWord 1 = .ok (.lstore_n 3, 1) := by decide +kernel
theorem dX6_putWord_2 : decode cX6_putWord 2 = .ok (.lload_n 1, 1) := by decide +kernel
theorem dX6_putWord_3 : decode cX6_putWord 3 = .ok (.lload_n 3, 1) := by decide +kernel
theorem dX6_putWord_4 : decode cX6_putWord 4 = .ok (.ldiv, 1) := by decide +kernel
theorem dX6_putWord_5 : decode cX6_putWord 5 = .ok (.ldc2_w 253, 3) := by decide +kernel
theorem dX6_putWord_8 : decode cX6_putWord 8 = .ok (.lcmp, 1) := by decide +kernel
theorem dX6_putWord_9 : decode cX6_putWord 9 = .ok (.ifCond .le 12, 3) := by decide +kernel
theorem dX6_putWord_12 : decode cX6_putWord 12 = .ok (.lload_n 3, 1) := by decide +kernel
theorem dX6_putWord_13 : decode cX6_putWord 13 = .ok (.ldc2_w 106, 3) := by decide +kernel
theorem dX6_putWord_16 : decode cX6_putWord 16 = .ok (.lmul, 1) := by decide +kernel
theorem dX6_putWord_17 : decode cX6_putWord 17 = .ok (.lstore_n 3, 1) := by decide +kernel
theorem dX6_putWord_18 : decode cX6_putWord 18 = .ok (.goto (-16), 3) := by decide +kernel
theorem dX6_putWord_21 : decode cX6_putWord 21 = .ok (.lload_n 3, 1) := by decide +kernel
theorem dX6_putWord_22 : decode cX6_putWord 22 = .ok (.lstore 5, 2) := by decide +kernel
theorem dX6_putWord_24 : decode cX6_putWord 24 = .ok (.lload 5, 2) := by decide +kernel
theorem dX6_putWord_26 : decode cX6_putWord 26 = .ok (.lconst 0, 1) := by decide +kernel
theorem dX6_putWord_27 : decode cX6_putWord 27 = .ok (.lcmp, 1) := by decide +kernel
theorem dX6_putWord_28 : decode cX6_putWord 28 = .ok (.ifCond .le 30, 3) := by decide +kernel
theorem dX6_putWord_31 : decode cX6_putWord 31 = .ok (.aload_n 0, 1) := by decide +kernel
theorem dX6_putWord_32 : decode cX6_putWord 32 = .ok (.lload_n 1, 1) := by decide +kernel
theorem dX6_putWord_33 : decode cX6_putWord 33 = .ok (.lload 5, 2) := by decide +kernel
theorem dX6_putWord_35 : decode cX6_putWord 35 = .ok (.ldiv, 1) := by decide +kernel
theorem dX6_putWord_36 : decode cX6_putWord 36 = .ok (.ldc2_w 106, 3) := by decide +kernel
theorem dX6_putWord_39 : decode cX6_putWord 39 = .ok (.lrem, 1) := by decide +kernel
theorem dX6_putWord_40 : decode cX6_putWord 40 = .ok (.l2i, 1) := by decide +kernel
theorem dX6_putWord_41 : decode cX6_putWord 41 = .ok (.bipush 96, 2) := by decide +kernel
theorem dX6_putWord_43 : decode cX6_putWord 43 = .ok (.iadd, 1) := by decide +kernel
theorem dX6_putWord_44 : decode cX6_putWord 44 = .ok (.invokevirtual 255, 3) := by decide +kernel
theorem dX6_putWord_47 : decode cX6_putWord 47 = .ok (.lload 5, 2) := by decide +kernel
theorem dX6_putWord_49 : decode cX6_putWord 49 = .ok (.ldc2_w 106, 3) := by decide +kernel
theorem dX6_putWord_52 : decode cX6_putWord 52 = .ok (.ldiv, 1) := by decide +kernel
theorem dX6_putWord_53 : decode cX6_putWord 53 = .ok (.lstore 5, 2) := by decide +kernel
theorem dX6_putWord_55 : decode cX6_putWord 55 = .ok (.goto (-31), 3) := by decide +kernel
theorem dX6_putWord_58 : decode cX6_putWord 58 = .ok (.return_, 1) := by decide +kernel
theorem dX6_putWhole_0 : decode cX6_putWhole 0 = .ok (.iconst 1, 1) := by decide +kernel
theorem dX6_putWhole_1 : decode cX6_putWhole 1 = .ok (.istore_n 2, 1) := by decide +kernel
theorem dX6_putWhole_2 : decode cX6_putWhole 2 = .ok (.iload_n 1, 1) := by decide +kernel
theorem dX6_putWhole_3 : decode cX6_putWhole 3 = .ok (.iload_n 2, 1) := by decide +kernel
theorem dX6_putWhole_4 : decode cX6_putWhole 4 = .ok (.idiv, 1) := by decide +kernel
theorem dX6_putWhole_5 : decode cX6_putWhole 5 = .ok (.bipush 9, 2) := by decide +kernel
theorem dX6_putWhole_7 : decode cX6_putWhole 7 = .ok (.if_icmp .le 11, 3) := by decide +kernel
theorem dX6_putWhole_10 : decode cX6_putWhole 10 = .ok (.iload_n 2, 1) := by decide +kernel
theorem dX6_putWhole_11 : decode cX6_putWhole 11 = .ok (.bipush 10, 2) := by decide +kernel
theorem dX6_putWhole_13 : decode cX6_putWhole 13 = .ok (.imul, 1) := by decide +kernel
theorem dX6_putWhole_14 : decode cX6_putWhole 14 = .ok (.istore_n 2, 1) := by decide +kernel
theorem dX6_putWhole_15 : decode cX6_putWhole 15 = .ok (.goto (-13), 3) := by decide +kernel
theorem dX6_putWhole_18 : decode cX6_putWhole 18 = .ok (.aload_n 0, 1) := by decide +kernel
theorem dX6_putWhole_19 : decode cX6_putWhole 19 = .ok (.bipush 32, 2) := by decide +kernel
theorem dX6_putWhole_21 : decode cX6_putWhole 21 = .ok (.invokevirtual 255, 3) := by decide +kernel
theorem dX6_putWhole_24 : decode cX6_putWhole 24 = .ok (.iload_n 2, 1) := by decide +kernel
theorem dX6_putWhole_25 : decode cX6_putWhole 25 = .ok (.istore_n 3, 1) := by decide +kernel
theorem dX6_putWhole_26 : decode cX6_putWhole 26 = .ok (.iload_n 3, 1) := by decide +kernel
theorem dX6_putWhole_27 : decode cX6_putWhole 27 = .ok (.ifCond .le 24, 3) := by decide +kernel
theorem dX6_putWhole_30 : decode cX6_putWhole 30 = .ok (.aload_n 0, 1) := by decide +kernel
theorem dX6_putWhole_31 : decode cX6_putWhole 31 = .ok (.bipush 48, 2) := by decide +kernel
theorem dX6_putWhole_33 : decode cX6_putWhole 33 = .ok (.iload_n 1, 1) := by decide +kernel
theorem dX6_putWhole_34 : decode cX6_putWhole 34 = .ok (.iload_n 3, 1) := by decide +kernel
theorem dX6_putWhole_35 : decode cX6_putWhole 35 = .ok (.idiv, 1) := by decide +kernel
theorem dX6_putWhole_36 : decode cX6_putWhole 36 = .ok (.bipush 10, 2) := by decide +kernel
theorem dX6_putWhole_38 : decode cX6_putWhole 38 = .ok (.irem, 1) := by decide +kernel
theorem dX6_putWhole_39 : decode cX6_putWhole 39 = .ok (.iadd, 1) := by decide +kernel
theorem dX6_putWhole_40 : decode cX6_putWhole 40 = .ok (.invokevirtual 255, 3) := by decide +kernel
theorem dX6_putWhole_43 : decode cX6_putWhole 43 = .ok (.iload_n 3, 1) := by decide +kernel
theorem dX6_putWhole_44 : decode cX6_putWhole 44 = .ok (.bipush 10, 2) := by decide +kernel
theorem dX6_putWhole_46 : decode cX6_putWhole 46 = .ok (.idiv, 1) := by decide +kernel
theorem dX6_putWhole_47 : decode cX6_putWhole 47 = .ok (.istore_n 3, 1) := by decide +kernel
theorem dX6_putWhole_48 : decode cX6_putWhole 48 = .ok (.goto (-22), 3) := by decide +kernel
theorem dX6_putWhole_51 : decode cX6_putWhole 51 = .ok (.return_, 1) := by decide +kernel
theorem dX6_putPattern_0 : decode cX6_putPattern 0 = .ok (.iconst 3, 1) := by decide +kernel
theorem dX6_putPattern_1 : decode cX6_putPattern 1 = .ok (.iload_n 1, 1) := by decide +kernel
theorem dX6_putPattern_2 : decode cX6_putPattern 2 = .ok (.imul, 1) := by decide +kernel
theorem dX6_putPattern_3 : decode cX6_putPattern 3 = .ok (.iload_n 2, 1) := by decide +kernel
theorem dX6_putPattern_4 : decode cX6_putPattern 4 = .ok (.iadd, 1) := by decide +kernel
theorem dX6_putPattern_5 : decode cX6_putPattern 5 = .ok (.istore_n 3, 1) := by decide +kernel
theorem dX6_putPattern_6 : decode cX6_putPattern 6 = .ok (.aload_n 0, 1) := by decide +kernel
theorem dX6_putPattern_7 : decode cX6_putPattern 7 = .ok (.bipush 32, 2) := by decide +kernel
theorem dX6_putPattern_9 : decode cX6_putPattern 9 = .ok (.invokevirtual 255, 3) := by decide +kernel
theorem dX6_putPattern_12 : decode cX6_putPattern 12 = .ok (.aload_n 0, 1) := by decide +kernel
theorem dX6_putPattern_13 : decode cX6_putPattern 13 = .ok (.getfield 41, 3) := by decide +kernel
theorem dX6_putPattern_16 : decode cX6_putPattern 16 = .ok (.iload_n 3, 1) := by decide +kernel
theorem dX6_putPattern_17 : decode cX6_putPattern 17 = .ok (.iaload, 1) := by decide +kernel
theorem dX6_putPattern_18 : decode cX6_putPattern 18 = .ok (.ifCond .ne 9, 3) := by decide +kernel
theorem dX6_putPattern_21 : decode cX6_putPattern 21 = .ok (.aload_n 0, 1) := by decide +kernel
theorem dX6_putPattern_22 : decode cX6_putPattern 22 = .ok (.bipush 45, 2) := by decide +kernel
theorem dX6_putPattern_24 : decode cX6_putPattern 24 = .ok (.invokevirtual 255, 3) := by decide +kernel
theorem dX6_putPattern_27 : decode cX6_putPattern 27 = .ok (.iconst 0, 1) := by decide +kernel
theorem dX6_putPattern_28 : decode cX6_putPattern 28 = .ok (.istore 4, 2) := by decide +kernel
theorem dX6_putPattern_30 : decode cX6_putPattern 30 = .ok (.iload 4, 2) := by decide +kernel
theorem dX6_putPattern_32 : decode cX6_putPattern 32 = .ok (.aload_n 0, 1) := by decide +kernel
theorem dX6_putPattern_33 : decode cX6_putPattern 33 = .ok (.getfield 41, 3) := by decide +kernel
theorem dX6_putPattern_36 : decode cX6_putPattern 36 = .ok (.iload_n 3, 1) := by decide +kernel
theorem dX6_putPattern_37 : decode cX6_putPattern 37 = .ok (.iaload, 1) := by decide +kernel
theorem dX6_putPattern_38 : decode cX6_putPattern 38 = .ok (.if_icmp .ge 25, 3) := by decide +kernel
theorem dX6_putPattern_41 : decode cX6_putPattern 41 = .ok (.aload_n 0, 1) := by decide +kernel
theorem dX6_putPattern_42 : decode cX6_putPattern 42 = .ok (.aload_n 0, 1) := by decide +kernel
theorem dX6_putPattern_43 : decode cX6_putPattern 43 = .ok (.getfield 38, 3) := by decide +kernel
theorem dX6_putPattern_46 : decode cX6_putPattern 46 = .ok (.bipush 16, 2) := by decide +kernel
theorem dX6_putPattern_48 : decode cX6_putPattern 48 = .ok (.iload_n 3, 1) := by decide +kernel
theorem dX6_putPattern_49 : decode cX6_putPattern 49 = .ok (.imul, 1) := by decide +kernel
theorem dX6_putPattern_50 : decode cX6_putPattern 50 = .ok (.iload 4, 2) := by decide +kernel
theorem dX6_putPattern_52 : decode cX6_putPattern 52 = .ok (.iadd, 1) := by decide +kernel
theorem dX6_putPattern_53 : decode cX6_putPattern 53 = .ok (.iaload, 1) := by decide +kernel
theorem dX6_putPattern_54 : decode cX6_putPattern 54 = .ok (.invokevirtual 255, 3) := by decide +kernel
theorem dX6_putPattern_57 : decode cX6_putPattern 57 = .ok (.iinc 4 1, 3) := by decide +kernel
theorem dX6_putPattern_60 : decode cX6_putPattern 60 = .ok (.goto (-30), 3) := by decide +kernel
theorem dX6_putPattern_63 : decode cX6_putPattern 63 = .ok (.return_, 1) := by decide +kernel
theorem dX6_print_0 : decode cX6_print 0 = .ok (.aload_n 0, 1) := by decide +kernel
theorem dX6_print_1 : decode cX6_print 1 = .ok (.getfield 19, 3) := by decide +kernel
theorem dX6_print_4 : decode cX6_print 4 = .ok (.iload_n 1, 1) := by decide +kernel
theorem dX6_print_5 : decode cX6_print 5 = .ok (.iaload, 1) := by decide +kernel
theorem dX6_print_6 : decode cX6_print 6 = .ok (.istore_n 2, 1) := by decide +kernel
theorem dX6_print_7 : decode cX6_print 7 = .ok (.aload_n 0, 1) := by decide +kernel
theorem dX6_print_8 : decode cX6_print 8 = .ok (.iload_n 2, 1) := by decide +kernel
theorem dX6_print_9 : decode cX6_print 9 = .ok (.invokestatic 122, 3) := by decide +kernel
theorem dX6_print_12 : decode cX6_print 12 = .ok (.invokevirtual 258, 3) := by decide +kernel
theorem dX6_print_15 : decode cX6_print 15 = .ok (.iload_n 2, 1) := by decide +kernel
theorem dX6_print_16 : decode cX6_print 16 = .ok (.iconst 3, 1) := by decide +kernel
theorem dX6_print_17 : decode cX6_print 17 = .ok (.if_icmp .gt 19, 3) := by decide +kernel
theorem dX6_print_20 : decode cX6_print 20 = .ok (.aload_n 0, 1) := by decide +kernel
theorem dX6_print_21 : decode cX6_print 21 = .ok (.bipush 32, 2) := by decide +kernel
theorem dX6_print_23 : decode cX6_print 23 = .ok (.invokevirtual 255, 3) := by decide +kernel
theorem dX6_print_26 : decode cX6_print 26 = .ok (.aload_n 0, 1) := by decide +kernel
theorem dX6_print_27 : decode cX6_print 27 = .ok (.aload_n 0, 1) := by decide +kernel
theorem dX6_print_28 : decode cX6_print 28 = .ok (.getfield 22, 3) := by decide +kernel
theorem dX6_print_31 : decode cX6_print 31 = .ok (.iload_n 1, 1) := by decide +kernel
theorem dX6_print_32 : decode cX6_print 32 = .ok (.laload, 1) := by decide +kernel
theorem dX6_print_33 : decode cX6_print 33 = .ok (.invokevirtual 258, 3) := by decide +kernel
theorem dX6_print_36 : decode cX6_print 36 = .ok (.iload_n 2, 1) := by decide +kernel
theorem dX6_print_37 : decode cX6_print 37 = .ok (.iconst 1, 1) := by decide +kernel
theorem dX6_print_38 : decode cX6_print 38 = .ok (.if_icmp .lt 24, 3) := by decide +kernel
theorem dX6_print_41 : decode cX6_print 41 = .ok (.iload_n 2, 1) := by decide +kernel
theorem dX6_print_42 : decode cX6_print 42 = .ok (.iconst 3, 1) := by decide +kernel
theorem dX6_print_43 : decode cX6_print 43 = .ok (.if_icmp .gt 19, 3) := by decide +kernel
theorem dX6_print_46 : decode cX6_print 46 = .ok (.aload_n 0, 1) := by decide +kernel
theorem dX6_print_47 : decode cX6_print 47 = .ok (.bipush 32, 2) := by decide +kernel
theorem dX6_print_49 : decode cX6_print 49 = .ok (.invokevirtual 255, 3) := by decide +kernel
theorem dX6_print_52 : decode cX6_print 52 = .ok (.aload_n 0, 1) := by decide +kernel
theorem dX6_print_53 : decode cX6_print 53 = .ok (.aload_n 0, 1) := by decide +kernel
theorem dX6_print_54 : decode cX6_print 54 = .ok (.getfield 26, 3) := by decide +kernel
theorem dX6_print_57 : decode cX6_print 57 = .ok (.iload_n 1, 1) := by decide +kernel
theorem dX6_print_58 : decode cX6_print 58 = .ok (.laload, 1) := by decide +kernel
theorem dX6_print_59 : decode cX6_print 59 = .ok (.invokevirtual 258, 3) := by decide +kernel
theorem dX6_print_62 : decode cX6_print 62 = .ok (.iload_n 2, 1) := by decide +kernel
theorem dX6_print_63 : decode cX6_print 63 = .ok (.iconst 3, 1) := by decide +kernel
theorem dX6_print_64 : decode cX6_print 64 = .ok (.if_icmp .eq 18, 3) := by decide +kernel
theorem dX6_print_67 : decode cX6_print 67 = .ok (.iload_n 2, 1) := by decide +kernel
theorem dX6_print_68 : decode cX6_print 68 = .ok (.iconst 4, 1) := by decide +kernel
theorem dX6_print_69 : decode cX6_print 69 = .ok (.if_icmp .eq 13, 3) := by decide +kernel
theorem dX6_print_72 : decode cX6_print 72 = .ok (.aload_n 0, 1) := by decide +kernel
theorem dX6_print_73 : decode cX6_print 73 = .ok (.aload_n 0, 1) := by decide +kernel
theorem dX6_print_74 : decode cX6_print 74 = .ok (.getfield 29, 3) := by decide +kernel
theorem dX6_print_77 : decode cX6_print 77 = .ok (.iload_n 1, 1) := by decide +kernel
theorem dX6_print_78 : decode cX6_print 78 = .ok (.iaload, 1) := by decide +kernel
theorem dX6_print_79 : decode cX6_print 79 = .ok (.invokevirtual 262, 3) := by decide +kernel
theorem dX6_print_82 : decode cX6_print 82 = .ok (.iload_n 2, 1) := by decide +kernel
theorem dX6_print_83 : decode cX6_print 83 = .ok (.iconst 2, 1) := by decide +kernel
theorem dX6_print_84 : decode cX6_print 84 = .ok (.if_icmp .gt 13, 3) := by decide +kernel
theorem dX6_print_87 : decode cX6_print 87 = .ok (.aload_n 0, 1) := by decide +kernel
theorem dX6_print_88 : decode cX6_print 88 = .ok (.aload_n 0, 1) := by decide +kernel
theorem dX6_print_89 : decode cX6_print 89 = .ok (.getfield 32, 3) := by decide +kernel
theorem dX6_print_92 : decode cX6_print 92 = .ok (.iload_n 1, 1) := by decide +kernel
theorem dX6_print_93 : decode cX6_print 93 = .ok (.iaload, 1) := by decide +kernel
theorem dX6_print_94 : decode cX6_print 94 = .ok (.invokevirtual 262, 3) := by decide +kernel
theorem dX6_print_97 : decode cX6_print 97 = .ok (.iload_n 2, 1) := by decide +kernel
theorem dX6_print_98 : decode cX6_print 98 = .ok (.ifCond .ne 13, 3) := by decide +kernel
theorem dX6_print_101 : decode cX6_print 101 = .ok (.aload_n 0, 1) := by decide +kernel
theorem dX6_print_102 : decode cX6_print 102 = .ok (.aload_n 0, 1) := by decide +kernel
theorem dX6_print_103 : decode cX6_print 103 = .ok (.getfield 35, 3) := by decide +kernel
theorem dX6_print_106 : decode cX6_print 106 = .ok (.iload_n 1, 1) := by decide +kernel
theorem dX6_print_107 : decode cX6_print 107 = .ok (.iaload, 1) := by decide +kernel
theorem dX6_print_108 : decode cX6_print 108 = .ok (.invokevirtual 262, 3) := by decide +kernel
theorem dX6_print_111 : decode cX6_print 111 = .ok (.iconst 0, 1) := by decide +kernel
theorem dX6_print_112 : decode cX6_print 112 = .ok (.istore_n 3, 1) := by decide +kernel
theorem dX6_print_113 : decode cX6_print 113 = .ok (.iload_n 3, 1) := by decide +kernel
theorem dX6_print_114 : decode cX6_print 114 = .ok (.iload_n 2, 1) := by decide +kernel
theorem dX6_print_115 : decode cX6_print 115 = .ok (.iconst 3, 1) := by decide +kernel
theorem dX6_print_116 : decode cX6_print 116 = .ok (.if_icmp .ne 7, 3) := by decide +kernel
theorem dX6_print_119 : decode cX6_print 119 = .ok (.iconst 0, 1) := by decide +kernel
theorem dX6_print_120 : decode cX6_print 120 = .ok (.goto 19, 3) := by decide +kernel
theorem dX6_print_123 : decode cX6_print 123 = .ok (.iload_n 2, 1) := by decide +kernel
theorem dX6_print_124 : decode cX6_print 124 = .ok (.iconst 4, 1) := by decide +kernel
theorem dX6_print_125 : decode cX6_print 125 = .ok (.if_icmp .lt 13, 3) := by decide +kernel
theorem dX6_print_128 : decode cX6_print 128 = .ok (.iload_n 2, 1) := by decide +kernel
theorem dX6_print_129 : decode cX6_print 129 = .ok (.bipush 7, 2) := by decide +kernel
theorem dX6_print_131 : decode cX6_print 131 = .ok (.if_icmp .gt 7, 3) := by decide +kernel
theorem dX6_print_134 : decode cX6_print 134 = .ok (.iconst 3, 1) := by decide +kernel
theorem dX6_print_135 : decode cX6_print 135 = .ok (.goto 4, 3) := by decide +kernel
theorem dX6_print_138 : decode cX6_print 138 = .ok (.iconst 1, 1) := by decide +kernel
theorem dX6_print_139 : decode cX6_print 139 = .ok (.if_icmp .ge 15, 3) := by decide +kernel
theorem dX6_print_142 : decode cX6_print 142 = .ok (.aload_n 0, 1) := by decide +kernel
theorem dX6_print_143 : decode cX6_print 143 = .ok (.iload_n 1, 1) := by decide +kernel
theorem dX6_print_144 : decode cX6_print 144 = .ok (.iload_n 3, 1) := by decide +kernel
theorem dX6_print_145 : decode cX6_print 145 = .ok (.invokevirtual 265, 3) := by decide +kernel
theorem dX6_print_148 : decode cX6_print 148 = .ok (.iinc 3 1, 3) := by decide +kernel
theorem dX6_print_151 : decode cX6_print 151 = .ok (.goto (-38), 3) := by decide +kernel
theorem dX6_print_154 : decode cX6_print 154 = .ok (.aload_n 0, 1) := by decide +kernel
theorem dX6_print_155 : decode cX6_print 155 = .ok (.bipush 59, 2) := by decide +kernel
theorem dX6_print_157 : decode cX6_print 157 = .ok (.invokevirtual 255, 3) := by decide +kernel
theorem dX6_print_160 : decode cX6_print 160 = .ok (.aload_n 0, 1) := by decide +kernel
theorem dX6_print_161 : decode cX6_print 161 = .ok (.bipush 10, 2) := by decide +kernel
theorem dX6_print_163 : decode cX6_print 163 = .ok (.invokevirtual 255, 3) := by decide +kernel
theorem dX6_print_166 : decode cX6_print 166 = .ok (.return_, 1) := by decide +kernel
theorem dX6_printAll_0 : decode cX6_printAll 0 = .ok (.aload_n 0, 1) := by decide +kernel
theorem dX6_printAll_1 : decode cX6_printAll 1 = .ok (.iload_n 1, 1) := by decide +kernel
theorem dX6_printAll_2 : decode cX6_printAll 2 = .ok (.putfield 247, 3) := by decide +kernel
theorem dX6_printAll_5 : decode cX6_printAll 5 = .ok (.aload_n 0, 1) := by decide +kernel
theorem dX6_printAll_6 : decode cX6_printAll 6 = .ok (.iconst 0, 1) := by decide +kernel
theorem dX6_printAll_7 : decode cX6_printAll 7 = .ok (.putfield 244, 3) := by decide +kernel
theorem dX6_printAll_10 : decode cX6_printAll 10 = .ok (.aload_n 0, 1) := by decide +kernel
theorem dX6_printAll_11 : decode cX6_printAll 11 = .ok (.iconst (-1), 1) := by decide +kernel
theorem dX6_printAll_12 : decode cX6_printAll 12 = .ok (.putfield 250, 3) := by decide +kernel
theorem dX6_printAll_15 : decode cX6_printAll 15 = .ok (.iconst 0, 1) := by decide +kernel
theorem dX6_printAll_16 : decode cX6_printAll 16 = .ok (.istore_n 2, 1) := by decide +kernel
theorem dX6_printAll_17 : decode cX6_printAll 17 = .ok (.iload_n 2, 1) := by decide +kernel
theorem dX6_printAll_18 : decode cX6_printAll 18 = .ok (.aload_n 0, 1) := by decide +kernel
theorem dX6_printAll_19 : decode cX6_printAll 19 = .ok (.getfield 205, 3) := by decide +kernel
theorem dX6_printAll_22 : decode cX6_printAll 22 = .ok (.if_icmp .ge 14, 3) := by decide +kernel
theorem dX6_printAll_25 : decode cX6_printAll 25 = .ok (.aload_n 0, 1) := by decide +kernel
theorem dX6_printAll_26 : decode cX6_printAll 26 = .ok (.iload_n 2, 1) := by decide +kernel
theorem dX6_printAll_27 : decode cX6_printAll 27 = .ok (.invokevirtual 269, 3) := by decide +kernel
theorem dX6_printAll_30 : decode cX6_printAll 30 = .ok (.iinc 2 1, 3) := by decide +kernel
theorem dX6_printAll_33 : decode cX6_printAll 33 = .ok (.goto (-16), 3) := by decide +kernel
theorem dX6_printAll_36 : decode cX6_printAll 36 = .ok (.return_, 1) := by decide +kernel
theorem dX6_write_0 : decode cX6_write 0 = .ok (.aload_n 0, 1) := by decide +kernel
theorem dX6_write_1 : decode cX6_write 1 = .ok (.iload_n 1, 1) := by decide +kernel
theorem dX6_write_2 : decode cX6_write 2 = .ok (.ifCond .ge 7, 3) := by decide +kernel
theorem dX6_write_5 : decode cX6_write 5 = .ok (.iconst 1, 1) := by decide +kernel
theorem dX6_write_6 : decode cX6_write 6 = .ok (.goto 4, 3) := by decide +kernel
theorem dX6_write_9 : decode cX6_write 9 = .ok (.iconst 0, 1) := by decide +kernel
theorem dX6_write_10 : decode cX6_write 10 = .ok (.putfield 75, 3) := by decide +kernel
theorem dX6_write_13 : decode cX6_write 13 = .ok (.aload_n 0, 1) := by decide +kernel
theorem dX6_write_14 : decode cX6_write 14 = .ok (.getfield 75, 3) := by decide +kernel
theorem dX6_write_17 : decode cX6_write 17 = .ok (.ifCond .le 5, 3) := by decide +kernel
theorem dX6_write_20 : decode cX6_write 20 = .ok (.iconst 0, 1) := by decide +kernel
theorem dX6_write_21 : decode cX6_write 21 = .ok (.ireturn, 1) := by decide +kernel
theorem dX6_write_22 : decode cX6_write 22 = .ok (.aload_n 0, 1) := by decide +kernel
theorem dX6_write_23 : decode cX6_write 23 = .ok (.iload_n 1, 1) := by decide +kernel
theorem dX6_write_24 : decode cX6_write 24 = .ok (.invokevirtual 272, 3) := by decide +kernel
theorem dX6_write_27 : decode cX6_write 27 = .ok (.aload_n 0, 1) := by decide +kernel
theorem dX6_write_28 : decode cX6_write 28 = .ok (.getfield 250, 3) := by decide +kernel
theorem dX6_write_31 : decode cX6_write 31 = .ok (.ireturn, 1) := by decide +kernel
theorem dX6_count_0 : decode cX6_count 0 = .ok (.aload_n 0, 1) := by decide +kernel
theorem dX6_count_1 : decode cX6_count 1 = .ok (.iload_n 1, 1) := by decide +kernel
theorem dX6_count_2 : decode cX6_count 2 = .ok (.ifCond .lt 8, 3) := by decide +kernel
theorem dX6_count_5 : decode cX6_count 5 = .ok (.iload_n 1, 1) := by decide +kernel
theorem dX6_count_6 : decode cX6_count 6 = .ok (.iconst 3, 1) := by decide +kernel
theorem dX6_count_7 : decode cX6_count 7 = .ok (.if_icmp .le 7, 3) := by decide +kernel
theorem dX6_count_10 : decode cX6_count 10 = .ok (.iconst 1, 1) := by decide +kernel
theorem dX6_count_11 : decode cX6_count 11 = .ok (.goto 4, 3) := by decide +kernel
theorem dX6_count_14 : decode cX6_count 14 = .ok (.iconst 0, 1) := by decide +kernel
theorem dX6_count_15 : decode cX6_count 15 = .ok (.putfield 75, 3) := by decide +kernel
theorem dX6_count_18 : decode cX6_count 18 = .ok (.aload_n 0, 1) := by decide +kernel
theorem dX6_count_19 : decode cX6_count 19 = .ok (.getfield 75, 3) := by decide +kernel
theorem dX6_count_22 : decode cX6_count 22 = .ok (.ifCond .le 5, 3) := by decide +kernel
theorem dX6_count_25 : decode cX6_count 25 = .ok (.iconst 0, 1) := by decide +kernel
theorem dX6_count_26 : decode cX6_count 26 = .ok (.ireturn, 1) := by decide +kernel
theorem dX6_count_27 : decode cX6_count 27 = .ok (.iload_n 1, 1) := by decide +kernel
theorem dX6_count_28 : decode cX6_count 28 = .ok (.iconst 3, 1) := by decide +kernel
theorem dX6_count_29 : decode cX6_count 29 = .ok (.if_icmp .ne 13, 3) := by decide +kernel
theorem dX6_count_32 : decode cX6_count 32 = .ok (.aload_n 0, 1) := by decide +kernel
theorem dX6_count_33 : decode cX6_count 33 = .ok (.iconst (-1), 1) := by decide +kernel
theorem dX6_count_34 : decode cX6_count 34 = .ok (.invokevirtual 272, 3) := by decide +kernel
theorem dX6_count_37 : decode cX6_count 37 = .ok (.aload_n 0, 1) := by decide +kernel
theorem dX6_count_38 : decode cX6_count 38 = .ok (.getfield 244, 3) := by decide +kernel
theorem dX6_count_41 : decode cX6_count 41 = .ok (.ireturn, 1) := by decide +kernel
theorem dX6_count_42 : decode cX6_count 42 = .ok (.iload_n 1, 1) := by decide +kernel
theorem dX6_count_43 : decode cX6_count 43 = .ok (.ifCond .ne 10, 3) := by decide +kernel
theorem dX6_count_46 : decode cX6_count 46 = .ok (.aload_n 0, 1) := by decide +kernel
theorem dX6_count_47 : decode cX6_count 47 = .ok (.getfield 205, 3) := by decide +kernel
theorem dX6_count_50 : decode cX6_count 50 = .ok (.goto 19, 3) := by decide +kernel
theorem dX6_count_53 : decode cX6_count 53 = .ok (.iload_n 1, 1) := by decide +kernel
theorem dX6_count_54 : decode cX6_count 54 = .ok (.iconst 1, 1) := by decide +kernel
theorem dX6_count_55 : decode cX6_count 55 = .ok (.if_icmp .ne 10, 3) := by decide +kernel
theorem dX6_count_58 : decode cX6_count 58 = .ok (.aload_n 0, 1) := by decide +kernel
theorem dX6_count_59 : decode cX6_count 59 = .ok (.getfield 208, 3) := by decide +kernel
theorem dX6_count_62 : decode cX6_count 62 = .ok (.goto 7, 3) := by decide +kernel
theorem dX6_count_65 : decode cX6_count 65 = .ok (.aload_n 0, 1) := by decide +kernel
theorem dX6_count_66 : decode cX6_count 66 = .ok (.getfield 86, 3) := by decide +kernel
theorem dX6_count_69 : decode cX6_count 69 = .ok (.ireturn, 1) := by decide +kernel
theorem dJ13_bitCount_95d88_0 : decode cJ13_bitCount_95d88 0 = .ok (.lload_n 0, 1) := by decide +kernel
theorem dJ13_bitCount_95d88_1 : decode cJ13_bitCount_95d88 1 = .ok (.lload_n 0, 1) := by decide +kernel
theorem dJ13_bitCount_95d88_2 : decode cJ13_bitCount_95d88 2 = .ok (.iconst 1, 1) := by decide +kernel
theorem dJ13_bitCount_95d88_3 : decode cJ13_bitCount_95d88 3 = .ok (.lushr, 1) := by decide +kernel
theorem dJ13_bitCount_95d88_4 : decode cJ13_bitCount_95d88 4 = .ok (.ldc2_w 314, 3) := by decide +kernel
theorem dJ13_bitCount_95d88_7 : decode cJ13_bitCount_95d88 7 = .ok (.land, 1) := by decide +kernel
theorem dJ13_bitCount_95d88_8 : decode cJ13_bitCount_95d88 8 = .ok (.lsub, 1) := by decide +kernel
theorem dJ13_bitCount_95d88_9 : decode cJ13_bitCount_95d88 9 = .ok (.lstore_n 0, 1) := by decide +kernel
theorem dJ13_bitCount_95d88_10 : decode cJ13_bitCount_95d88 10 = .ok (.lload_n 0, 1) := by decide +kernel
theorem dJ13_bitCount_95d88_11 : decode cJ13_bitCount_95d88 11 = .ok (.ldc2_w 316, 3) := by decide +kernel
theorem dJ13_bitCount_95d88_14 : decode cJ13_bitCount_95d88 14 = .ok (.land, 1) := by decide +kernel
theorem dJ13_bitCount_95d88_15 : decode cJ13_bitCount_95d88 15 = .ok (.lload_n 0, 1) := by decide +kernel
theorem dJ13_bitCount_95d88_16 : decode cJ13_bitCount_95d88 16 = .ok (.iconst 2, 1) := by decide +kernel
theorem dJ13_bitCount_95d88_17 : decode cJ13_bitCount_95d88 17 = .ok (.lushr, 1) := by decide +kernel
theorem dJ13_bitCount_95d88_18 : decode cJ13_bitCount_95d88 18 = .ok (.ldc2_w 316, 3) := by decide +kernel
theorem dJ13_bitCount_95d88_21 : decode cJ13_bitCount_95d88 21 = .ok (.land, 1) := by decide +kernel
theorem dJ13_bitCount_95d88_22 : decode cJ13_bitCount_95d88 22 = .ok (.ladd, 1) := by decide +kernel
theorem dJ13_bitCount_95d88_23 : decode cJ13_bitCount_95d88 23 = .ok (.lstore_n 0, 1) := by decide +kernel
theorem dJ13_bitCount_95d88_24 : decode cJ13_bitCount_95d88 24 = .ok (.lload_n 0, 1) := by decide +kernel
theorem dJ13_bitCount_95d88_25 : decode cJ13_bitCount_95d88 25 = .ok (.lload_n 0, 1) := by decide +kernel
theorem dJ13_bitCount_95d88_26 : decode cJ13_bitCount_95d88 26 = .ok (.iconst 4, 1) := by decide +kernel
theorem dJ13_bitCount_95d88_27 : decode cJ13_bitCount_95d88 27 = .ok (.lushr, 1) := by decide +kernel
theorem dJ13_bitCount_95d88_28 : decode cJ13_bitCount_95d88 28 = .ok (.ladd, 1) := by decide +kernel
theorem dJ13_bitCount_95d88_29 : decode cJ13_bitCount_95d88 29 = .ok (.ldc2_w 318, 3) := by decide +kernel
theorem dJ13_bitCount_95d88_32 : decode cJ13_bitCount_95d88 32 = .ok (.land, 1) := by decide +kernel
theorem dJ13_bitCount_95d88_33 : decode cJ13_bitCount_95d88 33 = .ok (.lstore_n 0, 1) := by decide +kernel
theorem dJ13_bitCount_95d88_34 : decode cJ13_bitCount_95d88 34 = .ok (.lload_n 0, 1) := by decide +kernel
theorem dJ13_bitCount_95d88_35 : decode cJ13_bitCount_95d88 35 = .ok (.lload_n 0, 1) := by decide +kernel
theorem dJ13_bitCount_95d88_36 : decode cJ13_bitCount_95d88 36 = .ok (.bipush 8, 2) := by decide +kernel
theorem dJ13_bitCount_95d88_38 : decode cJ13_bitCount_95d88 38 = .ok (.lushr, 1) := by decide +kernel
theorem dJ13_bitCount_95d88_39 : decode cJ13_bitCount_95d88 39 = .ok (.ladd, 1) := by decide +kernel
theorem dJ13_bitCount_95d88_40 : decode cJ13_bitCount_95d88 40 = .ok (.lstore_n 0, 1) := by decide +kernel
theorem dJ13_bitCount_95d88_41 : decode cJ13_bitCount_95d88 41 = .ok (.lload_n 0, 1) := by decide +kernel
theorem dJ13_bitCount_95d88_42 : decode cJ13_bitCount_95d88 42 = .ok (.lload_n 0, 1) := by decide +kernel
theorem dJ13_bitCount_95d88_43 : decode cJ13_bitCount_95d88 43 = .ok (.bipush 16, 2) := by decide +kernel
theorem dJ13_bitCount_95d88_45 : decode cJ13_bitCount_95d88 45 = .ok (.lushr, 1) := by decide +kernel
theorem dJ13_bitCount_95d88_46 : decode cJ13_bitCount_95d88 46 = .ok (.ladd, 1) := by decide +kernel
theorem dJ13_bitCount_95d88_47 : decode cJ13_bitCount_95d88 47 = .ok (.lstore_n 0, 1) := by decide +kernel
theorem dJ13_bitCount_95d88_48 : decode cJ13_bitCount_95d88 48 = .ok (.lload_n 0, 1) := by decide +kernel
theorem dJ13_bitCount_95d88_49 : decode cJ13_bitCount_95d88 49 = .ok (.lload_n 0, 1) := by decide +kernel
theorem dJ13_bitCount_95d88_50 : decode cJ13_bitCount_95d88 50 = .ok (.bipush 32, 2) := by decide +kernel
theorem dJ13_bitCount_95d88_52 : decode cJ13_bitCount_95d88 52 = .ok (.lushr, 1) := by decide +kernel
theorem dJ13_bitCount_95d88_53 : decode cJ13_bitCount_95d88 53 = .ok (.ladd, 1) := by decide +kernel
theorem dJ13_bitCount_95d88_54 : decode cJ13_bitCount_95d88 54 = .ok (.lstore_n 0, 1) := by decide +kernel
theorem dJ13_bitCount_95d88_55 : decode cJ13_bitCount_95d88 55 = .ok (.lload_n 0, 1) := by decide +kernel
theorem dJ13_bitCount_95d88_56 : decode cJ13_bitCount_95d88 56 = .ok (.l2i, 1) := by decide +kernel
theorem dJ13_bitCount_95d88_57 : decode cJ13_bitCount_95d88 57 = .ok (.bipush 127, 2) := by decide +kernel
theorem dJ13_bitCount_95d88_59 : decode cJ13_bitCount_95d88 59 = .ok (.iand, 1) := by decide +kernel
theorem dJ13_bitCount_95d88_60 : decode cJ13_bitCount_95d88 60 = .ok (.ireturn, 1) := by decide +kernel
theorem dJ9_floorMod_f86c9_0 : decode cJ9_floorMod_f86c9 0 = .ok (.lload_n 0, 1) := by decide +kernel
theorem dJ9_floorMod_f86c9_1 : decode cJ9_floorMod_f86c9 1 = .ok (.lload_n 2, 1) := by decide +kernel
theorem dJ9_floorMod_f86c9_2 : decode cJ9_floorMod_f86c9 2 = .ok (.lrem, 1) := by decide +kernel
theorem dJ9_floorMod_f86c9_3 : decode cJ9_floorMod_f86c9 3 = .ok (.lstore 4, 2) := by decide +kernel
theorem dJ9_floorMod_f86c9_5 : decode cJ9_floorMod_f86c9 5 = .ok (.lload_n 0, 1) := by decide +kernel
theorem dJ9_floorMod_f86c9_6 : decode cJ9_floorMod_f86c9 6 = .ok (.lload_n 2, 1) := by decide +kernel
theorem dJ9_floorMod_f86c9_7 : decode cJ9_floorMod_f86c9 7 = .ok (.lxor, 1) := by decide +kernel
theorem dJ9_floorMod_f86c9_8 : decode cJ9_floorMod_f86c9 8 = .ok (.lconst 0, 1) := by decide +kernel
theorem dJ9_floorMod_f86c9_9 : decode cJ9_floorMod_f86c9 9 = .ok (.lcmp, 1) := by decide +kernel
theorem dJ9_floorMod_f86c9_10 : decode cJ9_floorMod_f86c9 10 = .ok (.ifCond .ge 15, 3) := by decide +kernel
theorem dJ9_floorMod_f86c9_13 : decode cJ9_floorMod_f86c9 13 = .ok (.lload 4, 2) := by decide +kernel
theorem dJ9_floorMod_f86c9_15 : decode cJ9_floorMod_f86c9 15 = .ok (.lconst 0, 1) := by decide +kernel
theorem dJ9_floorMod_f86c9_16 : decode cJ9_floorMod_f86c9 16 = .ok (.lcmp, 1) := by decide +kernel
theorem dJ9_floorMod_f86c9_17 : decode cJ9_floorMod_f86c9 17 = .ok (.ifCond .eq 8, 3) := by decide +kernel
theorem dJ9_floorMod_f86c9_20 : decode cJ9_floorMod_f86c9 20 = .ok (.lload 4, 2) := by decide +kernel
theorem dJ9_floorMod_f86c9_22 : decode cJ9_floorMod_f86c9 22 = .ok (.lload_n 2, 1) := by decide +kernel
theorem dJ9_floorMod_f86c9_23 : decode cJ9_floorMod_f86c9 23 = .ok (.ladd, 1) := by decide +kernel
theorem dJ9_floorMod_f86c9_24 : decode cJ9_floorMod_f86c9 24 = .ok (.lreturn, 1) := by decide +kernel
theorem dJ9_floorMod_f86c9_25 : decode cJ9_floorMod_f86c9 25 = .ok (.lload 4, 2) := by decide +kernel
theorem dJ9_floorMod_f86c9_27 : decode cJ9_floorMod_f86c9 27 = .ok (.lreturn, 1) := by decide +kernel
theorem dJ0_length_8abf5_0 : decode cJ0_length_8abf5 0 = .ok (.aload_n 0, 1) := by decide +kernel
theorem dJ0_length_8abf5_1 : decode cJ0_length_8abf5 1 = .ok (.getfield 9, 3) := by decide +kernel
theorem dJ0_length_8abf5_4 : decode cJ0_length_8abf5 4 = .ok (.arraylength, 1) := by decide +kernel
theorem dJ0_length_8abf5_5 : decode cJ0_length_8abf5 5 = .ok (.aload_n 0, 1) := by decide +kernel
theorem dJ0_length_8abf5_6 : decode cJ0_length_8abf5 6 = .ok (.invokevirtual 335, 3) := by decide +kernel
theorem dJ0_length_8abf5_9 : decode cJ0_length_8abf5 9 = .ok (.ishr, 1) := by decide +kernel
theorem dJ0_length_8abf5_10 : decode cJ0_length_8abf5 10 = .ok (.ireturn, 1) := by decide +kernel
theorem dJ0_charAt_5068e_0 : decode cJ0_charAt_5068e 0 = .ok (.aload_n 0, 1) := by decide +kernel
theorem dJ0_charAt_5068e_1 : decode cJ0_charAt_5068e 1 = .ok (.invokevirtual 492, 3) := by decide +kernel
theorem dJ0_charAt_5068e_4 : decode cJ0_charAt_5068e 4 = .ok (.ifCond .eq 12, 3) := by decide +kernel
theorem dJ0_charAt_5068e_7 : decode cJ0_charAt_5068e 7 = .ok (.aload_n 0, 1) := by decide +kernel
theorem dJ0_charAt_5068e_8 : decode cJ0_charAt_5068e 8 = .ok (.getfield 9, 3) := by decide +kernel
theorem dJ0_charAt_5068e_11 : decode cJ0_charAt_5068e 11 = .ok (.iload_n 1, 1) := by decide +kernel
theorem dJ0_charAt_5068e_12 : decode cJ0_charAt_5068e 12 = .ok (.invokestatic 495, 3) := by decide +kernel
theorem dJ0_charAt_5068e_15 : decode cJ0_charAt_5068e 15 = .ok (.ireturn, 1) := by decide +kernel
theorem dJ0_charAt_5068e_16 : decode cJ0_charAt_5068e 16 = .ok (.aload_n 0, 1) := by decide +kernel
theorem dJ0_charAt_5068e_17 : decode cJ0_charAt_5068e 17 = .ok (.getfield 9, 3) := by decide +kernel
theorem dJ0_charAt_5068e_20 : decode cJ0_charAt_5068e 20 = .ok (.iload_n 1, 1) := by decide +kernel
theorem dJ0_charAt_5068e_21 : decode cJ0_charAt_5068e 21 = .ok (.invokestatic 498, 3) := by decide +kernel
theorem dJ0_charAt_5068e_24 : decode cJ0_charAt_5068e 24 = .ok (.ireturn, 1) := by decide +kernel
theorem dJ0_coder_7d493_0 : decode cJ0_coder_7d493 0 = .ok (.getstatic 38, 3) := by decide +kernel
theorem dJ0_coder_7d493_3 : decode cJ0_coder_7d493 3 = .ok (.ifCond .eq 10, 3) := by decide +kernel
theorem dJ0_coder_7d493_6 : decode cJ0_coder_7d493 6 = .ok (.aload_n 0, 1) := by decide +kernel
theorem dJ0_coder_7d493_7 : decode cJ0_coder_7d493 7 = .ok (.getfield 15, 3) := by decide +kernel
theorem dJ0_coder_7d493_10 : decode cJ0_coder_7d493 10 = .ok (.goto 4, 3) := by decide +kernel
theorem dJ0_coder_7d493_13 : decode cJ0_coder_7d493 13 = .ok (.iconst 1, 1) := by decide +kernel
theorem dJ0_coder_7d493_14 : decode cJ0_coder_7d493 14 = .ok (.ireturn, 1) := by decide +kernel
theorem dJ0_isLatin1_aae02_0 : decode cJ0_isLatin1_aae02 0 = .ok (.getstatic 38, 3) := by decide +kernel
theorem dJ0_isLatin1_aae02_3 : decode cJ0_isLatin1_aae02 3 = .ok (.ifCond .eq 14, 3) := by decide +kernel
theorem dJ0_isLatin1_aae02_6 : decode cJ0_isLatin1_aae02 6 = .ok (.aload_n 0, 1) := by decide +kernel
theorem dJ0_isLatin1_aae02_7 : decode cJ0_isLatin1_aae02 7 = .ok (.getfield 15, 3) := by decide +kernel
theorem dJ0_isLatin1_aae02_10 : decode cJ0_isLatin1_aae02 10 = .ok (.ifCond .ne 7, 3) := by decide +kernel
theorem dJ0_isLatin1_aae02_13 : decode cJ0_isLatin1_aae02 13 = .ok (.iconst 1, 1) := by decide +kernel
theorem dJ0_isLatin1_aae02_14 : decode cJ0_isLatin1_aae02 14 = .ok (.goto 4, 3) := by decide +kernel
theorem dJ0_isLatin1_aae02_17 : decode cJ0_isLatin1_aae02 17 = .ok (.iconst 0, 1) := by decide +kernel
theorem dJ0_isLatin1_aae02_18 : decode cJ0_isLatin1_aae02 18 = .ok (.ireturn, 1) := by decide +kernel
theorem dJ0_checkIndex_df160_0 : decode cJ0_checkIndex_df160 0 = .ok (.iload_n 0, 1) := by decide +kernel
theorem dJ0_checkIndex_df160_1 : decode cJ0_checkIndex_df160 1 = .ok (.iload_n 1, 1) := by decide +kernel
theorem dJ0_checkIndex_df160_2 : decode cJ0_checkIndex_df160 2 = .ok (.getstatic 1053, 3) := by decide +kernel
theorem dJ0_checkIndex_df160_5 : decode cJ0_checkIndex_df160 5 = .ok (.invokestatic 1059, 3) := by decide +kernel
theorem dJ0_checkIndex_df160_8 : decode cJ0_checkIndex_df160 8 = .ok (.pop, 1) := by decide +kernel
theorem dJ0_checkIndex_df160_9 : decode cJ0_checkIndex_df160 9 = .ok (.return_, 1) := by decide +kernel
theorem dJ1_charAt_3b067_0 : decode cJ1_charAt_3b067 0 = .ok (.iload_n 1, 1) := by decide +kernel
theorem dJ1_charAt_3b067_1 : decode cJ1_charAt_3b067 1 = .ok (.aload_n 0, 1) := by decide +kernel
theorem dJ1_charAt_3b067_2 : decode cJ1_charAt_3b067 2 = .ok (.arraylength, 1) := by decide +kernel
theorem dJ1_charAt_3b067_3 : decode cJ1_charAt_3b067 3 = .ok (.invokestatic 9, 3) := by decide +kernel
theorem dJ1_charAt_3b067_6 : decode cJ1_charAt_3b067 6 = .ok (.aload_n 0, 1) := by decide +kernel
theorem dJ1_charAt_3b067_7 : decode cJ1_charAt_3b067 7 = .ok (.iload_n 1, 1) := by decide +kernel
theorem dJ1_charAt_3b067_8 : decode cJ1_charAt_3b067 8 = .ok (.baload, 1) := by decide +kernel
theorem dJ1_charAt_3b067_9 : decode cJ1_charAt_3b067 9 = .ok (.sipush 255, 3) := by decide +kernel
theorem dJ1_charAt_3b067_12 : decode cJ1_charAt_3b067 12 = .ok (.iand, 1) := by decide +kernel
theorem dJ1_charAt_3b067_13 : decode cJ1_charAt_3b067 13 = .ok (.i2c, 1) := by decide +kernel
theorem dJ1_charAt_3b067_14 : decode cJ1_charAt_3b067 14 = .ok (.ireturn, 1) := by decide +kernel
theorem dJ2_getChar_3b067_0 : decode cJ2_getChar_3b067 0 = .ok (.getstatic 44, 3) := by decide +kernel
theorem dJ2_getChar_3b067_3 : decode cJ2_getChar_3b067 3 = .ok (.ifCond .ne 25, 3) := by decide +kernel
theorem dJ2_getChar_3b067_6 : decode cJ2_getChar_3b067 6 = .ok (.iload_n 1, 1) := by decide +kernel
theorem dJ2_getChar_3b067_7 : decode cJ2_getChar_3b067 7 = .ok (.ifCond .lt 11, 3) := by decide +kernel
theorem dJ2_getChar_3b067_10 : decode cJ2_getChar_3b067 10 = .ok (.iload_n 1, 1) := by decide +kernel
theorem dJ2_getChar_3b067_11 : decode cJ2_getChar_3b067 11 = .ok (.aload_n 0, 1) := by decide +kernel
theorem dJ2_getChar_3b067_12 : decode cJ2_getChar_3b067 12 = .ok (.invokestatic 48, 3) := by decide +kernel
theorem dJ2_getChar_3b067_15 : decode cJ2_getChar_3b067 15 = .ok (.if_icmp .lt 13, 3) := by decide +kernel
theorem dJ2_getChar_3b067_18 : decode cJ2_getChar_3b067 18 = .ok (.new 52, 3) := by decide +kernel
theorem dJ2_getChar_3b067_21 : decode cJ2_getChar_3b067 21 = .ok (.dup, 1) := by decide +kernel
theorem dJ2_getChar_3b067_22 : decode cJ2_getChar_3b067 22 = .ok (.ldc 54, 2) := by decide +kernel
theorem dJ2_getChar_3b067_24 : decode cJ2_getChar_3b067 24 = .ok (.invokespecial 56, 3) := by decide +kernel
theorem dJ2_getChar_3b067_27 : decode cJ2_getChar_3b067 27 = .ok (.athrow, 1) := by decide +kernel
theorem dJ2_getChar_3b067_28 : decode cJ2_getChar_3b067 28 = .ok (.iload_n 1, 1) := by decide +kernel
theorem dJ2_getChar_3b067_29 : decode cJ2_getChar_3b067 29 = .ok (.iconst 1, 1) := by decide +kernel
theorem dJ2_getChar_3b067_30 : decode cJ2_getChar_3b067 30 = .ok (.ishl, 1) := by decide +kernel
theorem dJ2_getChar_3b067_31 : decode cJ2_getChar_3b067 31 = .ok (.istore_n 1, 1) := by decide +kernel
theorem dJ2_getChar_3b067_32 : decode cJ2_getChar_3b067 32 = .ok (.aload_n 0, 1) := by decide +kernel
theorem dJ2_getChar_3b067_33 : decode cJ2_getChar_3b067 33 = .ok (.iload_n 1, 1) := by decide +kernel
theorem dJ2_getChar_3b067_34 : decode cJ2_getChar_3b067 34 = .ok (.iinc 1 1, 3) := by decide +kernel
theorem dJ2_getChar_3b067_37 : decode cJ2_getChar_3b067 37 = .ok (.baload, 1) := by decide +kernel
theorem dJ2_getChar_3b067_38 : decode cJ2_getChar_3b067 38 = .ok (.sipush 255, 3) := by decide +kernel
theorem dJ2_getChar_3b067_41 : decode cJ2_getChar_3b067 41 = .ok (.iand, 1) := by decide +kernel
theorem dJ2_getChar_3b067_42 : decode cJ2_getChar_3b067 42 = .ok (.getstatic 59, 3) := by decide +kernel
theorem dJ2_getChar_3b067_45 : decode cJ2_getChar_3b067 45 = .ok (.ishl, 1) := by decide +kernel
theorem dJ2_getChar_3b067_46 : decode cJ2_getChar_3b067 46 = .ok (.aload_n 0, 1) := by decide +kernel
theorem dJ2_getChar_3b067_47 : decode cJ2_getChar_3b067 47 = .ok (.iload_n 1, 1) := by decide +kernel
theorem dJ2_getChar_3b067_48 : decode cJ2_getChar_3b067 48 = .ok (.baload, 1) := by decide +kernel
theorem dJ2_getChar_3b067_49 : decode cJ2_getChar_3b067 49 = .ok (.sipush 255, 3) := by decide +kernel
theorem dJ2_getChar_3b067_52 : decode cJ2_getChar_3b067 52 = .ok (.iand, 1) := by decide +kernel
theorem dJ2_getChar_3b067_53 : decode cJ2_getChar_3b067 53 = .ok (.getstatic 63, 3) := by decide +kernel
theorem dJ2_getChar_3b067_56 : decode cJ2_getChar_3b067 56 = .ok (.ishl, 1) := by decide +kernel
theorem dJ2_getChar_3b067_57 : decode cJ2_getChar_3b067 57 = .ok (.ior, 1) := by decide +kernel
theorem dJ2_getChar_3b067_58 : decode cJ2_getChar_3b067 58 = .ok (.i2c, 1) := by decide +kernel
theorem dJ2_getChar_3b067_59 : decode cJ2_getChar_3b067 59 = .ok (.ireturn, 1) := by decide +kernel
theorem dJ2_length_9d52b_0 : decode cJ2_length_9d52b 0 = .ok (.aload_n 0, 1) := by decide +kernel
theorem dJ2_length_9d52b_1 : decode cJ2_length_9d52b 1 = .ok (.arraylength, 1) := by decide +kernel
theorem dJ2_length_9d52b_2 : decode cJ2_length_9d52b 2 = .ok (.iconst 1, 1) := by decide +kernel
theorem dJ2_length_9d52b_3 : decode cJ2_length_9d52b 3 = .ok (.ishr, 1) := by decide +kernel
theorem dJ2_length_9d52b_4 : decode cJ2_length_9d52b 4 = .ok (.ireturn, 1) := by decide +kernel
theorem dJ2_charAt_3b067_0 : decode cJ2_charAt_3b067 0 = .ok (.iload_n 1, 1) := by decide +kernel
theorem dJ2_charAt_3b067_1 : decode cJ2_charAt_3b067 1 = .ok (.aload_n 0, 1) := by decide +kernel
theorem dJ2_charAt_3b067_2 : decode cJ2_charAt_3b067 2 = .ok (.invokestatic 67, 3) := by decide +kernel
theorem dJ2_charAt_3b067_5 : decode cJ2_charAt_3b067 5 = .ok (.aload_n 0, 1) := by decide +kernel
theorem dJ2_charAt_3b067_6 : decode cJ2_charAt_3b067 6 = .ok (.iload_n 1, 1) := by decide +kernel
theorem dJ2_charAt_3b067_7 : decode cJ2_charAt_3b067 7 = .ok (.invokestatic 71, 3) := by decide +kernel
theorem dJ2_charAt_3b067_10 : decode cJ2_charAt_3b067 10 = .ok (.ireturn, 1) := by decide +kernel
theorem dJ2_checkIndex_2214a_0 : decode cJ2_checkIndex_2214a 0 = .ok (.iload_n 0, 1) := by decide +kernel
theorem dJ2_checkIndex_2214a_1 : decode cJ2_checkIndex_2214a 1 = .ok (.aload_n 1, 1) := by decide +kernel
theorem dJ2_checkIndex_2214a_2 : decode cJ2_checkIndex_2214a 2 = .ok (.invokestatic 48, 3) := by decide +kernel
theorem dJ2_checkIndex_2214a_5 : decode cJ2_checkIndex_2214a 5 = .ok (.invokestatic 414, 3) := by decide +kernel
theorem dJ2_checkIndex_2214a_8 : decode cJ2_checkIndex_2214a 8 = .ok (.return_, 1) := by decide +kernel
theorem dJ7_fill_53178_0 : decode cJ7_fill_53178 0 = .ok (.iconst 0, 1) := by decide +kernel
theorem dJ7_fill_53178_1 : decode cJ7_fill_53178 1 = .ok (.istore_n 2, 1) := by decide +kernel
theorem dJ7_fill_53178_2 : decode cJ7_fill_53178 2 = .ok (.aload_n 0, 1) := by decide +kernel
theorem dJ7_fill_53178_3 : decode cJ7_fill_53178 3 = .ok (.arraylength, 1) := by decide +kernel
theorem dJ7_fill_53178_4 : decode cJ7_fill_53178 4 = .ok (.istore_n 3, 1) := by decide +kernel
theorem dJ7_fill_53178_5 : decode cJ7_fill_53178 5 = .ok (.iload_n 2, 1) := by decide +kernel
theorem dJ7_fill_53178_6 : decode cJ7_fill_53178 6 = .ok (.iload_n 3, 1) := by decide +kernel
theorem dJ7_fill_53178_7 : decode cJ7_fill_53178 7 = .ok (.if_icmp .ge 13, 3) := by decide +kernel
theorem dJ7_fill_53178_10 : decode cJ7_fill_53178 10 = .ok (.aload_n 0, 1) := by decide +kernel
theorem dJ7_fill_53178_11 : decode cJ7_fill_53178 11 = .ok (.iload_n 2, 1) := by decide +kernel
theorem dJ7_fill_53178_12 : decode cJ7_fill_53178 12 = .ok (.iload_n 1, 1) := by decide +kernel
theorem dJ7_fill_53178_13 : decode cJ7_fill_53178 13 = .ok (.iastore, 1) := by decide +kernel
theorem dJ7_fill_53178_14 : decode cJ7_fill_53178 14 = .ok (.iinc 2 1, 3) := by decide +kernel
theorem dJ7_fill_53178_17 : decode cJ7_fill_53178 17 = .ok (.goto (-12), 3) := by decide +kernel
theorem dJ7_fill_53178_20 : decode cJ7_fill_53178 20 = .ok (.return_, 1) := by decide +kernel
theorem dJ3_checkIndex_8e157_0 : decode cJ3_checkIndex_8e157 0 = .ok (.iload_n 0, 1) := by decide +kernel
theorem dJ3_checkIndex_8e157_1 : decode cJ3_checkIndex_8e157 1 = .ok (.ifCond .lt 8, 3) := by decide +kernel
theorem dJ3_checkIndex_8e157_4 : decode cJ3_checkIndex_8e157 4 = .ok (.iload_n 0, 1) := by decide +kernel
theorem dJ3_checkIndex_8e157_5 : decode cJ3_checkIndex_8e157 5 = .ok (.iload_n 1, 1) := by decide +kernel
theorem dJ3_checkIndex_8e157_6 : decode cJ3_checkIndex_8e157 6 = .ok (.if_icmp .lt 10, 3) := by decide +kernel
theorem dJ3_checkIndex_8e157_9 : decode cJ3_checkIndex_8e157 9 = .ok (.aload_n 2, 1) := by decide +kernel
theorem dJ3_checkIndex_8e157_10 : decode cJ3_checkIndex_8e157 10 = .ok (.iload_n 0, 1) := by decide +kernel
theorem dJ3_checkIndex_8e157_11 : decode cJ3_checkIndex_8e157 11 = .ok (.iload_n 1, 1) := by decide +kernel
theorem dJ3_checkIndex_8e157_12 : decode cJ3_checkIndex_8e157 12 = .ok (.invokestatic 95, 3) := by decide +kernel
theorem dJ3_checkIndex_8e157_15 : decode cJ3_checkIndex_8e157 15 = .ok (.athrow, 1) := by decide +kernel
theorem dJ3_checkIndex_8e157_16 : decode cJ3_checkIndex_8e157 16 = .ok (.iload_n 0, 1) := by decide +kernel
theorem dJ3_checkIndex_8e157_17 : decode cJ3_checkIndex_8e157 17 = .ok (.ireturn, 1) := by decide +kernel
theorem dL_name_0 : decode cL_name 0 = .ok (.aload_n 3, 1) := by decide +kernel
theorem dL_name_1 : decode cL_name 1 = .ok (.iconst 0, 1) := by decide +kernel
theorem dL_name_2 : decode cL_name 2 = .ok (.aload_n 0, 1) := by decide +kernel
theorem dL_name_3 : decode cL_name 3 = .ok (.iload_n 1, 1) := by decide +kernel
theorem dL_name_4 : decode cL_name 4 = .ok (.iload_n 2, 1) := by decide +kernel
theorem dL_name_5 : decode cL_name 5 = .ok (.invokevirtual 7, 3) := by decide +kernel
theorem dL_name_8 : decode cL_name 8 = .ok (.ifCond .eq 7, 3) := by decide +kernel
theorem dL_name_11 : decode cL_name 11 = .ok (.lconst 1, 1) := by decide +kernel
theorem dL_name_12 : decode cL_name 12 = .ok (.goto 4, 3) := by decide +kernel
theorem dL_name_15 : decode cL_name 15 = .ok (.lconst 0, 1) := by decide +kernel
theorem dL_name_16 : decode cL_name 16 = .ok (.lastore, 1) := by decide +kernel
theorem dL_name_17 : decode cL_name 17 = .ok (.goto 7, 3) := by decide +kernel
theorem dL_name_20 : decode cL_name 20 = .ok (.astore 4, 2) := by decide +kernel
theorem dL_name_22 : decode cL_name 22 = .ok (.iconst 1, 1) := by decide +kernel
theorem dL_name_23 : decode cL_name 23 = .ok (.ireturn, 1) := by decide +kernel
theorem dL_name_24 : decode cL_name 24 = .ok (.iconst 0, 1) := by decide +kernel
theorem dL_name_25 : decode cL_name 25 = .ok (.ireturn, 1) := by decide +kernel
theorem dL_clock_0 : decode cL_clock 0 = .ok (.aload_n 3, 1) := by decide +kernel
theorem dL_clock_1 : decode cL_clock 1 = .ok (.iconst 0, 1) := by decide +kernel
theorem dL_clock_2 : decode cL_clock 2 = .ok (.aload_n 0, 1) := by decide +kernel
theorem dL_clock_3 : decode cL_clock 3 = .ok (.iload_n 1, 1) := by decide +kernel
theorem dL_clock_4 : decode cL_clock 4 = .ok (.iload_n 2, 1) := by decide +kernel
theorem dL_clock_5 : decode cL_clock 5 = .ok (.invokevirtual 15, 3) := by decide +kernel
theorem dL_clock_8 : decode cL_clock 8 = .ok (.i2l, 1) := by decide +kernel
theorem dL_clock_9 : decode cL_clock 9 = .ok (.lastore, 1) := by decide +kernel
theorem dL_clock_10 : decode cL_clock 10 = .ok (.goto 7, 3) := by decide +kernel
theorem dL_clock_13 : decode cL_clock 13 = .ok (.astore 4, 2) := by decide +kernel
theorem dL_clock_15 : decode cL_clock 15 = .ok (.iconst 1, 1) := by decide +kernel
theorem dL_clock_16 : decode cL_clock 16 = .ok (.ireturn, 1) := by decide +kernel
theorem dL_clock_17 : decode cL_clock 17 = .ok (.iconst 0, 1) := by decide +kernel
theorem dL_clock_18 : decode cL_clock 18 = .ok (.ireturn, 1) := by decide +kernel
theorem dL_edge_0 : decode cL_edge 0 = .ok (.aload 4, 2) := by decide +kernel
theorem dL_edge_2 : decode cL_edge 2 = .ok (.iconst 0, 1) := by decide +kernel
theorem dL_edge_3 : decode cL_edge 3 = .ok (.aload_n 0, 1) := by decide +kernel
theorem dL_edge_4 : decode cL_edge 4 = .ok (.iload_n 1, 1) := by decide +kernel
theorem dL_edge_5 : decode cL_edge 5 = .ok (.iload_n 2, 1) := by decide +kernel
theorem dL_edge_6 : decode cL_edge 6 = .ok (.iload_n 3, 1) := by decide +kernel
theorem dL_edge_7 : decode cL_edge 7 = .ok (.invokevirtual 19, 3) := by decide +kernel
theorem dL_edge_10 : decode cL_edge 10 = .ok (.lastore, 1) := by decide +kernel
theorem dL_edge_11 : decode cL_edge 11 = .ok (.goto 7, 3) := by decide +kernel
theorem dL_edge_14 : decode cL_edge 14 = .ok (.astore 5, 2) := by decide +kernel
theorem dL_edge_16 : decode cL_edge 16 = .ok (.iconst 1, 1) := by decide +kernel
theorem dL_edge_17 : decode cL_edge 17 = .ok (.ireturn, 1) := by decide +kernel
theorem dL_edge_18 : decode cL_edge 18 = .ok (.iconst 0, 1) := by decide +kernel
theorem dL_edge_19 : decode cL_edge 19 = .ok (.ireturn, 1) := by decide +kernel
theorem dL_distance_0 : decode cL_distance 0 = .ok (.aload 4, 2) := by decide +kernel
theorem dL_distance_2 : decode cL_distance 2 = .ok (.iconst 0, 1) := by decide +kernel
theorem dL_distance_3 : decode cL_distance 3 = .ok (.aload_n 0, 1) := by decide +kernel
theorem dL_distance_4 : decode cL_distance 4 = .ok (.iload_n 1, 1) := by decide +kernel
theorem dL_distance_5 : decode cL_distance 5 = .ok (.iload_n 2, 1) := by decide +kernel
theorem dL_distance_6 : decode cL_distance 6 = .ok (.iload_n 3, 1) := by decide +kernel
theorem dL_distance_7 : decode cL_distance 7 = .ok (.invokevirtual 23, 3) := by decide +kernel
theorem dL_distance_10 : decode cL_distance 10 = .ok (.lastore, 1) := by decide +kernel
theorem dL_distance_11 : decode cL_distance 11 = .ok (.goto 7, 3) := by decide +kernel
theorem dL_distance_14 : decode cL_distance 14 = .ok (.astore 5, 2) := by decide +kernel
theorem dL_distance_16 : decode cL_distance 16 = .ok (.iconst 1, 1) := by decide +kernel
theorem dL_distance_17 : decode cL_distance 17 = .ok (.ireturn, 1) := by decide +kernel
theorem dL_distance_18 : decode cL_distance 18 = .ok (.iconst 0, 1) := by decide +kernel
theorem dL_distance_19 : decode cL_distance 19 = .ok (.ireturn, 1) := by decide +kernel
theorem dL_exception_0 : decode cL_exception 0 = .ok (.aload 4, 2) := by decide +kernel
theorem dL_exception_2 : decode cL_exception 2 = .ok (.iconst 0, 1) := by decide +kernel
theorem dL_exception_3 : decode cL_exception 3 = .ok (.aload_n 0, 1) := by decide +kernel
theorem dL_exception_4 : decode cL_exception 4 = .ok (.iload_n 1, 1) := by decide +kernel
theorem dL_exception_5 : decode cL_exception 5 = .ok (.iload_n 2, 1) := by decide +kernel
theorem dL_exception_6 : decode cL_exception 6 = .ok (.iload_n 3, 1) := by decide +kernel
theorem dL_exception_7 : decode cL_exception 7 = .ok (.invokevirtual 26, 3) := by decide +kernel
theorem dL_exception_10 : decode cL_exception 10 = .ok (.i2l, 1) := by decide +kernel
theorem dL_exception_11 : decode cL_exception 11 = .ok (.lastore, 1) := by decide +kernel
theorem dL_exception_12 : decode cL_exception 12 = .ok (.goto 7, 3) := by decide +kernel
theorem dL_exception_15 : decode cL_exception 15 = .ok (.astore 5, 2) := by decide +kernel
theorem dL_exception_17 : decode cL_exception 17 = .ok (.iconst 1, 1) := by decide +kernel
theorem dL_exception_18 : decode cL_exception 18 = .ok (.ireturn, 1) := by decide +kernel
theorem dL_exception_19 : decode cL_exception 19 = .ok (.iconst 0, 1) := by decide +kernel
theorem dL_exception_20 : decode cL_exception 20 = .ok (.ireturn, 1) := by decide +kernel
theorem dL_row_0 : decode cL_row 0 = .ok (.aload_n 3, 1) := by decide +kernel
theorem dL_row_1 : decode cL_row 1 = .ok (.iconst 0, 1) := by decide +kernel
theorem dL_row_2 : decode cL_row 2 = .ok (.aload_n 0, 1) := by decide +kernel
theorem dL_row_3 : decode cL_row 3 = .ok (.iload_n 1, 1) := by decide +kernel
theorem dL_row_4 : decode cL_row 4 = .ok (.iload_n 2, 1) := by decide +kernel
theorem dL_row_5 : decode cL_row 5 = .ok (.invokevirtual 30, 3) := by decide +kernel
theorem dL_row_8 : decode cL_row 8 = .ok (.i2l, 1) := by decide +kernel
theorem dL_row_9 : decode cL_row 9 = .ok (.lastore, 1) := by decide +kernel
theorem dL_row_10 : decode cL_row 10 = .ok (.goto 7, 3) := by decide +kernel
theorem dL_row_13 : decode cL_row 13 = .ok (.astore 4, 2) := by decide +kernel
theorem dL_row_15 : decode cL_row 15 = .ok (.iconst 1, 1) := by decide +kernel
theorem dL_row_16 : decode cL_row 16 = .ok (.ireturn, 1) := by decide +kernel
theorem dL_row_17 : decode cL_row 17 = .ok (.iconst 0, 1) := by decide +kernel
theorem dL_row_18 : decode cL_row 18 = .ok (.ireturn, 1) := by decide +kernel
theorem dL_load_0 : decode cL_load 0 = .ok (.aload_n 3, 1) := by decide +kernel
theorem dL_load_1 : decode cL_load 1 = .ok (.iconst 0, 1) := by decide +kernel
theorem dL_load_2 : decode cL_load 2 = .ok (.aload_n 0, 1) := by decide +kernel
theorem dL_load_3 : decode cL_load 3 = .ok (.iload_n 1, 1) := by decide +kernel
theorem dL_load_4 : decode cL_load 4 = .ok (.iload_n 2, 1) := by decide +kernel
theorem dL_load_5 : decode cL_load 5 = .ok (.invokevirtual 33, 3) := by decide +kernel
theorem dL_load_8 : decode cL_load 8 = .ok (.i2l, 1) := by decide +kernel
theorem dL_load_9 : decode cL_load 9 = .ok (.lastore, 1) := by decide +kernel
theorem dL_load_10 : decode cL_load 10 = .ok (.goto 7, 3) := by decide +kernel
theorem dL_load_13 : decode cL_load 13 = .ok (.astore 4, 2) := by decide +kernel
theorem dL_load_15 : decode cL_load 15 = .ok (.iconst 1, 1) := by decide +kernel
theorem dL_load_16 : decode cL_load 16 = .ok (.ireturn, 1) := by decide +kernel
theorem dL_load_17 : decode cL_load 17 = .ok (.iconst 0, 1) := by decide +kernel
theorem dL_load_18 : decode cL_load 18 = .ok (.ireturn, 1) := by decide +kernel
theorem dL_unmatched_0 : decode cL_unmatched 0 = .ok (.aload_n 2, 1) := by decide +kernel
theorem dL_unmatched_1 : decode cL_unmatched 1 = .ok (.iconst 0, 1) := by decide +kernel
theorem dL_unmatched_2 : decode cL_unmatched 2 = .ok (.aload_n 0, 1) := by decide +kernel
theorem dL_unmatched_3 : decode cL_unmatched 3 = .ok (.iload_n 1, 1) := by decide +kernel
theorem dL_unmatched_4 : decode cL_unmatched 4 = .ok (.invokevirtual 36, 3) := by decide +kernel
theorem dL_unmatched_7 : decode cL_unmatched 7 = .ok (.i2l, 1) := by decide +kernel
theorem dL_unmatched_8 : decode cL_unmatched 8 = .ok (.lastore, 1) := by decide +kernel
theorem dL_unmatched_9 : decode cL_unmatched 9 = .ok (.goto 6, 3) := by decide +kernel
theorem dL_unmatched_12 : decode cL_unmatched 12 = .ok (.astore_n 3, 1) := by decide +kernel
theorem dL_unmatched_13 : decode cL_unmatched 13 = .ok (.iconst 1, 1) := by decide +kernel
theorem dL_unmatched_14 : decode cL_unmatched 14 = .ok (.ireturn, 1) := by decide +kernel
theorem dL_unmatched_15 : decode cL_unmatched 15 = .ok (.iconst 0, 1) := by decide +kernel
theorem dL_unmatched_16 : decode cL_unmatched 16 = .ok (.ireturn, 1) := by decide +kernel
theorem dL_clash_0 : decode cL_clash 0 = .ok (.aload_n 3, 1) := by decide +kernel
theorem dL_clash_1 : decode cL_clash 1 = .ok (.iconst 0, 1) := by decide +kernel
theorem dL_clash_2 : decode cL_clash 2 = .ok (.aload_n 0, 1) := by decide +kernel
theorem dL_clash_3 : decode cL_clash 3 = .ok (.iload_n 1, 1) := by decide +kernel
theorem dL_clash_4 : decode cL_clash 4 = .ok (.iload_n 2, 1) := by decide +kernel
theorem dL_clash_5 : decode cL_clash 5 = .ok (.invokevirtual 40, 3) := by decide +kernel
theorem dL_clash_8 : decode cL_clash 8 = .ok (.i2l, 1) := by decide +kernel
theorem dL_clash_9 : decode cL_clash 9 = .ok (.lastore, 1) := by decide +kernel
theorem dL_clash_10 : decode cL_clash 10 = .ok (.goto 7, 3) := by decide +kernel
theorem dL_clash_13 : decode cL_clash 13 = .ok (.astore 4, 2) := by decide +kernel
theorem dL_clash_15 : decode cL_clash 15 = .ok (.iconst 1, 1) := by decide +kernel
theorem dL_clash_16 : decode cL_clash 16 = .ok (.ireturn, 1) := by decide +kernel
theorem dL_clash_17 : decode cL_clash 17 = .ok (.iconst 0, 1) := by decide +kernel
theorem dL_clash_18 : decode cL_clash 18 = .ok (.ireturn, 1) := by decide +kernel
theorem dL_write_0 : decode cL_write 0 = .ok (.aload_n 2, 1) := by decide +kernel
theorem dL_write_1 : decode cL_write 1 = .ok (.iconst 0, 1) := by decide +kernel
theorem dL_write_2 : decode cL_write 2 = .ok (.aload_n 0, 1) := by decide +kernel
theorem dL_write_3 : decode cL_write 3 = .ok (.iload_n 1, 1) := by decide +kernel
theorem dL_write_4 : decode cL_write 4 = .ok (.invokevirtual 43, 3) := by decide +kernel
theorem dL_write_7 : decode cL_write 7 = .ok (.i2l, 1) := by decide +kernel
theorem dL_write_8 : decode cL_write 8 = .ok (.lastore, 1) := by decide +kernel
theorem dL_write_9 : decode cL_write 9 = .ok (.goto 6, 3) := by decide +kernel
theorem dL_write_12 : decode cL_write 12 = .ok (.astore_n 3, 1) := by decide +kernel
theorem dL_write_13 : decode cL_write 13 = .ok (.iconst 1, 1) := by decide +kernel
theorem dL_write_14 : decode cL_write 14 = .ok (.ireturn, 1) := by decide +kernel
theorem dL_write_15 : decode cL_write 15 = .ok (.iconst 0, 1) := by decide +kernel
theorem dL_write_16 : decode cL_write 16 = .ok (.ireturn, 1) := by decide +kernel
theorem dL_count_0 : decode cL_count 0 = .ok (.aload_n 2, 1) := by decide +kernel
theorem dL_count_1 : decode cL_count 1 = .ok (.iconst 0, 1) := by decide +kernel
theorem dL_count_2 : decode cL_count 2 = .ok (.aload_n 0, 1) := by decide +kernel
theorem dL_count_3 : decode cL_count 3 = .ok (.iload_n 1, 1) := by decide +kernel
theorem dL_count_4 : decode cL_count 4 = .ok (.invokevirtual 46, 3) := by decide +kernel
theorem dL_count_7 : decode cL_count 7 = .ok (.i2l, 1) := by decide +kernel
theorem dL_count_8 : decode cL_count 8 = .ok (.lastore, 1) := by decide +kernel
theorem dL_count_9 : decode cL_count 9 = .ok (.goto 6, 3) := by decide +kernel
theorem dL_count_12 : decode cL_count 12 = .ok (.astore_n 3, 1) := by decide +kernel
theorem dL_count_13 : decode cL_count 13 = .ok (.iconst 1, 1) := by decide +kernel
theorem dL_count_14 : decode cL_count 14 = .ok (.ireturn, 1) := by decide +kernel
theorem dL_count_15 : decode cL_count 15 = .ok (.iconst 0, 1) := by decide +kernel
theorem dL_count_16 : decode cL_count 16 = .ok (.ireturn, 1) := by decide +kernel
theorem dL_law_0 : decode cL_law 0 = .ok (.new 8, 3) := by decide +kernel
theorem dL_law_3 : decode cL_law 3 = .ok (.dup, 1) := by decide +kernel
theorem dL_law_4 : decode cL_law 4 = .ok (.invokespecial 49, 3) := by decide +kernel
theorem dL_law_7 : decode cL_law 7 = .ok (.astore_n 1, 1) := by decide +kernel
theorem dL_law_8 : decode cL_law 8 = .ok (.new 50, 3) := by decide +kernel
theorem dL_law_11 : decode cL_law 11 = .ok (.dup, 1) := by decide +kernel
theorem dL_law_12 : decode cL_law 12 = .ok (.invokespecial 52, 3) := by decide +kernel
theorem dL_law_15 : decode cL_law 15 = .ok (.astore_n 2, 1) := by decide +kernel
theorem dL_law_16 : decode cL_law 16 = .ok (.iconst 1, 1) := by decide +kernel
theorem dL_law_17 : decode cL_law 17 = .ok (.newarray .long, 2) := by decide +kernel
theorem dL_law_19 : decode cL_law 19 = .ok (.astore_n 3, 1) := by decide +kernel
theorem dL_law_20 : decode cL_law 20 = .ok (.iconst 0, 1) := by decide +kernel
theorem dL_law_21 : decode cL_law 21 = .ok (.istore 4, 2) := by decide +kernel
theorem dL_law_23 : decode cL_law 23 = .ok (.iload 4, 2) := by decide +kernel
theorem dL_law_25 : decode cL_law 25 = .ok (.aload_n 0, 1) := by decide +kernel
theorem dL_law_26 : decode cL_law 26 = .ok (.arraylength, 1) := by decide +kernel
theorem dL_law_27 : decode cL_law 27 = .ok (.iconst 4, 1) := by decide +kernel
theorem dL_law_28 : decode cL_law 28 = .ok (.isub, 1) := by decide +kernel
theorem dL_law_29 : decode cL_law 29 = .ok (.if_icmp .gt 901, 3) := by decide +kernel
theorem dL_law_32 : decode cL_law 32 = .ok (.aload_n 0, 1) := by decide +kernel
theorem dL_law_33 : decode cL_law 33 = .ok (.iload 4, 2) := by decide +kernel
theorem dL_law_35 : decode cL_law 35 = .ok (.iaload, 1) := by decide +kernel
theorem dL_law_36 : decode cL_law 36 = .ok (.bipush 15, 2) := by decide +kernel
theorem dL_law_38 : decode cL_law 38 = .ok (.iand, 1) := by decide +kernel
theorem dL_law_39 : decode cL_law 39 = .ok (.tableswitch 885 0 13 #[69, 94, 119, 194, 207, 275, 354, 433, 513, 581, 649, 705, 773, 829], 69) := by decide +kernel
theorem dL_law_108 : decode cL_law 108 = .ok (.aload_n 1, 1) := by decide +kernel
theorem dL_law_109 : decode cL_law 109 = .ok (.aload_n 0, 1) := by decide +kernel
theorem dL_law_110 : decode cL_law 110 = .ok (.iload 4, 2) := by decide +kernel
theorem dL_law_112 : decode cL_law 112 = .ok (.iconst 1, 1) := by decide +kernel
theorem dL_law_113 : decode cL_law 113 = .ok (.iadd, 1) := by decide +kernel
theorem dL_law_114 : decode cL_law 114 = .ok (.iaload, 1) := by decide +kernel
theorem dL_law_115 : decode cL_law 115 = .ok (.invokevirtual 53, 3) := by decide +kernel
theorem dL_law_118 : decode cL_law 118 = .ok (.aload_n 2, 1) := by decide +kernel
theorem dL_law_119 : decode cL_law 119 = .ok (.aload_n 0, 1) := by decide +kernel
theorem dL_law_120 : decode cL_law 120 = .ok (.iload 4, 2) := by decide +kernel
theorem dL_law_122 : decode cL_law 122 = .ok (.iconst 1, 1) := by decide +kernel
theorem dL_law_123 : decode cL_law 123 = .ok (.iadd, 1) := by decide +kernel
theorem dL_law_124 : decode cL_law 124 = .ok (.iaload, 1) := by decide +kernel
theorem dL_law_125 : decode cL_law 125 = .ok (.invokevirtual 57, 3) := by decide +kernel
theorem dL_law_128 : decode cL_law 128 = .ok (.if_icmp .eq 796, 3) := by decide +kernel
theorem dL_law_131 : decode cL_law 131 = .ok (.iconst 0, 1) := by decide +kernel
theorem dL_law_132 : decode cL_law 132 = .ok (.ireturn, 1) := by decide +kernel
theorem dL_law_133 : decode cL_law 133 = .ok (.aload_n 1, 1) := by decide +kernel
theorem dL_law_134 : decode cL_law 134 = .ok (.aload_n 0, 1) := by decide +kernel
theorem dL_law_135 : decode cL_law 135 = .ok (.iload 4, 2) := by decide +kernel
theorem dL_law_137 : decode cL_law 137 = .ok (.iconst 1, 1) := by decide +kernel
theorem dL_law_138 : decode cL_law 138 = .ok (.iadd, 1) := by decide +kernel
theorem dL_law_139 : decode cL_law 139 = .ok (.iaload, 1) := by decide +kernel
theorem dL_law_140 : decode cL_law 140 = .ok (.invokevirtual 58, 3) := by decide +kernel
theorem dL_law_143 : decode cL_law 143 = .ok (.aload_n 2, 1) := by decide +kernel
theorem dL_law_144 : decode cL_law 144 = .ok (.aload_n 0, 1) := by decide +kernel
theorem dL_law_145 : decode cL_law 145 = .ok (.iload 4, 2) := by decide +kernel
theorem dL_law_147 : decode cL_law 147 = .ok (.iconst 1, 1) := by decide +kernel
theorem dL_law_148 : decode cL_law 148 = .ok (.iadd, 1) := by decide +kernel
theorem dL_law_149 : decode cL_law 149 = .ok (.iaload, 1) := by decide +kernel
theorem dL_law_150 : decode cL_law 150 = .ok (.invokevirtual 61, 3) := by decide +kernel
theorem dL_law_153 : decode cL_law 153 = .ok (.if_icmp .eq 771, 3) := by decide +kernel
theorem dL_law_156 : decode cL_law 156 = .ok (.iconst 0, 1) := by decide +kernel
theorem dL_law_157 : decode cL_law 157 = .ok (.ireturn, 1) := by decide +kernel
theorem dL_law_158 : decode cL_law 158 = .ok (.aload_n 1, 1) := by decide +kernel
theorem dL_law_159 : decode cL_law 159 = .ok (.aload_n 0, 1) := by decide +kernel
theorem dL_law_160 : decode cL_law 160 = .ok (.iload 4, 2) := by decide +kernel
theorem dL_law_162 : decode cL_law 162 = .ok (.iconst 1, 1) := by decide +kernel
theorem dL_law_163 : decode cL_law 163 = .ok (.iadd, 1) := by decide +kernel
theorem dL_law_164 : decode cL_law 164 = .ok (.iaload, 1) := by decide +kernel
theorem dL_law_165 : decode cL_law 165 = .ok (.aload_n 0, 1) := by decide +kernel
theorem dL_law_166 : decode cL_law 166 = .ok (.iload 4, 2) := by decide +kernel
theorem dL_law_168 : decode cL_law 168 = .ok (.iconst 2, 1) := by decide +kernel
theorem dL_law_169 : decode cL_law 169 = .ok (.iadd, 1) := by decide +kernel
theorem dL_law_170 : decode cL_law 170 = .ok (.iaload, 1) := by decide +kernel
theorem dL_law_171 : decode cL_law 171 = .ok (.aload_n 3, 1) := by decide +kernel
theorem dL_law_172 : decode cL_law 172 = .ok (.invokestatic 62, 3) := by decide +kernel
theorem dL_law_175 : decode cL_law 175 = .ok (.istore 5, 2) := by decide +kernel
theorem dL_law_177 : decode cL_law 177 = .ok (.aload_n 2, 1) := by decide +kernel
theorem dL_law_178 : decode cL_law 178 = .ok (.aload_n 0, 1) := by decide +kernel
theorem dL_law_179 : decode cL_law 179 = .ok (.iload 4, 2) := by decide +kernel
theorem dL_law_181 : decode cL_law 181 = .ok (.iconst 1, 1) := by decide +kernel
theorem dL_law_182 : decode cL_law 182 = .ok (.iadd, 1) := by decide +kernel
theorem dL_law_183 : decode cL_law 183 = .ok (.iaload, 1) := by decide +kernel
theorem dL_law_184 : decode cL_law 184 = .ok (.aload_n 0, 1) := by decide +kernel
theorem dL_law_185 : decode cL_law 185 = .ok (.iload 4, 2) := by decide +kernel
theorem dL_law_187 : decode cL_law 187 = .ok (.iconst 2, 1) := by decide +kernel
theorem dL_law_188 : decode cL_law 188 = .ok (.iadd, 1) := by decide +kernel
theorem dL_law_189 : decode cL_law 189 = .ok (.iaload, 1) := by decide +kernel
theorem dL_law_190 : decode cL_law 190 = .ok (.invokevirtual 67, 3) := by decide +kernel
theorem dL_law_193 : decode cL_law 193 = .ok (.istore 6, 2) := by decide +kernel
theorem dL_law_195 : decode cL_law 195 = .ok (.aload_n 2, 1) := by decide +kernel
theorem dL_law_196 : decode cL_law 196 = .ok (.invokevirtual 68, 3) := by decide +kernel
theorem dL_law_199 : decode cL_law 199 = .ok (.iload 5, 2) := by decide +kernel
theorem dL_law_201 : decode cL_law 201 = .ok (.if_icmp .eq 5, 3) := by decide +kernel
theorem dL_law_204 : decode cL_law 204 = .ok (.iconst 0, 1) := by decide +kernel
theorem dL_law_205 : decode cL_law 205 = .ok (.ireturn, 1) := by decide +kernel
theorem dL_law_206 : decode cL_law 206 = .ok (.iload 5, 2) := by decide +kernel
theorem dL_law_208 : decode cL_law 208 = .ok (.ifCond .ne 22, 3) := by decide +kernel
theorem dL_law_211 : decode cL_law 211 = .ok (.aload_n 3, 1) := by decide +kernel
theorem dL_law_212 : decode cL_law 212 = .ok (.iconst 0, 1) := by decide +kernel
theorem dL_law_213 : decode cL_law 213 = .ok (.laload, 1) := by decide +kernel
theorem dL_law_214 : decode cL_law 214 = .ok (.iload 6, 2) := by decide +kernel
theorem dL_law_216 : decode cL_law 216 = .ok (.ifCond .eq 7, 3) := by decide +kernel
theorem dL_law_219 : decode cL_law 219 = .ok (.lconst 1, 1) := by decide +kernel
theorem dL_law_220 : decode cL_law 220 = .ok (.goto 4, 3) := by decide +kernel
theorem dL_law_223 : decode cL_law 223 = .ok (.lconst 0, 1) := by decide +kernel
theorem dL_law_224 : decode cL_law 224 = .ok (.lcmp, 1) := by decide +kernel
theorem dL_law_225 : decode cL_law 225 = .ok (.ifCond .eq 5, 3) := by decide +kernel
theorem dL_law_228 : decode cL_law 228 = .ok (.iconst 0, 1) := by decide +kernel
theorem dL_law_229 : decode cL_law 229 = .ok (.ireturn, 1) := by decide +kernel
theorem dL_law_230 : decode cL_law 230 = .ok (.goto 694, 3) := by decide +kernel
theorem dL_law_233 : decode cL_law 233 = .ok (.aload_n 1, 1) := by decide +kernel
theorem dL_law_234 : decode cL_law 234 = .ok (.invokevirtual 72, 3) := by decide +kernel
theorem dL_law_237 : decode cL_law 237 = .ok (.aload_n 2, 1) := by decide +kernel
theorem dL_law_238 : decode cL_law 238 = .ok (.invokevirtual 75, 3) := by decide +kernel
theorem dL_law_241 : decode cL_law 241 = .ok (.if_icmp .eq 683, 3) := by decide +kernel
theorem dL_law_244 : decode cL_law 244 = .ok (.iconst 0, 1) := by decide +kernel
theorem dL_law_245 : decode cL_law 245 = .ok (.ireturn, 1) := by decide +kernel
theorem dL_law_246 : decode cL_law 246 = .ok (.aload_n 1, 1) := by decide +kernel
theorem dL_law_247 : decode cL_law 247 = .ok (.aload_n 0, 1) := by decide +kernel
theorem dL_law_248 : decode cL_law 248 = .ok (.iload 4, 2) := by decide +kernel
theorem dL_law_250 : decode cL_law 250 = .ok (.iconst 1, 1) := by decide +kernel
theorem dL_law_251 : decode cL_law 251 = .ok (.iadd, 1) := by decide +kernel
theorem dL_law_252 : decode cL_law 252 = .ok (.iaload, 1) := by decide +kernel
theorem dL_law_253 : decode cL_law 253 = .ok (.aload_n 0, 1) := by decide +kernel
theorem dL_law_254 : decode cL_law 254 = .ok (.iload 4, 2) := by decide +kernel
theorem dL_law_256 : decode cL_law 256 = .ok (.iconst 2, 1) := by decide +kernel
theorem dL_law_257 : decode cL_law 257 = .ok (.iadd, 1) := by decide +kernel
theorem dL_law_258 : decode cL_law 258 = .ok (.iaload, 1) := by decide +kernel
theorem dL_law_259 : decode cL_law 259 = .ok (.aload_n 3, 1) := by decide +kernel
theorem dL_law_260 : decode cL_law 260 = .ok (.invokestatic 76, 3) := by decide +kernel
theorem dL_law_263 : decode cL_law 263 = .ok (.istore 5, 2) := by decide +kernel
theorem dL_law_265 : decode cL_law 265 = .ok (.aload_n 2, 1) := by decide +kernel
theorem dL_law_266 : decode cL_law 266 = .ok (.aload_n 0, 1) := by decide +kernel
theorem dL_law_267 : decode cL_law 267 = .ok (.iload 4, 2) := by decide +kernel
theorem dL_law_269 : decode cL_law 269 = .ok (.iconst 1, 1) := by decide +kernel
theorem dL_law_270 : decode cL_law 270 = .ok (.iadd, 1) := by decide +kernel
theorem dL_law_271 : decode cL_law 271 = .ok (.iaload, 1) := by decide +kernel
theorem dL_law_272 : decode cL_law 272 = .ok (.aload_n 0, 1) := by decide +kernel
theorem dL_law_273 : decode cL_law 273 = .ok (.iload 4, 2) := by decide +kernel
theorem dL_law_275 : decode cL_law 275 = .ok (.iconst 2, 1) := by decide +kernel
theorem dL_law_276 : decode cL_law 276 = .ok (.iadd, 1) := by decide +kernel
theorem dL_law_277 : decode cL_law 277 = .ok (.iaload, 1) := by decide +kernel
theorem dL_law_278 : decode cL_law 278 = .ok (.invokevirtual 78, 3) := by decide +kernel
theorem dL_law_281 : decode cL_law 281 = .ok (.istore 6, 2) := by decide +kernel
theorem dL_law_283 : decode cL_law 283 = .ok (.aload_n 2, 1) := by decide +kernel
theorem dL_law_284 : decode cL_law 284 = .ok (.invokevirtual 68, 3) := by decide +kernel
theorem dL_law_287 : decode cL_law 287 = .ok (.iload 5, 2) := by decide +kernel
theorem dL_law_289 : decode cL_law 289 = .ok (.if_icmp .eq 5, 3) := by decide +kernel
theorem dL_law_292 : decode cL_law 292 = .ok (.iconst 0, 1) := by decide +kernel
theorem dL_law_293 : decode cL_law 293 = .ok (.ireturn, 1) := by decide +kernel
theorem dL_law_294 : decode cL_law 294 = .ok (.iload 5, 2) := by decide +kernel
theorem dL_law_296 : decode cL_law 296 = .ok (.ifCond .ne 15, 3) := by decide +kernel
theorem dL_law_299 : decode cL_law 299 = .ok (.aload_n 3, 1) := by decide +kernel
theorem dL_law_300 : decode cL_law 300 = .ok (.iconst 0, 1) := by decide +kernel
theorem dL_law_301 : decode cL_law 301 = .ok (.laload, 1) := by decide +kernel
theorem dL_law_302 : decode cL_law 302 = .ok (.iload 6, 2) := by decide +kernel
theorem dL_law_304 : decode cL_law 304 = .ok (.i2l, 1) := by decide +kernel
theorem dL_law_305 : decode cL_law 305 = .ok (.lcmp, 1) := by decide +kernel
theorem dL_law_306 : decode cL_law 306 = .ok (.ifCond .eq 5, 3) := by decide +kernel
theorem dL_law_309 : decode cL_law 309 = .ok (.iconst 0, 1) := by decide +kernel
theorem dL_law_310 : decode cL_law 310 = .ok (.ireturn, 1) := by decide +kernel
theorem dL_law_311 : decode cL_law 311 = .ok (.goto 613, 3) := by decide +kernel
theorem dL_law_314 : decode cL_law 314 = .ok (.aload_n 1, 1) := by decide +kernel
theorem dL_law_315 : decode cL_law 315 = .ok (.aload_n 0, 1) := by decide +kernel
theorem dL_law_316 : decode cL_law 316 = .ok (.iload 4, 2) := by decide +kernel
theorem dL_law_318 : decode cL_law 318 = .ok (.iconst 1, 1) := by decide +kernel
theorem dL_law_319 : decode cL_law 319 = .ok (.iadd, 1) := by decide +kernel
theorem dL_law_320 : decode cL_law 320 = .ok (.iaload, 1) := by decide +kernel
theorem dL_law_321 : decode cL_law 321 = .ok (.aload_n 0, 1) := by decide +kernel
theorem dL_law_322 : decode cL_law 322 = .ok (.iload 4, 2) := by decide +kernel
theorem dL_law_324 : decode cL_law 324 = .ok (.iconst 2, 1) := by decide +kernel
theorem dL_law_325 : decode cL_law 325 = .ok (.iadd, 1) := by decide +kernel
theorem dL_law_326 : decode cL_law 326 = .ok (.iaload, 1) := by decide +kernel
theorem dL_law_327 : decode cL_law 327 = .ok (.aload_n 0, 1) := by decide +kernel
theorem dL_law_328 : decode cL_law 328 = .ok (.iload 4, 2) := by decide +kernel
theorem dL_law_330 : decode cL_law 330 = .ok (.iconst 3, 1) := by decide +kernel
theorem dL_law_331 : decode cL_law 331 = .ok (.iadd, 1) := by decide +kernel
theorem dL_law_332 : decode cL_law 332 = .ok (.iaload, 1) := by decide +kernel
theorem dL_law_333 : decode cL_law 333 = .ok (.aload_n 3, 1) := by decide +kernel
theorem dL_law_334 : decode cL_law 334 = .ok (.invokestatic 79, 3) := by decide +kernel
theorem dL_law_337 : decode cL_law 337 = .ok (.istore 5, 2) := by decide +kernel
theorem dL_law_339 : decode cL_law 339 = .ok (.aload_n 2, 1) := by decide +kernel
theorem dL_law_340 : decode cL_law 340 = .ok (.aload_n 0, 1) := by decide +kernel
theorem dL_law_341 : decode cL_law 341 = .ok (.iload 4, 2) := by decide +kernel
theorem dL_law_343 : decode cL_law 343 = .ok (.iconst 1, 1) := by decide +kernel
theorem dL_law_344 : decode cL_law 344 = .ok (.iadd, 1) := by decide +kernel
theorem dL_law_345 : decode cL_law 345 = .ok (.iaload, 1) := by decide +kernel
theorem dL_law_346 : decode cL_law 346 = .ok (.aload_n 0, 1) := by decide +kernel
theorem dL_law_347 : decode cL_law 347 = .ok (.iload 4, 2) := by decide +kernel
theorem dL_law_349 : decode cL_law 349 = .ok (.iconst 2, 1) := by decide +kernel
theorem dL_law_350 : decode cL_law 350 = .ok (.iadd, 1) := by decide +kernel
theorem dL_law_351 : decode cL_law 351 = .ok (.iaload, 1) := by decide +kernel
theorem dL_law_352 : decode cL_law 352 = .ok (.aload_n 0, 1) := by decide +kernel
theorem dL_law_353 : decode cL_law 353 = .ok (.iload 4, 2) := by decide +kernel
theorem dL_law_355 : decode cL_law 355 = .ok (.iconst 3, 1) := by decide +kernel
theorem dL_law_356 : decode cL_law 356 = .ok (.iadd, 1) := by decide +kernel
theorem dL_law_357 : decode cL_law 357 = .ok (.iaload, 1) := by decide +kernel
theorem dL_law_358 : decode cL_law 358 = .ok (.invokevirtual 82, 3) := by decide +kernel
theorem dL_law_361 : decode cL_law 361 = .ok (.lstore 6, 2) := by decide +kernel
theorem dL_law_363 : decode cL_law 363 = .ok (.aload_n 2, 1) := by decide +kernel
theorem dL_law_364 : decode cL_law 364 = .ok (.invokevirtual 68, 3) := by decide +kernel
theorem dL_law_367 : decode cL_law 367 = .ok (.iload 5, 2) := by decide +kernel
theorem dL_law_369 : decode cL_law 369 = .ok (.if_icmp .eq 5, 3) := by decide +kernel
theorem dL_law_372 : decode cL_law 372 = .ok (.iconst 0, 1) := by decide +kernel
theorem dL_law_373 : decode cL_law 373 = .ok (.ireturn, 1) := by decide +kernel
theorem dL_law_374 : decode cL_law 374 = .ok (.iload 5, 2) := by decide +kernel
theorem dL_law_376 : decode cL_law 376 = .ok (.ifCond .ne 14, 3) := by decide +kernel
theorem dL_law_379 : decode cL_law 379 = .ok (.aload_n 3, 1) := by decide +kernel
theorem dL_law_380 : decode cL_law 380 = .ok (.iconst 0, 1) := by decide +kernel
theorem dL_law_381 : decode cL_law 381 = .ok (.laload, 1) := by decide +kernel
theorem dL_law_382 : decode cL_law 382 = .ok (.lload 6, 2) := by decide +kernel
theorem dL_law_384 : decode cL_law 384 = .ok (.lcmp, 1) := by decide +kernel
theorem dL_law_385 : decode cL_law 385 = .ok (.ifCond .eq 5, 3) := by decide +kernel
theorem dL_law_388 : decode cL_law 388 = .ok (.iconst 0, 1) := by decide +kernel
theorem dL_law_389 : decode cL_law 389 = .ok (.ireturn, 1) := by decide +kernel
theorem dL_law_390 : decode cL_law 390 = .ok (.goto 534, 3) := by decide +kernel
theorem dL_law_393 : decode cL_law 393 = .ok (.aload_n 1, 1) := by decide +kernel
theorem dL_law_394 : decode cL_law 394 = .ok (.aload_n 0, 1) := by decide +kernel
theorem dL_law_395 : decode cL_law 395 = .ok (.iload 4, 2) := by decide +kernel
theorem dL_law_397 : decode cL_law 397 = .ok (.iconst 1, 1) := by decide +kernel
theorem dL_law_398 : decode cL_law 398 = .ok (.iadd, 1) := by decide +kernel
theorem dL_law_399 : decode cL_law 399 = .ok (.iaload, 1) := by decide +kernel
theorem dL_law_400 : decode cL_law 400 = .ok (.aload_n 0, 1) := by decide +kernel
theorem dL_law_401 : decode cL_law 401 = .ok (.iload 4, 2) := by decide +kernel
theorem dL_law_403 : decode cL_law 403 = .ok (.iconst 2, 1) := by decide +kernel
theorem dL_law_404 : decode cL_law 404 = .ok (.iadd, 1) := by decide +kernel
theorem dL_law_405 : decode cL_law 405 = .ok (.iaload, 1) := by decide +kernel
theorem dL_law_406 : decode cL_law 406 = .ok (.aload_n 0, 1) := by decide +kernel
theorem dL_law_407 : decode cL_law 407 = .ok (.iload 4, 2) := by decide +kernel
theorem dL_law_409 : decode cL_law 409 = .ok (.iconst 3, 1) := by decide +kernel
theorem dL_law_410 : decode cL_law 410 = .ok (.iadd, 1) := by decide +kernel
theorem dL_law_411 : decode cL_law 411 = .ok (.iaload, 1) := by decide +kernel
theorem dL_law_412 : decode cL_law 412 = .ok (.aload_n 3, 1) := by decide +kernel
theorem dL_law_413 : decode cL_law 413 = .ok (.invokestatic 83, 3) := by decide +kernel
theorem dL_law_416 : decode cL_law 416 = .ok (.istore 5, 2) := by decide +kernel
theorem dL_law_418 : decode cL_law 418 = .ok (.aload_n 2, 1) := by decide +kernel
theorem dL_law_419 : decode cL_law 419 = .ok (.aload_n 0, 1) := by decide +kernel
theorem dL_law_420 : decode cL_law 420 = .ok (.iload 4, 2) := by decide +kernel
theorem dL_law_422 : decode cL_law 422 = .ok (.iconst 1, 1) := by decide +kernel
theorem dL_law_423 : decode cL_law 423 = .ok (.iadd, 1) := by decide +kernel
theorem dL_law_424 : decode cL_law 424 = .ok (.iaload, 1) := by decide +kernel
theorem dL_law_425 : decode cL_law 425 = .ok (.aload_n 0, 1) := by decide +kernel
theorem dL_law_426 : decode cL_law 426 = .ok (.iload 4, 2) := by decide +kernel
theorem dL_law_428 : decode cL_law 428 = .ok (.iconst 2, 1) := by decide +kernel
theorem dL_law_429 : decode cL_law 429 = .ok (.iadd, 1) := by decide +kernel
theorem dL_law_430 : decode cL_law 430 = .ok (.iaload, 1) := by decide +kernel
theorem dL_law_431 : decode cL_law 431 = .ok (.aload_n 0, 1) := by decide +kernel
theorem dL_law_432 : decode cL_law 432 = .ok (.iload 4, 2) := by decide +kernel
theorem dL_law_434 : decode cL_law 434 = .ok (.iconst 3, 1) := by decide +kernel
theorem dL_law_435 : decode cL_law 435 = .ok (.iadd, 1) := by decide +kernel
theorem dL_law_436 : decode cL_law 436 = .ok (.iaload, 1) := by decide +kernel
theorem dL_law_437 : decode cL_law 437 = .ok (.invokevirtual 85, 3) := by decide +kernel
theorem dL_law_440 : decode cL_law 440 = .ok (.lstore 6, 2) := by decide +kernel
theorem dL_law_442 : decode cL_law 442 = .ok (.aload_n 2, 1) := by decide +kernel
theorem dL_law_443 : decode cL_law 443 = .ok (.invokevirtual 68, 3) := by decide +kernel
theorem dL_law_446 : decode cL_law 446 = .ok (.iload 5, 2) := by decide +kernel
theorem dL_law_448 : decode cL_law 448 = .ok (.if_icmp .eq 5, 3) := by decide +kernel
theorem dL_law_451 : decode cL_law 451 = .ok (.iconst 0, 1) := by decide +kernel
theorem dL_law_452 : decode cL_law 452 = .ok (.ireturn, 1) := by decide +kernel
theorem dL_law_453 : decode cL_law 453 = .ok (.iload 5, 2) := by decide +kernel
theorem dL_law_455 : decode cL_law 455 = .ok (.ifCond .ne 14, 3) := by decide +kernel
theorem dL_law_458 : decode cL_law 458 = .ok (.aload_n 3, 1) := by decide +kernel
theorem dL_law_459 : decode cL_law 459 = .ok (.iconst 0, 1) := by decide +kernel
theorem dL_law_460 : decode cL_law 460 = .ok (.laload, 1) := by decide +kernel
theorem dL_law_461 : decode cL_law 461 = .ok (.lload 6, 2) := by decide +kernel
theorem dL_law_463 : decode cL_law 463 = .ok (.lcmp, 1) := by decide +kernel
theorem dL_law_464 : decode cL_law 464 = .ok (.ifCond .eq 5, 3) := by decide +kernel
theorem dL_law_467 : decode cL_law 467 = .ok (.iconst 0, 1) := by decide +kernel
theorem dL_law_468 : decode cL_law 468 = .ok (.ireturn, 1) := by decide +kernel
theorem dL_law_469 : decode cL_law 469 = .ok (.goto 455, 3) := by decide +kernel
theorem dL_law_472 : decode cL_law 472 = .ok (.aload_n 1, 1) := by decide +kernel
theorem dL_law_473 : decode cL_law 473 = .ok (.aload_n 0, 1) := by decide +kernel
theorem dL_law_474 : decode cL_law 474 = .ok (.iload 4, 2) := by decide +kernel
theorem dL_law_476 : decode cL_law 476 = .ok (.iconst 1, 1) := by decide +kernel
theorem dL_law_477 : decode cL_law 477 = .ok (.iadd, 1) := by decide +kernel
theorem dL_law_478 : decode cL_law 478 = .ok (.iaload, 1) := by decide +kernel
theorem dL_law_479 : decode cL_law 479 = .ok (.aload_n 0, 1) := by decide +kernel
theorem dL_law_480 : decode cL_law 480 = .ok (.iload 4, 2) := by decide +kernel
theorem dL_law_482 : decode cL_law 482 = .ok (.iconst 2, 1) := by decide +kernel
theorem dL_law_483 : decode cL_law 483 = .ok (.iadd, 1) := by decide +kernel
theorem dL_law_484 : decode cL_law 484 = .ok (.iaload, 1) := by decide +kernel
theorem dL_law_485 : decode cL_law 485 = .ok (.aload_n 0, 1) := by decide +kernel
theorem dL_law_486 : decode cL_law 486 = .ok (.iload 4, 2) := by decide +kernel
theorem dL_law_488 : decode cL_law 488 = .ok (.iconst 3, 1) := by decide +kernel
theorem dL_law_489 : decode cL_law 489 = .ok (.iadd, 1) := by decide +kernel
theorem dL_law_490 : decode cL_law 490 = .ok (.iaload, 1) := by decide +kernel
theorem dL_law_491 : decode cL_law 491 = .ok (.aload_n 3, 1) := by decide +kernel
theorem dL_law_492 : decode cL_law 492 = .ok (.invokestatic 86, 3) := by decide +kernel
theorem dL_law_495 : decode cL_law 495 = .ok (.istore 5, 2) := by decide +kernel
theorem dL_law_497 : decode cL_law 497 = .ok (.aload_n 2, 1) := by decide +kernel
theorem dL_law_498 : decode cL_law 498 = .ok (.aload_n 0, 1) := by decide +kernel
theorem dL_law_499 : decode cL_law 499 = .ok (.iload 4, 2) := by decide +kernel
theorem dL_law_501 : decode cL_law 501 = .ok (.iconst 1, 1) := by decide +kernel
theorem dL_law_502 : decode cL_law 502 = .ok (.iadd, 1) := by decide +kernel
theorem dL_law_503 : decode cL_law 503 = .ok (.iaload, 1) := by decide +kernel
theorem dL_law_504 : decode cL_law 504 = .ok (.aload_n 0, 1) := by decide +kernel
theorem dL_law_505 : decode cL_law 505 = .ok (.iload 4, 2) := by decide +kernel
theorem dL_law_507 : decode cL_law 507 = .ok (.iconst 2, 1) := by decide +kernel
theorem dL_law_508 : decode cL_law 508 = .ok (.iadd, 1) := by decide +kernel
theorem dL_law_509 : decode cL_law 509 = .ok (.iaload, 1) := by decide +kernel
theorem dL_law_510 : decode cL_law 510 = .ok (.aload_n 0, 1) := by decide +kernel
theorem dL_law_511 : decode cL_law 511 = .ok (.iload 4, 2) := by decide +kernel
theorem dL_law_513 : decode cL_law 513 = .ok (.iconst 3, 1) := by decide +kernel
theorem dL_law_514 : decode cL_law 514 = .ok (.iadd, 1) := by decide +kernel
theorem dL_law_515 : decode cL_law 515 = .ok (.iaload, 1) := by decide +kernel
theorem dL_law_516 : decode cL_law 516 = .ok (.invokevirtual 88, 3) := by decide +kernel
theorem dL_law_519 : decode cL_law 519 = .ok (.istore 6, 2) := by decide +kernel
theorem dL_law_521 : decode cL_law 521 = .ok (.aload_n 2, 1) := by decide +kernel
theorem dL_law_522 : decode cL_law 522 = .ok (.invokevirtual 68, 3) := by decide +kernel
theorem dL_law_525 : decode cL_law 525 = .ok (.iload 5, 2) := by decide +kernel
theorem dL_law_527 : decode cL_law 527 = .ok (.if_icmp .eq 5, 3) := by decide +kernel
theorem dL_law_530 : decode cL_law 530 = .ok (.iconst 0, 1) := by decide +kernel
theorem dL_law_531 : decode cL_law 531 = .ok (.ireturn, 1) := by decide +kernel
theorem dL_law_532 : decode cL_law 532 = .ok (.iload 5, 2) := by decide +kernel
theorem dL_law_534 : decode cL_law 534 = .ok (.ifCond .ne 15, 3) := by decide +kernel
theorem dL_law_537 : decode cL_law 537 = .ok (.aload_n 3, 1) := by decide +kernel
theorem dL_law_538 : decode cL_law 538 = .ok (.iconst 0, 1) := by decide +kernel
theorem dL_law_539 : decode cL_law 539 = .ok (.laload, 1) := by decide +kernel
theorem dL_law_540 : decode cL_law 540 = .ok (.iload 6, 2) := by decide +kernel
theorem dL_law_542 : decode cL_law 542 = .ok (.i2l, 1) := by decide +kernel
theorem dL_law_543 : decode cL_law 543 = .ok (.lcmp, 1) := by decide +kernel
theorem dL_law_544 : decode cL_law 544 = .ok (.ifCond .eq 5, 3) := by decide +kernel
theorem dL_law_547 : decode cL_law 547 = .ok (.iconst 0, 1) := by decide +kernel
theorem dL_law_548 : decode cL_law 548 = .ok (.ireturn, 1) := by decide +kernel
theorem dL_law_549 : decode cL_law 549 = .ok (.goto 375, 3) := by decide +kernel
theorem dL_law_552 : decode cL_law 552 = .ok (.aload_n 1, 1) := by decide +kernel
theorem dL_law_553 : decode cL_law 553 = .ok (.aload_n 0, 1) := by decide +kernel
theorem dL_law_554 : decode cL_law 554 = .ok (.iload 4, 2) := by decide +kernel
theorem dL_law_556 : decode cL_law 556 = .ok (.iconst 1, 1) := by decide +kernel
theorem dL_law_557 : decode cL_law 557 = .ok (.iadd, 1) := by decide +kernel
theorem dL_law_558 : decode cL_law 558 = .ok (.iaload, 1) := by decide +kernel
theorem dL_law_559 : decode cL_law 559 = .ok (.aload_n 0, 1) := by decide +kernel
theorem dL_law_560 : decode cL_law 560 = .ok (.iload 4, 2) := by decide +kernel
theorem dL_law_562 : decode cL_law 562 = .ok (.iconst 2, 1) := by decide +kernel
theorem dL_law_563 : decode cL_law 563 = .ok (.iadd, 1) := by decide +kernel
theorem dL_law_564 : decode cL_law 564 = .ok (.iaload, 1) := by decide +kernel
theorem dL_law_565 : decode cL_law 565 = .ok (.aload_n 3, 1) := by decide +kernel
theorem dL_law_566 : decode cL_law 566 = .ok (.invokestatic 89, 3) := by decide +kernel
theorem dL_law_569 : decode cL_law 569 = .ok (.istore 5, 2) := by decide +kernel
theorem dL_law_571 : decode cL_law 571 = .ok (.aload_n 2, 1) := by decide +kernel
theorem dL_law_572 : decode cL_law 572 = .ok (.aload_n 0, 1) := by decide +kernel
theorem dL_law_573 : decode cL_law 573 = .ok (.iload 4, 2) := by decide +kernel
theorem dL_law_575 : decode cL_law 575 = .ok (.iconst 1, 1) := by decide +kernel
theorem dL_law_576 : decode cL_law 576 = .ok (.iadd, 1) := by decide +kernel
theorem dL_law_577 : decode cL_law 577 = .ok (.iaload, 1) := by decide +kernel
theorem dL_law_578 : decode cL_law 578 = .ok (.aload_n 0, 1) := by decide +kernel
theorem dL_law_579 : decode cL_law 579 = .ok (.iload 4, 2) := by decide +kernel
theorem dL_law_581 : decode cL_law 581 = .ok (.iconst 2, 1) := by decide +kernel
theorem dL_law_582 : decode cL_law 582 = .ok (.iadd, 1) := by decide +kernel
theorem dL_law_583 : decode cL_law 583 = .ok (.iaload, 1) := by decide +kernel
theorem dL_law_584 : decode cL_law 584 = .ok (.invokevirtual 91, 3) := by decide +kernel
theorem dL_law_587 : decode cL_law 587 = .ok (.istore 6, 2) := by decide +kernel
theorem dL_law_589 : decode cL_law 589 = .ok (.aload_n 2, 1) := by decide +kernel
theorem dL_law_590 : decode cL_law 590 = .ok (.invokevirtual 68, 3) := by decide +kernel
theorem dL_law_593 : decode cL_law 593 = .ok (.iload 5, 2) := by decide +kernel
theorem dL_law_595 : decode cL_law 595 = .ok (.if_icmp .eq 5, 3) := by decide +kernel
theorem dL_law_598 : decode cL_law 598 = .ok (.iconst 0, 1) := by decide +kernel
theorem dL_law_599 : decode cL_law 599 = .ok (.ireturn, 1) := by decide +kernel
theorem dL_law_600 : decode cL_law 600 = .ok (.iload 5, 2) := by decide +kernel
theorem dL_law_602 : decode cL_law 602 = .ok (.ifCond .ne 15, 3) := by decide +kernel
theorem dL_law_605 : decode cL_law 605 = .ok (.aload_n 3, 1) := by decide +kernel
theorem dL_law_606 : decode cL_law 606 = .ok (.iconst 0, 1) := by decide +kernel
theorem dL_law_607 : decode cL_law 607 = .ok (.laload, 1) := by decide +kernel
theorem dL_law_608 : decode cL_law 608 = .ok (.iload 6, 2) := by decide +kernel
theorem dL_law_610 : decode cL_law 610 = .ok (.i2l, 1) := by decide +kernel
theorem dL_law_611 : decode cL_law 611 = .ok (.lcmp, 1) := by decide +kernel
theorem dL_law_612 : decode cL_law 612 = .ok (.ifCond .eq 5, 3) := by decide +kernel
theorem dL_law_615 : decode cL_law 615 = .ok (.iconst 0, 1) := by decide +kernel
theorem dL_law_616 : decode cL_law 616 = .ok (.ireturn, 1) := by decide +kernel
theorem dL_law_617 : decode cL_law 617 = .ok (.goto 307, 3) := by decide +kernel
theorem dL_law_620 : decode cL_law 620 = .ok (.aload_n 1, 1) := by decide +kernel
theorem dL_law_621 : decode cL_law 621 = .ok (.aload_n 0, 1) := by decide +kernel
theorem dL_law_622 : decode cL_law 622 = .ok (.iload 4, 2) := by decide +kernel
theorem dL_law_624 : decode cL_law 624 = .ok (.iconst 1, 1) := by decide +kernel
theorem dL_law_625 : decode cL_law 625 = .ok (.iadd, 1) := by decide +kernel
theorem dL_law_626 : decode cL_law 626 = .ok (.iaload, 1) := by decide +kernel
theorem dL_law_627 : decode cL_law 627 = .ok (.aload_n 0, 1) := by decide +kernel
theorem dL_law_628 : decode cL_law 628 = .ok (.iload 4, 2) := by decide +kernel
theorem dL_law_630 : decode cL_law 630 = .ok (.iconst 2, 1) := by decide +kernel
theorem dL_law_631 : decode cL_law 631 = .ok (.iadd, 1) := by decide +kernel
theorem dL_law_632 : decode cL_law 632 = .ok (.iaload, 1) := by decide +kernel
theorem dL_law_633 : decode cL_law 633 = .ok (.aload_n 3, 1) := by decide +kernel
theorem dL_law_634 : decode cL_law 634 = .ok (.invokestatic 92, 3) := by decide +kernel
theorem dL_law_637 : decode cL_law 637 = .ok (.istore 5, 2) := by decide +kernel
theorem dL_law_639 : decode cL_law 639 = .ok (.aload_n 2, 1) := by decide +kernel
theorem dL_law_640 : decode cL_law 640 = .ok (.aload_n 0, 1) := by decide +kernel
theorem dL_law_641 : decode cL_law 641 = .ok (.iload 4, 2) := by decide +kernel
theorem dL_law_643 : decode cL_law 643 = .ok (.iconst 1, 1) := by decide +kernel
theorem dL_law_644 : decode cL_law 644 = .ok (.iadd, 1) := by decide +kernel
theorem dL_law_645 : decode cL_law 645 = .ok (.iaload, 1) := by decide +kernel
theorem dL_law_646 : decode cL_law 646 = .ok (.aload_n 0, 1) := by decide +kernel
theorem dL_law_647 : decode cL_law 647 = .ok (.iload 4, 2) := by decide +kernel
theorem dL_law_649 : decode cL_law 649 = .ok (.iconst 2, 1) := by decide +kernel
theorem dL_law_650 : decode cL_law 650 = .ok (.iadd, 1) := by decide +kernel
theorem dL_law_651 : decode cL_law 651 = .ok (.iaload, 1) := by decide +kernel
theorem dL_law_652 : decode cL_law 652 = .ok (.invokevirtual 94, 3) := by decide +kernel
theorem dL_law_655 : decode cL_law 655 = .ok (.istore 6, 2) := by decide +kernel
theorem dL_law_657 : decode cL_law 657 = .ok (.aload_n 2, 1) := by decide +kernel
theorem dL_law_658 : decode cL_law 658 = .ok (.invokevirtual 68, 3) := by decide +kernel
theorem dL_law_661 : decode cL_law 661 = .ok (.iload 5, 2) := by decide +kernel
theorem dL_law_663 : decode cL_law 663 = .ok (.if_icmp .eq 5, 3) := by decide +kernel
theorem dL_law_666 : decode cL_law 666 = .ok (.iconst 0, 1) := by decide +kernel
theorem dL_law_667 : decode cL_law 667 = .ok (.ireturn, 1) := by decide +kernel
theorem dL_law_668 : decode cL_law 668 = .ok (.iload 5, 2) := by decide +kernel
theorem dL_law_670 : decode cL_law 670 = .ok (.ifCond .ne 15, 3) := by decide +kernel
theorem dL_law_673 : decode cL_law 673 = .ok (.aload_n 3, 1) := by decide +kernel
theorem dL_law_674 : decode cL_law 674 = .ok (.iconst 0, 1) := by decide +kernel
theorem dL_law_675 : decode cL_law 675 = .ok (.laload, 1) := by decide +kernel
theorem dL_law_676 : decode cL_law 676 = .ok (.iload 6, 2) := by decide +kernel
theorem dL_law_678 : decode cL_law 678 = .ok (.i2l, 1) := by decide +kernel
theorem dL_law_679 : decode cL_law 679 = .ok (.lcmp, 1) := by decide +kernel
theorem dL_law_680 : decode cL_law 680 = .ok (.ifCond .eq 5, 3) := by decide +kernel
theorem dL_law_683 : decode cL_law 683 = .ok (.iconst 0, 1) := by decide +kernel
theorem dL_law_684 : decode cL_law 684 = .ok (.ireturn, 1) := by decide +kernel
theorem dL_law_685 : decode cL_law 685 = .ok (.goto 239, 3) := by decide +kernel
theorem dL_law_688 : decode cL_law 688 = .ok (.aload_n 1, 1) := by decide +kernel
theorem dL_law_689 : decode cL_law 689 = .ok (.aload_n 0, 1) := by decide +kernel
theorem dL_law_690 : decode cL_law 690 = .ok (.iload 4, 2) := by decide +kernel
theorem dL_law_692 : decode cL_law 692 = .ok (.iconst 1, 1) := by decide +kernel
theorem dL_law_693 : decode cL_law 693 = .ok (.iadd, 1) := by decide +kernel
theorem dL_law_694 : decode cL_law 694 = .ok (.iaload, 1) := by decide +kernel
theorem dL_law_695 : decode cL_law 695 = .ok (.aload_n 3, 1) := by decide +kernel
theorem dL_law_696 : decode cL_law 696 = .ok (.invokestatic 95, 3) := by decide +kernel
theorem dL_law_699 : decode cL_law 699 = .ok (.istore 5, 2) := by decide +kernel
theorem dL_law_701 : decode cL_law 701 = .ok (.aload_n 2, 1) := by decide +kernel
theorem dL_law_702 : decode cL_law 702 = .ok (.aload_n 0, 1) := by decide +kernel
theorem dL_law_703 : decode cL_law 703 = .ok (.iload 4, 2) := by decide +kernel
theorem dL_law_705 : decode cL_law 705 = .ok (.iconst 1, 1) := by decide +kernel
theorem dL_law_706 : decode cL_law 706 = .ok (.iadd, 1) := by decide +kernel
theorem dL_law_707 : decode cL_law 707 = .ok (.iaload, 1) := by decide +kernel
theorem dL_law_708 : decode cL_law 708 = .ok (.invokevirtual 98, 3) := by decide +kernel
theorem dL_law_711 : decode cL_law 711 = .ok (.istore 6, 2) := by decide +kernel
theorem dL_law_713 : decode cL_law 713 = .ok (.aload_n 2, 1) := by decide +kernel
theorem dL_law_714 : decode cL_law 714 = .ok (.invokevirtual 68, 3) := by decide +kernel
theorem dL_law_717 : decode cL_law 717 = .ok (.iload 5, 2) := by decide +kernel
theorem dL_law_719 : decode cL_law 719 = .ok (.if_icmp .eq 5, 3) := by decide +kernel
theorem dL_law_722 : decode cL_law 722 = .ok (.iconst 0, 1) := by decide +kernel
theorem dL_law_723 : decode cL_law 723 = .ok (.ireturn, 1) := by decide +kernel
theorem dL_law_724 : decode cL_law 724 = .ok (.iload 5, 2) := by decide +kernel
theorem dL_law_726 : decode cL_law 726 = .ok (.ifCond .ne 15, 3) := by decide +kernel
theorem dL_law_729 : decode cL_law 729 = .ok (.aload_n 3, 1) := by decide +kernel
theorem dL_law_730 : decode cL_law 730 = .ok (.iconst 0, 1) := by decide +kernel
theorem dL_law_731 : decode cL_law 731 = .ok (.laload, 1) := by decide +kernel
theorem dL_law_732 : decode cL_law 732 = .ok (.iload 6, 2) := by decide +kernel
theorem dL_law_734 : decode cL_law 734 = .ok (.i2l, 1) := by decide +kernel
theorem dL_law_735 : decode cL_law 735 = .ok (.lcmp, 1) := by decide +kernel
theorem dL_law_736 : decode cL_law 736 = .ok (.ifCond .eq 5, 3) := by decide +kernel
theorem dL_law_739 : decode cL_law 739 = .ok (.iconst 0, 1) := by decide +kernel
theorem dL_law_740 : decode cL_law 740 = .ok (.ireturn, 1) := by decide +kernel
theorem dL_law_741 : decode cL_law 741 = .ok (.goto 183, 3) := by decide +kernel
theorem dL_law_744 : decode cL_law 744 = .ok (.aload_n 1, 1) := by decide +kernel
theorem dL_law_745 : decode cL_law 745 = .ok (.aload_n 0, 1) := by decide +kernel
theorem dL_law_746 : decode cL_law 746 = .ok (.iload 4, 2) := by decide +kernel
theorem dL_law_748 : decode cL_law 748 = .ok (.iconst 1, 1) := by decide +kernel
theorem dL_law_749 : decode cL_law 749 = .ok (.iadd, 1) := by decide +kernel
theorem dL_law_750 : decode cL_law 750 = .ok (.iaload, 1) := by decide +kernel
theorem dL_law_751 : decode cL_law 751 = .ok (.aload_n 0, 1) := by decide +kernel
theorem dL_law_752 : decode cL_law 752 = .ok (.iload 4, 2) := by decide +kernel
theorem dL_law_754 : decode cL_law 754 = .ok (.iconst 2, 1) := by decide +kernel
theorem dL_law_755 : decode cL_law 755 = .ok (.iadd, 1) := by decide +kernel
theorem dL_law_756 : decode cL_law 756 = .ok (.iaload, 1) := by decide +kernel
theorem dL_law_757 : decode cL_law 757 = .ok (.aload_n 3, 1) := by decide +kernel
theorem dL_law_758 : decode cL_law 758 = .ok (.invokestatic 99, 3) := by decide +kernel
theorem dL_law_761 : decode cL_law 761 = .ok (.istore 5, 2) := by decide +kernel
theorem dL_law_763 : decode cL_law 763 = .ok (.aload_n 2, 1) := by decide +kernel
theorem dL_law_764 : decode cL_law 764 = .ok (.aload_n 0, 1) := by decide +kernel
theorem dL_law_765 : decode cL_law 765 = .ok (.iload 4, 2) := by decide +kernel
theorem dL_law_767 : decode cL_law 767 = .ok (.iconst 1, 1) := by decide +kernel
theorem dL_law_768 : decode cL_law 768 = .ok (.iadd, 1) := by decide +kernel
theorem dL_law_769 : decode cL_law 769 = .ok (.iaload, 1) := by decide +kernel
theorem dL_law_770 : decode cL_law 770 = .ok (.aload_n 0, 1) := by decide +kernel
theorem dL_law_771 : decode cL_law 771 = .ok (.iload 4, 2) := by decide +kernel
theorem dL_law_773 : decode cL_law 773 = .ok (.iconst 2, 1) := by decide +kernel
theorem dL_law_774 : decode cL_law 774 = .ok (.iadd, 1) := by decide +kernel
theorem dL_law_775 : decode cL_law 775 = .ok (.iaload, 1) := by decide +kernel
theorem dL_law_776 : decode cL_law 776 = .ok (.invokevirtual 101, 3) := by decide +kernel
theorem dL_law_779 : decode cL_law 779 = .ok (.istore 6, 2) := by decide +kernel
theorem dL_law_781 : decode cL_law 781 = .ok (.aload_n 2, 1) := by decide +kernel
theorem dL_law_782 : decode cL_law 782 = .ok (.invokevirtual 68, 3) := by decide +kernel
theorem dL_law_785 : decode cL_law 785 = .ok (.iload 5, 2) := by decide +kernel
theorem dL_law_787 : decode cL_law 787 = .ok (.if_icmp .eq 5, 3) := by decide +kernel
theorem dL_law_790 : decode cL_law 790 = .ok (.iconst 0, 1) := by decide +kernel
theorem dL_law_791 : decode cL_law 791 = .ok (.ireturn, 1) := by decide +kernel
theorem dL_law_792 : decode cL_law 792 = .ok (.iload 5, 2) := by decide +kernel
theorem dL_law_794 : decode cL_law 794 = .ok (.ifCond .ne 15, 3) := by decide +kernel
theorem dL_law_797 : decode cL_law 797 = .ok (.aload_n 3, 1) := by decide +kernel
theorem dL_law_798 : decode cL_law 798 = .ok (.iconst 0, 1) := by decide +kernel
theorem dL_law_799 : decode cL_law 799 = .ok (.laload, 1) := by decide +kernel
theorem dL_law_800 : decode cL_law 800 = .ok (.iload 6, 2) := by decide +kernel
theorem dL_law_802 : decode cL_law 802 = .ok (.i2l, 1) := by decide +kernel
theorem dL_law_803 : decode cL_law 803 = .ok (.lcmp, 1) := by decide +kernel
theorem dL_law_804 : decode cL_law 804 = .ok (.ifCond .eq 5, 3) := by decide +kernel
theorem dL_law_807 : decode cL_law 807 = .ok (.iconst 0, 1) := by decide +kernel
theorem dL_law_808 : decode cL_law 808 = .ok (.ireturn, 1) := by decide +kernel
theorem dL_law_809 : decode cL_law 809 = .ok (.goto 115, 3) := by decide +kernel
theorem dL_law_812 : decode cL_law 812 = .ok (.aload_n 1, 1) := by decide +kernel
theorem dL_law_813 : decode cL_law 813 = .ok (.aload_n 0, 1) := by decide +kernel
theorem dL_law_814 : decode cL_law 814 = .ok (.iload 4, 2) := by decide +kernel
theorem dL_law_816 : decode cL_law 816 = .ok (.iconst 1, 1) := by decide +kernel
theorem dL_law_817 : decode cL_law 817 = .ok (.iadd, 1) := by decide +kernel
theorem dL_law_818 : decode cL_law 818 = .ok (.iaload, 1) := by decide +kernel
theorem dL_law_819 : decode cL_law 819 = .ok (.aload_n 3, 1) := by decide +kernel
theorem dL_law_820 : decode cL_law 820 = .ok (.invokestatic 102, 3) := by decide +kernel
theorem dL_law_823 : decode cL_law 823 = .ok (.istore 5, 2) := by decide +kernel
theorem dL_law_825 : decode cL_law 825 = .ok (.aload_n 2, 1) := by decide +kernel
theorem dL_law_826 : decode cL_law 826 = .ok (.aload_n 0, 1) := by decide +kernel
theorem dL_law_827 : decode cL_law 827 = .ok (.iload 4, 2) := by decide +kernel
theorem dL_law_829 : decode cL_law 829 = .ok (.iconst 1, 1) := by decide +kernel
theorem dL_law_830 : decode cL_law 830 = .ok (.iadd, 1) := by decide +kernel
theorem dL_law_831 : decode cL_law 831 = .ok (.iaload, 1) := by decide +kernel
theorem dL_law_832 : decode cL_law 832 = .ok (.invokevirtual 104, 3) := by decide +kernel
theorem dL_law_835 : decode cL_law 835 = .ok (.istore 6, 2) := by decide +kernel
theorem dL_law_837 : decode cL_law 837 = .ok (.aload_n 2, 1) := by decide +kernel
theorem dL_law_838 : decode cL_law 838 = .ok (.invokevirtual 68, 3) := by decide +kernel
theorem dL_law_841 : decode cL_law 841 = .ok (.iload 5, 2) := by decide +kernel
theorem dL_law_843 : decode cL_law 843 = .ok (.if_icmp .eq 5, 3) := by decide +kernel
theorem dL_law_846 : decode cL_law 846 = .ok (.iconst 0, 1) := by decide +kernel
theorem dL_law_847 : decode cL_law 847 = .ok (.ireturn, 1) := by decide +kernel
theorem dL_law_848 : decode cL_law 848 = .ok (.iload 5, 2) := by decide +kernel
theorem dL_law_850 : decode cL_law 850 = .ok (.ifCond .ne 15, 3) := by decide +kernel
theorem dL_law_853 : decode cL_law 853 = .ok (.aload_n 3, 1) := by decide +kernel
theorem dL_law_854 : decode cL_law 854 = .ok (.iconst 0, 1) := by decide +kernel
theorem dL_law_855 : decode cL_law 855 = .ok (.laload, 1) := by decide +kernel
theorem dL_law_856 : decode cL_law 856 = .ok (.iload 6, 2) := by decide +kernel
theorem dL_law_858 : decode cL_law 858 = .ok (.i2l, 1) := by decide +kernel
theorem dL_law_859 : decode cL_law 859 = .ok (.lcmp, 1) := by decide +kernel
theorem dL_law_860 : decode cL_law 860 = .ok (.ifCond .eq 5, 3) := by decide +kernel
theorem dL_law_863 : decode cL_law 863 = .ok (.iconst 0, 1) := by decide +kernel
theorem dL_law_864 : decode cL_law 864 = .ok (.ireturn, 1) := by decide +kernel
theorem dL_law_865 : decode cL_law 865 = .ok (.goto 59, 3) := by decide +kernel
theorem dL_law_868 : decode cL_law 868 = .ok (.aload_n 1, 1) := by decide +kernel
theorem dL_law_869 : decode cL_law 869 = .ok (.aload_n 0, 1) := by decide +kernel
theorem dL_law_870 : decode cL_law 870 = .ok (.iload 4, 2) := by decide +kernel
theorem dL_law_872 : decode cL_law 872 = .ok (.iconst 1, 1) := by decide +kernel
theorem dL_law_873 : decode cL_law 873 = .ok (.iadd, 1) := by decide +kernel

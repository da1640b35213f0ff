theorem dX10_undo_24 : decode cX10_undo 24 = .ok (.getfield 33, 3) := by decide +kernel
theorem dX10_undo_27 : decode cX10_undo 27 = .ok (.getfield 238, 3) := by decide +kernel
theorem dX10_undo_30 : decode cX10_undo 30 = .ok (.ireturn, 1) := by decide +kernel
theorem dX10_doAct_0 : decode cX10_doAct 0 = .ok (.aload_n 0, 1) := by decide +kernel
theorem dX10_doAct_1 : decode cX10_doAct 1 = .ok (.getfield 10, 3) := by decide +kernel
theorem dX10_doAct_4 : decode cX10_doAct 4 = .ok (.iload_n 1, 1) := by decide +kernel
theorem dX10_doAct_5 : decode cX10_doAct 5 = .ok (.invokevirtual 217, 3) := by decide +kernel
theorem dX10_doAct_8 : decode cX10_doAct 8 = .ok (.tableswitch 263 101 119 #[205, 100, 137, 263, 263, 263, 263, 118, 92, 263, 263, 263, 263, 263, 263, 156, 263, 263, 175], 92) := by decide +kernel
theorem dX10_doAct_100 : decode cX10_doAct 100 = .ok (.aload_n 0, 1) := by decide +kernel
theorem dX10_doAct_101 : decode cX10_doAct 101 = .ok (.iload_n 1, 1) := by decide +kernel
theorem dX10_doAct_102 : decode cX10_doAct 102 = .ok (.iconst 1, 1) := by decide +kernel
theorem dX10_doAct_103 : decode cX10_doAct 103 = .ok (.iadd, 1) := by decide +kernel
theorem dX10_doAct_104 : decode cX10_doAct 104 = .ok (.invokevirtual 117, 3) := by decide +kernel
theorem dX10_doAct_107 : decode cX10_doAct 107 = .ok (.ireturn, 1) := by decide +kernel
theorem dX10_doAct_108 : decode cX10_doAct 108 = .ok (.aload_n 0, 1) := by decide +kernel
theorem dX10_doAct_109 : decode cX10_doAct 109 = .ok (.getfield 26, 3) := by decide +kernel
theorem dX10_doAct_112 : decode cX10_doAct 112 = .ok (.aload_n 0, 1) := by decide +kernel
theorem dX10_doAct_113 : decode cX10_doAct 113 = .ok (.getfield 10, 3) := by decide +kernel
theorem dX10_doAct_116 : decode cX10_doAct 116 = .ok (.iload_n 1, 1) := by decide +kernel
theorem dX10_doAct_117 : decode cX10_doAct 117 = .ok (.iconst 1, 1) := by decide +kernel
theorem dX10_doAct_118 : decode cX10_doAct 118 = .ok (.iadd, 1) := by decide +kernel
theorem dX10_doAct_119 : decode cX10_doAct 119 = .ok (.invokevirtual 195, 3) := by decide +kernel
theorem dX10_doAct_122 : decode cX10_doAct 122 = .ok (.invokevirtual 205, 3) := by decide +kernel
theorem dX10_doAct_125 : decode cX10_doAct 125 = .ok (.ireturn, 1) := by decide +kernel
theorem dX10_doAct_126 : decode cX10_doAct 126 = .ok (.aload_n 0, 1) := by decide +kernel
theorem dX10_doAct_127 : decode cX10_doAct 127 = .ok (.getfield 26, 3) := by decide +kernel
theorem dX10_doAct_130 : decode cX10_doAct 130 = .ok (.iconst 0, 1) := by decide +kernel
theorem dX10_doAct_131 : decode cX10_doAct 131 = .ok (.aload_n 0, 1) := by decide +kernel
theorem dX10_doAct_132 : decode cX10_doAct 132 = .ok (.getfield 10, 3) := by decide +kernel
theorem dX10_doAct_135 : decode cX10_doAct 135 = .ok (.iload_n 1, 1) := by decide +kernel
theorem dX10_doAct_136 : decode cX10_doAct 136 = .ok (.iconst 1, 1) := by decide +kernel
theorem dX10_doAct_137 : decode cX10_doAct 137 = .ok (.iadd, 1) := by decide +kernel
theorem dX10_doAct_138 : decode cX10_doAct 138 = .ok (.invokevirtual 198, 3) := by decide +kernel
theorem dX10_doAct_141 : decode cX10_doAct 141 = .ok (.invokevirtual 208, 3) := by decide +kernel
theorem dX10_doAct_144 : decode cX10_doAct 144 = .ok (.ireturn, 1) := by decide +kernel
theorem dX10_doAct_145 : decode cX10_doAct 145 = .ok (.aload_n 0, 1) := by decide +kernel
theorem dX10_doAct_146 : decode cX10_doAct 146 = .ok (.getfield 26, 3) := by decide +kernel
theorem dX10_doAct_149 : decode cX10_doAct 149 = .ok (.iconst 1, 1) := by decide +kernel
theorem dX10_doAct_150 : decode cX10_doAct 150 = .ok (.aload_n 0, 1) := by decide +kernel
theorem dX10_doAct_151 : decode cX10_doAct 151 = .ok (.getfield 10, 3) := by decide +kernel
theorem dX10_doAct_154 : decode cX10_doAct 154 = .ok (.iload_n 1, 1) := by decide +kernel
theorem dX10_doAct_155 : decode cX10_doAct 155 = .ok (.iconst 1, 1) := by decide +kernel
theorem dX10_doAct_156 : decode cX10_doAct 156 = .ok (.iadd, 1) := by decide +kernel
theorem dX10_doAct_157 : decode cX10_doAct 157 = .ok (.invokevirtual 133, 3) := by decide +kernel
theorem dX10_doAct_160 : decode cX10_doAct 160 = .ok (.invokevirtual 208, 3) := by decide +kernel
theorem dX10_doAct_163 : decode cX10_doAct 163 = .ok (.ireturn, 1) := by decide +kernel
theorem dX10_doAct_164 : decode cX10_doAct 164 = .ok (.aload_n 0, 1) := by decide +kernel
theorem dX10_doAct_165 : decode cX10_doAct 165 = .ok (.getfield 26, 3) := by decide +kernel
theorem dX10_doAct_168 : decode cX10_doAct 168 = .ok (.iconst 3, 1) := by decide +kernel
theorem dX10_doAct_169 : decode cX10_doAct 169 = .ok (.aload_n 0, 1) := by decide +kernel
theorem dX10_doAct_170 : decode cX10_doAct 170 = .ok (.getfield 10, 3) := by decide +kernel
theorem dX10_doAct_173 : decode cX10_doAct 173 = .ok (.iload_n 1, 1) := by decide +kernel
theorem dX10_doAct_174 : decode cX10_doAct 174 = .ok (.iconst 1, 1) := by decide +kernel
theorem dX10_doAct_175 : decode cX10_doAct 175 = .ok (.iadd, 1) := by decide +kernel
theorem dX10_doAct_176 : decode cX10_doAct 176 = .ok (.invokevirtual 133, 3) := by decide +kernel
theorem dX10_doAct_179 : decode cX10_doAct 179 = .ok (.invokevirtual 208, 3) := by decide +kernel
theorem dX10_doAct_182 : decode cX10_doAct 182 = .ok (.ireturn, 1) := by decide +kernel
theorem dX10_doAct_183 : decode cX10_doAct 183 = .ok (.aload_n 0, 1) := by decide +kernel
theorem dX10_doAct_184 : decode cX10_doAct 184 = .ok (.getfield 26, 3) := by decide +kernel
theorem dX10_doAct_187 : decode cX10_doAct 187 = .ok (.iconst 4, 1) := by decide +kernel
theorem dX10_doAct_188 : decode cX10_doAct 188 = .ok (.aload_n 0, 1) := by decide +kernel
theorem dX10_doAct_189 : decode cX10_doAct 189 = .ok (.getfield 10, 3) := by decide +kernel
theorem dX10_doAct_192 : decode cX10_doAct 192 = .ok (.iload_n 1, 1) := by decide +kernel
theorem dX10_doAct_193 : decode cX10_doAct 193 = .ok (.iconst 1, 1) := by decide +kernel
theorem dX10_doAct_194 : decode cX10_doAct 194 = .ok (.iadd, 1) := by decide +kernel
theorem dX10_doAct_195 : decode cX10_doAct 195 = .ok (.invokevirtual 133, 3) := by decide +kernel
theorem dX10_doAct_198 : decode cX10_doAct 198 = .ok (.iadd, 1) := by decide +kernel
theorem dX10_doAct_199 : decode cX10_doAct 199 = .ok (.aload_n 0, 1) := by decide +kernel
theorem dX10_doAct_200 : decode cX10_doAct 200 = .ok (.getfield 10, 3) := by decide +kernel
theorem dX10_doAct_203 : decode cX10_doAct 203 = .ok (.iload_n 1, 1) := by decide +kernel
theorem dX10_doAct_204 : decode cX10_doAct 204 = .ok (.iconst 2, 1) := by decide +kernel
theorem dX10_doAct_205 : decode cX10_doAct 205 = .ok (.iadd, 1) := by decide +kernel
theorem dX10_doAct_206 : decode cX10_doAct 206 = .ok (.invokevirtual 133, 3) := by decide +kernel
theorem dX10_doAct_209 : decode cX10_doAct 209 = .ok (.invokevirtual 208, 3) := by decide +kernel
theorem dX10_doAct_212 : decode cX10_doAct 212 = .ok (.ireturn, 1) := by decide +kernel
theorem dX10_doAct_213 : decode cX10_doAct 213 = .ok (.aload_n 0, 1) := by decide +kernel
theorem dX10_doAct_214 : decode cX10_doAct 214 = .ok (.getfield 26, 3) := by decide +kernel
theorem dX10_doAct_217 : decode cX10_doAct 217 = .ok (.aload_n 0, 1) := by decide +kernel
theorem dX10_doAct_218 : decode cX10_doAct 218 = .ok (.getfield 10, 3) := by decide +kernel
theorem dX10_doAct_221 : decode cX10_doAct 221 = .ok (.iload_n 1, 1) := by decide +kernel
theorem dX10_doAct_222 : decode cX10_doAct 222 = .ok (.iconst 1, 1) := by decide +kernel
theorem dX10_doAct_223 : decode cX10_doAct 223 = .ok (.iadd, 1) := by decide +kernel
theorem dX10_doAct_224 : decode cX10_doAct 224 = .ok (.invokevirtual 217, 3) := by decide +kernel
theorem dX10_doAct_227 : decode cX10_doAct 227 = .ok (.bipush 97, 2) := by decide +kernel
theorem dX10_doAct_229 : decode cX10_doAct 229 = .ok (.isub, 1) := by decide +kernel
theorem dX10_doAct_230 : decode cX10_doAct 230 = .ok (.iconst 4, 1) := by decide +kernel
theorem dX10_doAct_231 : decode cX10_doAct 231 = .ok (.aload_n 0, 1) := by decide +kernel
theorem dX10_doAct_232 : decode cX10_doAct 232 = .ok (.getfield 10, 3) := by decide +kernel
theorem dX10_doAct_235 : decode cX10_doAct 235 = .ok (.iload_n 1, 1) := by decide +kernel
theorem dX10_doAct_236 : decode cX10_doAct 236 = .ok (.iconst 2, 1) := by decide +kernel
theorem dX10_doAct_237 : decode cX10_doAct 237 = .ok (.iadd, 1) := by decide +kernel
theorem dX10_doAct_238 : decode cX10_doAct 238 = .ok (.invokevirtual 198, 3) := by decide +kernel
theorem dX10_doAct_241 : decode cX10_doAct 241 = .ok (.imul, 1) := by decide +kernel
theorem dX10_doAct_242 : decode cX10_doAct 242 = .ok (.iconst 4, 1) := by decide +kernel
theorem dX10_doAct_243 : decode cX10_doAct 243 = .ok (.aload_n 0, 1) := by decide +kernel
theorem dX10_doAct_244 : decode cX10_doAct 244 = .ok (.getfield 10, 3) := by decide +kernel
theorem dX10_doAct_247 : decode cX10_doAct 247 = .ok (.iload_n 1, 1) := by decide +kernel
theorem dX10_doAct_248 : decode cX10_doAct 248 = .ok (.iconst 4, 1) := by decide +kernel
theorem dX10_doAct_249 : decode cX10_doAct 249 = .ok (.iadd, 1) := by decide +kernel
theorem dX10_doAct_250 : decode cX10_doAct 250 = .ok (.invokevirtual 198, 3) := by decide +kernel
theorem dX10_doAct_253 : decode cX10_doAct 253 = .ok (.imul, 1) := by decide +kernel
theorem dX10_doAct_254 : decode cX10_doAct 254 = .ok (.iconst 4, 1) := by decide +kernel
theorem dX10_doAct_255 : decode cX10_doAct 255 = .ok (.aload_n 0, 1) := by decide +kernel
theorem dX10_doAct_256 : decode cX10_doAct 256 = .ok (.getfield 10, 3) := by decide +kernel
theorem dX10_doAct_259 : decode cX10_doAct 259 = .ok (.iload_n 1, 1) := by decide +kernel
theorem dX10_doAct_260 : decode cX10_doAct 260 = .ok (.bipush 6, 2) := by decide +kernel
theorem dX10_doAct_262 : decode cX10_doAct 262 = .ok (.iadd, 1) := by decide +kernel
theorem dX10_doAct_263 : decode cX10_doAct 263 = .ok (.invokevirtual 198, 3) := by decide +kernel
theorem dX10_doAct_266 : decode cX10_doAct 266 = .ok (.imul, 1) := by decide +kernel
theorem dX10_doAct_267 : decode cX10_doAct 267 = .ok (.invokevirtual 211, 3) := by decide +kernel
theorem dX10_doAct_270 : decode cX10_doAct 270 = .ok (.ireturn, 1) := by decide +kernel
theorem dX10_doAct_271 : decode cX10_doAct 271 = .ok (.iconst (-1), 1) := by decide +kernel
theorem dX10_doAct_272 : decode cX10_doAct 272 = .ok (.ireturn, 1) := by decide +kernel
theorem dX10_settled_0 : decode cX10_settled 0 = .ok (.iload_n 1, 1) := by decide +kernel
theorem dX10_settled_1 : decode cX10_settled 1 = .ok (.ifCond .lt 10, 3) := by decide +kernel
theorem dX10_settled_4 : decode cX10_settled 4 = .ok (.aload_n 0, 1) := by decide +kernel
theorem dX10_settled_5 : decode cX10_settled 5 = .ok (.getfield 33, 3) := by decide +kernel
theorem dX10_settled_8 : decode cX10_settled 8 = .ok (.invokevirtual 229, 3) := by decide +kernel
theorem dX10_settled_11 : decode cX10_settled 11 = .ok (.iload_n 1, 1) := by decide +kernel
theorem dX10_settled_12 : decode cX10_settled 12 = .ok (.ireturn, 1) := by decide +kernel
theorem dX10_colour_0 : decode cX10_colour 0 = .ok (.iload_n 1, 1) := by decide +kernel
theorem dX10_colour_1 : decode cX10_colour 1 = .ok (.invokestatic 242, 3) := by decide +kernel
theorem dX10_colour_4 : decode cX10_colour 4 = .ok (.istore_n 2, 1) := by decide +kernel
theorem dX10_colour_5 : decode cX10_colour 5 = .ok (.iload_n 2, 1) := by decide +kernel
theorem dX10_colour_6 : decode cX10_colour 6 = .ok (.ifCond .ge 5, 3) := by decide +kernel
theorem dX10_colour_9 : decode cX10_colour 9 = .ok (.iconst (-1), 1) := by decide +kernel
theorem dX10_colour_10 : decode cX10_colour 10 = .ok (.ireturn, 1) := by decide +kernel
theorem dX10_colour_11 : decode cX10_colour 11 = .ok (.aload_n 0, 1) := by decide +kernel
theorem dX10_colour_12 : decode cX10_colour 12 = .ok (.invokevirtual 245, 3) := by decide +kernel
theorem dX10_colour_15 : decode cX10_colour 15 = .ok (.aload_n 0, 1) := by decide +kernel
theorem dX10_colour_16 : decode cX10_colour 16 = .ok (.getfield 19, 3) := by decide +kernel
theorem dX10_colour_19 : decode cX10_colour 19 = .ok (.invokevirtual 232, 3) := by decide +kernel
theorem dX10_colour_22 : decode cX10_colour 22 = .ok (.aload_n 0, 1) := by decide +kernel
theorem dX10_colour_23 : decode cX10_colour 23 = .ok (.iload_n 2, 1) := by decide +kernel
theorem dX10_colour_24 : decode cX10_colour 24 = .ok (.invokevirtual 248, 3) := by decide +kernel
theorem dX10_colour_27 : decode cX10_colour 27 = .ok (.iload_n 2, 1) := by decide +kernel
theorem dX10_colour_28 : decode cX10_colour 28 = .ok (.invokestatic 251, 3) := by decide +kernel
theorem dX10_colour_31 : decode cX10_colour 31 = .ok (.ireturn, 1) := by decide +kernel
theorem dX10_limited_0 : decode cX10_limited 0 = .ok (.iload_n 1, 1) := by decide +kernel
theorem dX10_limited_1 : decode cX10_limited 1 = .ok (.invokestatic 242, 3) := by decide +kernel
theorem dX10_limited_4 : decode cX10_limited 4 = .ok (.istore_n 3, 1) := by decide +kernel
theorem dX10_limited_5 : decode cX10_limited 5 = .ok (.iload_n 3, 1) := by decide +kernel
theorem dX10_limited_6 : decode cX10_limited 6 = .ok (.ifCond .lt 20, 3) := by decide +kernel
theorem dX10_limited_9 : decode cX10_limited 9 = .ok (.iload_n 2, 1) := by decide +kernel
theorem dX10_limited_10 : decode cX10_limited 10 = .ok (.getstatic 254, 3) := by decide +kernel
theorem dX10_limited_13 : decode cX10_limited 13 = .ok (.iconst 0, 1) := by decide +kernel
theorem dX10_limited_14 : decode cX10_limited 14 = .ok (.iaload, 1) := by decide +kernel
theorem dX10_limited_15 : decode cX10_limited 15 = .ok (.getstatic 257, 3) := by decide +kernel
theorem dX10_limited_18 : decode cX10_limited 18 = .ok (.iconst 0, 1) := by decide +kernel
theorem dX10_limited_19 : decode cX10_limited 19 = .ok (.iaload, 1) := by decide +kernel
theorem dX10_limited_20 : decode cX10_limited 20 = .ok (.invokestatic 179, 3) := by decide +kernel
theorem dX10_limited_23 : decode cX10_limited 23 = .ok (.ifCond .ne 5, 3) := by decide +kernel
theorem dX10_limited_26 : decode cX10_limited 26 = .ok (.iconst (-1), 1) := by decide +kernel
theorem dX10_limited_27 : decode cX10_limited 27 = .ok (.ireturn, 1) := by decide +kernel
theorem dX10_limited_28 : decode cX10_limited 28 = .ok (.aload_n 0, 1) := by decide +kernel
theorem dX10_limited_29 : decode cX10_limited 29 = .ok (.getfield 68, 3) := by decide +kernel
theorem dX10_limited_32 : decode cX10_limited 32 = .ok (.iload_n 3, 1) := by decide +kernel
theorem dX10_limited_33 : decode cX10_limited 33 = .ok (.invokevirtual 260, 3) := by decide +kernel
theorem dX10_limited_36 : decode cX10_limited 36 = .ok (.aload_n 0, 1) := by decide +kernel
theorem dX10_limited_37 : decode cX10_limited 37 = .ok (.getfield 68, 3) := by decide +kernel
theorem dX10_limited_40 : decode cX10_limited 40 = .ok (.iload_n 2, 1) := by decide +kernel
theorem dX10_limited_41 : decode cX10_limited 41 = .ok (.invokevirtual 263, 3) := by decide +kernel
theorem dX10_limited_44 : decode cX10_limited 44 = .ok (.aload_n 0, 1) := by decide +kernel
theorem dX10_limited_45 : decode cX10_limited 45 = .ok (.getfield 68, 3) := by decide +kernel
theorem dX10_limited_48 : decode cX10_limited 48 = .ok (.invokevirtual 266, 3) := by decide +kernel
theorem dX10_limited_51 : decode cX10_limited 51 = .ok (.invokestatic 269, 3) := by decide +kernel
theorem dX10_limited_54 : decode cX10_limited 54 = .ok (.ireturn, 1) := by decide +kernel
theorem dX10_match_0 : decode cX10_match 0 = .ok (.iload_n 1, 1) := by decide +kernel
theorem dX10_match_1 : decode cX10_match 1 = .ok (.iload_n 2, 1) := by decide +kernel
theorem dX10_match_2 : decode cX10_match 2 = .ok (.iload_n 3, 1) := by decide +kernel
theorem dX10_match_3 : decode cX10_match 3 = .ok (.invokestatic 272, 3) := by decide +kernel
theorem dX10_match_6 : decode cX10_match 6 = .ok (.ifCond .ne 5, 3) := by decide +kernel
theorem dX10_match_9 : decode cX10_match 9 = .ok (.iconst (-1), 1) := by decide +kernel
theorem dX10_match_10 : decode cX10_match 10 = .ok (.ireturn, 1) := by decide +kernel
theorem dX10_match_11 : decode cX10_match 11 = .ok (.aload_n 0, 1) := by decide +kernel
theorem dX10_match_12 : decode cX10_match 12 = .ok (.invokevirtual 245, 3) := by decide +kernel
theorem dX10_match_15 : decode cX10_match 15 = .ok (.aload_n 0, 1) := by decide +kernel
theorem dX10_match_16 : decode cX10_match 16 = .ok (.getfield 61, 3) := by decide +kernel
theorem dX10_match_19 : decode cX10_match 19 = .ok (.aload_n 0, 1) := by decide +kernel
theorem dX10_match_20 : decode cX10_match 20 = .ok (.getfield 26, 3) := by decide +kernel
theorem dX10_match_23 : decode cX10_match 23 = .ok (.aload_n 0, 1) := by decide +kernel
theorem dX10_match_24 : decode cX10_match 24 = .ok (.getfield 48, 3) := by decide +kernel
theorem dX10_match_27 : decode cX10_match 27 = .ok (.iload_n 1, 1) := by decide +kernel
theorem dX10_match_28 : decode cX10_match 28 = .ok (.iload_n 2, 1) := by decide +kernel
theorem dX10_match_29 : decode cX10_match 29 = .ok (.iload_n 3, 1) := by decide +kernel
theorem dX10_match_30 : decode cX10_match 30 = .ok (.invokevirtual 275, 3) := by decide +kernel
theorem dX10_match_33 : decode cX10_match 33 = .ok (.istore 4, 2) := by decide +kernel
theorem dX10_match_35 : decode cX10_match 35 = .ok (.aload_n 0, 1) := by decide +kernel
theorem dX10_match_36 : decode cX10_match 36 = .ok (.getfield 19, 3) := by decide +kernel
theorem dX10_match_39 : decode cX10_match 39 = .ok (.invokevirtual 232, 3) := by decide +kernel
theorem dX10_match_42 : decode cX10_match 42 = .ok (.aload_n 0, 1) := by decide +kernel
theorem dX10_match_43 : decode cX10_match 43 = .ok (.getfield 19, 3) := by decide +kernel
theorem dX10_match_46 : decode cX10_match 46 = .ok (.aload_n 0, 1) := by decide +kernel
theorem dX10_match_47 : decode cX10_match 47 = .ok (.getfield 61, 3) := by decide +kernel
theorem dX10_match_50 : decode cX10_match 50 = .ok (.getfield 279, 3) := by decide +kernel
theorem dX10_match_53 : decode cX10_match 53 = .ok (.i2l, 1) := by decide +kernel
theorem dX10_match_54 : decode cX10_match 54 = .ok (.invokevirtual 235, 3) := by decide +kernel
theorem dX10_match_57 : decode cX10_match 57 = .ok (.aload_n 0, 1) := by decide +kernel
theorem dX10_match_58 : decode cX10_match 58 = .ok (.getfield 19, 3) := by decide +kernel
theorem dX10_match_61 : decode cX10_match 61 = .ok (.aload_n 0, 1) := by decide +kernel
theorem dX10_match_62 : decode cX10_match 62 = .ok (.getfield 61, 3) := by decide +kernel
theorem dX10_match_65 : decode cX10_match 65 = .ok (.getfield 282, 3) := by decide +kernel
theorem dX10_match_68 : decode cX10_match 68 = .ok (.i2l, 1) := by decide +kernel
theorem dX10_match_69 : decode cX10_match 69 = .ok (.invokevirtual 235, 3) := by decide +kernel
theorem dX10_match_72 : decode cX10_match 72 = .ok (.aload_n 0, 1) := by decide +kernel
theorem dX10_match_73 : decode cX10_match 73 = .ok (.getfield 19, 3) := by decide +kernel
theorem dX10_match_76 : decode cX10_match 76 = .ok (.aload_n 0, 1) := by decide +kernel
theorem dX10_match_77 : decode cX10_match 77 = .ok (.getfield 61, 3) := by decide +kernel
theorem dX10_match_80 : decode cX10_match 80 = .ok (.getfield 285, 3) := by decide +kernel
theorem dX10_match_83 : decode cX10_match 83 = .ok (.i2l, 1) := by decide +kernel
theorem dX10_match_84 : decode cX10_match 84 = .ok (.invokevirtual 235, 3) := by decide +kernel
theorem dX10_match_87 : decode cX10_match 87 = .ok (.aload_n 0, 1) := by decide +kernel
theorem dX10_match_88 : decode cX10_match 88 = .ok (.getfield 19, 3) := by decide +kernel
theorem dX10_match_91 : decode cX10_match 91 = .ok (.aload_n 0, 1) := by decide +kernel
theorem dX10_match_92 : decode cX10_match 92 = .ok (.getfield 61, 3) := by decide +kernel
theorem dX10_match_95 : decode cX10_match 95 = .ok (.getfield 288, 3) := by decide +kernel
theorem dX10_match_98 : decode cX10_match 98 = .ok (.i2l, 1) := by decide +kernel
theorem dX10_match_99 : decode cX10_match 99 = .ok (.invokevirtual 235, 3) := by decide +kernel
theorem dX10_match_102 : decode cX10_match 102 = .ok (.iload 4, 2) := by decide +kernel
theorem dX10_match_104 : decode cX10_match 104 = .ok (.invokestatic 269, 3) := by decide +kernel
theorem dX10_match_107 : decode cX10_match 107 = .ok (.ireturn, 1) := by decide +kernel
theorem dX10_fold_0 : decode cX10_fold 0 = .ok (.iload_n 1, 1) := by decide +kernel
theorem dX10_fold_1 : decode cX10_fold 1 = .ok (.iload_n 2, 1) := by decide +kernel
theorem dX10_fold_2 : decode cX10_fold 2 = .ok (.iload_n 3, 1) := by decide +kernel
theorem dX10_fold_3 : decode cX10_fold 3 = .ok (.invokestatic 272, 3) := by decide +kernel
theorem dX10_fold_6 : decode cX10_fold 6 = .ok (.ifCond .ne 5, 3) := by decide +kernel
theorem dX10_fold_9 : decode cX10_fold 9 = .ok (.iconst (-1), 1) := by decide +kernel
theorem dX10_fold_10 : decode cX10_fold 10 = .ok (.ireturn, 1) := by decide +kernel
theorem dX10_fold_11 : decode cX10_fold 11 = .ok (.aload_n 0, 1) := by decide +kernel
theorem dX10_fold_12 : decode cX10_fold 12 = .ok (.invokevirtual 245, 3) := by decide +kernel
theorem dX10_fold_15 : decode cX10_fold 15 = .ok (.aload_n 0, 1) := by decide +kernel
theorem dX10_fold_16 : decode cX10_fold 16 = .ok (.iload_n 1, 1) := by decide +kernel
theorem dX10_fold_17 : decode cX10_fold 17 = .ok (.iload_n 2, 1) := by decide +kernel
theorem dX10_fold_18 : decode cX10_fold 18 = .ok (.iload_n 3, 1) := by decide +kernel
theorem dX10_fold_19 : decode cX10_fold 19 = .ok (.invokevirtual 291, 3) := by decide +kernel
theorem dX10_fold_22 : decode cX10_fold 22 = .ok (.istore 4, 2) := by decide +kernel
theorem dX10_fold_24 : decode cX10_fold 24 = .ok (.iload_n 1, 1) := by decide +kernel
theorem dX10_fold_25 : decode cX10_fold 25 = .ok (.iload_n 2, 1) := by decide +kernel
theorem dX10_fold_26 : decode cX10_fold 26 = .ok (.iadd, 1) := by decide +kernel
theorem dX10_fold_27 : decode cX10_fold 27 = .ok (.iload_n 3, 1) := by decide +kernel
theorem dX10_fold_28 : decode cX10_fold 28 = .ok (.iadd, 1) := by decide +kernel
theorem dX10_fold_29 : decode cX10_fold 29 = .ok (.iconst 3, 1) := by decide +kernel
theorem dX10_fold_30 : decode cX10_fold 30 = .ok (.idiv, 1) := by decide +kernel
theorem dX10_fold_31 : decode cX10_fold 31 = .ok (.istore 5, 2) := by decide +kernel
theorem dX10_fold_33 : decode cX10_fold 33 = .ok (.aload_n 0, 1) := by decide +kernel
theorem dX10_fold_34 : decode cX10_fold 34 = .ok (.getfield 19, 3) := by decide +kernel
theorem dX10_fold_37 : decode cX10_fold 37 = .ok (.invokevirtual 232, 3) := by decide +kernel
theorem dX10_fold_40 : decode cX10_fold 40 = .ok (.aload_n 0, 1) := by decide +kernel
theorem dX10_fold_41 : decode cX10_fold 41 = .ok (.getfield 19, 3) := by decide +kernel
theorem dX10_fold_44 : decode cX10_fold 44 = .ok (.iload_n 1, 1) := by decide +kernel
theorem dX10_fold_45 : decode cX10_fold 45 = .ok (.iload 5, 2) := by decide +kernel
theorem dX10_fold_47 : decode cX10_fold 47 = .ok (.iload 4, 2) := by decide +kernel
theorem dX10_fold_49 : decode cX10_fold 49 = .ok (.invokestatic 295, 3) := by decide +kernel
theorem dX10_fold_52 : decode cX10_fold 52 = .ok (.i2l, 1) := by decide +kernel
theorem dX10_fold_53 : decode cX10_fold 53 = .ok (.invokevirtual 235, 3) := by decide +kernel
theorem dX10_fold_56 : decode cX10_fold 56 = .ok (.aload_n 0, 1) := by decide +kernel
theorem dX10_fold_57 : decode cX10_fold 57 = .ok (.getfield 19, 3) := by decide +kernel
theorem dX10_fold_60 : decode cX10_fold 60 = .ok (.iload_n 2, 1) := by decide +kernel
theorem dX10_fold_61 : decode cX10_fold 61 = .ok (.iload 5, 2) := by decide +kernel
theorem dX10_fold_63 : decode cX10_fold 63 = .ok (.iload 4, 2) := by decide +kernel
theorem dX10_fold_65 : decode cX10_fold 65 = .ok (.invokestatic 295, 3) := by decide +kernel
theorem dX10_fold_68 : decode cX10_fold 68 = .ok (.i2l, 1) := by decide +kernel
theorem dX10_fold_69 : decode cX10_fold 69 = .ok (.invokevirtual 235, 3) := by decide +kernel
theorem dX10_fold_72 : decode cX10_fold 72 = .ok (.aload_n 0, 1) := by decide +kernel
theorem dX10_fold_73 : decode cX10_fold 73 = .ok (.getfield 19, 3) := by decide +kernel
theorem dX10_fold_76 : decode cX10_fold 76 = .ok (.iload_n 3, 1) := by decide +kernel
theorem dX10_fold_77 : decode cX10_fold 77 = .ok (.iload 5, 2) := by decide +kernel
theorem dX10_fold_79 : decode cX10_fold 79 = .ok (.iload 4, 2) := by decide +kernel
theorem dX10_fold_81 : decode cX10_fold 81 = .ok (.invokestatic 295, 3) := by decide +kernel
theorem dX10_fold_84 : decode cX10_fold 84 = .ok (.i2l, 1) := by decide +kernel
theorem dX10_fold_85 : decode cX10_fold 85 = .ok (.invokevirtual 235, 3) := by decide +kernel
theorem dX10_fold_88 : decode cX10_fold 88 = .ok (.aload_n 0, 1) := by decide +kernel
theorem dX10_fold_89 : decode cX10_fold 89 = .ok (.getfield 19, 3) := by decide +kernel
theorem dX10_fold_92 : decode cX10_fold 92 = .ok (.aload_n 0, 1) := by decide +kernel
theorem dX10_fold_93 : decode cX10_fold 93 = .ok (.iload_n 1, 1) := by decide +kernel
theorem dX10_fold_94 : decode cX10_fold 94 = .ok (.iload_n 2, 1) := by decide +kernel
theorem dX10_fold_95 : decode cX10_fold 95 = .ok (.iload_n 3, 1) := by decide +kernel
theorem dX10_fold_96 : decode cX10_fold 96 = .ok (.iload 4, 2) := by decide +kernel
theorem dX10_fold_98 : decode cX10_fold 98 = .ok (.invokevirtual 298, 3) := by decide +kernel
theorem dX10_fold_101 : decode cX10_fold 101 = .ok (.i2l, 1) := by decide +kernel
theorem dX10_fold_102 : decode cX10_fold 102 = .ok (.invokevirtual 235, 3) := by decide +kernel
theorem dX10_fold_105 : decode cX10_fold 105 = .ok (.iload 4, 2) := by decide +kernel
theorem dX10_fold_107 : decode cX10_fold 107 = .ok (.ireturn, 1) := by decide +kernel
theorem dX10_prints_0 : decode cX10_prints 0 = .ok (.iload_n 1, 1) := by decide +kernel
theorem dX10_prints_1 : decode cX10_prints 1 = .ok (.iload_n 2, 1) := by decide +kernel
theorem dX10_prints_2 : decode cX10_prints 2 = .ok (.iload_n 3, 1) := by decide +kernel
theorem dX10_prints_3 : decode cX10_prints 3 = .ok (.invokestatic 272, 3) := by decide +kernel
theorem dX10_prints_6 : decode cX10_prints 6 = .ok (.ifCond .ne 5, 3) := by decide +kernel
theorem dX10_prints_9 : decode cX10_prints 9 = .ok (.iconst (-1), 1) := by decide +kernel
theorem dX10_prints_10 : decode cX10_prints 10 = .ok (.ireturn, 1) := by decide +kernel
theorem dX10_prints_11 : decode cX10_prints 11 = .ok (.aload_n 0, 1) := by decide +kernel
theorem dX10_prints_12 : decode cX10_prints 12 = .ok (.invokevirtual 245, 3) := by decide +kernel
theorem dX10_prints_15 : decode cX10_prints 15 = .ok (.aload_n 0, 1) := by decide +kernel
theorem dX10_prints_16 : decode cX10_prints 16 = .ok (.iload_n 1, 1) := by decide +kernel
theorem dX10_prints_17 : decode cX10_prints 17 = .ok (.iload_n 2, 1) := by decide +kernel
theorem dX10_prints_18 : decode cX10_prints 18 = .ok (.iload_n 3, 1) := by decide +kernel
theorem dX10_prints_19 : decode cX10_prints 19 = .ok (.invokevirtual 291, 3) := by decide +kernel
theorem dX10_prints_22 : decode cX10_prints 22 = .ok (.istore 4, 2) := by decide +kernel
theorem dX10_prints_24 : decode cX10_prints 24 = .ok (.iload_n 1, 1) := by decide +kernel
theorem dX10_prints_25 : decode cX10_prints 25 = .ok (.iload_n 2, 1) := by decide +kernel
theorem dX10_prints_26 : decode cX10_prints 26 = .ok (.iadd, 1) := by decide +kernel
theorem dX10_prints_27 : decode cX10_prints 27 = .ok (.iload_n 3, 1) := by decide +kernel
theorem dX10_prints_28 : decode cX10_prints 28 = .ok (.iadd, 1) := by decide +kernel
theorem dX10_prints_29 : decode cX10_prints 29 = .ok (.iconst 3, 1) := by decide +kernel
theorem dX10_prints_30 : decode cX10_prints 30 = .ok (.idiv, 1) := by decide +kernel
theorem dX10_prints_31 : decode cX10_prints 31 = .ok (.istore 5, 2) := by decide +kernel
theorem dX10_prints_33 : decode cX10_prints 33 = .ok (.aload_n 0, 1) := by decide +kernel
theorem dX10_prints_34 : decode cX10_prints 34 = .ok (.getfield 61, 3) := by decide +kernel
theorem dX10_prints_37 : decode cX10_prints 37 = .ok (.aload_n 0, 1) := by decide +kernel
theorem dX10_prints_38 : decode cX10_prints 38 = .ok (.getfield 26, 3) := by decide +kernel
theorem dX10_prints_41 : decode cX10_prints 41 = .ok (.aload_n 0, 1) := by decide +kernel
theorem dX10_prints_42 : decode cX10_prints 42 = .ok (.getfield 48, 3) := by decide +kernel
theorem dX10_prints_45 : decode cX10_prints 45 = .ok (.iload_n 1, 1) := by decide +kernel
theorem dX10_prints_46 : decode cX10_prints 46 = .ok (.iload 5, 2) := by decide +kernel
theorem dX10_prints_48 : decode cX10_prints 48 = .ok (.iload 4, 2) := by decide +kernel
theorem dX10_prints_50 : decode cX10_prints 50 = .ok (.invokestatic 295, 3) := by decide +kernel
theorem dX10_prints_53 : decode cX10_prints 53 = .ok (.iload_n 2, 1) := by decide +kernel
theorem dX10_prints_54 : decode cX10_prints 54 = .ok (.iload 5, 2) := by decide +kernel
theorem dX10_prints_56 : decode cX10_prints 56 = .ok (.iload 4, 2) := by decide +kernel
theorem dX10_prints_58 : decode cX10_prints 58 = .ok (.invokestatic 295, 3) := by decide +kernel
theorem dX10_prints_61 : decode cX10_prints 61 = .ok (.iload_n 3, 1) := by decide +kernel
theorem dX10_prints_62 : decode cX10_prints 62 = .ok (.iload 5, 2) := by decide +kernel
theorem dX10_prints_64 : decode cX10_prints 64 = .ok (.iload 4, 2) := by decide +kernel
theorem dX10_prints_66 : decode cX10_prints 66 = .ok (.invokestatic 295, 3) := by decide +kernel
theorem dX10_prints_69 : decode cX10_prints 69 = .ok (.invokevirtual 275, 3) := by decide +kernel
theorem dX10_prints_72 : decode cX10_prints 72 = .ok (.istore 6, 2) := by decide +kernel
theorem dX10_prints_74 : decode cX10_prints 74 = .ok (.aload_n 0, 1) := by decide +kernel
theorem dX10_prints_75 : decode cX10_prints 75 = .ok (.iload 6, 2) := by decide +kernel
theorem dX10_prints_77 : decode cX10_prints 77 = .ok (.invokevirtual 301, 3) := by decide +kernel
theorem dX10_prints_80 : decode cX10_prints 80 = .ok (.istore 7, 2) := by decide +kernel
theorem dX10_prints_82 : decode cX10_prints 82 = .ok (.aload_n 0, 1) := by decide +kernel
theorem dX10_prints_83 : decode cX10_prints 83 = .ok (.getfield 19, 3) := by decide +kernel
theorem dX10_prints_86 : decode cX10_prints 86 = .ok (.invokevirtual 232, 3) := by decide +kernel
theorem dX10_prints_89 : decode cX10_prints 89 = .ok (.aload_n 0, 1) := by decide +kernel
theorem dX10_prints_90 : decode cX10_prints 90 = .ok (.iload 7, 2) := by decide +kernel
theorem dX10_prints_92 : decode cX10_prints 92 = .ok (.invokevirtual 248, 3) := by decide +kernel
theorem dX10_prints_95 : decode cX10_prints 95 = .ok (.aload_n 0, 1) := by decide +kernel
theorem dX10_prints_96 : decode cX10_prints 96 = .ok (.getfield 19, 3) := by decide +kernel
theorem dX10_prints_99 : decode cX10_prints 99 = .ok (.aload_n 0, 1) := by decide +kernel
theorem dX10_prints_100 : decode cX10_prints 100 = .ok (.getfield 48, 3) := by decide +kernel
theorem dX10_prints_103 : decode cX10_prints 103 = .ok (.aload_n 0, 1) := by decide +kernel
theorem dX10_prints_104 : decode cX10_prints 104 = .ok (.getfield 26, 3) := by decide +kernel
theorem dX10_prints_107 : decode cX10_prints 107 = .ok (.iload 7, 2) := by decide +kernel
theorem dX10_prints_109 : decode cX10_prints 109 = .ok (.iload_n 1, 1) := by decide +kernel
theorem dX10_prints_110 : decode cX10_prints 110 = .ok (.iload_n 2, 1) := by decide +kernel
theorem dX10_prints_111 : decode cX10_prints 111 = .ok (.iload_n 3, 1) := by decide +kernel
theorem dX10_prints_112 : decode cX10_prints 112 = .ok (.invokevirtual 304, 3) := by decide +kernel
theorem dX10_prints_115 : decode cX10_prints 115 = .ok (.i2l, 1) := by decide +kernel
theorem dX10_prints_116 : decode cX10_prints 116 = .ok (.invokevirtual 235, 3) := by decide +kernel
theorem dX10_prints_119 : decode cX10_prints 119 = .ok (.iload 7, 2) := by decide +kernel
theorem dX10_prints_121 : decode cX10_prints 121 = .ok (.invokestatic 269, 3) := by decide +kernel
theorem dX10_prints_124 : decode cX10_prints 124 = .ok (.ireturn, 1) := by decide +kernel
theorem dX10_ramp_0 : decode cX10_ramp 0 = .ok (.iload_n 1, 1) := by decide +kernel
theorem dX10_ramp_1 : decode cX10_ramp 1 = .ok (.invokestatic 242, 3) := by decide +kernel
theorem dX10_ramp_4 : decode cX10_ramp 4 = .ok (.istore_n 3, 1) := by decide +kernel
theorem dX10_ramp_5 : decode cX10_ramp 5 = .ok (.iload_n 2, 1) := by decide +kernel
theorem dX10_ramp_6 : decode cX10_ramp 6 = .ok (.invokestatic 242, 3) := by decide +kernel
theorem dX10_ramp_9 : decode cX10_ramp 9 = .ok (.istore 4, 2) := by decide +kernel
theorem dX10_ramp_11 : decode cX10_ramp 11 = .ok (.iload_n 3, 1) := by decide +kernel
theorem dX10_ramp_12 : decode cX10_ramp 12 = .ok (.ifCond .lt 8, 3) := by decide +kernel
theorem dX10_ramp_15 : decode cX10_ramp 15 = .ok (.iload 4, 2) := by decide +kernel
theorem dX10_ramp_17 : decode cX10_ramp 17 = .ok (.ifCond .ge 5, 3) := by decide +kernel
theorem dX10_ramp_20 : decode cX10_ramp 20 = .ok (.iconst (-1), 1) := by decide +kernel
theorem dX10_ramp_21 : decode cX10_ramp 21 = .ok (.ireturn, 1) := by decide +kernel
theorem dX10_ramp_22 : decode cX10_ramp 22 = .ok (.aload_n 0, 1) := by decide +kernel
theorem dX10_ramp_23 : decode cX10_ramp 23 = .ok (.invokevirtual 245, 3) := by decide +kernel
theorem dX10_ramp_26 : decode cX10_ramp 26 = .ok (.aload_n 0, 1) := by decide +kernel
theorem dX10_ramp_27 : decode cX10_ramp 27 = .ok (.getfield 19, 3) := by decide +kernel
theorem dX10_ramp_30 : decode cX10_ramp 30 = .ok (.invokevirtual 232, 3) := by decide +kernel
theorem dX10_ramp_33 : decode cX10_ramp 33 = .ok (.iconst 0, 1) := by decide +kernel
theorem dX10_ramp_34 : decode cX10_ramp 34 = .ok (.istore 5, 2) := by decide +kernel
theorem dX10_ramp_36 : decode cX10_ramp 36 = .ok (.iconst (-1), 1) := by decide +kernel
theorem dX10_ramp_37 : decode cX10_ramp 37 = .ok (.istore 6, 2) := by decide +kernel
theorem dX10_ramp_39 : decode cX10_ramp 39 = .ok (.iconst 0, 1) := by decide +kernel
theorem dX10_ramp_40 : decode cX10_ramp 40 = .ok (.istore 7, 2) := by decide +kernel
theorem dX10_ramp_42 : decode cX10_ramp 42 = .ok (.iload 7, 2) := by decide +kernel
theorem dX10_ramp_44 : decode cX10_ramp 44 = .ok (.bipush 8, 2) := by decide +kernel
theorem dX10_ramp_46 : decode cX10_ramp 46 = .ok (.if_icmp .gt 101, 3) := by decide +kernel
theorem dX10_ramp_49 : decode cX10_ramp 49 = .ok (.aload_n 0, 1) := by decide +kernel
theorem dX10_ramp_50 : decode cX10_ramp 50 = .ok (.getfield 61, 3) := by decide +kernel
theorem dX10_ramp_53 : decode cX10_ramp 53 = .ok (.aload_n 0, 1) := by decide +kernel
theorem dX10_ramp_54 : decode cX10_ramp 54 = .ok (.getfield 26, 3) := by decide +kernel
theorem dX10_ramp_57 : decode cX10_ramp 57 = .ok (.aload_n 0, 1) := by decide +kernel
theorem dX10_ramp_58 : decode cX10_ramp 58 = .ok (.getfield 48, 3) := by decide +kernel
theorem dX10_ramp_61 : decode cX10_ramp 61 = .ok (.aload_n 0, 1) := by decide +kernel
theorem dX10_ramp_62 : decode cX10_ramp 62 = .ok (.getfield 48, 3) := by decide +kernel
theorem dX10_ramp_65 : decode cX10_ramp 65 = .ok (.iload_n 3, 1) := by decide +kernel
theorem dX10_ramp_66 : decode cX10_ramp 66 = .ok (.iload 4, 2) := by decide +kernel
theorem dX10_ramp_68 : decode cX10_ramp 68 = .ok (.iconst 0, 1) := by decide +kernel
theorem dX10_ramp_69 : decode cX10_ramp 69 = .ok (.iload 7, 2) := by decide +kernel
theorem dX10_ramp_71 : decode cX10_ramp 71 = .ok (.invokevirtual 308, 3) := by decide +kernel
theorem dX10_ramp_74 : decode cX10_ramp 74 = .ok (.aload_n 0, 1) := by decide +kernel
theorem dX10_ramp_75 : decode cX10_ramp 75 = .ok (.getfield 48, 3) := by decide +kernel
theorem dX10_ramp_78 : decode cX10_ramp 78 = .ok (.iload_n 3, 1) := by decide +kernel
theorem dX10_ramp_79 : decode cX10_ramp 79 = .ok (.iload 4, 2) := by decide +kernel
theorem dX10_ramp_81 : decode cX10_ramp 81 = .ok (.iconst 1, 1) := by decide +kernel
theorem dX10_ramp_82 : decode cX10_ramp 82 = .ok (.iload 7, 2) := by decide +kernel
theorem dX10_ramp_84 : decode cX10_ramp 84 = .ok (.invokevirtual 308, 3) := by decide +kernel
theorem dX10_ramp_87 : decode cX10_ramp 87 = .ok (.aload_n 0, 1) := by decide +kernel
theorem dX10_ramp_88 : decode cX10_ramp 88 = .ok (.getfield 48, 3) := by decide +kernel
theorem dX10_ramp_91 : decode cX10_ramp 91 = .ok (.iload_n 3, 1) := by decide +kernel
theorem dX10_ramp_92 : decode cX10_ramp 92 = .ok (.iload 4, 2) := by decide +kernel
theorem dX10_ramp_94 : decode cX10_ramp 94 = .ok (.iconst 2, 1) := by decide +kernel
theorem dX10_ramp_95 : decode cX10_ramp 95 = .ok (.iload 7, 2) := by decide +kernel
theorem dX10_ramp_97 : decode cX10_ramp 97 = .ok (.invokevirtual 308, 3) := by decide +kernel
theorem dX10_ramp_100 : decode cX10_ramp 100 = .ok (.invokevirtual 275, 3) := by decide +kernel
theorem dX10_ramp_103 : decode cX10_ramp 103 = .ok (.istore 8, 2) := by decide +kernel
theorem dX10_ramp_105 : decode cX10_ramp 105 = .ok (.iload 6, 2) := by decide +kernel
theorem dX10_ramp_107 : decode cX10_ramp 107 = .ok (.ifCond .lt 17, 3) := by decide +kernel
theorem dX10_ramp_110 : decode cX10_ramp 110 = .ok (.iload 5, 2) := by decide +kernel
theorem dX10_ramp_112 : decode cX10_ramp 112 = .ok (.iload 6, 2) := by decide +kernel
theorem dX10_ramp_114 : decode cX10_ramp 114 = .ok (.iload 8, 2) := by decide +kernel
theorem dX10_ramp_116 : decode cX10_ramp 116 = .ok (.invokestatic 311, 3) := by decide +kernel
theorem dX10_ramp_119 : decode cX10_ramp 119 = .ok (.invokestatic 224, 3) := by decide +kernel
theorem dX10_ramp_122 : decode cX10_ramp 122 = .ok (.istore 5, 2) := by decide +kernel
theorem dX10_ramp_124 : decode cX10_ramp 124 = .ok (.aload_n 0, 1) := by decide +kernel
theorem dX10_ramp_125 : decode cX10_ramp 125 = .ok (.getfield 19, 3) := by decide +kernel
theorem dX10_ramp_128 : decode cX10_ramp 128 = .ok (.iload 8, 2) := by decide +kernel
theorem dX10_ramp_130 : decode cX10_ramp 130 = .ok (.invokestatic 269, 3) := by decide +kernel
theorem dX10_ramp_133 : decode cX10_ramp 133 = .ok (.i2l, 1) := by decide +kernel
theorem dX10_ramp_134 : decode cX10_ramp 134 = .ok (.invokevirtual 235, 3) := by decide +kernel
theorem dX10_ramp_137 : decode cX10_ramp 137 = .ok (.iload 8, 2) := by decide +kernel
theorem dX10_ramp_139 : decode cX10_ramp 139 = .ok (.istore 6, 2) := by decide +kernel
theorem dX10_ramp_141 : decode cX10_ramp 141 = .ok (.iinc 7 1, 3) := by decide +kernel
theorem dX10_ramp_144 : decode cX10_ramp 144 = .ok (.goto (-102), 3) := by decide +kernel
theorem dX10_ramp_147 : decode cX10_ramp 147 = .ok (.iload 5, 2) := by decide +kernel
theorem dX10_ramp_149 : decode cX10_ramp 149 = .ok (.ireturn, 1) := by decide +kernel
theorem dX10_way_0 : decode cX10_way 0 = .ok (.iload_n 1, 1) := by decide +kernel
theorem dX10_way_1 : decode cX10_way 1 = .ok (.invokestatic 242, 3) := by decide +kernel
theorem dX10_way_4 : decode cX10_way 4 = .ok (.istore 4, 2) := by decide +kernel
theorem dX10_way_6 : decode cX10_way 6 = .ok (.iload_n 2, 1) := by decide +kernel
theorem dX10_way_7 : decode cX10_way 7 = .ok (.invokestatic 242, 3) := by decide +kernel
theorem dX10_way_10 : decode cX10_way 10 = .ok (.istore 5, 2) := by decide +kernel
theorem dX10_way_12 : decode cX10_way 12 = .ok (.iload 4, 2) := by decide +kernel
theorem dX10_way_14 : decode cX10_way 14 = .ok (.ifCond .lt 8, 3) := by decide +kernel
theorem dX10_way_17 : decode cX10_way 17 = .ok (.iload 5, 2) := by decide +kernel
theorem dX10_way_19 : decode cX10_way 19 = .ok (.ifCond .ge 5, 3) := by decide +kernel
theorem dX10_way_22 : decode cX10_way 22 = .ok (.iconst (-1), 1) := by decide +kernel
theorem dX10_way_23 : decode cX10_way 23 = .ok (.ireturn, 1) := by decide +kernel
theorem dX10_way_24 : decode cX10_way 24 = .ok (.aload_n 0, 1) := by decide +kernel
theorem dX10_way_25 : decode cX10_way 25 = .ok (.getfield 26, 3) := by decide +kernel
theorem dX10_way_28 : decode cX10_way 28 = .ok (.iload 4, 2) := by decide +kernel
theorem dX10_way_30 : decode cX10_way 30 = .ok (.invokevirtual 314, 3) := by decide +kernel
theorem dX10_way_33 : decode cX10_way 33 = .ok (.ifCond .eq 15, 3) := by decide +kernel
theorem dX10_way_36 : decode cX10_way 36 = .ok (.aload_n 0, 1) := by decide +kernel
theorem dX10_way_37 : decode cX10_way 37 = .ok (.getfield 26, 3) := by decide +kernel
theorem dX10_way_40 : decode cX10_way 40 = .ok (.iload 5, 2) := by decide +kernel
theorem dX10_way_42 : decode cX10_way 42 = .ok (.invokevirtual 314, 3) := by decide +kernel
theorem dX10_way_45 : decode cX10_way 45 = .ok (.ifCond .ne 6, 3) := by decide +kernel
theorem dX10_way_48 : decode cX10_way 48 = .ok (.bipush (-2), 2) := by decide +kernel
theorem dX10_way_50 : decode cX10_way 50 = .ok (.ireturn, 1) := by decide +kernel
theorem dX10_way_51 : decode cX10_way 51 = .ok (.aload_n 0, 1) := by decide +kernel
theorem dX10_way_52 : decode cX10_way 52 = .ok (.invokevirtual 245, 3) := by decide +kernel
theorem dX10_way_55 : decode cX10_way 55 = .ok (.aload_n 0, 1) := by decide +kernel
theorem dX10_way_56 : decode cX10_way 56 = .ok (.iload 5, 2) := by decide +kernel
theorem dX10_way_58 : decode cX10_way 58 = .ok (.iload_n 3, 1) := by decide +kernel
theorem dX10_way_59 : decode cX10_way 59 = .ok (.invokevirtual 317, 3) := by decide +kernel
theorem dX10_way_62 : decode cX10_way 62 = .ok (.aload_n 0, 1) := by decide +kernel
theorem dX10_way_63 : decode cX10_way 63 = .ok (.getfield 79, 3) := by decide +kernel
theorem dX10_way_66 : decode cX10_way 66 = .ok (.iload 4, 2) := by decide +kernel
theorem dX10_way_68 : decode cX10_way 68 = .ok (.iaload, 1) := by decide +kernel
theorem dX10_way_69 : decode cX10_way 69 = .ok (.ifCond .ge 6, 3) := by decide +kernel
theorem dX10_way_72 : decode cX10_way 72 = .ok (.bipush (-2), 2) := by decide +kernel
theorem dX10_way_74 : decode cX10_way 74 = .ok (.ireturn, 1) := by decide +kernel
theorem dX10_way_75 : decode cX10_way 75 = .ok (.aload_n 0, 1) := by decide +kernel
theorem dX10_way_76 : decode cX10_way 76 = .ok (.getfield 19, 3) := by decide +kernel
theorem dX10_way_79 : decode cX10_way 79 = .ok (.invokevirtual 232, 3) := by decide +kernel
theorem dX10_way_82 : decode cX10_way 82 = .ok (.aload_n 0, 1) := by decide +kernel
theorem dX10_way_83 : decode cX10_way 83 = .ok (.getfield 79, 3) := by decide +kernel
theorem dX10_way_86 : decode cX10_way 86 = .ok (.iload 4, 2) := by decide +kernel
theorem dX10_way_88 : decode cX10_way 88 = .ok (.iaload, 1) := by decide +kernel
theorem dX10_way_89 : decode cX10_way 89 = .ok (.ifCond .le 21, 3) := by decide +kernel
theorem dX10_way_92 : decode cX10_way 92 = .ok (.aload_n 0, 1) := by decide +kernel
theorem dX10_way_93 : decode cX10_way 93 = .ok (.getfield 19, 3) := by decide +kernel
theorem dX10_way_96 : decode cX10_way 96 = .ok (.aload_n 0, 1) := by decide +kernel
theorem dX10_way_97 : decode cX10_way 97 = .ok (.iload 4, 2) := by decide +kernel
theorem dX10_way_99 : decode cX10_way 99 = .ok (.iload_n 3, 1) := by decide +kernel
theorem dX10_way_100 : decode cX10_way 100 = .ok (.invokevirtual 321, 3) := by decide +kernel
theorem dX10_way_103 : decode cX10_way 103 = .ok (.invokestatic 269, 3) := by decide +kernel
theorem dX10_way_106 : decode cX10_way 106 = .ok (.i2l, 1) := by decide +kernel
theorem dX10_way_107 : decode cX10_way 107 = .ok (.invokevirtual 235, 3) := by decide +kernel
theorem dX10_way_110 : decode cX10_way 110 = .ok (.aload_n 0, 1) := by decide +kernel
theorem dX10_way_111 : decode cX10_way 111 = .ok (.getfield 79, 3) := by decide +kernel
theorem dX10_way_114 : decode cX10_way 114 = .ok (.iload 4, 2) := by decide +kernel
theorem dX10_way_116 : decode cX10_way 116 = .ok (.iaload, 1) := by decide +kernel
theorem dX10_way_117 : decode cX10_way 117 = .ok (.ireturn, 1) := by decide +kernel
theorem dX10_rises_0 : decode cX10_rises 0 = .ok (.iload_n 1, 1) := by decide +kernel
theorem dX10_rises_1 : decode cX10_rises 1 = .ok (.invokestatic 126, 3) := by decide +kernel
theorem dX10_rises_4 : decode cX10_rises 4 = .ok (.ifCond .ne 5, 3) := by decide +kernel
theorem dX10_rises_7 : decode cX10_rises 7 = .ok (.iconst (-1), 1) := by decide +kernel
theorem dX10_rises_8 : decode cX10_rises 8 = .ok (.ireturn, 1) := by decide +kernel
theorem dX10_rises_9 : decode cX10_rises 9 = .ok (.aload_n 0, 1) := by decide +kernel
theorem dX10_rises_10 : decode cX10_rises 10 = .ok (.invokevirtual 245, 3) := by decide +kernel
theorem dX10_rises_13 : decode cX10_rises 13 = .ok (.aload_n 0, 1) := by decide +kernel
theorem dX10_rises_14 : decode cX10_rises 14 = .ok (.getfield 48, 3) := by decide +kernel
theorem dX10_rises_17 : decode cX10_rises 17 = .ok (.iload_n 1, 1) := by decide +kernel
theorem dX10_rises_18 : decode cX10_rises 18 = .ok (.invokevirtual 324, 3) := by decide +kernel
theorem dX10_rises_21 : decode cX10_rises 21 = .ok (.istore_n 2, 1) := by decide +kernel
theorem dX10_rises_22 : decode cX10_rises 22 = .ok (.aload_n 0, 1) := by decide +kernel
theorem dX10_rises_23 : decode cX10_rises 23 = .ok (.getfield 19, 3) := by decide +kernel
theorem dX10_rises_26 : decode cX10_rises 26 = .ok (.invokevirtual 232, 3) := by decide +kernel
theorem dX10_rises_29 : decode cX10_rises 29 = .ok (.iload_n 2, 1) := by decide +kernel
theorem dX10_rises_30 : decode cX10_rises 30 = .ok (.ifCond .le 34, 3) := by decide +kernel
theorem dX10_rises_33 : decode cX10_rises 33 = .ok (.aload_n 0, 1) := by decide +kernel
theorem dX10_rises_34 : decode cX10_rises 34 = .ok (.getfield 48, 3) := by decide +kernel
theorem dX10_rises_37 : decode cX10_rises 37 = .ok (.iload_n 1, 1) := by decide +kernel
theorem dX10_rises_38 : decode cX10_rises 38 = .ok (.invokevirtual 327, 3) := by decide +kernel
theorem dX10_rises_41 : decode cX10_rises 41 = .ok (.istore_n 3, 1) := by decide +kernel
theorem dX10_rises_42 : decode cX10_rises 42 = .ok (.aload_n 0, 1) := by decide +kernel
theorem dX10_rises_43 : decode cX10_rises 43 = .ok (.getfield 19, 3) := by decide +kernel
theorem dX10_rises_46 : decode cX10_rises 46 = .ok (.iload_n 3, 1) := by decide +kernel
theorem dX10_rises_47 : decode cX10_rises 47 = .ok (.iconst 3, 1) := by decide +kernel
theorem dX10_rises_48 : decode cX10_rises 48 = .ok (.idiv, 1) := by decide +kernel
theorem dX10_rises_49 : decode cX10_rises 49 = .ok (.i2l, 1) := by decide +kernel
theorem dX10_rises_50 : decode cX10_rises 50 = .ok (.invokevirtual 235, 3) := by decide +kernel
theorem dX10_rises_53 : decode cX10_rises 53 = .ok (.aload_n 0, 1) := by decide +kernel
theorem dX10_rises_54 : decode cX10_rises 54 = .ok (.getfield 19, 3) := by decide +kernel
theorem dX10_rises_57 : decode cX10_rises 57 = .ok (.iload_n 3, 1) := by decide +kernel
theorem dX10_rises_58 : decode cX10_rises 58 = .ok (.iconst 3, 1) := by decide +kernel
theorem dX10_rises_59 : decode cX10_rises 59 = .ok (.irem, 1) := by decide +kernel
theorem dX10_rises_60 : decode cX10_rises 60 = .ok (.i2l, 1) := by decide +kernel
theorem dX10_rises_61 : decode cX10_rises 61 = .ok (.invokevirtual 235, 3) := by decide +kernel
theorem dX10_rises_64 : decode cX10_rises 64 = .ok (.iload_n 2, 1) := by decide +kernel
theorem dX10_rises_65 : decode cX10_rises 65 = .ok (.ireturn, 1) := by decide +kernel
theorem dX10_reach_0 : decode cX10_reach 0 = .ok (.iload_n 1, 1) := by decide +kernel
theorem dX10_reach_1 : decode cX10_reach 1 = .ok (.invokestatic 170, 3) := by decide +kernel
theorem dX10_reach_4 : decode cX10_reach 4 = .ok (.ifCond .ne 5, 3) := by decide +kernel
theorem dX10_reach_7 : decode cX10_reach 7 = .ok (.iconst (-1), 1) := by decide +kernel
theorem dX10_reach_8 : decode cX10_reach 8 = .ok (.ireturn, 1) := by decide +kernel
theorem dX10_reach_9 : decode cX10_reach 9 = .ok (.aload_n 0, 1) := by decide +kernel
theorem dX10_reach_10 : decode cX10_reach 10 = .ok (.invokevirtual 245, 3) := by decide +kernel
theorem dX10_reach_13 : decode cX10_reach 13 = .ok (.iconst 0, 1) := by decide +kernel
theorem dX10_reach_14 : decode cX10_reach 14 = .ok (.istore_n 2, 1) := by decide +kernel
theorem dX10_reach_15 : decode cX10_reach 15 = .ok (.iconst 0, 1) := by decide +kernel
theorem dX10_reach_16 : decode cX10_reach 16 = .ok (.istore_n 3, 1) := by decide +kernel
theorem dX10_reach_17 : decode cX10_reach 17 = .ok (.iconst 0, 1) := by decide +kernel
theorem dX10_reach_18 : decode cX10_reach 18 = .ok (.istore 4, 2) := by decide +kernel
theorem dX10_reach_20 : decode cX10_reach 20 = .ok (.iload 4, 2) := by decide +kernel
theorem dX10_reach_22 : decode cX10_reach 22 = .ok (.aload_n 0, 1) := by decide +kernel
theorem dX10_reach_23 : decode cX10_reach 23 = .ok (.getfield 61, 3) := by decide +kernel
theorem dX10_reach_26 : decode cX10_reach 26 = .ok (.getfield 330, 3) := by decide +kernel
theorem dX10_reach_29 : decode cX10_reach 29 = .ok (.if_icmp .ge 71, 3) := by decide +kernel
theorem dX10_reach_32 : decode cX10_reach 32 = .ok (.aload_n 0, 1) := by decide +kernel
theorem dX10_reach_33 : decode cX10_reach 33 = .ok (.getfield 61, 3) := by decide +kernel
theorem dX10_reach_36 : decode cX10_reach 36 = .ok (.getfield 333, 3) := by decide +kernel
theorem dX10_reach_39 : decode cX10_reach 39 = .ok (.iload 4, 2) := by decide +kernel
theorem dX10_reach_41 : decode cX10_reach 41 = .ok (.iaload, 1) := by decide +kernel
theorem dX10_reach_42 : decode cX10_reach 42 = .ok (.istore 5, 2) := by decide +kernel
theorem dX10_reach_44 : decode cX10_reach 44 = .ok (.aload_n 0, 1) := by decide +kernel
theorem dX10_reach_45 : decode cX10_reach 45 = .ok (.getfield 48, 3) := by decide +kernel
theorem dX10_reach_48 : decode cX10_reach 48 = .ok (.iload 5, 2) := by decide +kernel
theorem dX10_reach_50 : decode cX10_reach 50 = .ok (.iload_n 1, 1) := by decide +kernel
theorem dX10_reach_51 : decode cX10_reach 51 = .ok (.invokevirtual 336, 3) := by decide +kernel
theorem dX10_reach_54 : decode cX10_reach 54 = .ok (.aload_n 0, 1) := by decide +kernel
theorem dX10_reach_55 : decode cX10_reach 55 = .ok (.getfield 48, 3) := by decide +kernel
theorem dX10_reach_58 : decode cX10_reach 58 = .ok (.iload_n 2, 1) := by decide +kernel
theorem dX10_reach_59 : decode cX10_reach 59 = .ok (.iload_n 1, 1) := by decide +kernel
theorem dX10_reach_60 : decode cX10_reach 60 = .ok (.invokevirtual 336, 3) := by decide +kernel
theorem dX10_reach_63 : decode cX10_reach 63 = .ok (.if_icmp .ge 6, 3) := by decide +kernel
theorem dX10_reach_66 : decode cX10_reach 66 = .ok (.iload 5, 2) := by decide +kernel
theorem dX10_reach_68 : decode cX10_reach 68 = .ok (.istore_n 2, 1) := by decide +kernel
theorem dX10_reach_69 : decode cX10_reach 69 = .ok (.aload_n 0, 1) := by decide +kernel
theorem dX10_reach_70 : decode cX10_reach 70 = .ok (.getfield 48, 3) := by decide +kernel
theorem dX10_reach_73 : decode cX10_reach 73 = .ok (.iload 5, 2) := by decide +kernel
theorem dX10_reach_75 : decode cX10_reach 75 = .ok (.iload_n 1, 1) := by decide +kernel
theorem dX10_reach_76 : decode cX10_reach 76 = .ok (.invokevirtual 336, 3) := by decide +kernel
theorem dX10_reach_79 : decode cX10_reach 79 = .ok (.aload_n 0, 1) := by decide +kernel
theorem dX10_reach_80 : decode cX10_reach 80 = .ok (.getfield 48, 3) := by decide +kernel
theorem dX10_reach_83 : decode cX10_reach 83 = .ok (.iload_n 3, 1) := by decide +kernel
theorem dX10_reach_84 : decode cX10_reach 84 = .ok (.iload_n 1, 1) := by decide +kernel
theorem dX10_reach_85 : decode cX10_reach 85 = .ok (.invokevirtual 336, 3) := by decide +kernel
theorem dX10_reach_88 : decode cX10_reach 88 = .ok (.if_icmp .le 6, 3) := by decide +kernel
theorem dX10_reach_91 : decode cX10_reach 91 = .ok (.iload 5, 2) := by decide +kernel
theorem dX10_reach_93 : decode cX10_reach 93 = .ok (.istore_n 3, 1) := by decide +kernel
theorem dX10_reach_94 : decode cX10_reach 94 = .ok (.iinc 4 1, 3) := by decide +kernel
theorem dX10_reach_97 : decode cX10_reach 97 = .ok (.goto (-77), 3) := by decide +kernel
theorem dX10_reach_100 : decode cX10_reach 100 = .ok (.aload_n 0, 1) := by decide +kernel
theorem dX10_reach_101 : decode cX10_reach 101 = .ok (.getfield 19, 3) := by decide +kernel
theorem dX10_reach_104 : decode cX10_reach 104 = .ok (.invokevirtual 232, 3) := by decide +kernel
theorem dX10_reach_107 : decode cX10_reach 107 = .ok (.aload_n 0, 1) := by decide +kernel
theorem dX10_reach_108 : decode cX10_reach 108 = .ok (.getfield 19, 3) := by decide +kernel
theorem dX10_reach_111 : decode cX10_reach 111 = .ok (.aload_n 0, 1) := by decide +kernel
theorem dX10_reach_112 : decode cX10_reach 112 = .ok (.getfield 48, 3) := by decide +kernel
theorem dX10_reach_115 : decode cX10_reach 115 = .ok (.iload_n 2, 1) := by decide +kernel
theorem dX10_reach_116 : decode cX10_reach 116 = .ok (.iload_n 1, 1) := by decide +kernel
theorem dX10_reach_117 : decode cX10_reach 117 = .ok (.invokevirtual 336, 3) := by decide +kernel
theorem dX10_reach_120 : decode cX10_reach 120 = .ok (.i2l, 1) := by decide +kernel
theorem dX10_reach_121 : decode cX10_reach 121 = .ok (.invokevirtual 235, 3) := by decide +kernel
theorem dX10_reach_124 : decode cX10_reach 124 = .ok (.aload_n 0, 1) := by decide +kernel
theorem dX10_reach_125 : decode cX10_reach 125 = .ok (.getfield 19, 3) := by decide +kernel
theorem dX10_reach_128 : decode cX10_reach 128 = .ok (.iload_n 2, 1) := by decide +kernel
theorem dX10_reach_129 : decode cX10_reach 129 = .ok (.invokestatic 269, 3) := by decide +kernel
theorem dX10_reach_132 : decode cX10_reach 132 = .ok (.i2l, 1) := by decide +kernel
theorem dX10_reach_133 : decode cX10_reach 133 = .ok (.invokevirtual 235, 3) := by decide +kernel
theorem dX10_reach_136 : decode cX10_reach 136 = .ok (.aload_n 0, 1) := by decide +kernel
theorem dX10_reach_137 : decode cX10_reach 137 = .ok (.getfield 19, 3) := by decide +kernel
theorem dX10_reach_140 : decode cX10_reach 140 = .ok (.aload_n 0, 1) := by decide +kernel
theorem dX10_reach_141 : decode cX10_reach 141 = .ok (.getfield 48, 3) := by decide +kernel
theorem dX10_reach_144 : decode cX10_reach 144 = .ok (.iload_n 3, 1) := by decide +kernel
theorem dX10_reach_145 : decode cX10_reach 145 = .ok (.iload_n 1, 1) := by decide +kernel
theorem dX10_reach_146 : decode cX10_reach 146 = .ok (.invokevirtual 336, 3) := by decide +kernel
theorem dX10_reach_149 : decode cX10_reach 149 = .ok (.i2l, 1) := by decide +kernel
theorem dX10_reach_150 : decode cX10_reach 150 = .ok (.invokevirtual 235, 3) := by decide +kernel
theorem dX10_reach_153 : decode cX10_reach 153 = .ok (.aload_n 0, 1) := by decide +kernel
theorem dX10_reach_154 : decode cX10_reach 154 = .ok (.getfield 19, 3) := by decide +kernel
theorem dX10_reach_157 : decode cX10_reach 157 = .ok (.iload_n 3, 1) := by decide +kernel
theorem dX10_reach_158 : decode cX10_reach 158 = .ok (.invokestatic 269, 3) := by decide +kernel
theorem dX10_reach_161 : decode cX10_reach 161 = .ok (.i2l, 1) := by decide +kernel
theorem dX10_reach_162 : decode cX10_reach 162 = .ok (.invokevirtual 235, 3) := by decide +kernel
theorem dX10_reach_165 : decode cX10_reach 165 = .ok (.aload_n 0, 1) := by decide +kernel
theorem dX10_reach_166 : decode cX10_reach 166 = .ok (.getfield 48, 3) := by decide +kernel
theorem dX10_reach_169 : decode cX10_reach 169 = .ok (.iload_n 3, 1) := by decide +kernel
theorem dX10_reach_170 : decode cX10_reach 170 = .ok (.iload_n 1, 1) := by decide +kernel
theorem dX10_reach_171 : decode cX10_reach 171 = .ok (.invokevirtual 336, 3) := by decide +kernel
theorem dX10_reach_174 : decode cX10_reach 174 = .ok (.aload_n 0, 1) := by decide +kernel
theorem dX10_reach_175 : decode cX10_reach 175 = .ok (.getfield 48, 3) := by decide +kernel
theorem dX10_reach_178 : decode cX10_reach 178 = .ok (.iload_n 2, 1) := by decide +kernel
theorem dX10_reach_179 : decode cX10_reach 179 = .ok (.iload_n 1, 1) := by decide +kernel
theorem dX10_reach_180 : decode cX10_reach 180 = .ok (.invokevirtual 336, 3) := by decide +kernel
theorem dX10_reach_183 : decode cX10_reach 183 = .ok (.isub, 1) := by decide +kernel
theorem dX10_reach_184 : decode cX10_reach 184 = .ok (.ireturn, 1) := by decide +kernel
theorem dX10_spread_0 : decode cX10_spread 0 = .ok (.aload_n 0, 1) := by decide +kernel
theorem dX10_spread_1 : decode cX10_spread 1 = .ok (.invokevirtual 245, 3) := by decide +kernel
theorem dX10_spread_4 : decode cX10_spread 4 = .ok (.aload_n 0, 1) := by decide +kernel
theorem dX10_spread_5 : decode cX10_spread 5 = .ok (.getfield 79, 3) := by decide +kernel
theorem dX10_spread_8 : decode cX10_spread 8 = .ok (.iconst (-1), 1) := by decide +kernel
theorem dX10_spread_9 : decode cX10_spread 9 = .ok (.invokestatic 339, 3) := by decide +kernel
theorem dX10_spread_12 : decode cX10_spread 12 = .ok (.aload_n 0, 1) := by decide +kernel
theorem dX10_spread_13 : decode cX10_spread 13 = .ok (.getfield 86, 3) := by decide +kernel
theorem dX10_spread_16 : decode cX10_spread 16 = .ok (.iconst 0, 1) := by decide +kernel
theorem dX10_spread_17 : decode cX10_spread 17 = .ok (.invokestatic 339, 3) := by decide +kernel
theorem dX10_spread_20 : decode cX10_spread 20 = .ok (.iconst 0, 1) := by decide +kernel
theorem dX10_spread_21 : decode cX10_spread 21 = .ok (.istore_n 1, 1) := by decide +kernel
theorem dX10_spread_22 : decode cX10_spread 22 = .ok (.iconst 0, 1) := by decide +kernel
theorem dX10_spread_23 : decode cX10_spread 23 = .ok (.istore_n 2, 1) := by decide +kernel
theorem dX10_spread_24 : decode cX10_spread 24 = .ok (.iload_n 2, 1) := by decide +kernel
theorem dX10_spread_25 : decode cX10_spread 25 = .ok (.aload_n 0, 1) := by decide +kernel
theorem dX10_spread_26 : decode cX10_spread 26 = .ok (.getfield 61, 3) := by decide +kernel
theorem dX10_spread_29 : decode cX10_spread 29 = .ok (.getfield 330, 3) := by decide +kernel
theorem dX10_spread_32 : decode cX10_spread 32 = .ok (.if_icmp .ge 46, 3) := by decide +kernel
theorem dX10_spread_35 : decode cX10_spread 35 = .ok (.aload_n 0, 1) := by decide +kernel
theorem dX10_spread_36 : decode cX10_spread 36 = .ok (.getfield 61, 3) := by decide +kernel
theorem dX10_spread_39 : decode cX10_spread 39 = .ok (.getfield 333, 3) := by decide +kernel
theorem dX10_spread_42 : decode cX10_spread 42 = .ok (.iload_n 2, 1) := by decide +kernel
theorem dX10_spread_43 : decode cX10_spread 43 = .ok (.iaload, 1) := by decide +kernel
theorem dX10_spread_44 : decode cX10_spread 44 = .ok (.istore_n 3, 1) := by decide +kernel
theorem dX10_spread_45 : decode cX10_spread 45 = .ok (.aload_n 0, 1) := by decide +kernel
theorem dX10_spread_46 : decode cX10_spread 46 = .ok (.iload_n 3, 1) := by decide +kernel
theorem dX10_spread_47 : decode cX10_spread 47 = .ok (.invokevirtual 345, 3) := by decide +kernel
theorem dX10_spread_50 : decode cX10_spread 50 = .ok (.istore 4, 2) := by decide +kernel
theorem dX10_spread_52 : decode cX10_spread 52 = .ok (.iload 4, 2) := by decide +kernel
theorem dX10_spread_54 : decode cX10_spread 54 = .ok (.iload_n 3, 1) := by decide +kernel
theorem dX10_spread_55 : decode cX10_spread 55 = .ok (.if_icmp .ne 6, 3) := by decide +kernel
theorem dX10_spread_58 : decode cX10_spread 58 = .ok (.iinc 1 1, 3) := by decide +kernel
theorem dX10_spread_61 : decode cX10_spread 61 = .ok (.aload_n 0, 1) := by decide +kernel
theorem dX10_spread_62 : decode cX10_spread 62 = .ok (.getfield 86, 3) := by decide +kernel
theorem dX10_spread_65 : decode cX10_spread 65 = .ok (.iload 4, 2) := by decide +kernel
theorem dX10_spread_67 : decode cX10_spread 67 = .ok (.dup2, 1) := by decide +kernel
theorem dX10_spread_68 : decode cX10_spread 68 = .ok (.iaload, 1) := by decide +kernel
theorem dX10_spread_69 : decode cX10_spread 69 = .ok (.iconst 1, 1) := by decide +kernel
theorem dX10_spread_70 : decode cX10_spread 70 = .ok (.iadd, 1) := by decide +kernel
theorem dX10_spread_71 : decode cX10_spread 71 = .ok (.iastore, 1) := by decide +kernel
theorem dX10_spread_72 : decode cX10_spread 72 = .ok (.iinc 2 1, 3) := by decide +kernel
theorem dX10_spread_75 : decode cX10_spread 75 = .ok (.goto (-51), 3) := by decide +kernel
theorem dX10_spread_78 : decode cX10_spread 78 = .ok (.iconst 0, 1) := by decide +kernel
theorem dX10_spread_79 : decode cX10_spread 79 = .ok (.istore_n 2, 1) := by decide +kernel
theorem dX10_spread_80 : decode cX10_spread 80 = .ok (.iconst 1, 1) := by decide +kernel
theorem dX10_spread_81 : decode cX10_spread 81 = .ok (.istore_n 3, 1) := by decide +kernel
theorem dX10_spread_82 : decode cX10_spread 82 = .ok (.iload_n 3, 1) := by decide +kernel
theorem dX10_spread_83 : decode cX10_spread 83 = .ok (.sipush 6561, 3) := by decide +kernel
theorem dX10_spread_86 : decode cX10_spread 86 = .ok (.if_icmp .ge 26, 3) := by decide +kernel
theorem dX10_spread_89 : decode cX10_spread 89 = .ok (.aload_n 0, 1) := by decide +kernel
theorem dX10_spread_90 : decode cX10_spread 90 = .ok (.getfield 86, 3) := by decide +kernel
theorem dX10_spread_93 : decode cX10_spread 93 = .ok (.iload_n 3, 1) := by decide +kernel
theorem dX10_spread_94 : decode cX10_spread 94 = .ok (.iaload, 1) := by decide +kernel
theorem dX10_spread_95 : decode cX10_spread 95 = .ok (.aload_n 0, 1) := by decide +kernel
theorem dX10_spread_96 : decode cX10_spread 96 = .ok (.getfield 86, 3) := by decide +kernel
theorem dX10_spread_99 : decode cX10_spread 99 = .ok (.iload_n 2, 1) := by decide +kernel
theorem dX10_spread_100 : decode cX10_spread 100 = .ok (.iaload, 1) := by decide +kernel
theorem dX10_spread_101 : decode cX10_spread 101 = .ok (.if_icmp .le 5, 3) := by decide +kernel
theorem dX10_spread_104 : decode cX10_spread 104 = .ok (.iload_n 3, 1) := by decide +kernel
theorem dX10_spread_105 : decode cX10_spread 105 = .ok (.istore_n 2, 1) := by decide +kernel
theorem dX10_spread_106 : decode cX10_spread 106 = .ok (.iinc 3 1, 3) := by decide +kernel
theorem dX10_spread_109 : decode cX10_spread 109 = .ok (.goto (-27), 3) := by decide +kernel
theorem dX10_spread_112 : decode cX10_spread 112 = .ok (.aload_n 0, 1) := by decide +kernel
theorem dX10_spread_113 : decode cX10_spread 113 = .ok (.getfield 19, 3) := by decide +kernel
theorem dX10_spread_116 : decode cX10_spread 116 = .ok (.invokevirtual 232, 3) := by decide +kernel
theorem dX10_spread_119 : decode cX10_spread 119 = .ok (.aload_n 0, 1) := by decide +kernel
theorem dX10_spread_120 : decode cX10_spread 120 = .ok (.getfield 19, 3) := by decide +kernel
theorem dX10_spread_123 : decode cX10_spread 123 = .ok (.aload_n 0, 1) := by decide +kernel
theorem dX10_spread_124 : decode cX10_spread 124 = .ok (.getfield 86, 3) := by decide +kernel
theorem dX10_spread_127 : decode cX10_spread 127 = .ok (.iload_n 2, 1) := by decide +kernel
theorem dX10_spread_128 : decode cX10_spread 128 = .ok (.iaload, 1) := by decide +kernel
theorem dX10_spread_129 : decode cX10_spread 129 = .ok (.i2l, 1) := by decide +kernel
theorem dX10_spread_130 : decode cX10_spread 130 = .ok (.invokevirtual 235, 3) := by decide +kernel
theorem dX10_spread_133 : decode cX10_spread 133 = .ok (.aload_n 0, 1) := by decide +kernel
theorem dX10_spread_134 : decode cX10_spread 134 = .ok (.getfield 19, 3) := by decide +kernel
theorem dX10_spread_137 : decode cX10_spread 137 = .ok (.iload_n 2, 1) := by decide +kernel
theorem dX10_spread_138 : decode cX10_spread 138 = .ok (.invokestatic 269, 3) := by decide +kernel
theorem dX10_spread_141 : decode cX10_spread 141 = .ok (.i2l, 1) := by decide +kernel
theorem dX10_spread_142 : decode cX10_spread 142 = .ok (.invokevirtual 235, 3) := by decide +kernel
theorem dX10_spread_145 : decode cX10_spread 145 = .ok (.aload_n 0, 1) := by decide +kernel
theorem dX10_spread_146 : decode cX10_spread 146 = .ok (.getfield 19, 3) := by decide +kernel
theorem dX10_spread_149 : decode cX10_spread 149 = .ok (.aload_n 0, 1) := by decide +kernel
theorem dX10_spread_150 : decode cX10_spread 150 = .ok (.getfield 61, 3) := by decide +kernel
theorem dX10_spread_153 : decode cX10_spread 153 = .ok (.getfield 330, 3) := by decide +kernel
theorem dX10_spread_156 : decode cX10_spread 156 = .ok (.i2l, 1) := by decide +kernel
theorem dX10_spread_157 : decode cX10_spread 157 = .ok (.invokevirtual 235, 3) := by decide +kernel
theorem dX10_spread_160 : decode cX10_spread 160 = .ok (.iload_n 1, 1) := by decide +kernel
theorem dX10_spread_161 : decode cX10_spread 161 = .ok (.ireturn, 1) := by decide +kernel
theorem dX10_odds_0 : decode cX10_odds 0 = .ok (.iload_n 1, 1) := by decide +kernel
theorem dX10_odds_1 : decode cX10_odds 1 = .ok (.iload_n 2, 1) := by decide +kernel
theorem dX10_odds_2 : decode cX10_odds 2 = .ok (.iload_n 3, 1) := by decide +kernel
theorem dX10_odds_3 : decode cX10_odds 3 = .ok (.invokestatic 272, 3) := by decide +kernel
theorem dX10_odds_6 : decode cX10_odds 6 = .ok (.ifCond .ne 5, 3) := by decide +kernel
theorem dX10_odds_9 : decode cX10_odds 9 = .ok (.iconst (-1), 1) := by decide +kernel
theorem dX10_odds_10 : decode cX10_odds 10 = .ok (.ireturn, 1) := by decide +kernel
theorem dX10_odds_11 : decode cX10_odds 11 = .ok (.aload_n 0, 1) := by decide +kernel
theorem dX10_odds_12 : decode cX10_odds 12 = .ok (.invokevirtual 245, 3) := by decide +kernel
theorem dX10_odds_15 : decode cX10_odds 15 = .ok (.iconst 0, 1) := by decide +kernel
theorem dX10_odds_16 : decode cX10_odds 16 = .ok (.istore 5, 2) := by decide +kernel
theorem dX10_odds_18 : decode cX10_odds 18 = .ok (.iconst 0, 1) := by decide +kernel
theorem dX10_odds_19 : decode cX10_odds 19 = .ok (.istore 6, 2) := by decide +kernel
theorem dX10_odds_21 : decode cX10_odds 21 = .ok (.iload 6, 2) := by decide +kernel
theorem dX10_odds_23 : decode cX10_odds 23 = .ok (.aload_n 0, 1) := by decide +kernel
theorem dX10_odds_24 : decode cX10_odds 24 = .ok (.getfield 61, 3) := by decide +kernel
theorem dX10_odds_27 : decode cX10_odds 27 = .ok (.getfield 330, 3) := by decide +kernel
theorem dX10_odds_30 : decode cX10_odds 30 = .ok (.if_icmp .ge 41, 3) := by decide +kernel
theorem dX10_odds_33 : decode cX10_odds 33 = .ok (.aload_n 0, 1) := by decide +kernel
theorem dX10_odds_34 : decode cX10_odds 34 = .ok (.getfield 48, 3) := by decide +kernel
theorem dX10_odds_37 : decode cX10_odds 37 = .ok (.aload_n 0, 1) := by decide +kernel
theorem dX10_odds_38 : decode cX10_odds 38 = .ok (.getfield 26, 3) := by decide +kernel
theorem dX10_odds_41 : decode cX10_odds 41 = .ok (.aload_n 0, 1) := by decide +kernel
theorem dX10_odds_42 : decode cX10_odds 42 = .ok (.getfield 61, 3) := by decide +kernel
theorem dX10_odds_45 : decode cX10_odds 45 = .ok (.getfield 333, 3) := by decide +kernel
theorem dX10_odds_48 : decode cX10_odds 48 = .ok (.iload 6, 2) := by decide +kernel
theorem dX10_odds_50 : decode cX10_odds 50 = .ok (.iaload, 1) := by decide +kernel
theorem dX10_odds_51 : decode cX10_odds 51 = .ok (.iload_n 1, 1) := by decide +kernel
theorem dX10_odds_52 : decode cX10_odds 52 = .ok (.iload_n 2, 1) := by decide +kernel
theorem dX10_odds_53 : decode cX10_odds 53 = .ok (.iload_n 3, 1) := by decide +kernel
theorem dX10_odds_54 : decode cX10_odds 54 = .ok (.invokevirtual 304, 3) := by decide +kernel
theorem dX10_odds_57 : decode cX10_odds 57 = .ok (.iload 4, 2) := by decide +kernel
theorem dX10_odds_59 : decode cX10_odds 59 = .ok (.if_icmp .gt 6, 3) := by decide +kernel
theorem dX10_odds_62 : decode cX10_odds 62 = .ok (.iinc 5 1, 3) := by decide +kernel
theorem dX10_odds_65 : decode cX10_odds 65 = .ok (.iinc 6 1, 3) := by decide +kernel
theorem dX10_odds_68 : decode cX10_odds 68 = .ok (.goto (-47), 3) := by decide +kernel
theorem dX10_odds_71 : decode cX10_odds 71 = .ok (.aload_n 0, 1) := by decide +kernel
theorem dX10_odds_72 : decode cX10_odds 72 = .ok (.getfield 19, 3) := by decide +kernel
theorem dX10_odds_75 : decode cX10_odds 75 = .ok (.invokevirtual 232, 3) := by decide +kernel
theorem dX10_odds_78 : decode cX10_odds 78 = .ok (.aload_n 0, 1) := by decide +kernel
theorem dX10_odds_79 : decode cX10_odds 79 = .ok (.iload 5, 2) := by decide +kernel
theorem dX10_odds_81 : decode cX10_odds 81 = .ok (.aload_n 0, 1) := by decide +kernel
theorem dX10_odds_82 : decode cX10_odds 82 = .ok (.getfield 61, 3) := by decide +kernel
theorem dX10_odds_85 : decode cX10_odds 85 = .ok (.getfield 330, 3) := by decide +kernel
theorem dX10_odds_88 : decode cX10_odds 88 = .ok (.invokevirtual 348, 3) := by decide +kernel
theorem dX10_odds_91 : decode cX10_odds 91 = .ok (.iconst 0, 1) := by decide +kernel
theorem dX10_odds_92 : decode cX10_odds 92 = .ok (.ireturn, 1) := by decide +kernel
theorem dX10_refresh_0 : decode cX10_refresh 0 = .ok (.aload_n 0, 1) := by decide +kernel
theorem dX10_refresh_1 : decode cX10_refresh 1 = .ok (.getfield 48, 3) := by decide +kernel
theorem dX10_refresh_4 : decode cX10_refresh 4 = .ok (.aload_n 0, 1) := by decide +kernel
theorem dX10_refresh_5 : decode cX10_refresh 5 = .ok (.getfield 26, 3) := by decide +kernel
theorem dX10_refresh_8 : decode cX10_refresh 8 = .ok (.invokevirtual 351, 3) := by decide +kernel
theorem dX10_refresh_11 : decode cX10_refresh 11 = .ok (.aload_n 0, 1) := by decide +kernel
theorem dX10_refresh_12 : decode cX10_refresh 12 = .ok (.getfield 61, 3) := by decide +kernel
theorem dX10_refresh_15 : decode cX10_refresh 15 = .ok (.aload_n 0, 1) := by decide +kernel
theorem dX10_refresh_16 : decode cX10_refresh 16 = .ok (.getfield 26, 3) := by decide +kernel
theorem dX10_refresh_19 : decode cX10_refresh 19 = .ok (.invokevirtual 354, 3) := by decide +kernel
theorem dX10_refresh_22 : decode cX10_refresh 22 = .ok (.return_, 1) := by decide +kernel
theorem dX10_tellColour_0 : decode cX10_tellColour 0 = .ok (.iconst 0, 1) := by decide +kernel
theorem dX10_tellColour_1 : decode cX10_tellColour 1 = .ok (.istore_n 2, 1) := by decide +kernel
theorem dX10_tellColour_2 : decode cX10_tellColour 2 = .ok (.iload_n 2, 1) := by decide +kernel
theorem dX10_tellColour_3 : decode cX10_tellColour 3 = .ok (.iconst 3, 1) := by decide +kernel
theorem dX10_tellColour_4 : decode cX10_tellColour 4 = .ok (.if_icmp .ge 26, 3) := by decide +kernel
theorem dX10_tellColour_7 : decode cX10_tellColour 7 = .ok (.aload_n 0, 1) := by decide +kernel
theorem dX10_tellColour_8 : decode cX10_tellColour 8 = .ok (.getfield 19, 3) := by decide +kernel
theorem dX10_tellColour_11 : decode cX10_tellColour 11 = .ok (.aload_n 0, 1) := by decide +kernel
theorem dX10_tellColour_12 : decode cX10_tellColour 12 = .ok (.getfield 48, 3) := by decide +kernel
theorem dX10_tellColour_15 : decode cX10_tellColour 15 = .ok (.iload_n 1, 1) := by decide +kernel
theorem dX10_tellColour_16 : decode cX10_tellColour 16 = .ok (.iload_n 2, 1) := by decide +kernel
theorem dX10_tellColour_17 : decode cX10_tellColour 17 = .ok (.invokevirtual 336, 3) := by decide +kernel
theorem dX10_tellColour_20 : decode cX10_tellColour 20 = .ok (.i2l, 1) := by decide +kernel
theorem dX10_tellColour_21 : decode cX10_tellColour 21 = .ok (.invokevirtual 235, 3) := by decide +kernel
theorem dX10_tellColour_24 : decode cX10_tellColour 24 = .ok (.iinc 2 1, 3) := by decide +kernel
theorem dX10_tellColour_27 : decode cX10_tellColour 27 = .ok (.goto (-25), 3) := by decide +kernel
theorem dX10_tellColour_30 : decode cX10_tellColour 30 = .ok (.return_, 1) := by decide +kernel
theorem dX10_tellFraction_0 : decode cX10_tellFraction 0 = .ok (.iload_n 1, 1) := by decide +kernel
theorem dX10_tellFraction_1 : decode cX10_tellFraction 1 = .ok (.iload_n 2, 1) := by decide +kernel
theorem dX10_tellFraction_2 : decode cX10_tellFraction 2 = .ok (.invokestatic 355, 3) := by decide +kernel
theorem dX10_tellFraction_5 : decode cX10_tellFraction 5 = .ok (.istore_n 3, 1) := by decide +kernel
theorem dX10_tellFraction_6 : decode cX10_tellFraction 6 = .ok (.iload_n 3, 1) := by decide +kernel
theorem dX10_tellFraction_7 : decode cX10_tellFraction 7 = .ok (.ifCond .ne 4, 3) := by decide +kernel
theorem dX10_tellFraction_10 : decode cX10_tellFraction 10 = .ok (.return_, 1) := by decide +kernel
theorem dX10_tellFraction_11 : decode cX10_tellFraction 11 = .ok (.aload_n 0, 1) := by decide +kernel
theorem dX10_tellFraction_12 : decode cX10_tellFraction 12 = .ok (.getfield 19, 3) := by decide +kernel
theorem dX10_tellFraction_15 : decode cX10_tellFraction 15 = .ok (.iload_n 1, 1) := by decide +kernel
theorem dX10_tellFraction_16 : decode cX10_tellFraction 16 = .ok (.iload_n 3, 1) := by decide +kernel
theorem dX10_tellFraction_17 : decode cX10_tellFraction 17 = .ok (.idiv, 1) := by decide +kernel
theorem dX10_tellFraction_18 : decode cX10_tellFraction 18 = .ok (.i2l, 1) := by decide +kernel
theorem dX10_tellFraction_19 : decode cX10_tellFraction 19 = .ok (.invokevirtual 235, 3) := by decide +kernel
theorem dX10_tellFraction_22 : decode cX10_tellFraction 22 = .ok (.aload_n 0, 1) := by decide +kernel
theorem dX10_tellFraction_23 : decode cX10_tellFraction 23 = .ok (.getfield 19, 3) := by decide +kernel
theorem dX10_tellFraction_26 : decode cX10_tellFraction 26 = .ok (.iload_n 2, 1) := by decide +kernel
theorem dX10_tellFraction_27 : decode cX10_tellFraction 27 = .ok (.iload_n 3, 1) := by decide +kernel
theorem dX10_tellFraction_28 : decode cX10_tellFraction 28 = .ok (.idiv, 1) := by decide +kernel
theorem dX10_tellFraction_29 : decode cX10_tellFraction 29 = .ok (.i2l, 1) := by decide +kernel
theorem dX10_tellFraction_30 : decode cX10_tellFraction 30 = .ok (.invokevirtual 235, 3) := by decide +kernel
theorem dX10_tellFraction_33 : decode cX10_tellFraction 33 = .ok (.return_, 1) := by decide +kernel
theorem dX10_greatestDivisor_0 : decode cX10_greatestDivisor 0 = .ok (.iload_n 0, 1) := by decide +kernel
theorem dX10_greatestDivisor_1 : decode cX10_greatestDivisor 1 = .ok (.istore_n 2, 1) := by decide +kernel
theorem dX10_greatestDivisor_2 : decode cX10_greatestDivisor 2 = .ok (.iload_n 1, 1) := by decide +kernel
theorem dX10_greatestDivisor_3 : decode cX10_greatestDivisor 3 = .ok (.istore_n 3, 1) := by decide +kernel
theorem dX10_greatestDivisor_4 : decode cX10_greatestDivisor 4 = .ok (.iconst 0, 1) := by decide +kernel
theorem dX10_greatestDivisor_5 : decode cX10_greatestDivisor 5 = .ok (.istore 4, 2) := by decide +kernel
theorem dX10_greatestDivisor_7 : decode cX10_greatestDivisor 7 = .ok (.iload 4, 2) := by decide +kernel
theorem dX10_greatestDivisor_9 : decode cX10_greatestDivisor 9 = .ok (.bipush 100, 2) := by decide +kernel
theorem dX10_greatestDivisor_11 : decode cX10_greatestDivisor 11 = .ok (.if_icmp .ge 23, 3) := by decide +kernel
theorem dX10_greatestDivisor_14 : decode cX10_greatestDivisor 14 = .ok (.iload_n 3, 1) := by decide +kernel
theorem dX10_greatestDivisor_15 : decode cX10_greatestDivisor 15 = .ok (.ifCond .eq 19, 3) := by decide +kernel
theorem dX10_greatestDivisor_18 : decode cX10_greatestDivisor 18 = .ok (.iload_n 2, 1) := by decide +kernel
theorem dX10_greatestDivisor_19 : decode cX10_greatestDivisor 19 = .ok (.iload_n 3, 1) := by decide +kernel
theorem dX10_greatestDivisor_20 : decode cX10_greatestDivisor 20 = .ok (.irem, 1) := by decide +kernel
theorem dX10_greatestDivisor_21 : decode cX10_greatestDivisor 21 = .ok (.istore 5, 2) := by decide +kernel
theorem dX10_greatestDivisor_23 : decode cX10_greatestDivisor 23 = .ok (.iload_n 3, 1) := by decide +kernel
theorem dX10_greatestDivisor_24 : decode cX10_greatestDivisor 24 = .ok (.istore_n 2, 1) := by decide +kernel
theorem dX10_greatestDivisor_25 : decode cX10_greatestDivisor 25 = .ok (.iload 5, 2) := by decide +kernel
theorem dX10_greatestDivisor_27 : decode cX10_greatestDivisor 27 = .ok (.istore_n 3, 1) := by decide +kernel
theorem dX10_greatestDivisor_28 : decode cX10_greatestDivisor 28 = .ok (.iinc 4 1, 3) := by decide +kernel
theorem dX10_greatestDivisor_31 : decode cX10_greatestDivisor 31 = .ok (.goto (-24), 3) := by decide +kernel
theorem dX10_greatestDivisor_34 : decode cX10_greatestDivisor 34 = .ok (.iload_n 2, 1) := by decide +kernel
theorem dX10_greatestDivisor_35 : decode cX10_greatestDivisor 35 = .ok (.ireturn, 1) := by decide +kernel
theorem dX10_folded_0 : decode cX10_folded 0 = .ok (.iload_n 1, 1) := by decide +kernel
theorem dX10_folded_1 : decode cX10_folded 1 = .ok (.iload_n 0, 1) := by decide +kernel
theorem dX10_folded_2 : decode cX10_folded 2 = .ok (.iload_n 1, 1) := by decide +kernel
theorem dX10_folded_3 : decode cX10_folded 3 = .ok (.isub, 1) := by decide +kernel
theorem dX10_folded_4 : decode cX10_folded 4 = .ok (.bipush 8, 2) := by decide +kernel
theorem dX10_folded_6 : decode cX10_folded 6 = .ok (.iload_n 2, 1) := by decide +kernel
theorem dX10_folded_7 : decode cX10_folded 7 = .ok (.isub, 1) := by decide +kernel
theorem dX10_folded_8 : decode cX10_folded 8 = .ok (.imul, 1) := by decide +kernel
theorem dX10_folded_9 : decode cX10_folded 9 = .ok (.bipush 8, 2) := by decide +kernel
theorem dX10_folded_11 : decode cX10_folded 11 = .ok (.idiv, 1) := by decide +kernel
theorem dX10_folded_12 : decode cX10_folded 12 = .ok (.iadd, 1) := by decide +kernel
theorem dX10_folded_13 : decode cX10_folded 13 = .ok (.ireturn, 1) := by decide +kernel
theorem dX10_leastFolded_0 : decode cX10_leastFolded 0 = .ok (.iload_n 1, 1) := by decide +kernel
theorem dX10_leastFolded_1 : decode cX10_leastFolded 1 = .ok (.iload_n 2, 1) := by decide +kernel
theorem dX10_leastFolded_2 : decode cX10_leastFolded 2 = .ok (.iadd, 1) := by decide +kernel
theorem dX10_leastFolded_3 : decode cX10_leastFolded 3 = .ok (.iload_n 3, 1) := by decide +kernel
theorem dX10_leastFolded_4 : decode cX10_leastFolded 4 = .ok (.iadd, 1) := by decide +kernel
theorem dX10_leastFolded_5 : decode cX10_leastFolded 5 = .ok (.iconst 3, 1) := by decide +kernel
theorem dX10_leastFolded_6 : decode cX10_leastFolded 6 = .ok (.idiv, 1) := by decide +kernel
theorem dX10_leastFolded_7 : decode cX10_leastFolded 7 = .ok (.istore 5, 2) := by decide +kernel
theorem dX10_leastFolded_9 : decode cX10_leastFolded 9 = .ok (.aload_n 0, 1) := by decide +kernel
theorem dX10_leastFolded_10 : decode cX10_leastFolded 10 = .ok (.getfield 61, 3) := by decide +kernel
theorem dX10_leastFolded_13 : decode cX10_leastFolded 13 = .ok (.aload_n 0, 1) := by decide +kernel
theorem dX10_leastFolded_14 : decode cX10_leastFolded 14 = .ok (.getfield 26, 3) := by decide +kernel
theorem dX10_leastFolded_17 : decode cX10_leastFolded 17 = .ok (.aload_n 0, 1) := by decide +kernel
theorem dX10_leastFolded_18 : decode cX10_leastFolded 18 = .ok (.getfield 48, 3) := by decide +kernel
theorem dX10_leastFolded_21 : decode cX10_leastFolded 21 = .ok (.iload_n 1, 1) := by decide +kernel
theorem dX10_leastFolded_22 : decode cX10_leastFolded 22 = .ok (.iload 5, 2) := by decide +kernel
theorem dX10_leastFolded_24 : decode cX10_leastFolded 24 = .ok (.iload 4, 2) := by decide +kernel
theorem dX10_leastFolded_26 : decode cX10_leastFolded 26 = .ok (.invokestatic 295, 3) := by decide +kernel
theorem dX10_leastFolded_29 : decode cX10_leastFolded 29 = .ok (.iload_n 2, 1) := by decide +kernel
theorem dX10_leastFolded_30 : decode cX10_leastFolded 30 = .ok (.iload 5, 2) := by decide +kernel
theorem dX10_leastFolded_32 : decode cX10_leastFolded 32 = .ok (.iload 4, 2) := by decide +kernel
theorem dX10_leastFolded_34 : decode cX10_leastFolded 34 = .ok (.invokestatic 295, 3) := by decide +kernel
theorem dX10_leastFolded_37 : decode cX10_leastFolded 37 = .ok (.iload_n 3, 1) := by decide +kernel
theorem dX10_leastFolded_38 : decode cX10_leastFolded 38 = .ok (.iload 5, 2) := by decide +kernel
theorem dX10_leastFolded_40 : decode cX10_leastFolded 40 = .ok (.iload 4, 2) := by decide +kernel
theorem dX10_leastFolded_42 : decode cX10_leastFolded 42 = .ok (.invokestatic 295, 3) := by decide +kernel
theorem dX10_leastFolded_45 : decode cX10_leastFolded 45 = .ok (.invokevirtual 358, 3) := by decide +kernel
theorem dX10_leastFolded_48 : decode cX10_leastFolded 48 = .ok (.ireturn, 1) := by decide +kernel
theorem dX10_foldOf_0 : decode cX10_foldOf 0 = .ok (.iconst 0, 1) := by decide +kernel
theorem dX10_foldOf_1 : decode cX10_foldOf 1 = .ok (.istore 4, 2) := by decide +kernel
theorem dX10_foldOf_3 : decode cX10_foldOf 3 = .ok (.ldc_w 361, 3) := by decide +kernel
theorem dX10_foldOf_6 : decode cX10_foldOf 6 = .ok (.istore 5, 2) := by decide +kernel
theorem dX10_foldOf_8 : decode cX10_foldOf 8 = .ok (.iconst 0, 1) := by decide +kernel
theorem dX10_foldOf_9 : decode cX10_foldOf 9 = .ok (.istore 6, 2) := by decide +kernel
theorem dX10_foldOf_11 : decode cX10_foldOf 11 = .ok (.iload 6, 2) := by decide +kernel
theorem dX10_foldOf_13 : decode cX10_foldOf 13 = .ok (.bipush 8, 2) := by decide +kernel
theorem dX10_foldOf_15 : decode cX10_foldOf 15 = .ok (.if_icmp .gt 52, 3) := by decide +kernel
theorem dX10_foldOf_18 : decode cX10_foldOf 18 = .ok (.aload_n 0, 1) := by decide +kernel
theorem dX10_foldOf_19 : decode cX10_foldOf 19 = .ok (.iload_n 1, 1) := by decide +kernel
theorem dX10_foldOf_20 : decode cX10_foldOf 20 = .ok (.iload_n 2, 1) := by decide +kernel
theorem dX10_foldOf_21 : decode cX10_foldOf 21 = .ok (.iload_n 3, 1) := by decide +kernel
theorem dX10_foldOf_22 : decode cX10_foldOf 22 = .ok (.iload 6, 2) := by decide +kernel
theorem dX10_foldOf_24 : decode cX10_foldOf 24 = .ok (.invokevirtual 298, 3) := by decide +kernel
theorem dX10_foldOf_27 : decode cX10_foldOf 27 = .ok (.istore 7, 2) := by decide +kernel
theorem dX10_foldOf_29 : decode cX10_foldOf 29 = .ok (.iload 7, 2) := by decide +kernel
theorem dX10_foldOf_31 : decode cX10_foldOf 31 = .ok (.aload_n 0, 1) := by decide +kernel
theorem dX10_foldOf_32 : decode cX10_foldOf 32 = .ok (.getfield 26, 3) := by decide +kernel
theorem dX10_foldOf_35 : decode cX10_foldOf 35 = .ok (.getfield 143, 3) := by decide +kernel
theorem dX10_foldOf_38 : decode cX10_foldOf 38 = .ok (.iconst 2, 1) := by decide +kernel
theorem dX10_foldOf_39 : decode cX10_foldOf 39 = .ok (.iaload, 1) := by decide +kernel
theorem dX10_foldOf_40 : decode cX10_foldOf 40 = .ok (.if_icmp .gt 6, 3) := by decide +kernel
theorem dX10_foldOf_43 : decode cX10_foldOf 43 = .ok (.iload 6, 2) := by decide +kernel
theorem dX10_foldOf_45 : decode cX10_foldOf 45 = .ok (.ireturn, 1) := by decide +kernel
theorem dX10_foldOf_46 : decode cX10_foldOf 46 = .ok (.iload 7, 2) := by decide +kernel
theorem dX10_foldOf_48 : decode cX10_foldOf 48 = .ok (.iload 5, 2) := by decide +kernel
theorem dX10_foldOf_50 : decode cX10_foldOf 50 = .ok (.if_icmp .ge 11, 3) := by decide +kernel
theorem dX10_foldOf_53 : decode cX10_foldOf 53 = .ok (.iload 7, 2) := by decide +kernel
theorem dX10_foldOf_55 : decode cX10_foldOf 55 = .ok (.istore 5, 2) := by decide +kernel
theorem dX10_foldOf_57 : decode cX10_foldOf 57 = .ok (.iload 6, 2) := by decide +kernel
theorem dX10_foldOf_59 : decode cX10_foldOf 59 = .ok (.istore 4, 2) := by decide +kernel
theorem dX10_foldOf_61 : decode cX10_foldOf 61 = .ok (.iinc 6 1, 3) := by decide +kernel
theorem dX10_foldOf_64 : decode cX10_foldOf 64 = .ok (.goto (-53), 3) := by decide +kernel
theorem dX10_foldOf_67 : decode cX10_foldOf 67 = .ok (.iload 4, 2) := by decide +kernel
theorem dX10_foldOf_69 : decode cX10_foldOf 69 = .ok (.ireturn, 1) := by decide +kernel
theorem dX10_greatestChange_0 : decode cX10_greatestChange 0 = .ok (.iconst 0, 1) := by decide +kernel
theorem dX10_greatestChange_1 : decode cX10_greatestChange 1 = .ok (.istore_n 2, 1) := by decide +kernel
theorem dX10_greatestChange_2 : decode cX10_greatestChange 2 = .ok (.iconst 0, 1) := by decide +kernel
theorem dX10_greatestChange_3 : decode cX10_greatestChange 3 = .ok (.istore_n 3, 1) := by decide +kernel
theorem dX10_greatestChange_4 : decode cX10_greatestChange 4 = .ok (.iload_n 3, 1) := by decide +kernel
theorem dX10_greatestChange_5 : decode cX10_greatestChange 5 = .ok (.iconst 4, 1) := by decide +kernel
theorem dX10_greatestChange_6 : decode cX10_greatestChange 6 = .ok (.if_icmp .ge 28, 3) := by decide +kernel
theorem dX10_greatestChange_9 : decode cX10_greatestChange 9 = .ok (.iload_n 2, 1) := by decide +kernel
theorem dX10_greatestChange_10 : decode cX10_greatestChange 10 = .ok (.iload_n 0, 1) := by decide +kernel
theorem dX10_greatestChange_11 : decode cX10_greatestChange 11 = .ok (.iload_n 3, 1) := by decide +kernel
theorem dX10_greatestChange_12 : decode cX10_greatestChange 12 = .ok (.invokestatic 362, 3) := by decide +kernel
theorem dX10_greatestChange_15 : decode cX10_greatestChange 15 = .ok (.iload_n 1, 1) := by decide +kernel
theorem dX10_greatestChange_16 : decode cX10_greatestChange 16 = .ok (.iload_n 3, 1) := by decide +kernel
theorem dX10_greatestChange_17 : decode cX10_greatestChange 17 = .ok (.invokestatic 362, 3) := by decide +kernel
theorem dX10_greatestChange_20 : decode cX10_greatestChange 20 = .ok (.isub, 1) := by decide +kernel
theorem dX10_greatestChange_21 : decode cX10_greatestChange 21 = .ok (.invokestatic 365, 3) := by decide +kernel
theorem dX10_greatestChange_24 : decode cX10_greatestChange 24 = .ok (.invokestatic 224, 3) := by decide +kernel
theorem dX10_greatestChange_27 : decode cX10_greatestChange 27 = .ok (.istore_n 2, 1) := by decide +kernel
theorem dX10_greatestChange_28 : decode cX10_greatestChange 28 = .ok (.iinc 3 1, 3) := by decide +kernel
theorem dX10_greatestChange_31 : decode cX10_greatestChange 31 = .ok (.goto (-27), 3) := by decide +kernel
theorem dX10_greatestChange_34 : decode cX10_greatestChange 34 = .ok (.iload_n 2, 1) := by decide +kernel
theorem dX10_greatestChange_35 : decode cX10_greatestChange 35 = .ok (.ireturn, 1) := by decide +kernel
theorem dX10_markChangesTo_0 : decode cX10_markChangesTo 0 = .ok (.aload_n 0, 1) := by decide +kernel
theorem dX10_markChangesTo_1 : decode cX10_markChangesTo 1 = .ok (.getfield 79, 3) := by decide +kernel
theorem dX10_markChangesTo_4 : decode cX10_markChangesTo 4 = .ok (.iconst (-1), 1) := by decide +kernel
theorem dX10_markChangesTo_5 : decode cX10_markChangesTo 5 = .ok (.invokestatic 339, 3) := by decide +kernel
theorem dX10_markChangesTo_8 : decode cX10_markChangesTo 8 = .ok (.aload_n 0, 1) := by decide +kernel
theorem dX10_markChangesTo_9 : decode cX10_markChangesTo 9 = .ok (.getfield 79, 3) := by decide +kernel
theorem dX10_markChangesTo_12 : decode cX10_markChangesTo 12 = .ok (.iload_n 1, 1) := by decide +kernel
theorem dX10_markChangesTo_13 : decode cX10_markChangesTo 13 = .ok (.iconst 0, 1) := by decide +kernel
theorem dX10_markChangesTo_14 : decode cX10_markChangesTo 14 = .ok (.iastore, 1) := by decide +kernel
theorem dX10_markChangesTo_15 : decode cX10_markChangesTo 15 = .ok (.aload_n 0, 1) := by decide +kernel
theorem dX10_markChangesTo_16 : decode cX10_markChangesTo 16 = .ok (.getfield 83, 3) := by decide +kernel
theorem dX10_markChangesTo_19 : decode cX10_markChangesTo 19 = .ok (.iconst 0, 1) := by decide +kernel
theorem dX10_markChangesTo_20 : decode cX10_markChangesTo 20 = .ok (.iload_n 1, 1) := by decide +kernel
theorem dX10_markChangesTo_21 : decode cX10_markChangesTo 21 = .ok (.iastore, 1) := by decide +kernel
theorem dX10_markChangesTo_22 : decode cX10_markChangesTo 22 = .ok (.iconst 1, 1) := by decide +kernel
theorem dX10_markChangesTo_23 : decode cX10_markChangesTo 23 = .ok (.istore_n 3, 1) := by decide +kernel
theorem dX10_markChangesTo_24 : decode cX10_markChangesTo 24 = .ok (.iconst 0, 1) := by decide +kernel
theorem dX10_markChangesTo_25 : decode cX10_markChangesTo 25 = .ok (.istore 4, 2) := by decide +kernel
theorem dX10_markChangesTo_27 : decode cX10_markChangesTo 27 = .ok (.iload 4, 2) := by decide +kernel
theorem dX10_markChangesTo_29 : decode cX10_markChangesTo 29 = .ok (.iload_n 3, 1) := by decide +kernel
theorem dX10_markChangesTo_30 : decode cX10_markChangesTo 30 = .ok (.if_icmp .ge 124, 3) := by decide +kernel
theorem dX10_markChangesTo_33 : decode cX10_markChangesTo 33 = .ok (.iload 4, 2) := by decide +kernel
theorem dX10_markChangesTo_35 : decode cX10_markChangesTo 35 = .ok (.sipush 6561, 3) := by decide +kernel
theorem dX10_markChangesTo_38 : decode cX10_markChangesTo 38 = .ok (.if_icmp .ge 116, 3) := by decide +kernel
theorem dX10_markChangesTo_41 : decode cX10_markChangesTo 41 = .ok (.aload_n 0, 1) := by decide +kernel
theorem dX10_markChangesTo_42 : decode cX10_markChangesTo 42 = .ok (.getfield 83, 3) := by decide +kernel
theorem dX10_markChangesTo_45 : decode cX10_markChangesTo 45 = .ok (.iload 4, 2) := by decide +kernel
theorem dX10_markChangesTo_47 : decode cX10_markChangesTo 47 = .ok (.iaload, 1) := by decide +kernel
theorem dX10_markChangesTo_48 : decode cX10_markChangesTo 48 = .ok (.istore 5, 2) := by decide +kernel
theorem dX10_markChangesTo_50 : decode cX10_markChangesTo 50 = .ok (.iconst 0, 1) := by decide +kernel
theorem dX10_markChangesTo_51 : decode cX10_markChangesTo 51 = .ok (.istore 6, 2) := by decide +kernel
theorem dX10_markChangesTo_53 : decode cX10_markChangesTo 53 = .ok (.iload 6, 2) := by decide +kernel
theorem dX10_markChangesTo_55 : decode cX10_markChangesTo 55 = .ok (.bipush 8, 2) := by decide +kernel
theorem dX10_markChangesTo_57 : decode cX10_markChangesTo 57 = .ok (.if_icmp .ge 91, 3) := by decide +kernel
theorem dX10_markChangesTo_60 : decode cX10_markChangesTo 60 = .ok (.iload 5, 2) := by decide +kernel
theorem dX10_markChangesTo_62 : decode cX10_markChangesTo 62 = .ok (.iload 6, 2) := by decide +kernel
theorem dX10_markChangesTo_64 : decode cX10_markChangesTo 64 = .ok (.invokestatic 368, 3) := by decide +kernel
theorem dX10_markChangesTo_67 : decode cX10_markChangesTo 67 = .ok (.istore 7, 2) := by decide +kernel
theorem dX10_markChangesTo_69 : decode cX10_markChangesTo 69 = .ok (.iload 7, 2) := by decide +kernel
theorem dX10_markChangesTo_71 : decode cX10_markChangesTo 71 = .ok (.ifCond .lt 71, 3) := by decide +kernel
theorem dX10_markChangesTo_74 : decode cX10_markChangesTo 74 = .ok (.aload_n 0, 1) := by decide +kernel
theorem dX10_markChangesTo_75 : decode cX10_markChangesTo 75 = .ok (.getfield 79, 3) := by decide +kernel
theorem dX10_markChangesTo_78 : decode cX10_markChangesTo 78 = .ok (.iload 7, 2) := by decide +kernel
theorem dX10_markChangesTo_80 : decode cX10_markChangesTo 80 = .ok (.iaload, 1) := by decide +kernel
theorem dX10_markChangesTo_81 : decode cX10_markChangesTo 81 = .ok (.ifCond .ge 61, 3) := by decide +kernel
theorem dX10_markChangesTo_84 : decode cX10_markChangesTo 84 = .ok (.aload_n 0, 1) := by decide +kernel
theorem dX10_markChangesTo_85 : decode cX10_markChangesTo 85 = .ok (.getfield 26, 3) := by decide +kernel
theorem dX10_markChangesTo_88 : decode cX10_markChangesTo 88 = .ok (.iload 7, 2) := by decide +kernel
theorem dX10_markChangesTo_90 : decode cX10_markChangesTo 90 = .ok (.invokevirtual 314, 3) := by decide +kernel
theorem dX10_markChangesTo_93 : decode cX10_markChangesTo 93 = .ok (.ifCond .eq 49, 3) := by decide +kernel
theorem dX10_markChangesTo_96 : decode cX10_markChangesTo 96 = .ok (.aload_n 0, 1) := by decide +kernel
theorem dX10_markChangesTo_97 : decode cX10_markChangesTo 97 = .ok (.getfield 48, 3) := by decide +kernel
theorem dX10_markChangesTo_100 : decode cX10_markChangesTo 100 = .ok (.aload_n 0, 1) := by decide +kernel
theorem dX10_markChangesTo_101 : decode cX10_markChangesTo 101 = .ok (.getfield 26, 3) := by decide +kernel
theorem dX10_markChangesTo_104 : decode cX10_markChangesTo 104 = .ok (.iload 5, 2) := by decide +kernel
theorem dX10_markChangesTo_106 : decode cX10_markChangesTo 106 = .ok (.iload 7, 2) := by decide +kernel
theorem dX10_markChangesTo_108 : decode cX10_markChangesTo 108 = .ok (.invokevirtual 371, 3) := by decide +kernel
theorem dX10_markChangesTo_111 : decode cX10_markChangesTo 111 = .ok (.iload_n 2, 1) := by decide +kernel
theorem dX10_markChangesTo_112 : decode cX10_markChangesTo 112 = .ok (.if_icmp .gt 30, 3) := by decide +kernel
theorem dX10_markChangesTo_115 : decode cX10_markChangesTo 115 = .ok (.aload_n 0, 1) := by decide +kernel
theorem dX10_markChangesTo_116 : decode cX10_markChangesTo 116 = .ok (.getfield 79, 3) := by decide +kernel
theorem dX10_markChangesTo_119 : decode cX10_markChangesTo 119 = .ok (.iload 7, 2) := by decide +kernel
theorem dX10_markChangesTo_121 : decode cX10_markChangesTo 121 = .ok (.aload_n 0, 1) := by decide +kernel
theorem dX10_markChangesTo_122 : decode cX10_markChangesTo 122 = .ok (.getfield 79, 3) := by decide +kernel
theorem dX10_markChangesTo_125 : decode cX10_markChangesTo 125 = .ok (.iload 5, 2) := by decide +kernel
theorem dX10_markChangesTo_127 : decode cX10_markChangesTo 127 = .ok (.iaload, 1) := by decide +kernel
theorem dX10_markChangesTo_128 : decode cX10_markChangesTo 128 = .ok (.iconst 1, 1) := by decide +kernel
theorem dX10_markChangesTo_129 : decode cX10_markChangesTo 129 = .ok (.iadd, 1) := by decide +kernel
theorem dX10_markChangesTo_130 : decode cX10_markChangesTo 130 = .ok (.iastore, 1) := by decide +kernel
theorem dX10_markChangesTo_131 : decode cX10_markChangesTo 131 = .ok (.aload_n 0, 1) := by decide +kernel
theorem dX10_markChangesTo_132 : decode cX10_markChangesTo 132 = .ok (.getfield 83, 3) := by decide +kernel
theorem dX10_markChangesTo_135 : decode cX10_markChangesTo 135 = .ok (.iload_n 3, 1) := by decide +kernel
theorem dX10_markChangesTo_136 : decode cX10_markChangesTo 136 = .ok (.iload 7, 2) := by decide +kernel
theorem dX10_markChangesTo_138 : decode cX10_markChangesTo 138 = .ok (.iastore, 1) := by decide +kernel
theorem dX10_markChangesTo_139 : decode cX10_markChangesTo 139 = .ok (.iinc 3 1, 3) := by decide +kernel
theorem dX10_markChangesTo_142 : decode cX10_markChangesTo 142 = .ok (.iinc 6 1, 3) := by decide +kernel
theorem dX10_markChangesTo_145 : decode cX10_markChangesTo 145 = .ok (.goto (-92), 3) := by decide +kernel
theorem dX10_markChangesTo_148 : decode cX10_markChangesTo 148 = .ok (.iinc 4 1, 3) := by decide +kernel
theorem dX10_markChangesTo_151 : decode cX10_markChangesTo 151 = .ok (.goto (-124), 3) := by decide +kernel
theorem dX10_markChangesTo_154 : decode cX10_markChangesTo 154 = .ok (.return_, 1) := by decide +kernel
theorem dX10_firstOfTheWay_0 : decode cX10_firstOfTheWay 0 = .ok (.sipush 6561, 3) := by decide +kernel
theorem dX10_firstOfTheWay_3 : decode cX10_firstOfTheWay 3 = .ok (.istore_n 3, 1) := by decide +kernel
theorem dX10_firstOfTheWay_4 : decode cX10_firstOfTheWay 4 = .ok (.iconst 0, 1) := by decide +kernel
theorem dX10_firstOfTheWay_5 : decode cX10_firstOfTheWay 5 = .ok (.istore 4, 2) := by decide +kernel
theorem dX10_firstOfTheWay_7 : decode cX10_firstOfTheWay 7 = .ok (.iload 4, 2) := by decide +kernel
theorem dX10_firstOfTheWay_9 : decode cX10_firstOfTheWay 9 = .ok (.bipush 8, 2) := by decide +kernel
theorem dX10_firstOfTheWay_11 : decode cX10_firstOfTheWay 11 = .ok (.if_icmp .ge 67, 3) := by decide +kernel
theorem dX10_firstOfTheWay_14 : decode cX10_firstOfTheWay 14 = .ok (.iload_n 1, 1) := by decide +kernel
theorem dX10_firstOfTheWay_15 : decode cX10_firstOfTheWay 15 = .ok (.iload 4, 2) := by decide +kernel
theorem dX10_firstOfTheWay_17 : decode cX10_firstOfTheWay 17 = .ok (.invokestatic 368, 3) := by decide +kernel
theorem dX10_firstOfTheWay_20 : decode cX10_firstOfTheWay 20 = .ok (.istore 5, 2) := by decide +kernel
theorem dX10_firstOfTheWay_22 : decode cX10_firstOfTheWay 22 = .ok (.iload 5, 2) := by decide +kernel
theorem dX10_firstOfTheWay_24 : decode cX10_firstOfTheWay 24 = .ok (.ifCond .lt 48, 3) := by decide +kernel
theorem dX10_firstOfTheWay_27 : decode cX10_firstOfTheWay 27 = .ok (.iload 5, 2) := by decide +kernel
theorem dX10_firstOfTheWay_29 : decode cX10_firstOfTheWay 29 = .ok (.iload_n 3, 1) := by decide +kernel
theorem dX10_firstOfTheWay_30 : decode cX10_firstOfTheWay 30 = .ok (.if_icmp .ge 42, 3) := by decide +kernel
theorem dX10_firstOfTheWay_33 : decode cX10_firstOfTheWay 33 = .ok (.aload_n 0, 1) := by decide +kernel
theorem dX10_firstOfTheWay_34 : decode cX10_firstOfTheWay 34 = .ok (.getfield 79, 3) := by decide +kernel
theorem dX10_firstOfTheWay_37 : decode cX10_firstOfTheWay 37 = .ok (.iload 5, 2) := by decide +kernel
theorem dX10_firstOfTheWay_39 : decode cX10_firstOfTheWay 39 = .ok (.iaload, 1) := by decide +kernel
theorem dX10_firstOfTheWay_40 : decode cX10_firstOfTheWay 40 = .ok (.aload_n 0, 1) := by decide +kernel
theorem dX10_firstOfTheWay_41 : decode cX10_firstOfTheWay 41 = .ok (.getfield 79, 3) := by decide +kernel
theorem dX10_firstOfTheWay_44 : decode cX10_firstOfTheWay 44 = .ok (.iload_n 1, 1) := by decide +kernel
theorem dX10_firstOfTheWay_45 : decode cX10_firstOfTheWay 45 = .ok (.iaload, 1) := by decide +kernel
theorem dX10_firstOfTheWay_46 : decode cX10_firstOfTheWay 46 = .ok (.iconst 1, 1) := by decide +kernel
theorem dX10_firstOfTheWay_47 : decode cX10_firstOfTheWay 47 = .ok (.isub, 1) := by decide +kernel
theorem dX10_firstOfTheWay_48 : decode cX10_firstOfTheWay 48 = .ok (.if_icmp .ne 24, 3) := by decide +kernel
theorem dX10_firstOfTheWay_51 : decode cX10_firstOfTheWay 51 = .ok (.aload_n 0, 1) := by decide +kernel
theorem dX10_firstOfTheWay_52 : decode cX10_firstOfTheWay 52 = .ok (.getfield 48, 3) := by decide +kernel
theorem dX10_firstOfTheWay_55 : decode cX10_firstOfTheWay 55 = .ok (.aload_n 0, 1) := by decide +kernel
theorem dX10_firstOfTheWay_56 : decode cX10_firstOfTheWay 56 = .ok (.getfield 26, 3) := by decide +kernel
theorem dX10_firstOfTheWay_59 : decode cX10_firstOfTheWay 59 = .ok (.iload_n 1, 1) := by decide +kernel
theorem dX10_firstOfTheWay_60 : decode cX10_firstOfTheWay 60 = .ok (.iload 5, 2) := by decide +kernel
theorem dX10_firstOfTheWay_62 : decode cX10_firstOfTheWay 62 = .ok (.invokevirtual 371, 3) := by decide +kernel
theorem dX10_firstOfTheWay_65 : decode cX10_firstOfTheWay 65 = .ok (.iload_n 2, 1) := by decide +kernel
theorem dX10_firstOfTheWay_66 : decode cX10_firstOfTheWay 66 = .ok (.if_icmp .gt 6, 3) := by decide +kernel
theorem dX10_firstOfTheWay_69 : decode cX10_firstOfTheWay 69 = .ok (.iload 5, 2) := by decide +kernel
theorem dX10_firstOfTheWay_71 : decode cX10_firstOfTheWay 71 = .ok (.istore_n 3, 1) := by decide +kernel
theorem dX10_firstOfTheWay_72 : decode cX10_firstOfTheWay 72 = .ok (.iinc 4 1, 3) := by decide +kernel
theorem dX10_firstOfTheWay_75 : decode cX10_firstOfTheWay 75 = .ok (.goto (-68), 3) := by decide +kernel
theorem dX10_firstOfTheWay_78 : decode cX10_firstOfTheWay 78 = .ok (.iload_n 3, 1) := by decide +kernel
theorem dX10_firstOfTheWay_79 : decode cX10_firstOfTheWay 79 = .ok (.ireturn, 1) := by decide +kernel
theorem dX10_changed_0 : decode cX10_changed 0 = .ok (.iload_n 1, 1) := by decide +kernel
theorem dX10_changed_1 : decode cX10_changed 1 = .ok (.iconst 4, 1) := by decide +kernel
theorem dX10_changed_2 : decode cX10_changed 2 = .ok (.irem, 1) := by decide +kernel
theorem dX10_changed_3 : decode cX10_changed 3 = .ok (.istore_n 2, 1) := by decide +kernel
theorem dX10_changed_4 : decode cX10_changed 4 = .ok (.iload_n 1, 1) := by decide +kernel
theorem dX10_changed_5 : decode cX10_changed 5 = .ok (.iconst 4, 1) := by decide +kernel
theorem dX10_changed_6 : decode cX10_changed 6 = .ok (.if_icmp .ge 7, 3) := by decide +kernel
theorem dX10_changed_9 : decode cX10_changed 9 = .ok (.iconst (-1), 1) := by decide +kernel
theorem dX10_changed_10 : decode cX10_changed 10 = .ok (.goto 4, 3) := by decide +kernel
theorem dX10_changed_13 : decode cX10_changed 13 = .ok (.iconst 1, 1) := by decide +kernel
theorem dX10_changed_14 : decode cX10_changed 14 = .ok (.istore_n 3, 1) := by decide +kernel
theorem dX10_changed_15 : decode cX10_changed 15 = .ok (.iload_n 0, 1) := by decide +kernel
theorem dX10_changed_16 : decode cX10_changed 16 = .ok (.iload_n 2, 1) := by decide +kernel
theorem dX10_changed_17 : decode cX10_changed 17 = .ok (.invokestatic 362, 3) := by decide +kernel
theorem dX10_changed_20 : decode cX10_changed 20 = .ok (.iload_n 3, 1) := by decide +kernel
theorem dX10_changed_21 : decode cX10_changed 21 = .ok (.iadd, 1) := by decide +kernel
theorem dX10_changed_22 : decode cX10_changed 22 = .ok (.iconst 0, 1) := by decide +kernel
theorem dX10_changed_23 : decode cX10_changed 23 = .ok (.bipush 8, 2) := by decide +kernel
theorem dX10_changed_25 : decode cX10_changed 25 = .ok (.invokestatic 179, 3) := by decide +kernel
theorem dX10_changed_28 : decode cX10_changed 28 = .ok (.ifCond .ne 5, 3) := by decide +kernel
theorem dX10_changed_31 : decode cX10_changed 31 = .ok (.iconst (-1), 1) := by decide +kernel
theorem dX10_changed_32 : decode cX10_changed 32 = .ok (.ireturn, 1) := by decide +kernel
theorem dX10_changed_33 : decode cX10_changed 33 = .ok (.iload_n 0, 1) := by decide +kernel
theorem dX10_changed_34 : decode cX10_changed 34 = .ok (.iload_n 3, 1) := by decide +kernel
theorem dX10_changed_35 : decode cX10_changed 35 = .ok (.getstatic 375, 3) := by decide +kernel
theorem dX10_changed_38 : decode cX10_changed 38 = .ok (.iload_n 2, 1) := by decide +kernel
theorem dX10_changed_39 : decode cX10_changed 39 = .ok (.iaload, 1) := by decide +kernel
theorem dX10_changed_40 : decode cX10_changed 40 = .ok (.imul, 1) := by decide +kernel
theorem dX10_changed_41 : decode cX10_changed 41 = .ok (.iadd, 1) := by decide +kernel
theorem dX10_changed_42 : decode cX10_changed 42 = .ok (.ireturn, 1) := by decide +kernel
theorem dX10_firstAlike_0 : decode cX10_firstAlike 0 = .ok (.aload_n 0, 1) := by decide +kernel
theorem dX10_firstAlike_1 : decode cX10_firstAlike 1 = .ok (.getfield 48, 3) := by decide +kernel
theorem dX10_firstAlike_4 : decode cX10_firstAlike 4 = .ok (.iload_n 1, 1) := by decide +kernel
theorem dX10_firstAlike_5 : decode cX10_firstAlike 5 = .ok (.invokevirtual 378, 3) := by decide +kernel
theorem dX10_firstAlike_8 : decode cX10_firstAlike 8 = .ok (.sipush 6561, 3) := by decide +kernel
theorem dX10_firstAlike_11 : decode cX10_firstAlike 11 = .ok (.irem, 1) := by decide +kernel
theorem dX10_firstAlike_12 : decode cX10_firstAlike 12 = .ok (.istore_n 2, 1) := by decide +kernel
theorem dX10_firstAlike_13 : decode cX10_firstAlike 13 = .ok (.aload_n 0, 1) := by decide +kernel
theorem dX10_firstAlike_14 : decode cX10_firstAlike 14 = .ok (.getfield 79, 3) := by decide +kernel
theorem dX10_firstAlike_17 : decode cX10_firstAlike 17 = .ok (.iload_n 2, 1) := by decide +kernel
theorem dX10_firstAlike_18 : decode cX10_firstAlike 18 = .ok (.iaload, 1) := by decide +kernel
theorem dX10_firstAlike_19 : decode cX10_firstAlike 19 = .ok (.istore_n 3, 1) := by decide +kernel
theorem dX10_firstAlike_20 : decode cX10_firstAlike 20 = .ok (.iconst 0, 1) := by decide +kernel
theorem dX10_firstAlike_21 : decode cX10_firstAlike 21 = .ok (.istore 4, 2) := by decide +kernel
theorem dX10_firstAlike_23 : decode cX10_firstAlike 23 = .ok (.iload 4, 2) := by decide +kernel
theorem dX10_firstAlike_25 : decode cX10_firstAlike 25 = .ok (.sipush 6561, 3) := by decide +kernel
theorem dX10_firstAlike_28 : decode cX10_firstAlike 28 = .ok (.if_icmp .ge 41, 3) := by decide +kernel
theorem dX10_firstAlike_31 : decode cX10_firstAlike 31 = .ok (.iload_n 3, 1) := by decide +kernel
theorem dX10_firstAlike_32 : decode cX10_firstAlike 32 = .ok (.ifCond .lt 37, 3) := by decide +kernel
theorem dX10_firstAlike_35 : decode cX10_firstAlike 35 = .ok (.aload_n 0, 1) := by decide +kernel
theorem dX10_firstAlike_36 : decode cX10_firstAlike 36 = .ok (.getfield 48, 3) := by decide +kernel
theorem dX10_firstAlike_39 : decode cX10_firstAlike 39 = .ok (.iload_n 3, 1) := by decide +kernel
theorem dX10_firstAlike_40 : decode cX10_firstAlike 40 = .ok (.invokevirtual 378, 3) := by decide +kernel
theorem dX10_firstAlike_43 : decode cX10_firstAlike 43 = .ok (.aload_n 0, 1) := by decide +kernel
theorem dX10_firstAlike_44 : decode cX10_firstAlike 44 = .ok (.getfield 48, 3) := by decide +kernel
theorem dX10_firstAlike_47 : decode cX10_firstAlike 47 = .ok (.iload_n 1, 1) := by decide +kernel
theorem dX10_firstAlike_48 : decode cX10_firstAlike 48 = .ok (.invokevirtual 378, 3) := by decide +kernel
theorem dX10_firstAlike_51 : decode cX10_firstAlike 51 = .ok (.if_icmp .ne 5, 3) := by decide +kernel
theorem dX10_firstAlike_54 : decode cX10_firstAlike 54 = .ok (.iload_n 3, 1) := by decide +kernel
theorem dX10_firstAlike_55 : decode cX10_firstAlike 55 = .ok (.ireturn, 1) := by decide +kernel
theorem dX10_firstAlike_56 : decode cX10_firstAlike 56 = .ok (.aload_n 0, 1) := by decide +kernel
theorem dX10_firstAlike_57 : decode cX10_firstAlike 57 = .ok (.getfield 83, 3) := by decide +kernel
theorem dX10_firstAlike_60 : decode cX10_firstAlike 60 = .ok (.iload_n 3, 1) := by decide +kernel
theorem dX10_firstAlike_61 : decode cX10_firstAlike 61 = .ok (.iaload, 1) := by decide +kernel
theorem dX10_firstAlike_62 : decode cX10_firstAlike 62 = .ok (.istore_n 3, 1) := by decide +kernel
theorem dX10_firstAlike_63 : decode cX10_firstAlike 63 = .ok (.iinc 4 1, 3) := by decide +kernel
theorem dX10_firstAlike_66 : decode cX10_firstAlike 66 = .ok (.goto (-43), 3) := by decide +kernel
theorem dX10_firstAlike_69 : decode cX10_firstAlike 69 = .ok (.aload_n 0, 1) := by decide +kernel
theorem dX10_firstAlike_70 : decode cX10_firstAlike 70 = .ok (.getfield 83, 3) := by decide +kernel
theorem dX10_firstAlike_73 : decode cX10_firstAlike 73 = .ok (.iload_n 1, 1) := by decide +kernel
theorem dX10_firstAlike_74 : decode cX10_firstAlike 74 = .ok (.aload_n 0, 1) := by decide +kernel
theorem dX10_firstAlike_75 : decode cX10_firstAlike 75 = .ok (.getfield 79, 3) := by decide +kernel
theorem dX10_firstAlike_78 : decode cX10_firstAlike 78 = .ok (.iload_n 2, 1) := by decide +kernel
theorem dX10_firstAlike_79 : decode cX10_firstAlike 79 = .ok (.iaload, 1) := by decide +kernel
theorem dX10_firstAlike_80 : decode cX10_firstAlike 80 = .ok (.iastore, 1) := by decide +kernel
theorem dX10_firstAlike_81 : decode cX10_firstAlike 81 = .ok (.aload_n 0, 1) := by decide +kernel
theorem dX10_firstAlike_82 : decode cX10_firstAlike 82 = .ok (.getfield 79, 3) := by decide +kernel
theorem dX10_firstAlike_85 : decode cX10_firstAlike 85 = .ok (.iload_n 2, 1) := by decide +kernel
theorem dX10_firstAlike_86 : decode cX10_firstAlike 86 = .ok (.iload_n 1, 1) := by decide +kernel
theorem dX10_firstAlike_87 : decode cX10_firstAlike 87 = .ok (.iastore, 1) := by decide +kernel
theorem dX10_firstAlike_88 : decode cX10_firstAlike 88 = .ok (.iload_n 1, 1) := by decide +kernel
theorem dX10_firstAlike_89 : decode cX10_firstAlike 89 = .ok (.ireturn, 1) := by decide +kernel
theorem dX10_through_0 : decode cX10_through 0 = .ok (.iload_n 1, 1) := by decide +kernel
theorem dX10_through_1 : decode cX10_through 1 = .ok (.invokestatic 242, 3) := by decide +kernel
theorem dX10_through_4 : decode cX10_through 4 = .ok (.istore_n 2, 1) := by decide +kernel
theorem dX10_through_5 : decode cX10_through 5 = .ok (.iload_n 2, 1) := by decide +kernel
theorem dX10_through_6 : decode cX10_through 6 = .ok (.ifCond .ge 7, 3) := by decide +kernel
theorem dX10_through_9 : decode cX10_through 9 = .ok (.iconst (-1), 1) := by decide +kernel
theorem dX10_through_10 : decode cX10_through 10 = .ok (.goto 11, 3) := by decide +kernel
theorem dX10_through_13 : decode cX10_through 13 = .ok (.aload_n 0, 1) := by decide +kernel
theorem dX10_through_14 : decode cX10_through 14 = .ok (.iload_n 2, 1) := by decide +kernel
theorem dX10_through_15 : decode cX10_through 15 = .ok (.invokevirtual 301, 3) := by decide +kernel
theorem dX10_through_18 : decode cX10_through 18 = .ok (.invokestatic 269, 3) := by decide +kernel
theorem dX10_through_21 : decode cX10_through 21 = .ok (.ireturn, 1) := by decide +kernel
theorem dX10_sources_0 : decode cX10_sources 0 = .ok (.iload_n 1, 1) := by decide +kernel
theorem dX10_sources_1 : decode cX10_sources 1 = .ok (.invokestatic 242, 3) := by decide +kernel
theorem dX10_sources_4 : decode cX10_sources 4 = .ok (.istore_n 2, 1) := by decide +kernel
theorem dX10_sources_5 : decode cX10_sources 5 = .ok (.iload_n 2, 1) := by decide +kernel
theorem dX10_sources_6 : decode cX10_sources 6 = .ok (.ifCond .ge 5, 3) := by decide +kernel
theorem dX10_sources_9 : decode cX10_sources 9 = .ok (.iconst (-1), 1) := by decide +kernel
theorem dX10_sources_10 : decode cX10_sources 10 = .ok (.ireturn, 1) := by decide +kernel
theorem dX10_sources_11 : decode cX10_sources 11 = .ok (.iconst 0, 1) := by decide +kernel
theorem dX10_sources_12 : decode cX10_sources 12 = .ok (.istore_n 3, 1) := by decide +kernel
theorem dX10_sources_13 : decode cX10_sources 13 = .ok (.iconst (-1), 1) := by decide +kernel
theorem dX10_sources_14 : decode cX10_sources 14 = .ok (.istore 4, 2) := by decide +kernel
theorem dX10_sources_16 : decode cX10_sources 16 = .ok (.iconst (-1), 1) := by decide +kernel
theorem dX10_sources_17 : decode cX10_sources 17 = .ok (.istore 5, 2) := by decide +kernel
theorem dX10_sources_19 : decode cX10_sources 19 = .ok (.iconst 0, 1) := by decide +kernel
theorem dX10_sources_20 : decode cX10_sources 20 = .ok (.istore 6, 2) := by decide +kernel
theorem dX10_sources_22 : decode cX10_sources 22 = .ok (.iload 6, 2) := by decide +kernel
theorem dX10_sources_24 : decode cX10_sources 24 = .ok (.sipush 6561, 3) := by decide +kernel
theorem dX10_sources_27 : decode cX10_sources 27 = .ok (.if_icmp .ge 40, 3) := by decide +kernel
theorem dX10_sources_30 : decode cX10_sources 30 = .ok (.aload_n 0, 1) := by decide +kernel
theorem dX10_sources_31 : decode cX10_sources 31 = .ok (.iload 6, 2) := by decide +kernel
theorem dX10_sources_33 : decode cX10_sources 33 = .ok (.invokevirtual 301, 3) := by decide +kernel
theorem dX10_sources_36 : decode cX10_sources 36 = .ok (.iload_n 2, 1) := by decide +kernel
theorem dX10_sources_37 : decode cX10_sources 37 = .ok (.if_icmp .ne 24, 3) := by decide +kernel
theorem dX10_sources_40 : decode cX10_sources 40 = .ok (.iinc 3 1, 3) := by decide +kernel
theorem dX10_sources_43 : decode cX10_sources 43 = .ok (.iload 4, 2) := by decide +kernel
theorem dX10_sources_45 : decode cX10_sources 45 = .ok (.ifCond .ge 8, 3) := by decide +kernel
theorem dX10_sources_48 : decode cX10_sources 48 = .ok (.iload 6, 2) := by decide +kernel
theorem dX10_sources_50 : decode cX10_sources 50 = .ok (.goto 5, 3) := by decide +kernel
theorem dX10_sources_53 : decode cX10_sources 53 = .ok (.iload 4, 2) := by decide +kernel
theorem dX10_sources_55 : decode cX10_sources 55 = .ok (.istore 4, 2) := by decide +kernel
theorem dX10_sources_57 : decode cX10_sources 57 = .ok (.iload 6, 2) := by decide +kernel
theorem dX10_sources_59 : decode cX10_sources 59 = .ok (.istore 5, 2) := by decide +kernel
theorem dX10_sources_61 : decode cX10_sources 61 = .ok (.iinc 6 1, 3) := by decide +kernel
theorem dX10_sources_64 : decode cX10_sources 64 = .ok (.goto (-42), 3) := by decide +kernel
theorem dX10_sources_67 : decode cX10_sources 67 = .ok (.aload_n 0, 1) := by decide +kernel
theorem dX10_sources_68 : decode cX10_sources 68 = .ok (.getfield 19, 3) := by decide +kernel
theorem dX10_sources_71 : decode cX10_sources 71 = .ok (.invokevirtual 232, 3) := by decide +kernel
theorem dX10_sources_74 : decode cX10_sources 74 = .ok (.iload_n 3, 1) := by decide +kernel
theorem dX10_sources_75 : decode cX10_sources 75 = .ok (.ifCond .le 29, 3) := by decide +kernel
theorem dX10_sources_78 : decode cX10_sources 78 = .ok (.aload_n 0, 1) := by decide +kernel
theorem dX10_sources_79 : decode cX10_sources 79 = .ok (.getfield 19, 3) := by decide +kernel
theorem dX10_sources_82 : decode cX10_sources 82 = .ok (.iload 4, 2) := by decide +kernel
theorem dX10_sources_84 : decode cX10_sources 84 = .ok (.invokestatic 269, 3) := by decide +kernel
theorem dX10_sources_87 : decode cX10_sources 87 = .ok (.i2l, 1) := by decide +kernel
theorem dX10_sources_88 : decode cX10_sources 88 = .ok (.invokevirtual 235, 3) := by decide +kernel
theorem dX10_sources_91 : decode cX10_sources 91 = .ok (.aload_n 0, 1) := by decide +kernel
theorem dX10_sources_92 : decode cX10_sources 92 = .ok (.getfield 19, 3) := by decide +kernel
theorem dX10_sources_95 : decode cX10_sources 95 = .ok (.iload 5, 2) := by decide +kernel
theorem dX10_sources_97 : decode cX10_sources 97 = .ok (.invokestatic 269, 3) := by decide +kernel
theorem dX10_sources_100 : decode cX10_sources 100 = .ok (.i2l, 1) := by decide +kernel
theorem dX10_sources_101 : decode cX10_sources 101 = .ok (.invokevirtual 235, 3) := by decide +kernel
theorem dX10_sources_104 : decode cX10_sources 104 = .ok (.iload_n 3, 1) := by decide +kernel
theorem dX10_sources_105 : decode cX10_sources 105 = .ok (.ireturn, 1) := by decide +kernel
theorem dX10_rounds_0 : decode cX10_rounds 0 = .ok (.iload_n 1, 1) := by decide +kernel
theorem dX10_rounds_1 : decode cX10_rounds 1 = .ok (.invokestatic 242, 3) := by decide +kernel
theorem dX10_rounds_4 : decode cX10_rounds 4 = .ok (.istore_n 2, 1) := by decide +kernel
theorem dX10_rounds_5 : decode cX10_rounds 5 = .ok (.iload_n 2, 1) := by decide +kernel
theorem dX10_rounds_6 : decode cX10_rounds 6 = .ok (.ifCond .ge 5, 3) := by decide +kernel
theorem dX10_rounds_9 : decode cX10_rounds 9 = .ok (.iconst (-1), 1) := by decide +kernel
theorem dX10_rounds_10 : decode cX10_rounds 10 = .ok (.ireturn, 1) := by decide +kernel
theorem dX10_rounds_11 : decode cX10_rounds 11 = .ok (.aload_n 0, 1) := by decide +kernel
theorem dX10_rounds_12 : decode cX10_rounds 12 = .ok (.getfield 79, 3) := by decide +kernel
theorem dX10_rounds_15 : decode cX10_rounds 15 = .ok (.iconst (-1), 1) := by decide +kernel
theorem dX10_rounds_16 : decode cX10_rounds 16 = .ok (.invokestatic 339, 3) := by decide +kernel
theorem dX10_rounds_19 : decode cX10_rounds 19 = .ok (.iconst 0, 1) := by decide +kernel
theorem dX10_rounds_20 : decode cX10_rounds 20 = .ok (.istore_n 3, 1) := by decide +kernel
theorem dX10_rounds_21 : decode cX10_rounds 21 = .ok (.iconst 0, 1) := by decide +kernel
theorem dX10_rounds_22 : decode cX10_rounds 22 = .ok (.istore 4, 2) := by decide +kernel
theorem dX10_rounds_24 : decode cX10_rounds 24 = .ok (.iload 4, 2) := by decide +kernel
theorem dX10_rounds_26 : decode cX10_rounds 26 = .ok (.sipush 6561, 3) := by decide +kernel
theorem dX10_rounds_29 : decode cX10_rounds 29 = .ok (.if_icmp .gt 34, 3) := by decide +kernel
theorem dX10_rounds_32 : decode cX10_rounds 32 = .ok (.aload_n 0, 1) := by decide +kernel
theorem dX10_rounds_33 : decode cX10_rounds 33 = .ok (.getfield 79, 3) := by decide +kernel
theorem dX10_rounds_36 : decode cX10_rounds 36 = .ok (.iload_n 2, 1) := by decide +kernel
theorem dX10_rounds_37 : decode cX10_rounds 37 = .ok (.iaload, 1) := by decide +kernel
theorem dX10_rounds_38 : decode cX10_rounds 38 = .ok (.ifCond .ge 25, 3) := by decide +kernel
theorem dX10_rounds_41 : decode cX10_rounds 41 = .ok (.aload_n 0, 1) := by decide +kernel
theorem dX10_rounds_42 : decode cX10_rounds 42 = .ok (.getfield 79, 3) := by decide +kernel
theorem dX10_rounds_45 : decode cX10_rounds 45 = .ok (.iload_n 2, 1) := by decide +kernel
theorem dX10_rounds_46 : decode cX10_rounds 46 = .ok (.iload_n 3, 1) := by decide +kernel
theorem dX10_rounds_47 : decode cX10_rounds 47 = .ok (.iastore, 1) := by decide +kernel
theorem dX10_rounds_48 : decode cX10_rounds 48 = .ok (.aload_n 0, 1) := by decide +kernel
theorem dX10_rounds_49 : decode cX10_rounds 49 = .ok (.iload_n 2, 1) := by decide +kernel
theorem dX10_rounds_50 : decode cX10_rounds 50 = .ok (.invokevirtual 301, 3) := by decide +kernel
theorem dX10_rounds_53 : decode cX10_rounds 53 = .ok (.istore_n 2, 1) := by decide +kernel
theorem dX10_rounds_54 : decode cX10_rounds 54 = .ok (.iinc 3 1, 3) := by decide +kernel
theorem dX10_rounds_57 : decode cX10_rounds 57 = .ok (.iinc 4 1, 3) := by decide +kernel
theorem dX10_rounds_60 : decode cX10_rounds 60 = .ok (.goto (-36), 3) := by decide +kernel
theorem dX10_rounds_63 : decode cX10_rounds 63 = .ok (.aload_n 0, 1) := by decide +kernel
theorem dX10_rounds_64 : decode cX10_rounds 64 = .ok (.getfield 79, 3) := by decide +kernel
theorem dX10_rounds_67 : decode cX10_rounds 67 = .ok (.iload_n 2, 1) := by decide +kernel
theorem dX10_rounds_68 : decode cX10_rounds 68 = .ok (.iaload, 1) := by decide +kernel
theorem dX10_rounds_69 : decode cX10_rounds 69 = .ok (.istore 4, 2) := by decide +kernel
theorem dX10_rounds_71 : decode cX10_rounds 71 = .ok (.iload_n 2, 1) := by decide +kernel
theorem dX10_rounds_72 : decode cX10_rounds 72 = .ok (.istore 5, 2) := by decide +kernel
theorem dX10_rounds_74 : decode cX10_rounds 74 = .ok (.iload 4, 2) := by decide +kernel
theorem dX10_rounds_76 : decode cX10_rounds 76 = .ok (.istore 6, 2) := by decide +kernel
theorem dX10_rounds_78 : decode cX10_rounds 78 = .ok (.iload 6, 2) := by decide +kernel
theorem dX10_rounds_80 : decode cX10_rounds 80 = .ok (.iload_n 3, 1) := by decide +kernel
theorem dX10_rounds_81 : decode cX10_rounds 81 = .ok (.if_icmp .ge 23, 3) := by decide +kernel
theorem dX10_rounds_84 : decode cX10_rounds 84 = .ok (.aload_n 0, 1) := by decide +kernel
theorem dX10_rounds_85 : decode cX10_rounds 85 = .ok (.iload_n 2, 1) := by decide +kernel
theorem dX10_rounds_86 : decode cX10_rounds 86 = .ok (.invokevirtual 301, 3) := by decide +kernel
theorem dX10_rounds_89 : decode cX10_rounds 89 = .ok (.istore_n 2, 1) := by decide +kernel
theorem dX10_rounds_90 : decode cX10_rounds 90 = .ok (.iload 5, 2) := by decide +kernel
theorem dX10_rounds_92 : decode cX10_rounds 92 = .ok (.iload_n 2, 1) := by decide +kernel
theorem dX10_rounds_93 : decode cX10_rounds 93 = .ok (.invokestatic 381, 3) := by decide +kernel
theorem dX10_rounds_96 : decode cX10_rounds 96 = .ok (.istore 5, 2) := by decide +kernel
theorem dX10_rounds_98 : decode cX10_rounds 98 = .ok (.iinc 6 1, 3) := by decide +kernel
theorem dX10_rounds_101 : decode cX10_rounds 101 = .ok (.goto (-23), 3) := by decide +kernel
theorem dX10_rounds_104 : decode cX10_rounds 104 = .ok (.aload_n 0, 1) := by decide +kernel
theorem dX10_rounds_105 : decode cX10_rounds 105 = .ok (.getfield 19, 3) := by decide +kernel
theorem dX10_rounds_108 : decode cX10_rounds 108 = .ok (.invokevirtual 232, 3) := by decide +kernel
theorem dX10_rounds_111 : decode cX10_rounds 111 = .ok (.aload_n 0, 1) := by decide +kernel
theorem dX10_rounds_112 : decode cX10_rounds 112 = .ok (.getfield 19, 3) := by decide +kernel
theorem dX10_rounds_115 : decode cX10_rounds 115 = .ok (.iload_n 3, 1) := by decide +kernel
theorem dX10_rounds_116 : decode cX10_rounds 116 = .ok (.iload 4, 2) := by decide +kernel
theorem dX10_rounds_118 : decode cX10_rounds 118 = .ok (.isub, 1) := by decide +kernel
theorem dX10_rounds_119 : decode cX10_rounds 119 = .ok (.i2l, 1) := by decide +kernel
theorem dX10_rounds_120 : decode cX10_rounds 120 = .ok (.invokevirtual 235, 3) := by decide +kernel
theorem dX10_rounds_123 : decode cX10_rounds 123 = .ok (.aload_n 0, 1) := by decide +kernel
theorem dX10_rounds_124 : decode cX10_rounds 124 = .ok (.getfield 19, 3) := by decide +kernel
theorem dX10_rounds_127 : decode cX10_rounds 127 = .ok (.iload 5, 2) := by decide +kernel
theorem dX10_rounds_129 : decode cX10_rounds 129 = .ok (.invokestatic 269, 3) := by decide +kernel
theorem dX10_rounds_132 : decode cX10_rounds 132 = .ok (.i2l, 1) := by decide +kernel
theorem dX10_rounds_133 : decode cX10_rounds 133 = .ok (.invokevirtual 235, 3) := by decide +kernel
theorem dX10_rounds_136 : decode cX10_rounds 136 = .ok (.iload 4, 2) := by decide +kernel
theorem dX10_rounds_138 : decode cX10_rounds 138 = .ok (.ireturn, 1) := by decide +kernel
theorem dX10_linked_0 : decode cX10_linked 0 = .ok (.aload_n 0, 1) := by decide +kernel
theorem dX10_linked_1 : decode cX10_linked 1 = .ok (.getfield 68, 3) := by decide +kernel
theorem dX10_linked_4 : decode cX10_linked 4 = .ok (.iload_n 1, 1) := by decide +kernel
theorem dX10_linked_5 : decode cX10_linked 5 = .ok (.invokevirtual 260, 3) := by decide +kernel
theorem dX10_linked_8 : decode cX10_linked 8 = .ok (.aload_n 0, 1) := by decide +kernel
theorem dX10_linked_9 : decode cX10_linked 9 = .ok (.getfield 68, 3) := by decide +kernel
theorem dX10_linked_12 : decode cX10_linked 12 = .ok (.aload_n 0, 1) := by decide +kernel
theorem dX10_linked_13 : decode cX10_linked 13 = .ok (.getfield 26, 3) := by decide +kernel
theorem dX10_linked_16 : decode cX10_linked 16 = .ok (.getfield 139, 3) := by decide +kernel
theorem dX10_linked_19 : decode cX10_linked 19 = .ok (.getfield 384, 3) := by decide +kernel
theorem dX10_linked_22 : decode cX10_linked 22 = .ok (.aload_n 0, 1) := by decide +kernel
theorem dX10_linked_23 : decode cX10_linked 23 = .ok (.getfield 26, 3) := by decide +kernel
theorem dX10_linked_26 : decode cX10_linked 26 = .ok (.getfield 130, 3) := by decide +kernel
theorem dX10_linked_29 : decode cX10_linked 29 = .ok (.iconst 0, 1) := by decide +kernel
theorem dX10_linked_30 : decode cX10_linked 30 = .ok (.invokestatic 388, 3) := by decide +kernel
theorem dX10_linked_33 : decode cX10_linked 33 = .ok (.aload_n 0, 1) := by decide +kernel
theorem dX10_linked_34 : decode cX10_linked 34 = .ok (.getfield 68, 3) := by decide +kernel
theorem dX10_linked_37 : decode cX10_linked 37 = .ok (.invokevirtual 266, 3) := by decide +kernel
theorem dX10_linked_40 : decode cX10_linked 40 = .ok (.ireturn, 1) := by decide +kernel
theorem dX10_press_0 : decode cX10_press 0 = .ok (.iload_n 1, 1) := by decide +kernel
theorem dX10_press_1 : decode cX10_press 1 = .ok (.invokestatic 392, 3) := by decide +kernel
theorem dX10_press_4 : decode cX10_press 4 = .ok (.ifCond .ne 5, 3) := by decide +kernel
theorem dX10_press_7 : decode cX10_press 7 = .ok (.iconst (-1), 1) := by decide +kernel
theorem dX10_press_8 : decode cX10_press 8 = .ok (.ireturn, 1) := by decide +kernel
theorem dX10_press_9 : decode cX10_press 9 = .ok (.aload_n 0, 1) := by decide +kernel
theorem dX10_press_10 : decode cX10_press 10 = .ok (.getfield 26, 3) := by decide +kernel
theorem dX10_press_13 : decode cX10_press 13 = .ok (.invokevirtual 164, 3) := by decide +kernel
theorem dX10_press_16 : decode cX10_press 16 = .ok (.ifCond .ne 6, 3) := by decide +kernel
theorem dX10_press_19 : decode cX10_press 19 = .ok (.bipush (-2), 2) := by decide +kernel
theorem dX10_press_21 : decode cX10_press 21 = .ok (.ireturn, 1) := by decide +kernel
theorem dX10_press_22 : decode cX10_press 22 = .ok (.aload_n 0, 1) := by decide +kernel
theorem dX10_press_23 : decode cX10_press 23 = .ok (.invokevirtual 245, 3) := by decide +kernel
theorem dX10_press_26 : decode cX10_press 26 = .ok (.aload_n 0, 1) := by decide +kernel
theorem dX10_press_27 : decode cX10_press 27 = .ok (.getfield 75, 3) := by decide +kernel
theorem dX10_press_30 : decode cX10_press 30 = .ok (.aload_n 0, 1) := by decide +kernel
theorem dX10_press_31 : decode cX10_press 31 = .ok (.getfield 26, 3) := by decide +kernel
theorem dX10_press_34 : decode cX10_press 34 = .ok (.aload_n 0, 1) := by decide +kernel
theorem dX10_press_35 : decode cX10_press 35 = .ok (.getfield 48, 3) := by decide +kernel
theorem dX10_press_38 : decode cX10_press 38 = .ok (.aload_n 0, 1) := by decide +kernel
theorem dX10_press_39 : decode cX10_press 39 = .ok (.getfield 61, 3) := by decide +kernel
theorem dX10_press_42 : decode cX10_press 42 = .ok (.iload_n 1, 1) := by decide +kernel
theorem dX10_press_43 : decode cX10_press 43 = .ok (.iconst 1, 1) := by decide +kernel
theorem dX10_press_44 : decode cX10_press 44 = .ok (.if_icmp .ne 7, 3) := by decide +kernel
theorem dX10_press_47 : decode cX10_press 47 = .ok (.iconst 1, 1) := by decide +kernel
theorem dX10_press_48 : decode cX10_press 48 = .ok (.goto 4, 3) := by decide +kernel
theorem dX10_press_51 : decode cX10_press 51 = .ok (.iconst 0, 1) := by decide +kernel
theorem dX10_press_52 : decode cX10_press 52 = .ok (.aload_n 0, 1) := by decide +kernel
theorem dX10_press_53 : decode cX10_press 53 = .ok (.getfield 26, 3) := by decide +kernel
theorem dX10_press_56 : decode cX10_press 56 = .ok (.invokevirtual 164, 3) := by decide +kernel
theorem dX10_press_59 : decode cX10_press 59 = .ok (.invokevirtual 395, 3) := by decide +kernel
theorem dX10_press_62 : decode cX10_press 62 = .ok (.aload_n 0, 1) := by decide +kernel
theorem dX10_press_63 : decode cX10_press 63 = .ok (.getfield 19, 3) := by decide +kernel
theorem dX10_press_66 : decode cX10_press 66 = .ok (.invokevirtual 232, 3) := by decide +kernel
theorem dX10_press_69 : decode cX10_press 69 = .ok (.iconst 0, 1) := by decide +kernel
theorem dX10_press_70 : decode cX10_press 70 = .ok (.istore_n 2, 1) := by decide +kernel
theorem dX10_press_71 : decode cX10_press 71 = .ok (.iload_n 2, 1) := by decide +kernel
theorem dX10_press_72 : decode cX10_press 72 = .ok (.iconst 4, 1) := by decide +kernel
theorem dX10_press_73 : decode cX10_press 73 = .ok (.if_icmp .ge 29, 3) := by decide +kernel
theorem dX10_press_76 : decode cX10_press 76 = .ok (.aload_n 0, 1) := by decide +kernel
theorem dX10_press_77 : decode cX10_press 77 = .ok (.getfield 19, 3) := by decide +kernel
theorem dX10_press_80 : decode cX10_press 80 = .ok (.aload_n 0, 1) := by decide +kernel
theorem dX10_press_81 : decode cX10_press 81 = .ok (.getfield 75, 3) := by decide +kernel
theorem dX10_press_84 : decode cX10_press 84 = .ok (.aload_n 0, 1) := by decide +kernel
theorem dX10_press_85 : decode cX10_press 85 = .ok (.getfield 26, 3) := by decide +kernel
theorem dX10_press_88 : decode cX10_press 88 = .ok (.iload_n 2, 1) := by decide +kernel
theorem dX10_press_89 : decode cX10_press 89 = .ok (.invokevirtual 399, 3) := by decide +kernel
theorem dX10_press_92 : decode cX10_press 92 = .ok (.i2l, 1) := by decide +kernel
theorem dX10_press_93 : decode cX10_press 93 = .ok (.invokevirtual 235, 3) := by decide +kernel
theorem dX10_press_96 : decode cX10_press 96 = .ok (.iinc 2 1, 3) := by decide +kernel
theorem dX10_press_99 : decode cX10_press 99 = .ok (.goto (-28), 3) := by decide +kernel
theorem dX10_press_102 : decode cX10_press 102 = .ok (.aload_n 0, 1) := by decide +kernel
theorem dX10_press_103 : decode cX10_press 103 = .ok (.getfield 19, 3) := by decide +kernel
theorem dX10_press_106 : decode cX10_press 106 = .ok (.aload_n 0, 1) := by decide +kernel
theorem dX10_press_107 : decode cX10_press 107 = .ok (.getfield 75, 3) := by decide +kernel
theorem dX10_press_110 : decode cX10_press 110 = .ok (.aload_n 0, 1) := by decide +kernel
theorem dX10_press_111 : decode cX10_press 111 = .ok (.getfield 26, 3) := by decide +kernel
theorem dX10_press_114 : decode cX10_press 114 = .ok (.aload_n 0, 1) := by decide +kernel
theorem dX10_press_115 : decode cX10_press 115 = .ok (.getfield 48, 3) := by decide +kernel
theorem dX10_press_118 : decode cX10_press 118 = .ok (.invokevirtual 403, 3) := by decide +kernel
theorem dX10_press_121 : decode cX10_press 121 = .ok (.invokevirtual 235, 3) := by decide +kernel
theorem dX10_press_124 : decode cX10_press 124 = .ok (.aload_n 0, 1) := by decide +kernel
theorem dX10_press_125 : decode cX10_press 125 = .ok (.getfield 75, 3) := by decide +kernel
theorem dX10_press_128 : decode cX10_press 128 = .ok (.aload_n 0, 1) := by decide +kernel
theorem dX10_press_129 : decode cX10_press 129 = .ok (.getfield 26, 3) := by decide +kernel
theorem dX10_press_132 : decode cX10_press 132 = .ok (.invokevirtual 407, 3) := by decide +kernel
theorem dX10_press_135 : decode cX10_press 135 = .ok (.ireturn, 1) := by decide +kernel
theorem dX10_cell_0 : decode cX10_cell 0 = .ok (.iload_n 1, 1) := by decide +kernel
theorem dX10_cell_1 : decode cX10_cell 1 = .ok (.invokestatic 392, 3) := by decide +kernel
theorem dX10_cell_4 : decode cX10_cell 4 = .ok (.ifCond .ne 5, 3) := by decide +kernel
theorem dX10_cell_7 : decode cX10_cell 7 = .ok (.iconst (-1), 1) := by decide +kernel
theorem dX10_cell_8 : decode cX10_cell 8 = .ok (.ireturn, 1) := by decide +kernel
theorem dX10_cell_9 : decode cX10_cell 9 = .ok (.aload_n 0, 1) := by decide +kernel
theorem dX10_cell_10 : decode cX10_cell 10 = .ok (.getfield 26, 3) := by decide +kernel
theorem dX10_cell_13 : decode cX10_cell 13 = .ok (.invokevirtual 164, 3) := by decide +kernel
theorem dX10_cell_16 : decode cX10_cell 16 = .ok (.ifCond .ne 6, 3) := by decide +kernel
theorem dX10_cell_19 : decode cX10_cell 19 = .ok (.bipush (-2), 2) := by decide +kernel
theorem dX10_cell_21 : decode cX10_cell 21 = .ok (.ireturn, 1) := by decide +kernel
theorem dX10_cell_22 : decode cX10_cell 22 = .ok (.iload_n 2, 1) := by decide +kernel
theorem dX10_cell_23 : decode cX10_cell 23 = .ok (.iconst 0, 1) := by decide +kernel
theorem dX10_cell_24 : decode cX10_cell 24 = .ok (.aload_n 0, 1) := by decide +kernel
theorem dX10_cell_25 : decode cX10_cell 25 = .ok (.getfield 26, 3) := by decide +kernel
theorem dX10_cell_28 : decode cX10_cell 28 = .ok (.invokevirtual 164, 3) := by decide +kernel
theorem dX10_cell_31 : decode cX10_cell 31 = .ok (.iconst 1, 1) := by decide +kernel
theorem dX10_cell_32 : decode cX10_cell 32 = .ok (.isub, 1) := by decide +kernel
theorem dX10_cell_33 : decode cX10_cell 33 = .ok (.invokestatic 179, 3) := by decide +kernel
theorem dX10_cell_36 : decode cX10_cell 36 = .ok (.ifCond .ne 5, 3) := by decide +kernel
theorem dX10_cell_39 : decode cX10_cell 39 = .ok (.iconst (-1), 1) := by decide +kernel
theorem dX10_cell_40 : decode cX10_cell 40 = .ok (.ireturn, 1) := by decide +kernel
theorem dX10_cell_41 : decode cX10_cell 41 = .ok (.aload_n 0, 1) := by decide +kernel
theorem dX10_cell_42 : decode cX10_cell 42 = .ok (.invokevirtual 245, 3) := by decide +kernel
theorem dX10_cell_45 : decode cX10_cell 45 = .ok (.aload_n 0, 1) := by decide +kernel
theorem dX10_cell_46 : decode cX10_cell 46 = .ok (.getfield 75, 3) := by decide +kernel
theorem dX10_cell_49 : decode cX10_cell 49 = .ok (.aload_n 0, 1) := by decide +kernel
theorem dX10_cell_50 : decode cX10_cell 50 = .ok (.getfield 26, 3) := by decide +kernel
theorem dX10_cell_53 : decode cX10_cell 53 = .ok (.aload_n 0, 1) := by decide +kernel
theorem dX10_cell_54 : decode cX10_cell 54 = .ok (.getfield 48, 3) := by decide +kernel
theorem dX10_cell_57 : decode cX10_cell 57 = .ok (.aload_n 0, 1) := by decide +kernel
theorem dX10_cell_58 : decode cX10_cell 58 = .ok (.getfield 61, 3) := by decide +kernel
theorem dX10_cell_61 : decode cX10_cell 61 = .ok (.iload_n 1, 1) := by decide +kernel
theorem dX10_cell_62 : decode cX10_cell 62 = .ok (.iconst 1, 1) := by decide +kernel
theorem dX10_cell_63 : decode cX10_cell 63 = .ok (.if_icmp .ne 7, 3) := by decide +kernel
theorem dX10_cell_66 : decode cX10_cell 66 = .ok (.iconst 1, 1) := by decide +kernel
theorem dX10_cell_67 : decode cX10_cell 67 = .ok (.goto 4, 3) := by decide +kernel
theorem dX10_cell_70 : decode cX10_cell 70 = .ok (.iconst 0, 1) := by decide +kernel
theorem dX10_cell_71 : decode cX10_cell 71 = .ok (.iload_n 2, 1) := by decide +kernel
theorem dX10_cell_72 : decode cX10_cell 72 = .ok (.iconst 1, 1) := by decide +kernel
theorem dX10_cell_73 : decode cX10_cell 73 = .ok (.iadd, 1) := by decide +kernel
theorem dX10_cell_74 : decode cX10_cell 74 = .ok (.invokevirtual 395, 3) := by decide +kernel
theorem dX10_cell_77 : decode cX10_cell 77 = .ok (.aload_n 0, 1) := by decide +kernel
theorem dX10_cell_78 : decode cX10_cell 78 = .ok (.getfield 75, 3) := by decide +kernel
theorem dX10_cell_81 : decode cX10_cell 81 = .ok (.getfield 411, 3) := by decide +kernel
theorem dX10_cell_84 : decode cX10_cell 84 = .ok (.iload_n 2, 1) := by decide +kernel
theorem dX10_cell_85 : decode cX10_cell 85 = .ok (.iaload, 1) := by decide +kernel
theorem dX10_cell_86 : decode cX10_cell 86 = .ok (.invokestatic 269, 3) := by decide +kernel
theorem dX10_cell_89 : decode cX10_cell 89 = .ok (.ireturn, 1) := by decide +kernel
theorem dX10_slips_0 : decode cX10_slips 0 = .ok (.iload_n 1, 1) := by decide +kernel
theorem dX10_slips_1 : decode cX10_slips 1 = .ok (.invokestatic 126, 3) := by decide +kernel
theorem dX10_slips_4 : decode cX10_slips 4 = .ok (.ifCond .eq 25, 3) := by decide +kernel
theorem dX10_slips_7 : decode cX10_slips 7 = .ok (.iload_n 2, 1) := by decide +kernel
theorem dX10_slips_8 : decode cX10_slips 8 = .ok (.bipush (-8), 2) := by decide +kernel
theorem dX10_slips_10 : decode cX10_slips 10 = .ok (.bipush 8, 2) := by decide +kernel
theorem dX10_slips_12 : decode cX10_slips 12 = .ok (.invokestatic 179, 3) := by decide +kernel
theorem dX10_slips_15 : decode cX10_slips 15 = .ok (.ifCond .eq 14, 3) := by decide +kernel
theorem dX10_slips_18 : decode cX10_slips 18 = .ok (.iload_n 3, 1) := by decide +kernel
theorem dX10_slips_19 : decode cX10_slips 19 = .ok (.bipush (-8), 2) := by decide +kernel
theorem dX10_slips_21 : decode cX10_slips 21 = .ok (.bipush 8, 2) := by decide +kernel
theorem dX10_slips_23 : decode cX10_slips 23 = .ok (.invokestatic 179, 3) := by decide +kernel
theorem dX10_slips_26 : decode cX10_slips 26 = .ok (.ifCond .ne 5, 3) := by decide +kernel
theorem dX10_slips_29 : decode cX10_slips 29 = .ok (.iconst (-1), 1) := by decide +kernel
theorem dX10_slips_30 : decode cX10_slips 30 = .ok (.ireturn, 1) := by decide +kernel
theorem dX10_slips_31 : decode cX10_slips 31 = .ok (.aload_n 0, 1) := by decide +kernel
theorem dX10_slips_32 : decode cX10_slips 32 = .ok (.getfield 26, 3) := by decide +kernel
theorem dX10_slips_35 : decode cX10_slips 35 = .ok (.invokevirtual 164, 3) := by decide +kernel
theorem dX10_slips_38 : decode cX10_slips 38 = .ok (.ifCond .ne 6, 3) := by decide +kernel
theorem dX10_slips_41 : decode cX10_slips 41 = .ok (.bipush (-2), 2) := by decide +kernel
theorem dX10_slips_43 : decode cX10_slips 43 = .ok (.ireturn, 1) := by decide +kernel
theorem dX10_slips_44 : decode cX10_slips 44 = .ok (.aload_n 0, 1) := by decide +kernel
theorem dX10_slips_45 : decode cX10_slips 45 = .ok (.invokevirtual 245, 3) := by decide +kernel
theorem dX10_slips_48 : decode cX10_slips 48 = .ok (.aload_n 0, 1) := by decide +kernel
theorem dX10_slips_49 : decode cX10_slips 49 = .ok (.getfield 75, 3) := by decide +kernel
theorem dX10_slips_52 : decode cX10_slips 52 = .ok (.aload_n 0, 1) := by decide +kernel
theorem dX10_slips_53 : decode cX10_slips 53 = .ok (.getfield 26, 3) := by decide +kernel
theorem dX10_slips_56 : decode cX10_slips 56 = .ok (.aload_n 0, 1) := by decide +kernel
theorem dX10_slips_57 : decode cX10_slips 57 = .ok (.getfield 48, 3) := by decide +kernel
theorem dX10_slips_60 : decode cX10_slips 60 = .ok (.aload_n 0, 1) := by decide +kernel
theorem dX10_slips_61 : decode cX10_slips 61 = .ok (.getfield 61, 3) := by decide +kernel
theorem dX10_slips_64 : decode cX10_slips 64 = .ok (.iconst 0, 1) := by decide +kernel
theorem dX10_slips_65 : decode cX10_slips 65 = .ok (.aload_n 0, 1) := by decide +kernel
theorem dX10_slips_66 : decode cX10_slips 66 = .ok (.getfield 26, 3) := by decide +kernel
theorem dX10_slips_69 : decode cX10_slips 69 = .ok (.invokevirtual 164, 3) := by decide +kernel
theorem dX10_slips_72 : decode cX10_slips 72 = .ok (.invokevirtual 395, 3) := by decide +kernel
theorem dX10_slips_75 : decode cX10_slips 75 = .ok (.iconst 0, 1) := by decide +kernel
theorem dX10_slips_76 : decode cX10_slips 76 = .ok (.istore 4, 2) := by decide +kernel
theorem dX10_slips_78 : decode cX10_slips 78 = .ok (.iconst 0, 1) := by decide +kernel
theorem dX10_slips_79 : decode cX10_slips 79 = .ok (.istore 5, 2) := by decide +kernel
theorem dX10_slips_81 : decode cX10_slips 81 = .ok (.iconst 0, 1) := by decide +kernel
theorem dX10_slips_82 : decode cX10_slips 82 = .ok (.istore 6, 2) := by decide +kernel
theorem dX10_slips_84 : decode cX10_slips 84 = .ok (.iload 6, 2) := by decide +kernel
theorem dX10_slips_86 : decode cX10_slips 86 = .ok (.aload_n 0, 1) := by decide +kernel
theorem dX10_slips_87 : decode cX10_slips 87 = .ok (.getfield 26, 3) := by decide +kernel
theorem dX10_slips_90 : decode cX10_slips 90 = .ok (.invokevirtual 164, 3) := by decide +kernel
theorem dX10_slips_93 : decode cX10_slips 93 = .ok (.if_icmp .ge 69, 3) := by decide +kernel
theorem dX10_slips_96 : decode cX10_slips 96 = .ok (.aload_n 0, 1) := by decide +kernel
theorem dX10_slips_97 : decode cX10_slips 97 = .ok (.getfield 75, 3) := by decide +kernel
theorem dX10_slips_100 : decode cX10_slips 100 = .ok (.getfield 411, 3) := by decide +kernel
theorem dX10_slips_103 : decode cX10_slips 103 = .ok (.iload 6, 2) := by decide +kernel
theorem dX10_slips_105 : decode cX10_slips 105 = .ok (.iaload, 1) := by decide +kernel
theorem dX10_slips_106 : decode cX10_slips 106 = .ok (.istore 7, 2) := by decide +kernel
theorem dX10_slips_108 : decode cX10_slips 108 = .ok (.aload_n 0, 1) := by decide +kernel
theorem dX10_slips_109 : decode cX10_slips 109 = .ok (.getfield 75, 3) := by decide +kernel
theorem dX10_slips_112 : decode cX10_slips 112 = .ok (.aload_n 0, 1) := by decide +kernel
theorem dX10_slips_113 : decode cX10_slips 113 = .ok (.getfield 26, 3) := by decide +kernel
theorem dX10_slips_116 : decode cX10_slips 116 = .ok (.iload 6, 2) := by decide +kernel
theorem dX10_slips_118 : decode cX10_slips 118 = .ok (.iload_n 1, 1) := by decide +kernel
theorem dX10_slips_119 : decode cX10_slips 119 = .ok (.iload_n 2, 1) := by decide +kernel
theorem dX10_slips_120 : decode cX10_slips 120 = .ok (.iload_n 3, 1) := by decide +kernel
theorem dX10_slips_121 : decode cX10_slips 121 = .ok (.invokevirtual 414, 3) := by decide +kernel
theorem dX10_slips_124 : decode cX10_slips 124 = .ok (.istore 8, 2) := by decide +kernel
theorem dX10_slips_126 : decode cX10_slips 126 = .ok (.iload 8, 2) := by decide +kernel
theorem dX10_slips_128 : decode cX10_slips 128 = .ok (.iload 7, 2) := by decide +kernel
theorem dX10_slips_130 : decode cX10_slips 130 = .ok (.if_icmp .eq 26, 3) := by decide +kernel
theorem dX10_slips_133 : decode cX10_slips 133 = .ok (.iinc 4 1, 3) := by decide +kernel
theorem dX10_slips_136 : decode cX10_slips 136 = .ok (.iload 5, 2) := by decide +kernel
theorem dX10_slips_138 : decode cX10_slips 138 = .ok (.aload_n 0, 1) := by decide +kernel
theorem dX10_slips_139 : decode cX10_slips 139 = .ok (.getfield 48, 3) := by decide +kernel
theorem dX10_slips_142 : decode cX10_slips 142 = .ok (.aload_n 0, 1) := by decide +kernel
theorem dX10_slips_143 : decode cX10_slips 143 = .ok (.getfield 26, 3) := by decide +kernel
theorem dX10_slips_146 : decode cX10_slips 146 = .ok (.iload 7, 2) := by decide +kernel
theorem dX10_slips_148 : decode cX10_slips 148 = .ok (.iload 8, 2) := by decide +kernel
theorem dX10_slips_150 : decode cX10_slips 150 = .ok (.invokevirtual 371, 3) := by decide +kernel
theorem dX10_slips_153 : decode cX10_slips 153 = .ok (.iadd, 1) := by decide +kernel
theorem dX10_slips_154 : decode cX10_slips 154 = .ok (.istore 5, 2) := by decide +kernel
theorem dX10_slips_156 : decode cX10_slips 156 = .ok (.iinc 6 1, 3) := by decide +kernel
theorem dX10_slips_159 : decode cX10_slips 159 = .ok (.goto (-75), 3) := by decide +kernel
theorem dX10_slips_162 : decode cX10_slips 162 = .ok (.aload_n 0, 1) := by decide +kernel
theorem dX10_slips_163 : decode cX10_slips 163 = .ok (.getfield 19, 3) := by decide +kernel
theorem dX10_slips_166 : decode cX10_slips 166 = .ok (.invokevirtual 232, 3) := by decide +kernel
theorem dX10_slips_169 : decode cX10_slips 169 = .ok (.aload_n 0, 1) := by decide +kernel
theorem dX10_slips_170 : decode cX10_slips 170 = .ok (.getfield 19, 3) := by decide +kernel
theorem dX10_slips_173 : decode cX10_slips 173 = .ok (.iload 5, 2) := by decide +kernel
theorem dX10_slips_175 : decode cX10_slips 175 = .ok (.i2l, 1) := by decide +kernel
theorem dX10_slips_176 : decode cX10_slips 176 = .ok (.invokevirtual 235, 3) := by decide +kernel
theorem dX10_slips_179 : decode cX10_slips 179 = .ok (.iload 4, 2) := by decide +kernel
theorem dX10_slips_181 : decode cX10_slips 181 = .ok (.ireturn, 1) := by decide +kernel
theorem dX10_greys_0 : decode cX10_greys 0 = .ok (.iload_n 1, 1) := by decide +kernel
theorem dX10_greys_1 : decode cX10_greys 1 = .ok (.iconst 0, 1) := by decide +kernel
theorem dX10_greys_2 : decode cX10_greys 2 = .ok (.bipush 8, 2) := by decide +kernel
theorem dX10_greys_4 : decode cX10_greys 4 = .ok (.invokestatic 179, 3) := by decide +kernel
theorem dX10_greys_7 : decode cX10_greys 7 = .ok (.ifCond .ne 5, 3) := by decide +kernel
theorem dX10_greys_10 : decode cX10_greys 10 = .ok (.iconst (-1), 1) := by decide +kernel
theorem dX10_greys_11 : decode cX10_greys 11 = .ok (.ireturn, 1) := by decide +kernel
theorem dX10_greys_12 : decode cX10_greys 12 = .ok (.aload_n 0, 1) := by decide +kernel
theorem dX10_greys_13 : decode cX10_greys 13 = .ok (.invokevirtual 245, 3) := by decide +kernel
theorem dX10_greys_16 : decode cX10_greys 16 = .ok (.iconst 0, 1) := by decide +kernel
theorem dX10_greys_17 : decode cX10_greys 17 = .ok (.istore_n 3, 1) := by decide +kernel
theorem dX10_greys_18 : decode cX10_greys 18 = .ok (.iconst (-1), 1) := by decide +kernel
theorem dX10_greys_19 : decode cX10_greys 19 = .ok (.istore 4, 2) := by decide +kernel
theorem dX10_greys_21 : decode cX10_greys 21 = .ok (.iconst (-1), 1) := by decide +kernel
theorem dX10_greys_22 : decode cX10_greys 22 = .ok (.istore 5, 2) := by decide +kernel
theorem dX10_greys_24 : decode cX10_greys 24 = .ok (.iconst 0, 1) := by decide +kernel
theorem dX10_greys_25 : decode cX10_greys 25 = .ok (.istore 6, 2) := by decide +kernel
theorem dX10_greys_27 : decode cX10_greys 27 = .ok (.iload 6, 2) := by decide +kernel
theorem dX10_greys_29 : decode cX10_greys 29 = .ok (.aload_n 0, 1) := by decide +kernel
theorem dX10_greys_30 : decode cX10_greys 30 = .ok (.getfield 61, 3) := by decide +kernel
theorem dX10_greys_33 : decode cX10_greys 33 = .ok (.getfield 330, 3) := by decide +kernel
theorem dX10_greys_36 : decode cX10_greys 36 = .ok (.if_icmp .ge 110, 3) := by decide +kernel
theorem dX10_greys_39 : decode cX10_greys 39 = .ok (.aload_n 0, 1) := by decide +kernel
theorem dX10_greys_40 : decode cX10_greys 40 = .ok (.getfield 61, 3) := by decide +kernel
theorem dX10_greys_43 : decode cX10_greys 43 = .ok (.getfield 333, 3) := by decide +kernel
theorem dX10_greys_46 : decode cX10_greys 46 = .ok (.iload 6, 2) := by decide +kernel
theorem dX10_greys_48 : decode cX10_greys 48 = .ok (.iaload, 1) := by decide +kernel
theorem dX10_greys_49 : decode cX10_greys 49 = .ok (.istore 7, 2) := by decide +kernel
theorem dX10_greys_51 : decode cX10_greys 51 = .ok (.iload 7, 2) := by decide +kernel
theorem dX10_greys_53 : decode cX10_greys 53 = .ok (.iconst 3, 1) := by decide +kernel
theorem dX10_greys_54 : decode cX10_greys 54 = .ok (.invokestatic 362, 3) := by decide +kernel
theorem dX10_greys_57 : decode cX10_greys 57 = .ok (.iload_n 1, 1) := by decide +kernel
theorem dX10_greys_58 : decode cX10_greys 58 = .ok (.if_icmp .ne 82, 3) := by decide +kernel
theorem dX10_greys_61 : decode cX10_greys 61 = .ok (.aload_n 0, 1) := by decide +kernel
theorem dX10_greys_62 : decode cX10_greys 62 = .ok (.getfield 48, 3) := by decide +kernel
theorem dX10_greys_65 : decode cX10_greys 65 = .ok (.iload 7, 2) := by decide +kernel
theorem dX10_greys_67 : decode cX10_greys 67 = .ok (.invokevirtual 417, 3) := by decide +kernel
theorem dX10_greys_70 : decode cX10_greys 70 = .ok (.iload_n 2, 1) := by decide +kernel
theorem dX10_greys_71 : decode cX10_greys 71 = .ok (.if_icmp .le 6, 3) := by decide +kernel
theorem dX10_greys_74 : decode cX10_greys 74 = .ok (.goto 66, 3) := by decide +kernel
theorem dX10_greys_77 : decode cX10_greys 77 = .ok (.iinc 3 1, 3) := by decide +kernel
theorem dX10_greys_80 : decode cX10_greys 80 = .ok (.iload 4, 2) := by decide +kernel
theorem dX10_greys_82 : decode cX10_greys 82 = .ok (.ifCond .lt 24, 3) := by decide +kernel
theorem dX10_greys_85 : decode cX10_greys 85 = .ok (.aload_n 0, 1) := by decide +kernel
theorem dX10_greys_86 : decode cX10_greys 86 = .ok (.getfield 48, 3) := by decide +kernel
theorem dX10_greys_89 : decode cX10_greys 89 = .ok (.iload 7, 2) := by decide +kernel
theorem dX10_greys_91 : decode cX10_greys 91 = .ok (.invokevirtual 420, 3) := by decide +kernel
theorem dX10_greys_94 : decode cX10_greys 94 = .ok (.aload_n 0, 1) := by decide +kernel
theorem dX10_greys_95 : decode cX10_greys 95 = .ok (.getfield 48, 3) := by decide +kernel
theorem dX10_greys_98 : decode cX10_greys 98 = .ok (.iload 4, 2) := by decide +kernel
theorem dX10_greys_100 : decode cX10_greys 100 = .ok (.invokevirtual 420, 3) := by decide +kernel
theorem dX10_greys_103 : decode cX10_greys 103 = .ok (.if_icmp .ge 7, 3) := by decide +kernel
theorem dX10_greys_106 : decode cX10_greys 106 = .ok (.iload 7, 2) := by decide +kernel
theorem dX10_greys_108 : decode cX10_greys 108 = .ok (.istore 4, 2) := by decide +kernel
theorem dX10_greys_110 : decode cX10_greys 110 = .ok (.iload 5, 2) := by decide +kernel
theorem dX10_greys_112 : decode cX10_greys 112 = .ok (.ifCond .lt 24, 3) := by decide +kernel
theorem dX10_greys_115 : decode cX10_greys 115 = .ok (.aload_n 0, 1) := by decide +kernel
theorem dX10_greys_116 : decode cX10_greys 116 = .ok (.getfield 48, 3) := by decide +kernel
theorem dX10_greys_119 : decode cX10_greys 119 = .ok (.iload 7, 2) := by decide +kernel
theorem dX10_greys_121 : decode cX10_greys 121 = .ok (.invokevirtual 420, 3) := by decide +kernel
theorem dX10_greys_124 : decode cX10_greys 124 = .ok (.aload_n 0, 1) := by decide +kernel
theorem dX10_greys_125 : decode cX10_greys 125 = .ok (.getfield 48, 3) := by decide +kernel
theorem dX10_greys_128 : decode cX10_greys 128 = .ok (.iload 5, 2) := by decide +kernel
theorem dX10_greys_130 : decode cX10_greys 130 = .ok (.invokevirtual 420, 3) := by decide +kernel
theorem dX10_greys_133 : decode cX10_greys 133 = .ok (.if_icmp .le 7, 3) := by decide +kernel
theorem dX10_greys_136 : decode cX10_greys 136 = .ok (.iload 7, 2) := by decide +kernel
theorem dX10_greys_138 : decode cX10_greys 138 = .ok (.istore 5, 2) := by decide +kernel
theorem dX10_greys_140 : decode cX10_greys 140 = .ok (.iinc 6 1, 3) := by decide +kernel
theorem dX10_greys_143 : decode cX10_greys 143 = .ok (.goto (-116), 3) := by decide +kernel
theorem dX10_greys_146 : decode cX10_greys 146 = .ok (.aload_n 0, 1) := by decide +kernel
theorem dX10_greys_147 : decode cX10_greys 147 = .ok (.getfield 19, 3) := by decide +kernel
theorem dX10_greys_150 : decode cX10_greys 150 = .ok (.invokevirtual 232, 3) := by decide +kernel
theorem dX10_greys_153 : decode cX10_greys 153 = .ok (.iload_n 3, 1) := by decide +kernel
theorem dX10_greys_154 : decode cX10_greys 154 = .ok (.ifCond .le 63, 3) := by decide +kernel
theorem dX10_greys_157 : decode cX10_greys 157 = .ok (.aload_n 0, 1) := by decide +kernel
theorem dX10_greys_158 : decode cX10_greys 158 = .ok (.getfield 19, 3) := by decide +kernel
theorem dX10_greys_161 : decode cX10_greys 161 = .ok (.iload 4, 2) := by decide +kernel
theorem dX10_greys_163 : decode cX10_greys 163 = .ok (.invokestatic 269, 3) := by decide +kernel
theorem dX10_greys_166 : decode cX10_greys 166 = .ok (.i2l, 1) := by decide +kernel
theorem dX10_greys_167 : decode cX10_greys 167 = .ok (.invokevirtual 235, 3) := by decide +kernel
theorem dX10_greys_170 : decode cX10_greys 170 = .ok (.aload_n 0, 1) := by decide +kernel
theorem dX10_greys_171 : decode cX10_greys 171 = .ok (.getfield 19, 3) := by decide +kernel
theorem dX10_greys_174 : decode cX10_greys 174 = .ok (.aload_n 0, 1) := by decide +kernel
theorem dX10_greys_175 : decode cX10_greys 175 = .ok (.getfield 48, 3) := by decide +kernel
theorem dX10_greys_178 : decode cX10_greys 178 = .ok (.iload 4, 2) := by decide +kernel
theorem dX10_greys_180 : decode cX10_greys 180 = .ok (.invokevirtual 420, 3) := by decide +kernel
theorem dX10_greys_183 : decode cX10_greys 183 = .ok (.i2l, 1) := by decide +kernel
theorem dX10_greys_184 : decode cX10_greys 184 = .ok (.invokevirtual 235, 3) := by decide +kernel
theorem dX10_greys_187 : decode cX10_greys 187 = .ok (.aload_n 0, 1) := by decide +kernel
theorem dX10_greys_188 : decode cX10_greys 188 = .ok (.getfield 19, 3) := by decide +kernel
theorem dX10_greys_191 : decode cX10_greys 191 = .ok (.iload 5, 2) := by decide +kernel
theorem dX10_greys_193 : decode cX10_greys 193 = .ok (.invokestatic 269, 3) := by decide +kernel
theorem dX10_greys_196 : decode cX10_greys 196 = .ok (.i2l, 1) := by decide +kernel
theorem dX10_greys_197 : decode cX10_greys 197 = .ok (.invokevirtual 235, 3) := by decide +kernel
theorem dX10_greys_200 : decode cX10_greys 200 = .ok (.aload_n 0, 1) := by decide +kernel
theorem dX10_greys_201 : decode cX10_greys 201 = .ok (.getfield 19, 3) := by decide +kernel
theorem dX10_greys_204 : decode cX10_greys 204 = .ok (.aload_n 0, 1) := by decide +kernel
theorem dX10_greys_205 : decode cX10_greys 205 = .ok (.getfield 48, 3) := by decide +kernel
theorem dX10_greys_208 : decode cX10_greys 208 = .ok (.iload 5, 2) := by decide +kernel
theorem dX10_greys_210 : decode cX10_greys 210 = .ok (.invokevirtual 420, 3) := by decide +kernel
theorem dX10_greys_213 : decode cX10_greys 213 = .ok (.i2l, 1) := by decide +kernel
theorem dX10_greys_214 : decode cX10_greys 214 = .ok (.invokevirtual 235, 3) := by decide +kernel
theorem dX10_greys_217 : decode cX10_greys 217 = .ok (.iload_n 3, 1) := by decide +kernel
theorem dX10_greys_218 : decode cX10_greys 218 = .ok (.ireturn, 1) := by decide +kernel
theorem dX10_replaces_0 : decode cX10_replaces 0 = .ok (.iload_n 2, 1) := by decide +kernel
theorem dX10_replaces_1 : decode cX10_replaces 1 = .ok (.invokestatic 242, 3) := by decide +kernel
theorem dX10_replaces_4 : decode cX10_replaces 4 = .ok (.istore 4, 2) := by decide +kernel
theorem dX10_replaces_6 : decode cX10_replaces 6 = .ok (.iload_n 1, 1) := by decide +kernel
theorem dX10_replaces_7 : decode cX10_replaces 7 = .ok (.iconst 0, 1) := by decide +kernel
theorem dX10_replaces_8 : decode cX10_replaces 8 = .ok (.iconst 2, 1) := by decide +kernel
theorem dX10_replaces_9 : decode cX10_replaces 9 = .ok (.invokestatic 179, 3) := by decide +kernel
theorem dX10_replaces_12 : decode cX10_replaces 12 = .ok (.ifCond .eq 8, 3) := by decide +kernel
theorem dX10_replaces_15 : decode cX10_replaces 15 = .ok (.iload 4, 2) := by decide +kernel
theorem dX10_replaces_17 : decode cX10_replaces 17 = .ok (.ifCond .ge 5, 3) := by decide +kernel
theorem dX10_replaces_20 : decode cX10_replaces 20 = .ok (.iconst (-1), 1) := by decide +kernel
theorem dX10_replaces_21 : decode cX10_replaces 21 = .ok (.ireturn, 1) := by decide +kernel
theorem dX10_replaces_22 : decode cX10_replaces 22 = .ok (.aload_n 0, 1) := by decide +kernel
theorem dX10_replaces_23 : decode cX10_replaces 23 = .ok (.invokevirtual 245, 3) := by decide +kernel
theorem dX10_replaces_26 : decode cX10_replaces 26 = .ok (.iconst 0, 1) := by decide +kernel
theorem dX10_replaces_27 : decode cX10_replaces 27 = .ok (.istore 5, 2) := by decide +kernel
theorem dX10_replaces_29 : decode cX10_replaces 29 = .ok (.iconst (-1), 1) := by decide +kernel
theorem dX10_replaces_30 : decode cX10_replaces 30 = .ok (.istore 6, 2) := by decide +kernel
theorem dX10_replaces_32 : decode cX10_replaces 32 = .ok (.iconst 0, 1) := by decide +kernel
theorem dX10_replaces_33 : decode cX10_replaces 33 = .ok (.istore 7, 2) := by decide +kernel
theorem dX10_replaces_35 : decode cX10_replaces 35 = .ok (.iload 7, 2) := by decide +kernel
theorem dX10_replaces_37 : decode cX10_replaces 37 = .ok (.aload_n 0, 1) := by decide +kernel
theorem dX10_replaces_38 : decode cX10_replaces 38 = .ok (.getfield 61, 3) := by decide +kernel
theorem dX10_replaces_41 : decode cX10_replaces 41 = .ok (.getfield 330, 3) := by decide +kernel
theorem dX10_replaces_44 : decode cX10_replaces 44 = .ok (.if_icmp .ge 70, 3) := by decide +kernel
theorem dX10_replaces_47 : decode cX10_replaces 47 = .ok (.aload_n 0, 1) := by decide +kernel
theorem dX10_replaces_48 : decode cX10_replaces 48 = .ok (.getfield 61, 3) := by decide +kernel
theorem dX10_replaces_51 : decode cX10_replaces 51 = .ok (.getfield 333, 3) := by decide +kernel
theorem dX10_replaces_54 : decode cX10_replaces 54 = .ok (.iload 7, 2) := by decide +kernel
theorem dX10_replaces_56 : decode cX10_replaces 56 = .ok (.iaload, 1) := by decide +kernel
theorem dX10_replaces_57 : decode cX10_replaces 57 = .ok (.istore 8, 2) := by decide +kernel
theorem dX10_replaces_59 : decode cX10_replaces 59 = .ok (.aload_n 0, 1) := by decide +kernel
theorem dX10_replaces_60 : decode cX10_replaces 60 = .ok (.getfield 48, 3) := by decide +kernel
theorem dX10_replaces_63 : decode cX10_replaces 63 = .ok (.aload_n 0, 1) := by decide +kernel
theorem dX10_replaces_64 : decode cX10_replaces 64 = .ok (.getfield 26, 3) := by decide +kernel
theorem dX10_replaces_67 : decode cX10_replaces 67 = .ok (.iload 4, 2) := by decide +kernel
theorem dX10_replaces_69 : decode cX10_replaces 69 = .ok (.iload 8, 2) := by decide +kernel
theorem dX10_replaces_71 : decode cX10_replaces 71 = .ok (.invokevirtual 371, 3) := by decide +kernel
theorem dX10_replaces_74 : decode cX10_replaces 74 = .ok (.iload_n 3, 1) := by decide +kernel
theorem dX10_replaces_75 : decode cX10_replaces 75 = .ok (.if_icmp .le 6, 3) := by decide +kernel
theorem dX10_replaces_78 : decode cX10_replaces 78 = .ok (.goto 30, 3) := by decide +kernel
theorem dX10_replaces_81 : decode cX10_replaces 81 = .ok (.iinc 5 1, 3) := by decide +kernel
theorem dX10_replaces_84 : decode cX10_replaces 84 = .ok (.iload 6, 2) := by decide +kernel
theorem dX10_replaces_86 : decode cX10_replaces 86 = .ok (.ifCond .lt 18, 3) := by decide +kernel
theorem dX10_replaces_89 : decode cX10_replaces 89 = .ok (.iload_n 1, 1) := by decide +kernel
theorem dX10_replaces_90 : decode cX10_replaces 90 = .ok (.iload 8, 2) := by decide +kernel
theorem dX10_replaces_92 : decode cX10_replaces 92 = .ok (.invokestatic 423, 3) := by decide +kernel
theorem dX10_replaces_95 : decode cX10_replaces 95 = .ok (.iload_n 1, 1) := by decide +kernel
theorem dX10_replaces_96 : decode cX10_replaces 96 = .ok (.iload 6, 2) := by decide +kernel
theorem dX10_replaces_98 : decode cX10_replaces 98 = .ok (.invokestatic 423, 3) := by decide +kernel
theorem dX10_replaces_101 : decode cX10_replaces 101 = .ok (.if_icmp .ge 7, 3) := by decide +kernel
theorem dX10_replaces_104 : decode cX10_replaces 104 = .ok (.iload 8, 2) := by decide +kernel
theorem dX10_replaces_106 : decode cX10_replaces 106 = .ok (.istore 6, 2) := by decide +kernel
theorem dX10_replaces_108 : decode cX10_replaces 108 = .ok (.iinc 7 1, 3) := by decide +kernel
theorem dX10_replaces_111 : decode cX10_replaces 111 = .ok (.goto (-76), 3) := by decide +kernel
theorem dX10_replaces_114 : decode cX10_replaces 114 = .ok (.iload 5, 2) := by decide +kernel
theorem dX10_replaces_116 : decode cX10_replaces 116 = .ok (.ifCond .ne 6, 3) := by decide +kernel
theorem dX10_replaces_119 : decode cX10_replaces 119 = .ok (.bipush (-2), 2) := by decide +kernel
theorem dX10_replaces_121 : decode cX10_replaces 121 = .ok (.ireturn, 1) := by decide +kernel
theorem dX10_replaces_122 : decode cX10_replaces 122 = .ok (.aload_n 0, 1) := by decide +kernel
theorem dX10_replaces_123 : decode cX10_replaces 123 = .ok (.getfield 19, 3) := by decide +kernel
theorem dX10_replaces_126 : decode cX10_replaces 126 = .ok (.invokevirtual 232, 3) := by decide +kernel
theorem dX10_replaces_129 : decode cX10_replaces 129 = .ok (.aload_n 0, 1) := by decide +kernel
theorem dX10_replaces_130 : decode cX10_replaces 130 = .ok (.getfield 19, 3) := by decide +kernel
theorem dX10_replaces_133 : decode cX10_replaces 133 = .ok (.iload 5, 2) := by decide +kernel
theorem dX10_replaces_135 : decode cX10_replaces 135 = .ok (.i2l, 1) := by decide +kernel
theorem dX10_replaces_136 : decode cX10_replaces 136 = .ok (.invokevirtual 235, 3) := by decide +kernel
theorem dX10_replaces_139 : decode cX10_replaces 139 = .ok (.iload 6, 2) := by decide +kernel
theorem dX10_replaces_141 : decode cX10_replaces 141 = .ok (.invokestatic 269, 3) := by decide +kernel
theorem dX10_replaces_144 : decode cX10_replaces 144 = .ok (.ireturn, 1) := by decide +kernel
theorem dX10_doubt_0 : decode cX10_doubt 0 = .ok (.iconst (-1), 1) := by decide +kernel
theorem dX10_doubt_1 : decode cX10_doubt 1 = .ok (.istore_n 1, 1) := by decide +kernel
theorem dX10_doubt_2 : decode cX10_doubt 2 = .ok (.iconst (-1), 1) := by decide +kernel
theorem dX10_doubt_3 : decode cX10_doubt 3 = .ok (.istore_n 2, 1) := by decide +kernel
theorem dX10_doubt_4 : decode cX10_doubt 4 = .ok (.iconst 0, 1) := by decide +kernel
theorem dX10_doubt_5 : decode cX10_doubt 5 = .ok (.istore_n 3, 1) := by decide +kernel
theorem dX10_doubt_6 : decode cX10_doubt 6 = .ok (.iload_n 3, 1) := by decide +kernel
theorem dX10_doubt_7 : decode cX10_doubt 7 = .ok (.bipush 81, 2) := by decide +kernel
theorem dX10_doubt_9 : decode cX10_doubt 9 = .ok (.if_icmp .ge 44, 3) := by decide +kernel
theorem dX10_doubt_12 : decode cX10_doubt 12 = .ok (.aload_n 0, 1) := by decide +kernel
theorem dX10_doubt_13 : decode cX10_doubt 13 = .ok (.getfield 26, 3) := by decide +kernel
theorem dX10_doubt_16 : decode cX10_doubt 16 = .ok (.getfield 426, 3) := by decide +kernel
theorem dX10_doubt_19 : decode cX10_doubt 19 = .ok (.iload_n 3, 1) := by decide +kernel
theorem dX10_doubt_20 : decode cX10_doubt 20 = .ok (.baload, 1) := by decide +kernel
theorem dX10_doubt_21 : decode cX10_doubt 21 = .ok (.ifCond .eq 26, 3) := by decide +kernel
theorem dX10_doubt_24 : decode cX10_doubt 24 = .ok (.aload_n 0, 1) := by decide +kernel
theorem dX10_doubt_25 : decode cX10_doubt 25 = .ok (.getfield 26, 3) := by decide +kernel
theorem dX10_doubt_28 : decode cX10_doubt 28 = .ok (.iload_n 3, 1) := by decide +kernel
theorem dX10_doubt_29 : decode cX10_doubt 29 = .ok (.invokevirtual 429, 3) := by decide +kernel
theorem dX10_doubt_32 : decode cX10_doubt 32 = .ok (.iload_n 1, 1) := by decide +kernel
theorem dX10_doubt_33 : decode cX10_doubt 33 = .ok (.if_icmp .le 14, 3) := by decide +kernel
theorem dX10_doubt_36 : decode cX10_doubt 36 = .ok (.aload_n 0, 1) := by decide +kernel
theorem dX10_doubt_37 : decode cX10_doubt 37 = .ok (.getfield 26, 3) := by decide +kernel
theorem dX10_doubt_40 : decode cX10_doubt 40 = .ok (.iload_n 3, 1) := by decide +kernel
theorem dX10_doubt_41 : decode cX10_doubt 41 = .ok (.invokevirtual 429, 3) := by decide +kernel
theorem dX10_doubt_44 : decode cX10_doubt 44 = .ok (.istore_n 1, 1) := by decide +kernel
theorem dX10_doubt_45 : decode cX10_doubt 45 = .ok (.iload_n 3, 1) := by decide +kernel
theorem dX10_doubt_46 : decode cX10_doubt 46 = .ok (.istore_n 2, 1) := by decide +kernel
theorem dX10_doubt_47 : decode cX10_doubt 47 = .ok (.iinc 3 1, 3) := by decide +kernel
theorem dX10_doubt_50 : decode cX10_doubt 50 = .ok (.goto (-44), 3) := by decide +kernel
theorem dX10_doubt_53 : decode cX10_doubt 53 = .ok (.iload_n 2, 1) := by decide +kernel
theorem dX10_doubt_54 : decode cX10_doubt 54 = .ok (.ifCond .ge 6, 3) := by decide +kernel
theorem dX10_doubt_57 : decode cX10_doubt 57 = .ok (.bipush (-2), 2) := by decide +kernel
theorem dX10_doubt_59 : decode cX10_doubt 59 = .ok (.ireturn, 1) := by decide +kernel
theorem dX10_doubt_60 : decode cX10_doubt 60 = .ok (.aload_n 0, 1) := by decide +kernel
theorem dX10_doubt_61 : decode cX10_doubt 61 = .ok (.getfield 19, 3) := by decide +kernel
theorem dX10_doubt_64 : decode cX10_doubt 64 = .ok (.invokevirtual 232, 3) := by decide +kernel
theorem dX10_doubt_67 : decode cX10_doubt 67 = .ok (.aload_n 0, 1) := by decide +kernel
theorem dX10_doubt_68 : decode cX10_doubt 68 = .ok (.getfield 19, 3) := by decide +kernel
theorem dX10_doubt_71 : decode cX10_doubt 71 = .ok (.iload_n 1, 1) := by decide +kernel
theorem dX10_doubt_72 : decode cX10_doubt 72 = .ok (.i2l, 1) := by decide +kernel
theorem dX10_doubt_73 : decode cX10_doubt 73 = .ok (.invokevirtual 235, 3) := by decide +kernel
theorem dX10_doubt_76 : decode cX10_doubt 76 = .ok (.iload_n 2, 1) := by decide +kernel
theorem dX10_doubt_77 : decode cX10_doubt 77 = .ok (.ireturn, 1) := by decide +kernel
theorem dX10_asks_0 : decode cX10_asks 0 = .ok (.aload_n 0, 1) := by decide +kernel
theorem dX10_asks_1 : decode cX10_asks 1 = .ok (.invokevirtual 245, 3) := by decide +kernel
theorem dX10_asks_4 : decode cX10_asks 4 = .ok (.aload_n 0, 1) := by decide +kernel
theorem dX10_asks_5 : decode cX10_asks 5 = .ok (.getfield 86, 3) := by decide +kernel
theorem dX10_asks_8 : decode cX10_asks 8 = .ok (.iconst 0, 1) := by decide +kernel
theorem dX10_asks_9 : decode cX10_asks 9 = .ok (.invokestatic 339, 3) := by decide +kernel
theorem dX10_asks_12 : decode cX10_asks 12 = .ok (.iconst 0, 1) := by decide +kernel
theorem dX10_asks_13 : decode cX10_asks 13 = .ok (.istore_n 1, 1) := by decide +kernel
theorem dX10_asks_14 : decode cX10_asks 14 = .ok (.iload_n 1, 1) := by decide +kernel
theorem dX10_asks_15 : decode cX10_asks 15 = .ok (.aload_n 0, 1) := by decide +kernel
theorem dX10_asks_16 : decode cX10_asks 16 = .ok (.getfield 61, 3) := by decide +kernel
theorem dX10_asks_19 : decode cX10_asks 19 = .ok (.getfield 330, 3) := by decide +kernel
theorem dX10_asks_22 : decode cX10_asks 22 = .ok (.if_icmp .ge 68, 3) := by decide +kernel
theorem dX10_asks_25 : decode cX10_asks 25 = .ok (.aload_n 0, 1) := by decide +kernel
theorem dX10_asks_26 : decode cX10_asks 26 = .ok (.getfield 48, 3) := by decide +kernel
theorem dX10_asks_29 : decode cX10_asks 29 = .ok (.aload_n 0, 1) := by decide +kernel
theorem dX10_asks_30 : decode cX10_asks 30 = .ok (.getfield 61, 3) := by decide +kernel
theorem dX10_asks_33 : decode cX10_asks 33 = .ok (.getfield 333, 3) := by decide +kernel
theorem dX10_asks_36 : decode cX10_asks 36 = .ok (.iload_n 1, 1) := by decide +kernel
theorem dX10_asks_37 : decode cX10_asks 37 = .ok (.iaload, 1) := by decide +kernel
theorem dX10_asks_38 : decode cX10_asks 38 = .ok (.invokevirtual 432, 3) := by decide +kernel
theorem dX10_asks_41 : decode cX10_asks 41 = .ok (.iconst 0, 1) := by decide +kernel
theorem dX10_asks_42 : decode cX10_asks 42 = .ok (.istore_n 2, 1) := by decide +kernel
theorem dX10_asks_43 : decode cX10_asks 43 = .ok (.iload_n 2, 1) := by decide +kernel
theorem dX10_asks_44 : decode cX10_asks 44 = .ok (.iconst 4, 1) := by decide +kernel
theorem dX10_asks_45 : decode cX10_asks 45 = .ok (.if_icmp .gt 39, 3) := by decide +kernel
theorem dX10_asks_48 : decode cX10_asks 48 = .ok (.aload_n 0, 1) := by decide +kernel
theorem dX10_asks_49 : decode cX10_asks 49 = .ok (.getfield 48, 3) := by decide +kernel
theorem dX10_asks_52 : decode cX10_asks 52 = .ok (.getfield 435, 3) := by decide +kernel
theorem dX10_asks_55 : decode cX10_asks 55 = .ok (.iload_n 2, 1) := by decide +kernel
theorem dX10_asks_56 : decode cX10_asks 56 = .ok (.iaload, 1) := by decide +kernel
theorem dX10_asks_57 : decode cX10_asks 57 = .ok (.ifCond .le 21, 3) := by decide +kernel
theorem dX10_asks_60 : decode cX10_asks 60 = .ok (.aload_n 0, 1) := by decide +kernel
theorem dX10_asks_61 : decode cX10_asks 61 = .ok (.getfield 86, 3) := by decide +kernel
theorem dX10_asks_64 : decode cX10_asks 64 = .ok (.aload_n 0, 1) := by decide +kernel
theorem dX10_asks_65 : decode cX10_asks 65 = .ok (.getfield 48, 3) := by decide +kernel
theorem dX10_asks_68 : decode cX10_asks 68 = .ok (.getfield 438, 3) := by decide +kernel
theorem dX10_asks_71 : decode cX10_asks 71 = .ok (.iload_n 2, 1) := by decide +kernel
theorem dX10_asks_72 : decode cX10_asks 72 = .ok (.iaload, 1) := by decide +kernel
theorem dX10_asks_73 : decode cX10_asks 73 = .ok (.dup2, 1) := by decide +kernel
theorem dX10_asks_74 : decode cX10_asks 74 = .ok (.iaload, 1) := by decide +kernel
theorem dX10_asks_75 : decode cX10_asks 75 = .ok (.iconst 1, 1) := by decide +kernel
theorem dX10_asks_76 : decode cX10_asks 76 = .ok (.iadd, 1) := by decide +kernel
theorem dX10_asks_77 : decode cX10_asks 77 = .ok (.iastore, 1) := by decide +kernel
theorem dX10_asks_78 : decode cX10_asks 78 = .ok (.iinc 2 1, 3) := by decide +kernel
theorem dX10_asks_81 : decode cX10_asks 81 = .ok (.goto (-38), 3) := by decide +kernel
theorem dX10_asks_84 : decode cX10_asks 84 = .ok (.iinc 1 1, 3) := by decide +kernel
theorem dX10_asks_87 : decode cX10_asks 87 = .ok (.goto (-73), 3) := by decide +kernel
theorem dX10_asks_90 : decode cX10_asks 90 = .ok (.iconst (-1), 1) := by decide +kernel
theorem dX10_asks_91 : decode cX10_asks 91 = .ok (.istore_n 1, 1) := by decide +kernel
theorem dX10_asks_92 : decode cX10_asks 92 = .ok (.iconst 0, 1) := by decide +kernel
theorem dX10_asks_93 : decode cX10_asks 93 = .ok (.istore_n 2, 1) := by decide +kernel
theorem dX10_asks_94 : decode cX10_asks 94 = .ok (.iload_n 2, 1) := by decide +kernel
theorem dX10_asks_95 : decode cX10_asks 95 = .ok (.bipush 81, 2) := by decide +kernel
theorem dX10_asks_97 : decode cX10_asks 97 = .ok (.if_icmp .ge 49, 3) := by decide +kernel
theorem dX10_asks_100 : decode cX10_asks 100 = .ok (.iload_n 2, 1) := by decide +kernel
theorem dX10_asks_101 : decode cX10_asks 101 = .ok (.invokestatic 441, 3) := by decide +kernel
theorem dX10_asks_104 : decode cX10_asks 104 = .ok (.ifCond .ne 36, 3) := by decide +kernel
theorem dX10_asks_107 : decode cX10_asks 107 = .ok (.aload_n 0, 1) := by decide +kernel
theorem dX10_asks_108 : decode cX10_asks 108 = .ok (.getfield 26, 3) := by decide +kernel
theorem dX10_asks_111 : decode cX10_asks 111 = .ok (.getfield 426, 3) := by decide +kernel
theorem dX10_asks_114 : decode cX10_asks 114 = .ok (.iload_n 2, 1) := by decide +kernel
theorem dX10_asks_115 : decode cX10_asks 115 = .ok (.baload, 1) := by decide +kernel
theorem dX10_asks_116 : decode cX10_asks 116 = .ok (.ifCond .ne 24, 3) := by decide +kernel
theorem dX10_asks_119 : decode cX10_asks 119 = .ok (.iload_n 1, 1) := by decide +kernel
theorem dX10_asks_120 : decode cX10_asks 120 = .ok (.ifCond .lt 18, 3) := by decide +kernel
theorem dX10_asks_123 : decode cX10_asks 123 = .ok (.aload_n 0, 1) := by decide +kernel
theorem dX10_asks_124 : decode cX10_asks 124 = .ok (.getfield 86, 3) := by decide +kernel
theorem dX10_asks_127 : decode cX10_asks 127 = .ok (.iload_n 2, 1) := by decide +kernel
theorem dX10_asks_128 : decode cX10_asks 128 = .ok (.iaload, 1) := by decide +kernel
theorem dX10_asks_129 : decode cX10_asks 129 = .ok (.aload_n 0, 1) := by decide +kernel
theorem dX10_asks_130 : decode cX10_asks 130 = .ok (.getfield 86, 3) := by decide +kernel
theorem dX10_asks_133 : decode cX10_asks 133 = .ok (.iload_n 1, 1) := by decide +kernel
theorem dX10_asks_134 : decode cX10_asks 134 = .ok (.iaload, 1) := by decide +kernel
theorem dX10_asks_135 : decode cX10_asks 135 = .ok (.if_icmp .le 5, 3) := by decide +kernel
theorem dX10_asks_138 : decode cX10_asks 138 = .ok (.iload_n 2, 1) := by decide +kernel
theorem dX10_asks_139 : decode cX10_asks 139 = .ok (.istore_n 1, 1) := by decide +kernel
theorem dX10_asks_140 : decode cX10_asks 140 = .ok (.iinc 2 1, 3) := by decide +kernel
theorem dX10_asks_143 : decode cX10_asks 143 = .ok (.goto (-49), 3) := by decide +kernel
theorem dX10_asks_146 : decode cX10_asks 146 = .ok (.iload_n 1, 1) := by decide +kernel
theorem dX10_asks_147 : decode cX10_asks 147 = .ok (.ifCond .ge 6, 3) := by decide +kernel
theorem dX10_asks_150 : decode cX10_asks 150 = .ok (.bipush (-2), 2) := by decide +kernel
theorem dX10_asks_152 : decode cX10_asks 152 = .ok (.ireturn, 1) := by decide +kernel
theorem dX10_asks_153 : decode cX10_asks 153 = .ok (.aload_n 0, 1) := by decide +kernel
theorem dX10_asks_154 : decode cX10_asks 154 = .ok (.getfield 19, 3) := by decide +kernel
theorem dX10_asks_157 : decode cX10_asks 157 = .ok (.invokevirtual 232, 3) := by decide +kernel
theorem dX10_asks_160 : decode cX10_asks 160 = .ok (.aload_n 0, 1) := by decide +kernel
theorem dX10_asks_161 : decode cX10_asks 161 = .ok (.getfield 19, 3) := by decide +kernel
theorem dX10_asks_164 : decode cX10_asks 164 = .ok (.aload_n 0, 1) := by decide +kernel
theorem dX10_asks_165 : decode cX10_asks 165 = .ok (.getfield 86, 3) := by decide +kernel
theorem dX10_asks_168 : decode cX10_asks 168 = .ok (.iload_n 1, 1) := by decide +kernel
theorem dX10_asks_169 : decode cX10_asks 169 = .ok (.iaload, 1) := by decide +kernel
theorem dX10_asks_170 : decode cX10_asks 170 = .ok (.i2l, 1) := by decide +kernel
theorem dX10_asks_171 : decode cX10_asks 171 = .ok (.invokevirtual 235, 3) := by decide +kernel
theorem dX10_asks_174 : decode cX10_asks 174 = .ok (.iload_n 1, 1) := by decide +kernel
theorem dX10_asks_175 : decode cX10_asks 175 = .ok (.ireturn, 1) := by decide +kernel
theorem dX10_other_0 : decode cX10_other 0 = .ok (.iload_n 1, 1) := by decide +kernel
theorem dX10_other_1 : decode cX10_other 1 = .ok (.iconst 0, 1) := by decide +kernel
theorem dX10_other_2 : decode cX10_other 2 = .ok (.iconst 1, 1) := by decide +kernel
theorem dX10_other_3 : decode cX10_other 3 = .ok (.invokestatic 179, 3) := by decide +kernel
theorem dX10_other_6 : decode cX10_other 6 = .ok (.ifCond .ne 5, 3) := by decide +kernel
theorem dX10_other_9 : decode cX10_other 9 = .ok (.iconst (-1), 1) := by decide +kernel
theorem dX10_other_10 : decode cX10_other 10 = .ok (.ireturn, 1) := by decide +kernel
theorem dX10_other_11 : decode cX10_other 11 = .ok (.aload_n 0, 1) := by decide +kernel
theorem dX10_other_12 : decode cX10_other 12 = .ok (.getfield 41, 3) := by decide +kernel
theorem dX10_other_15 : decode cX10_other 15 = .ok (.iload_n 1, 1) := by decide +kernel
theorem dX10_other_16 : decode cX10_other 16 = .ok (.baload, 1) := by decide +kernel
theorem dX10_other_17 : decode cX10_other 17 = .ok (.ifCond .ne 6, 3) := by decide +kernel
theorem dX10_other_20 : decode cX10_other 20 = .ok (.bipush (-2), 2) := by decide +kernel
theorem dX10_other_22 : decode cX10_other 22 = .ok (.ireturn, 1) := by decide +kernel
theorem dX10_other_23 : decode cX10_other 23 = .ok (.aload_n 0, 1) := by decide +kernel
theorem dX10_other_24 : decode cX10_other 24 = .ok (.invokevirtual 245, 3) := by decide +kernel
theorem dX10_other_27 : decode cX10_other 27 = .ok (.aload_n 0, 1) := by decide +kernel
theorem dX10_other_28 : decode cX10_other 28 = .ok (.getfield 55, 3) := by decide +kernel
theorem dX10_other_31 : decode cX10_other 31 = .ok (.aload_n 0, 1) := by decide +kernel
theorem dX10_other_32 : decode cX10_other 32 = .ok (.getfield 37, 3) := by decide +kernel
theorem dX10_other_35 : decode cX10_other 35 = .ok (.iload_n 1, 1) := by decide +kernel
theorem dX10_other_36 : decode cX10_other 36 = .ok (.aaload, 1) := by decide +kernel
theorem dX10_other_37 : decode cX10_other 37 = .ok (.invokevirtual 351, 3) := by decide +kernel
theorem dX10_other_40 : decode cX10_other 40 = .ok (.iconst 0, 1) := by decide +kernel
theorem dX10_other_41 : decode cX10_other 41 = .ok (.istore_n 2, 1) := by decide +kernel
theorem dX10_other_42 : decode cX10_other 42 = .ok (.iconst 0, 1) := by decide +kernel
theorem dX10_other_43 : decode cX10_other 43 = .ok (.istore_n 3, 1) := by decide +kernel
theorem dX10_other_44 : decode cX10_other 44 = .ok (.iconst (-1), 1) := by decide +kernel
theorem dX10_other_45 : decode cX10_other 45 = .ok (.istore 4, 2) := by decide +kernel
theorem dX10_other_47 : decode cX10_other 47 = .ok (.iconst 0, 1) := by decide +kernel
theorem dX10_other_48 : decode cX10_other 48 = .ok (.istore 5, 2) := by decide +kernel
theorem dX10_other_50 : decode cX10_other 50 = .ok (.iload 5, 2) := by decide +kernel
theorem dX10_other_52 : decode cX10_other 52 = .ok (.aload_n 0, 1) := by decide +kernel
theorem dX10_other_53 : decode cX10_other 53 = .ok (.getfield 61, 3) := by decide +kernel
theorem dX10_other_56 : decode cX10_other 56 = .ok (.getfield 330, 3) := by decide +kernel
theorem dX10_other_59 : decode cX10_other 59 = .ok (.if_icmp .ge 87, 3) := by decide +kernel
theorem dX10_other_62 : decode cX10_other 62 = .ok (.aload_n 0, 1) := by decide +kernel
theorem dX10_other_63 : decode cX10_other 63 = .ok (.getfield 61, 3) := by decide +kernel
theorem dX10_other_66 : decode cX10_other 66 = .ok (.getfield 333, 3) := by decide +kernel
theorem dX10_other_69 : decode cX10_other 69 = .ok (.iload 5, 2) := by decide +kernel
theorem dX10_other_71 : decode cX10_other 71 = .ok (.iaload, 1) := by decide +kernel
theorem dX10_other_72 : decode cX10_other 72 = .ok (.istore 6, 2) := by decide +kernel
theorem dX10_other_74 : decode cX10_other 74 = .ok (.aload_n 0, 1) := by decide +kernel
theorem dX10_other_75 : decode cX10_other 75 = .ok (.getfield 55, 3) := by decide +kernel
theorem dX10_other_78 : decode cX10_other 78 = .ok (.aload_n 0, 1) := by decide +kernel
theorem dX10_other_79 : decode cX10_other 79 = .ok (.getfield 26, 3) := by decide +kernel
theorem dX10_other_82 : decode cX10_other 82 = .ok (.iload 6, 2) := by decide +kernel
theorem dX10_other_84 : decode cX10_other 84 = .ok (.aload_n 0, 1) := by decide +kernel
theorem dX10_other_85 : decode cX10_other 85 = .ok (.getfield 48, 3) := by decide +kernel
theorem dX10_other_88 : decode cX10_other 88 = .ok (.iload 6, 2) := by decide +kernel
theorem dX10_other_90 : decode cX10_other 90 = .ok (.iconst 0, 1) := by decide +kernel
theorem dX10_other_91 : decode cX10_other 91 = .ok (.invokevirtual 336, 3) := by decide +kernel
theorem dX10_other_94 : decode cX10_other 94 = .ok (.aload_n 0, 1) := by decide +kernel
theorem dX10_other_95 : decode cX10_other 95 = .ok (.getfield 48, 3) := by decide +kernel
theorem dX10_other_98 : decode cX10_other 98 = .ok (.iload 6, 2) := by decide +kernel
theorem dX10_other_100 : decode cX10_other 100 = .ok (.iconst 1, 1) := by decide +kernel
theorem dX10_other_101 : decode cX10_other 101 = .ok (.invokevirtual 336, 3) := by decide +kernel
theorem dX10_other_104 : decode cX10_other 104 = .ok (.aload_n 0, 1) := by decide +kernel
theorem dX10_other_105 : decode cX10_other 105 = .ok (.getfield 48, 3) := by decide +kernel
theorem dX10_other_108 : decode cX10_other 108 = .ok (.iload 6, 2) := by decide +kernel
theorem dX10_other_110 : decode cX10_other 110 = .ok (.iconst 2, 1) := by decide +kernel
theorem dX10_other_111 : decode cX10_other 111 = .ok (.invokevirtual 336, 3) := by decide +kernel
theorem dX10_other_114 : decode cX10_other 114 = .ok (.invokevirtual 304, 3) := by decide +kernel
theorem dX10_other_117 : decode cX10_other 117 = .ok (.istore 7, 2) := by decide +kernel
theorem dX10_other_119 : decode cX10_other 119 = .ok (.iload 7, 2) := by decide +kernel
theorem dX10_other_121 : decode cX10_other 121 = .ok (.ifCond .le 6, 3) := by decide +kernel
theorem dX10_other_124 : decode cX10_other 124 = .ok (.iinc 2 1, 3) := by decide +kernel
theorem dX10_other_127 : decode cX10_other 127 = .ok (.iload 7, 2) := by decide +kernel
theorem dX10_other_129 : decode cX10_other 129 = .ok (.iload_n 3, 1) := by decide +kernel
theorem dX10_other_130 : decode cX10_other 130 = .ok (.if_icmp .le 10, 3) := by decide +kernel
theorem dX10_other_133 : decode cX10_other 133 = .ok (.iload 7, 2) := by decide +kernel
theorem dX10_other_135 : decode cX10_other 135 = .ok (.istore_n 3, 1) := by decide +kernel
theorem dX10_other_136 : decode cX10_other 136 = .ok (.iload 6, 2) := by decide +kernel
theorem dX10_other_138 : decode cX10_other 138 = .ok (.istore 4, 2) := by decide +kernel
theorem dX10_other_140 : decode cX10_other 140 = .ok (.iinc 5 1, 3) := by decide +kernel
theorem dX10_other_143 : decode cX10_other 143 = .ok (.goto (-93), 3) := by decide +kernel
theorem dX10_other_146 : decode cX10_other 146 = .ok (.aload_n 0, 1) := by decide +kernel
theorem dX10_other_147 : decode cX10_other 147 = .ok (.getfield 19, 3) := by decide +kernel
theorem dX10_other_150 : decode cX10_other 150 = .ok (.invokevirtual 232, 3) := by decide +kernel
theorem dX10_other_153 : decode cX10_other 153 = .ok (.iload_n 2, 1) := by decide +kernel
theorem dX10_other_154 : decode cX10_other 154 = .ok (.ifCond .le 25, 3) := by decide +kernel
theorem dX10_other_157 : decode cX10_other 157 = .ok (.aload_n 0, 1) := by decide +kernel
theorem dX10_other_158 : decode cX10_other 158 = .ok (.getfield 19, 3) := by decide +kernel
theorem dX10_other_161 : decode cX10_other 161 = .ok (.iload_n 3, 1) := by decide +kernel
theorem dX10_other_162 : decode cX10_other 162 = .ok (.i2l, 1) := by decide +kernel
theorem dX10_other_163 : decode cX10_other 163 = .ok (.invokevirtual 235, 3) := by decide +kernel
theorem dX10_other_166 : decode cX10_other 166 = .ok (.aload_n 0, 1) := by decide +kernel
theorem dX10_other_167 : decode cX10_other 167 = .ok (.getfield 19, 3) := by decide +kernel
theorem dX10_other_170 : decode cX10_other 170 = .ok (.iload 4, 2) := by decide +kernel
theorem dX10_other_172 : decode cX10_other 172 = .ok (.invokestatic 269, 3) := by decide +kernel
theorem dX10_other_175 : decode cX10_other 175 = .ok (.i2l, 1) := by decide +kernel
theorem dX10_other_176 : decode cX10_other 176 = .ok (.invokevirtual 235, 3) := by decide +kernel
theorem dX10_other_179 : decode cX10_other 179 = .ok (.iload_n 2, 1) := by decide +kernel
theorem dX10_other_180 : decode cX10_other 180 = .ok (.ireturn, 1) := by decide +kernel
theorem dX10_carry_0 : decode cX10_carry 0 = .ok (.iload_n 2, 1) := by decide +kernel
theorem dX10_carry_1 : decode cX10_carry 1 = .ok (.invokestatic 242, 3) := by decide +kernel
theorem dX10_carry_4 : decode cX10_carry 4 = .ok (.istore_n 3, 1) := by decide +kernel
theorem dX10_carry_5 : decode cX10_carry 5 = .ok (.iload_n 1, 1) := by decide +kernel
theorem dX10_carry_6 : decode cX10_carry 6 = .ok (.iconst 0, 1) := by decide +kernel
theorem dX10_carry_7 : decode cX10_carry 7 = .ok (.iconst 1, 1) := by decide +kernel
theorem dX10_carry_8 : decode cX10_carry 8 = .ok (.invokestatic 179, 3) := by decide +kernel
theorem dX10_carry_11 : decode cX10_carry 11 = .ok (.ifCond .eq 7, 3) := by decide +kernel
theorem dX10_carry_14 : decode cX10_carry 14 = .ok (.iload_n 3, 1) := by decide +kernel
theorem dX10_carry_15 : decode cX10_carry 15 = .ok (.ifCond .ge 5, 3) := by decide +kernel
theorem dX10_carry_18 : decode cX10_carry 18 = .ok (.iconst (-1), 1) := by decide +kernel
theorem dX10_carry_19 : decode cX10_carry 19 = .ok (.ireturn, 1) := by decide +kernel
theorem dX10_carry_20 : decode cX10_carry 20 = .ok (.aload_n 0, 1) := by decide +kernel
theorem dX10_carry_21 : decode cX10_carry 21 = .ok (.getfield 41, 3) := by decide +kernel
theorem dX10_carry_24 : decode cX10_carry 24 = .ok (.iload_n 1, 1) := by decide +kernel
theorem dX10_carry_25 : decode cX10_carry 25 = .ok (.baload, 1) := by decide +kernel
theorem dX10_carry_26 : decode cX10_carry 26 = .ok (.ifCond .ne 6, 3) := by decide +kernel
theorem dX10_carry_29 : decode cX10_carry 29 = .ok (.bipush (-2), 2) := by decide +kernel
theorem dX10_carry_31 : decode cX10_carry 31 = .ok (.ireturn, 1) := by decide +kernel
theorem dX10_carry_32 : decode cX10_carry 32 = .ok (.aload_n 0, 1) := by decide +kernel
theorem dX10_carry_33 : decode cX10_carry 33 = .ok (.invokevirtual 245, 3) := by decide +kernel
theorem dX10_carry_36 : decode cX10_carry 36 = .ok (.aload_n 0, 1) := by decide +kernel
theorem dX10_carry_37 : decode cX10_carry 37 = .ok (.getfield 55, 3) := by decide +kernel
theorem dX10_carry_40 : decode cX10_carry 40 = .ok (.aload_n 0, 1) := by decide +kernel
theorem dX10_carry_41 : decode cX10_carry 41 = .ok (.getfield 37, 3) := by decide +kernel
theorem dX10_carry_44 : decode cX10_carry 44 = .ok (.iload_n 1, 1) := by decide +kernel
theorem dX10_carry_45 : decode cX10_carry 45 = .ok (.aaload, 1) := by decide +kernel
theorem dX10_carry_46 : decode cX10_carry 46 = .ok (.invokevirtual 351, 3) := by decide +kernel
theorem dX10_carry_49 : decode cX10_carry 49 = .ok (.aload_n 0, 1) := by decide +kernel
theorem dX10_carry_50 : decode cX10_carry 50 = .ok (.getfield 61, 3) := by decide +kernel
theorem dX10_carry_53 : decode cX10_carry 53 = .ok (.aload_n 0, 1) := by decide +kernel
theorem dX10_carry_54 : decode cX10_carry 54 = .ok (.getfield 26, 3) := by decide +kernel
theorem dX10_carry_57 : decode cX10_carry 57 = .ok (.aload_n 0, 1) := by decide +kernel
theorem dX10_carry_58 : decode cX10_carry 58 = .ok (.getfield 48, 3) := by decide +kernel
theorem dX10_carry_61 : decode cX10_carry 61 = .ok (.aload_n 0, 1) := by decide +kernel
theorem dX10_carry_62 : decode cX10_carry 62 = .ok (.getfield 55, 3) := by decide +kernel
theorem dX10_carry_65 : decode cX10_carry 65 = .ok (.iload_n 3, 1) := by decide +kernel
theorem dX10_carry_66 : decode cX10_carry 66 = .ok (.iconst 0, 1) := by decide +kernel
theorem dX10_carry_67 : decode cX10_carry 67 = .ok (.invokevirtual 336, 3) := by decide +kernel
theorem dX10_carry_70 : decode cX10_carry 70 = .ok (.aload_n 0, 1) := by decide +kernel
theorem dX10_carry_71 : decode cX10_carry 71 = .ok (.getfield 55, 3) := by decide +kernel
theorem dX10_carry_74 : decode cX10_carry 74 = .ok (.iload_n 3, 1) := by decide +kernel
theorem dX10_carry_75 : decode cX10_carry 75 = .ok (.iconst 1, 1) := by decide +kernel
theorem dX10_carry_76 : decode cX10_carry 76 = .ok (.invokevirtual 336, 3) := by decide +kernel
theorem dX10_carry_79 : decode cX10_carry 79 = .ok (.aload_n 0, 1) := by decide +kernel
theorem dX10_carry_80 : decode cX10_carry 80 = .ok (.getfield 55, 3) := by decide +kernel
theorem dX10_carry_83 : decode cX10_carry 83 = .ok (.iload_n 3, 1) := by decide +kernel
theorem dX10_carry_84 : decode cX10_carry 84 = .ok (.iconst 2, 1) := by decide +kernel
theorem dX10_carry_85 : decode cX10_carry 85 = .ok (.invokevirtual 336, 3) := by decide +kernel
theorem dX10_carry_88 : decode cX10_carry 88 = .ok (.invokevirtual 275, 3) := by decide +kernel
theorem dX10_carry_91 : decode cX10_carry 91 = .ok (.istore 4, 2) := by decide +kernel
theorem dX10_carry_93 : decode cX10_carry 93 = .ok (.aload_n 0, 1) := by decide +kernel
theorem dX10_carry_94 : decode cX10_carry 94 = .ok (.getfield 19, 3) := by decide +kernel
theorem dX10_carry_97 : decode cX10_carry 97 = .ok (.invokevirtual 232, 3) := by decide +kernel
theorem dX10_carry_100 : decode cX10_carry 100 = .ok (.aload_n 0, 1) := by decide +kernel
theorem dX10_carry_101 : decode cX10_carry 101 = .ok (.getfield 19, 3) := by decide +kernel
theorem dX10_carry_104 : decode cX10_carry 104 = .ok (.aload_n 0, 1) := by decide +kernel
theorem dX10_carry_105 : decode cX10_carry 105 = .ok (.getfield 61, 3) := by decide +kernel
theorem dX10_carry_108 : decode cX10_carry 108 = .ok (.getfield 279, 3) := by decide +kernel
theorem dX10_carry_111 : decode cX10_carry 111 = .ok (.i2l, 1) := by decide +kernel
theorem dX10_carry_112 : decode cX10_carry 112 = .ok (.invokevirtual 235, 3) := by decide +kernel
theorem dX10_carry_115 : decode cX10_carry 115 = .ok (.iload 4, 2) := by decide +kernel
theorem dX10_carry_117 : decode cX10_carry 117 = .ok (.invokestatic 269, 3) := by decide +kernel
theorem dX10_carry_120 : decode cX10_carry 120 = .ok (.ireturn, 1) := by decide +kernel
theorem dX10_drifts_0 : decode cX10_drifts 0 = .ok (.iload_n 2, 1) := by decide +kernel
theorem dX10_drifts_1 : decode cX10_drifts 1 = .ok (.iconst 1, 1) := by decide +kernel
theorem dX10_drifts_2 : decode cX10_drifts 2 = .ok (.bipush 40, 2) := by decide +kernel
theorem dX10_drifts_4 : decode cX10_drifts 4 = .ok (.invokestatic 179, 3) := by decide +kernel
theorem dX10_drifts_7 : decode cX10_drifts 7 = .ok (.ifCond .ne 5, 3) := by decide +kernel
theorem dX10_drifts_10 : decode cX10_drifts 10 = .ok (.iconst (-1), 1) := by decide +kernel
theorem dX10_drifts_11 : decode cX10_drifts 11 = .ok (.ireturn, 1) := by decide +kernel
theorem dX10_drifts_12 : decode cX10_drifts 12 = .ok (.aload_n 0, 1) := by decide +kernel
theorem dX10_drifts_13 : decode cX10_drifts 13 = .ok (.invokevirtual 245, 3) := by decide +kernel
theorem dX10_drifts_16 : decode cX10_drifts 16 = .ok (.aload_n 0, 1) := by decide +kernel
theorem dX10_drifts_17 : decode cX10_drifts 17 = .ok (.getfield 52, 3) := by decide +kernel
theorem dX10_drifts_20 : decode cX10_drifts 20 = .ok (.aload_n 0, 1) := by decide +kernel
theorem dX10_drifts_21 : decode cX10_drifts 21 = .ok (.getfield 26, 3) := by decide +kernel
theorem dX10_drifts_24 : decode cX10_drifts 24 = .ok (.invokevirtual 444, 3) := by decide +kernel
theorem dX10_drifts_27 : decode cX10_drifts 27 = .ok (.iload_n 1, 1) := by decide +kernel
theorem dX10_drifts_28 : decode cX10_drifts 28 = .ok (.istore_n 3, 1) := by decide +kernel
theorem dX10_drifts_29 : decode cX10_drifts 29 = .ok (.iconst 0, 1) := by decide +kernel
theorem dX10_drifts_30 : decode cX10_drifts 30 = .ok (.istore 4, 2) := by decide +kernel
theorem dX10_drifts_32 : decode cX10_drifts 32 = .ok (.iload 4, 2) := by decide +kernel
theorem dX10_drifts_34 : decode cX10_drifts 34 = .ok (.iload_n 2, 1) := by decide +kernel
theorem dX10_drifts_35 : decode cX10_drifts 35 = .ok (.if_icmp .ge 103, 3) := by decide +kernel
theorem dX10_drifts_38 : decode cX10_drifts 38 = .ok (.iload_n 3, 1) := by decide +kernel
theorem dX10_drifts_39 : decode cX10_drifts 39 = .ok (.invokestatic 447, 3) := by decide +kernel
theorem dX10_drifts_42 : decode cX10_drifts 42 = .ok (.istore_n 3, 1) := by decide +kernel
theorem dX10_drifts_43 : decode cX10_drifts 43 = .ok (.iload_n 3, 1) := by decide +kernel
theorem dX10_drifts_44 : decode cX10_drifts 44 = .ok (.iconst 4, 1) := by decide +kernel
theorem dX10_drifts_45 : decode cX10_drifts 45 = .ok (.invokestatic 450, 3) := by decide +kernel
theorem dX10_drifts_48 : decode cX10_drifts 48 = .ok (.istore 5, 2) := by decide +kernel
theorem dX10_drifts_50 : decode cX10_drifts 50 = .ok (.iload_n 3, 1) := by decide +kernel
theorem dX10_drifts_51 : decode cX10_drifts 51 = .ok (.invokestatic 447, 3) := by decide +kernel
theorem dX10_drifts_54 : decode cX10_drifts 54 = .ok (.istore_n 3, 1) := by decide +kernel
theorem dX10_drifts_55 : decode cX10_drifts 55 = .ok (.iload_n 3, 1) := by decide +kernel
theorem dX10_drifts_56 : decode cX10_drifts 56 = .ok (.iconst 2, 1) := by decide +kernel
theorem dX10_drifts_57 : decode cX10_drifts 57 = .ok (.invokestatic 450, 3) := by decide +kernel
theorem dX10_drifts_60 : decode cX10_drifts 60 = .ok (.iconst 1, 1) := by decide +kernel
theorem dX10_drifts_61 : decode cX10_drifts 61 = .ok (.iadd, 1) := by decide +kernel
theorem dX10_drifts_62 : decode cX10_drifts 62 = .ok (.istore 6, 2) := by decide +kernel
theorem dX10_drifts_64 : decode cX10_drifts 64 = .ok (.iload_n 3, 1) := by decide +kernel
theorem dX10_drifts_65 : decode cX10_drifts 65 = .ok (.invokestatic 447, 3) := by decide +kernel
theorem dX10_drifts_68 : decode cX10_drifts 68 = .ok (.istore_n 3, 1) := by decide +kernel
theorem dX10_drifts_69 : decode cX10_drifts 69 = .ok (.iload_n 3, 1) := by decide +kernel
theorem dX10_drifts_70 : decode cX10_drifts 70 = .ok (.iconst 3, 1) := by decide +kernel
theorem dX10_drifts_71 : decode cX10_drifts 71 = .ok (.invokestatic 450, 3) := by decide +kernel
theorem dX10_drifts_74 : decode cX10_drifts 74 = .ok (.istore 7, 2) := by decide +kernel
theorem dX10_drifts_76 : decode cX10_drifts 76 = .ok (.iload_n 3, 1) := by decide +kernel
theorem dX10_drifts_77 : decode cX10_drifts 77 = .ok (.invokestatic 447, 3) := by decide +kernel
theorem dX10_drifts_80 : decode cX10_drifts 80 = .ok (.istore_n 3, 1) := by decide +kernel
theorem dX10_drifts_81 : decode cX10_drifts 81 = .ok (.iload 6, 2) := by decide +kernel
theorem dX10_drifts_83 : decode cX10_drifts 83 = .ok (.getstatic 453, 3) := by decide +kernel
theorem dX10_drifts_86 : decode cX10_drifts 86 = .ok (.iload 5, 2) := by decide +kernel
theorem dX10_drifts_88 : decode cX10_drifts 88 = .ok (.iaload, 1) := by decide +kernel
theorem dX10_drifts_89 : decode cX10_drifts 89 = .ok (.imul, 1) := by decide +kernel
theorem dX10_drifts_90 : decode cX10_drifts 90 = .ok (.iconst 3, 1) := by decide +kernel
theorem dX10_drifts_91 : decode cX10_drifts 91 = .ok (.imul, 1) := by decide +kernel
theorem dX10_drifts_92 : decode cX10_drifts 92 = .ok (.iload 7, 2) := by decide +kernel
theorem dX10_drifts_94 : decode cX10_drifts 94 = .ok (.iadd, 1) := by decide +kernel
theorem dX10_drifts_95 : decode cX10_drifts 95 = .ok (.istore 8, 2) := by decide +kernel
theorem dX10_drifts_97 : decode cX10_drifts 97 = .ok (.aload_n 0, 1) := by decide +kernel
theorem dX10_drifts_98 : decode cX10_drifts 98 = .ok (.getfield 52, 3) := by decide +kernel
theorem dX10_drifts_101 : decode cX10_drifts 101 = .ok (.getfield 192, 3) := by decide +kernel
theorem dX10_drifts_104 : decode cX10_drifts 104 = .ok (.iload 8, 2) := by decide +kernel
theorem dX10_drifts_106 : decode cX10_drifts 106 = .ok (.aload_n 0, 1) := by decide +kernel
theorem dX10_drifts_107 : decode cX10_drifts 107 = .ok (.getfield 52, 3) := by decide +kernel
theorem dX10_drifts_110 : decode cX10_drifts 110 = .ok (.getfield 192, 3) := by decide +kernel
theorem dX10_drifts_113 : decode cX10_drifts 113 = .ok (.iload 8, 2) := by decide +kernel
theorem dX10_drifts_115 : decode cX10_drifts 115 = .ok (.iaload, 1) := by decide +kernel
theorem dX10_drifts_116 : decode cX10_drifts 116 = .ok (.iload_n 3, 1) := by decide +kernel
theorem dX10_drifts_117 : decode cX10_drifts 117 = .ok (.bipush 21, 2) := by decide +kernel
theorem dX10_drifts_119 : decode cX10_drifts 119 = .ok (.invokestatic 450, 3) := by decide +kernel
theorem dX10_drifts_122 : decode cX10_drifts 122 = .ok (.iadd, 1) := by decide +kernel
theorem dX10_drifts_123 : decode cX10_drifts 123 = .ok (.bipush 10, 2) := by decide +kernel
theorem dX10_drifts_125 : decode cX10_drifts 125 = .ok (.isub, 1) := by decide +kernel
theorem dX10_drifts_126 : decode cX10_drifts 126 = .ok (.bipush 100, 2) := by decide +kernel
theorem dX10_drifts_128 : decode cX10_drifts 128 = .ok (.invokestatic 189, 3) := by decide +kernel
theorem dX10_drifts_131 : decode cX10_drifts 131 = .ok (.iastore, 1) := by decide +kernel
theorem dX10_drifts_132 : decode cX10_drifts 132 = .ok (.iinc 4 1, 3) := by decide +kernel
theorem dX10_drifts_135 : decode cX10_drifts 135 = .ok (.goto (-103), 3) := by decide +kernel
theorem dX10_drifts_138 : decode cX10_drifts 138 = .ok (.aload_n 0, 1) := by decide +kernel
theorem dX10_drifts_139 : decode cX10_drifts 139 = .ok (.getfield 55, 3) := by decide +kernel
theorem dX10_drifts_142 : decode cX10_drifts 142 = .ok (.aload_n 0, 1) := by decide +kernel
theorem dX10_drifts_143 : decode cX10_drifts 143 = .ok (.getfield 52, 3) := by decide +kernel
theorem dX10_drifts_146 : decode cX10_drifts 146 = .ok (.invokevirtual 351, 3) := by decide +kernel
theorem dX10_drifts_149 : decode cX10_drifts 149 = .ok (.iconst 0, 1) := by decide +kernel
theorem dX10_drifts_150 : decode cX10_drifts 150 = .ok (.istore 4, 2) := by decide +kernel
theorem dX10_drifts_152 : decode cX10_drifts 152 = .ok (.iconst 0, 1) := by decide +kernel
theorem dX10_drifts_153 : decode cX10_drifts 153 = .ok (.istore 5, 2) := by decide +kernel
theorem dX10_drifts_155 : decode cX10_drifts 155 = .ok (.iload 5, 2) := by decide +kernel
theorem dX10_drifts_157 : decode cX10_drifts 157 = .ok (.iconst 4, 1) := by decide +kernel
theorem dX10_drifts_158 : decode cX10_drifts 158 = .ok (.if_icmp .ge 23, 3) := by decide +kernel
theorem dX10_drifts_161 : decode cX10_drifts 161 = .ok (.iload 4, 2) := by decide +kernel
theorem dX10_drifts_163 : decode cX10_drifts 163 = .ok (.aload_n 0, 1) := by decide +kernel
theorem dX10_drifts_164 : decode cX10_drifts 164 = .ok (.getfield 55, 3) := by decide +kernel
theorem dX10_drifts_167 : decode cX10_drifts 167 = .ok (.iload 5, 2) := by decide +kernel
theorem dX10_drifts_169 : decode cX10_drifts 169 = .ok (.invokevirtual 324, 3) := by decide +kernel
theorem dX10_drifts_172 : decode cX10_drifts 172 = .ok (.iadd, 1) := by decide +kernel
theorem dX10_drifts_173 : decode cX10_drifts 173 = .ok (.istore 4, 2) := by decide +kernel
theorem dX10_drifts_175 : decode cX10_drifts 175 = .ok (.iinc 5 1, 3) := by decide +kernel
theorem dX10_drifts_178 : decode cX10_drifts 178 = .ok (.goto (-23), 3) := by decide +kernel
theorem dX10_drifts_181 : decode cX10_drifts 181 = .ok (.aload_n 0, 1) := by decide +kernel
theorem dX10_drifts_182 : decode cX10_drifts 182 = .ok (.getfield 61, 3) := by decide +kernel
theorem dX10_drifts_185 : decode cX10_drifts 185 = .ok (.aload_n 0, 1) := by decide +kernel
theorem dX10_drifts_186 : decode cX10_drifts 186 = .ok (.getfield 26, 3) := by decide +kernel
theorem dX10_drifts_189 : decode cX10_drifts 189 = .ok (.aload_n 0, 1) := by decide +kernel
theorem dX10_drifts_190 : decode cX10_drifts 190 = .ok (.getfield 55, 3) := by decide +kernel
theorem dX10_drifts_193 : decode cX10_drifts 193 = .ok (.sipush 200, 3) := by decide +kernel
theorem dX10_drifts_196 : decode cX10_drifts 196 = .ok (.sipush 200, 3) := by decide +kernel
theorem dX10_drifts_199 : decode cX10_drifts 199 = .ok (.sipush 200, 3) := by decide +kernel
theorem dX10_drifts_202 : decode cX10_drifts 202 = .ok (.invokevirtual 275, 3) := by decide +kernel
theorem dX10_drifts_205 : decode cX10_drifts 205 = .ok (.istore 5, 2) := by decide +kernel
theorem dX10_drifts_207 : decode cX10_drifts 207 = .ok (.aload_n 0, 1) := by decide +kernel
theorem dX10_drifts_208 : decode cX10_drifts 208 = .ok (.getfield 19, 3) := by decide +kernel
theorem dX10_drifts_211 : decode cX10_drifts 211 = .ok (.invokevirtual 232, 3) := by decide +kernel
theorem dX10_drifts_214 : decode cX10_drifts 214 = .ok (.aload_n 0, 1) := by decide +kernel
theorem dX10_drifts_215 : decode cX10_drifts 215 = .ok (.getfield 19, 3) := by decide +kernel
theorem dX10_drifts_218 : decode cX10_drifts 218 = .ok (.iload 5, 2) := by decide +kernel
theorem dX10_drifts_220 : decode cX10_drifts 220 = .ok (.invokestatic 269, 3) := by decide +kernel
theorem dX10_drifts_223 : decode cX10_drifts 223 = .ok (.i2l, 1) := by decide +kernel
theorem dX10_drifts_224 : decode cX10_drifts 224 = .ok (.invokevirtual 235, 3) := by decide +kernel
theorem dX10_drifts_227 : decode cX10_drifts 227 = .ok (.aload_n 0, 1) := by decide +kernel
theorem dX10_drifts_228 : decode cX10_drifts 228 = .ok (.getfield 19, 3) := by decide +kernel
theorem dX10_drifts_231 : decode cX10_drifts 231 = .ok (.aload_n 0, 1) := by decide +kernel
theorem dX10_drifts_232 : decode cX10_drifts 232 = .ok (.getfield 61, 3) := by decide +kernel
theorem dX10_drifts_235 : decode cX10_drifts 235 = .ok (.getfield 279, 3) := by decide +kernel
theorem dX10_drifts_238 : decode cX10_drifts 238 = .ok (.i2l, 1) := by decide +kernel
theorem dX10_drifts_239 : decode cX10_drifts 239 = .ok (.invokevirtual 235, 3) := by decide +kernel
theorem dX10_drifts_242 : decode cX10_drifts 242 = .ok (.iload 4, 2) := by decide +kernel
theorem dX10_drifts_244 : decode cX10_drifts 244 = .ok (.ireturn, 1) := by decide +kernel
theorem dX10_nextDrawn_0 : decode cX10_nextDrawn 0 = .ok (.iload_n 0, 1) := by decide +kernel
theorem dX10_nextDrawn_1 : decode cX10_nextDrawn 1 = .ok (.ldc_w 456, 3) := by decide +kernel
theorem dX10_nextDrawn_4 : decode cX10_nextDrawn 4 = .ok (.imul, 1) := by decide +kernel
theorem dX10_nextDrawn_5 : decode cX10_nextDrawn 5 = .ok (.sipush 12345, 3) := by decide +kernel
theorem dX10_nextDrawn_8 : decode cX10_nextDrawn 8 = .ok (.iadd, 1) := by decide +kernel
theorem dX10_nextDrawn_9 : decode cX10_nextDrawn 9 = .ok (.ireturn, 1) := by decide +kernel
theorem dX10_draw_0 : decode cX10_draw 0 = .ok (.iload_n 1, 1) := by decide +kernel
theorem dX10_draw_1 : decode cX10_draw 1 = .ok (.ifCond .le 12, 3) := by decide +kernel
theorem dX10_draw_4 : decode cX10_draw 4 = .ok (.iload_n 0, 1) := by decide +kernel
theorem dX10_draw_5 : decode cX10_draw 5 = .ok (.bipush 16, 2) := by decide +kernel
theorem dX10_draw_7 : decode cX10_draw 7 = .ok (.iushr, 1) := by decide +kernel
theorem dX10_draw_8 : decode cX10_draw 8 = .ok (.iload_n 1, 1) := by decide +kernel
theorem dX10_draw_9 : decode cX10_draw 9 = .ok (.irem, 1) := by decide +kernel
theorem dX10_draw_10 : decode cX10_draw 10 = .ok (.goto 4, 3) := by decide +kernel
theorem dX10_draw_13 : decode cX10_draw 13 = .ok (.iconst 0, 1) := by decide +kernel
theorem dX10_draw_14 : decode cX10_draw 14 = .ok (.ireturn, 1) := by decide +kernel
theorem dX10_rank_0 : decode cX10_rank 0 = .ok (.iload_n 1, 1) := by decide +kernel
theorem dX10_rank_1 : decode cX10_rank 1 = .ok (.iconst 3, 1) := by decide +kernel
theorem dX10_rank_2 : decode cX10_rank 2 = .ok (.invokestatic 362, 3) := by decide +kernel
theorem dX10_rank_5 : decode cX10_rank 5 = .ok (.istore_n 2, 1) := by decide +kernel
theorem dX10_rank_6 : decode cX10_rank 6 = .ok (.iload_n 1, 1) := by decide +kernel
theorem dX10_rank_7 : decode cX10_rank 7 = .ok (.invokestatic 251, 3) := by decide +kernel
theorem dX10_rank_10 : decode cX10_rank 10 = .ok (.istore_n 3, 1) := by decide +kernel
theorem dX10_rank_11 : decode cX10_rank 11 = .ok (.iload_n 0, 1) := by decide +kernel
theorem dX10_rank_12 : decode cX10_rank 12 = .ok (.ifCond .ne 13, 3) := by decide +kernel
theorem dX10_rank_15 : decode cX10_rank 15 = .ok (.bipush 8, 2) := by decide +kernel
theorem dX10_rank_17 : decode cX10_rank 17 = .ok (.iload_n 2, 1) := by decide +kernel
theorem dX10_rank_18 : decode cX10_rank 18 = .ok (.isub, 1) := by decide +kernel
theorem dX10_rank_19 : decode cX10_rank 19 = .ok (.bipush 100, 2) := by decide +kernel
theorem dX10_rank_21 : decode cX10_rank 21 = .ok (.imul, 1) := by decide +kernel
theorem dX10_rank_22 : decode cX10_rank 22 = .ok (.iload_n 3, 1) := by decide +kernel
theorem dX10_rank_23 : decode cX10_rank 23 = .ok (.iadd, 1) := by decide +kernel
theorem dX10_rank_24 : decode cX10_rank 24 = .ok (.ireturn, 1) := by decide +kernel
theorem dX10_rank_25 : decode cX10_rank 25 = .ok (.iload_n 0, 1) := by decide +kernel
theorem dX10_rank_26 : decode cX10_rank 26 = .ok (.iconst 1, 1) := by decide +kernel
theorem dX10_rank_27 : decode cX10_rank 27 = .ok (.if_icmp .ne 13, 3) := by decide +kernel
theorem dX10_rank_30 : decode cX10_rank 30 = .ok (.iload_n 3, 1) := by decide +kernel
theorem dX10_rank_31 : decode cX10_rank 31 = .ok (.bipush 100, 2) := by decide +kernel
theorem dX10_rank_33 : decode cX10_rank 33 = .ok (.imul, 1) := by decide +kernel
theorem dX10_rank_34 : decode cX10_rank 34 = .ok (.bipush 8, 2) := by decide +kernel
theorem dX10_rank_36 : decode cX10_rank 36 = .ok (.iadd, 1) := by decide +kernel
theorem dX10_rank_37 : decode cX10_rank 37 = .ok (.iload_n 2, 1) := by decide +kernel
theorem dX10_rank_38 : decode cX10_rank 38 = .ok (.isub, 1) := by decide +kernel
theorem dX10_rank_39 : decode cX10_rank 39 = .ok (.ireturn, 1) := by decide +kernel
theorem dX10_rank_40 : decode cX10_rank 40 = .ok (.iload_n 2, 1) := by decide +kernel
theorem dX10_rank_41 : decode cX10_rank 41 = .ok (.bipush 100, 2) := by decide +kernel
theorem dX10_rank_43 : decode cX10_rank 43 = .ok (.imul, 1) := by decide +kernel
theorem dX10_rank_44 : decode cX10_rank 44 = .ok (.iload_n 3, 1) := by decide +kernel
theorem dX10_rank_45 : decode cX10_rank 45 = .ok (.iadd, 1) := by decide +kernel
theorem dX10_rank_46 : decode cX10_rank 46 = .ok (.ireturn, 1) := by decide +kernel
theorem dX10_keep_0 : decode cX10_keep 0 = .ok (.iload_n 1, 1) := by decide +kernel
theorem dX10_keep_1 : decode cX10_keep 1 = .ok (.iconst 0, 1) := by decide +kernel
theorem dX10_keep_2 : decode cX10_keep 2 = .ok (.iconst 1, 1) := by decide +kernel
theorem dX10_keep_3 : decode cX10_keep 3 = .ok (.invokestatic 179, 3) := by decide +kernel
theorem dX10_keep_6 : decode cX10_keep 6 = .ok (.ifCond .ne 5, 3) := by decide +kernel
theorem dX10_keep_9 : decode cX10_keep 9 = .ok (.iconst 0, 1) := by decide +kernel
theorem dX10_keep_10 : decode cX10_keep 10 = .ok (.ireturn, 1) := by decide +kernel
theorem dX10_keep_11 : decode cX10_keep 11 = .ok (.aload_n 0, 1) := by decide +kernel
theorem dX10_keep_12 : decode cX10_keep 12 = .ok (.getfield 37, 3) := by decide +kernel
theorem dX10_keep_15 : decode cX10_keep 15 = .ok (.iload_n 1, 1) := by decide +kernel
theorem dX10_keep_16 : decode cX10_keep 16 = .ok (.aaload, 1) := by decide +kernel
theorem dX10_keep_17 : decode cX10_keep 17 = .ok (.aload_n 0, 1) := by decide +kernel
theorem dX10_keep_18 : decode cX10_keep 18 = .ok (.getfield 26, 3) := by decide +kernel
theorem dX10_keep_21 : decode cX10_keep 21 = .ok (.invokevirtual 444, 3) := by decide +kernel
theorem dX10_keep_24 : decode cX10_keep 24 = .ok (.aload_n 0, 1) := by decide +kernel
theorem dX10_keep_25 : decode cX10_keep 25 = .ok (.getfield 41, 3) := by decide +kernel
theorem dX10_keep_28 : decode cX10_keep 28 = .ok (.iload_n 1, 1) := by decide +kernel
theorem dX10_keep_29 : decode cX10_keep 29 = .ok (.iconst 1, 1) := by decide +kernel
theorem dX10_keep_30 : decode cX10_keep 30 = .ok (.bastore, 1) := by decide +kernel
theorem dX10_keep_31 : decode cX10_keep 31 = .ok (.iconst 1, 1) := by decide +kernel
theorem dX10_keep_32 : decode cX10_keep 32 = .ok (.ireturn, 1) := by decide +kernel
theorem dX10_again_0 : decode cX10_again 0 = .ok (.iload_n 1, 1) := by decide +kernel
theorem dX10_again_1 : decode cX10_again 1 = .ok (.iconst 0, 1) := by decide +kernel
theorem dX10_again_2 : decode cX10_again 2 = .ok (.iconst 1, 1) := by decide +kernel
theorem dX10_again_3 : decode cX10_again 3 = .ok (.invokestatic 179, 3) := by decide +kernel
theorem dX10_again_6 : decode cX10_again 6 = .ok (.ifCond .eq 12, 3) := by decide +kernel
theorem dX10_again_9 : decode cX10_again 9 = .ok (.aload_n 0, 1) := by decide +kernel
theorem dX10_again_10 : decode cX10_again 10 = .ok (.getfield 41, 3) := by decide +kernel
theorem dX10_again_13 : decode cX10_again 13 = .ok (.iload_n 1, 1) := by decide +kernel
theorem dX10_again_14 : decode cX10_again 14 = .ok (.baload, 1) := by decide +kernel
theorem dX10_again_15 : decode cX10_again 15 = .ok (.ifCond .ne 5, 3) := by decide +kernel
theorem dX10_again_18 : decode cX10_again 18 = .ok (.iconst 0, 1) := by decide +kernel
theorem dX10_again_19 : decode cX10_again 19 = .ok (.ireturn, 1) := by decide +kernel
theorem dX10_again_20 : decode cX10_again 20 = .ok (.aload_n 0, 1) := by decide +kernel
theorem dX10_again_21 : decode cX10_again 21 = .ok (.getfield 26, 3) := by decide +kernel
theorem dX10_again_24 : decode cX10_again 24 = .ok (.aload_n 0, 1) := by decide +kernel
theorem dX10_again_25 : decode cX10_again 25 = .ok (.getfield 37, 3) := by decide +kernel
theorem dX10_again_28 : decode cX10_again 28 = .ok (.iload_n 1, 1) := by decide +kernel
theorem dX10_again_29 : decode cX10_again 29 = .ok (.aaload, 1) := by decide +kernel
theorem dX10_again_30 : decode cX10_again 30 = .ok (.invokevirtual 444, 3) := by decide +kernel
theorem dX10_again_33 : decode cX10_again 33 = .ok (.aload_n 0, 1) := by decide +kernel
theorem dX10_again_34 : decode cX10_again 34 = .ok (.getfield 33, 3) := by decide +kernel
theorem dX10_again_37 : decode cX10_again 37 = .ok (.iconst 0, 1) := by decide +kernel
theorem dX10_again_38 : decode cX10_again 38 = .ok (.putfield 238, 3) := by decide +kernel
theorem dX10_again_41 : decode cX10_again 41 = .ok (.iconst 1, 1) := by decide +kernel
theorem dX10_again_42 : decode cX10_again 42 = .ok (.ireturn, 1) := by decide +kernel
theorem dX10_count_0 : decode cX10_count 0 = .ok (.iload_n 1, 1) := by decide +kernel
theorem dX10_count_1 : decode cX10_count 1 = .ok (.tableswitch 172 0 14 #[75, 83, 83, 83, 83, 95, 106, 117, 125, 133, 141, 149, 157, 157, 157], 75) := by decide +kernel
theorem dX10_count_76 : decode cX10_count 76 = .ok (.aload_n 0, 1) := by decide +kernel
theorem dX10_count_77 : decode cX10_count 77 = .ok (.getfield 26, 3) := by decide +kernel
theorem dX10_count_80 : decode cX10_count 80 = .ok (.invokevirtual 457, 3) := by decide +kernel
theorem dX10_count_83 : decode cX10_count 83 = .ok (.ireturn, 1) := by decide +kernel
theorem dX10_count_84 : decode cX10_count 84 = .ok (.aload_n 0, 1) := by decide +kernel
theorem dX10_count_85 : decode cX10_count 85 = .ok (.getfield 26, 3) := by decide +kernel
theorem dX10_count_88 : decode cX10_count 88 = .ok (.getfield 143, 3) := by decide +kernel
theorem dX10_count_91 : decode cX10_count 91 = .ok (.iload_n 1, 1) := by decide +kernel
theorem dX10_count_92 : decode cX10_count 92 = .ok (.iconst 1, 1) := by decide +kernel
theorem dX10_count_93 : decode cX10_count 93 = .ok (.isub, 1) := by decide +kernel
theorem dX10_count_94 : decode cX10_count 94 = .ok (.iaload, 1) := by decide +kernel
theorem dX10_count_95 : decode cX10_count 95 = .ok (.ireturn, 1) := by decide +kernel
theorem dX10_count_96 : decode cX10_count 96 = .ok (.aload_n 0, 1) := by decide +kernel
theorem dX10_count_97 : decode cX10_count 97 = .ok (.getfield 26, 3) := by decide +kernel
theorem dX10_count_100 : decode cX10_count 100 = .ok (.getfield 139, 3) := by decide +kernel
theorem dX10_count_103 : decode cX10_count 103 = .ok (.getfield 152, 3) := by decide +kernel
theorem dX10_count_106 : decode cX10_count 106 = .ok (.ireturn, 1) := by decide +kernel
theorem dX10_count_107 : decode cX10_count 107 = .ok (.aload_n 0, 1) := by decide +kernel
theorem dX10_count_108 : decode cX10_count 108 = .ok (.getfield 26, 3) := by decide +kernel
theorem dX10_count_111 : decode cX10_count 111 = .ok (.getfield 139, 3) := by decide +kernel
theorem dX10_count_114 : decode cX10_count 114 = .ok (.getfield 154, 3) := by decide +kernel
theorem dX10_count_117 : decode cX10_count 117 = .ok (.ireturn, 1) := by decide +kernel
theorem dX10_count_118 : decode cX10_count 118 = .ok (.aload_n 0, 1) := by decide +kernel
theorem dX10_count_119 : decode cX10_count 119 = .ok (.getfield 26, 3) := by decide +kernel
theorem dX10_count_122 : decode cX10_count 122 = .ok (.getfield 460, 3) := by decide +kernel
theorem dX10_count_125 : decode cX10_count 125 = .ok (.ireturn, 1) := by decide +kernel
theorem dX10_count_126 : decode cX10_count 126 = .ok (.aload_n 0, 1) := by decide +kernel
theorem dX10_count_127 : decode cX10_count 127 = .ok (.getfield 26, 3) := by decide +kernel
theorem dX10_count_130 : decode cX10_count 130 = .ok (.getfield 463, 3) := by decide +kernel
theorem dX10_count_133 : decode cX10_count 133 = .ok (.ireturn, 1) := by decide +kernel
theorem dX10_count_134 : decode cX10_count 134 = .ok (.aload_n 0, 1) := by decide +kernel
theorem dX10_count_135 : decode cX10_count 135 = .ok (.getfield 33, 3) := by decide +kernel
theorem dX10_count_138 : decode cX10_count 138 = .ok (.getfield 238, 3) := by decide +kernel
theorem dX10_count_141 : decode cX10_count 141 = .ok (.ireturn, 1) := by decide +kernel
theorem dX10_count_142 : decode cX10_count 142 = .ok (.aload_n 0, 1) := by decide +kernel
theorem dX10_count_143 : decode cX10_count 143 = .ok (.getfield 19, 3) := by decide +kernel
theorem dX10_count_146 : decode cX10_count 146 = .ok (.getfield 466, 3) := by decide +kernel
theorem dX10_count_149 : decode cX10_count 149 = .ok (.ireturn, 1) := by decide +kernel
theorem dX10_count_150 : decode cX10_count 150 = .ok (.aload_n 0, 1) := by decide +kernel
theorem dX10_count_151 : decode cX10_count 151 = .ok (.getfield 10, 3) := by decide +kernel
theorem dX10_count_154 : decode cX10_count 154 = .ok (.getfield 89, 3) := by decide +kernel
theorem dX10_count_157 : decode cX10_count 157 = .ok (.ireturn, 1) := by decide +kernel
theorem dX10_count_158 : decode cX10_count 158 = .ok (.aload_n 0, 1) := by decide +kernel
theorem dX10_count_159 : decode cX10_count 159 = .ok (.getfield 26, 3) := by decide +kernel
theorem dX10_count_162 : decode cX10_count 162 = .ok (.getfield 143, 3) := by decide +kernel
theorem dX10_count_165 : decode cX10_count 165 = .ok (.iconst 4, 1) := by decide +kernel
theorem dX10_count_166 : decode cX10_count 166 = .ok (.iload_n 1, 1) := by decide +kernel
theorem dX10_count_167 : decode cX10_count 167 = .ok (.iadd, 1) := by decide +kernel
theorem dX10_count_168 : decode cX10_count 168 = .ok (.bipush 12, 2) := by decide +kernel
theorem dX10_count_170 : decode cX10_count 170 = .ok (.isub, 1) := by decide +kernel
theorem dX10_count_171 : decode cX10_count 171 = .ok (.iaload, 1) := by decide +kernel
theorem dX10_count_172 : decode cX10_count 172 = .ok (.ireturn, 1) := by decide +kernel
theorem dX10_count_173 : decode cX10_count 173 = .ok (.iconst (-1), 1) := by decide +kernel
theorem dX10_count_174 : decode cX10_count 174 = .ok (.ireturn, 1) := by decide +kernel
theorem dX10_row_0 : decode cX10_row 0 = .ok (.iload_n 1, 1) := by decide +kernel
theorem dX10_row_1 : decode cX10_row 1 = .ok (.ifCond .lt 14, 3) := by decide +kernel
theorem dX10_row_4 : decode cX10_row 4 = .ok (.iload_n 1, 1) := by decide +kernel
theorem dX10_row_5 : decode cX10_row 5 = .ok (.aload_n 0, 1) := by decide +kernel
theorem dX10_row_6 : decode cX10_row 6 = .ok (.getfield 19, 3) := by decide +kernel
theorem dX10_row_9 : decode cX10_row 9 = .ok (.getfield 466, 3) := by decide +kernel
theorem dX10_row_12 : decode cX10_row 12 = .ok (.if_icmp .lt 11, 3) := by decide +kernel
theorem dX10_row_15 : decode cX10_row 15 = .ok (.new 173, 3) := by decide +kernel
theorem dX10_row_18 : decode cX10_row 18 = .ok (.dup, 1) := by decide +kernel
theorem dX10_row_19 : decode cX10_row 19 = .ok (.invokespecial 175, 3) := by decide +kernel
theorem dX10_row_22 : decode cX10_row 22 = .ok (.athrow, 1) := by decide +kernel
theorem dX10_row_23 : decode cX10_row 23 = .ok (.aload_n 0, 1) := by decide +kernel
theorem dX10_row_24 : decode cX10_row 24 = .ok (.getfield 19, 3) := by decide +kernel
theorem dX10_row_27 : decode cX10_row 27 = .ok (.getfield 467, 3) := by decide +kernel
theorem dX10_row_30 : decode cX10_row 30 = .ok (.iload_n 1, 1) := by decide +kernel
theorem dX10_row_31 : decode cX10_row 31 = .ok (.laload, 1) := by decide +kernel
theorem dX10_row_32 : decode cX10_row 32 = .ok (.lreturn, 1) := by decide +kernel
theorem dX10_isIn_0 : decode cX10_isIn 0 = .ok (.iload_n 0, 1) := by decide +kernel
theorem dX10_isIn_1 : decode cX10_isIn 1 = .ok (.iload_n 1, 1) := by decide +kernel
theorem dX10_isIn_2 : decode cX10_isIn 2 = .ok (.if_icmp .lt 12, 3) := by decide +kernel
theorem dX10_isIn_5 : decode cX10_isIn 5 = .ok (.iload_n 0, 1) := by decide +kernel
theorem dX10_isIn_6 : decode cX10_isIn 6 = .ok (.iload_n 2, 1) := by decide +kernel
theorem dX10_isIn_7 : decode cX10_isIn 7 = .ok (.if_icmp .gt 7, 3) := by decide +kernel
theorem dX10_isIn_10 : decode cX10_isIn 10 = .ok (.iconst 1, 1) := by decide +kernel
theorem dX10_isIn_11 : decode cX10_isIn 11 = .ok (.goto 4, 3) := by decide +kernel
theorem dX10_isIn_14 : decode cX10_isIn 14 = .ok (.iconst 0, 1) := by decide +kernel
theorem dX10_isIn_15 : decode cX10_isIn 15 = .ok (.ireturn, 1) := by decide +kernel
theorem dX10_isInk_0 : decode cX10_isInk 0 = .ok (.iload_n 0, 1) := by decide +kernel
theorem dX10_isInk_1 : decode cX10_isInk 1 = .ok (.iconst 0, 1) := by decide +kernel
theorem dX10_isInk_2 : decode cX10_isInk 2 = .ok (.iconst 3, 1) := by decide +kernel
theorem dX10_isInk_3 : decode cX10_isInk 3 = .ok (.invokestatic 179, 3) := by decide +kernel
theorem dX10_isInk_6 : decode cX10_isInk 6 = .ok (.ireturn, 1) := by decide +kernel
theorem dX10_isBand_0 : decode cX10_isBand 0 = .ok (.iload_n 0, 1) := by decide +kernel
theorem dX10_isBand_1 : decode cX10_isBand 1 = .ok (.iconst 0, 1) := by decide +kernel
theorem dX10_isBand_2 : decode cX10_isBand 2 = .ok (.iconst 2, 1) := by decide +kernel
theorem dX10_isBand_3 : decode cX10_isBand 3 = .ok (.invokestatic 179, 3) := by decide +kernel
theorem dX10_isBand_6 : decode cX10_isBand 6 = .ok (.ireturn, 1) := by decide +kernel
theorem dX10_isPatch_0 : decode cX10_isPatch 0 = .ok (.iload_n 0, 1) := by decide +kernel
theorem dX10_isPatch_1 : decode cX10_isPatch 1 = .ok (.iconst 0, 1) := by decide +kernel
theorem dX10_isPatch_2 : decode cX10_isPatch 2 = .ok (.bipush 80, 2) := by decide +kernel
theorem dX10_isPatch_4 : decode cX10_isPatch 4 = .ok (.invokestatic 179, 3) := by decide +kernel
theorem dX10_isPatch_7 : decode cX10_isPatch 7 = .ok (.ireturn, 1) := by decide +kernel
theorem dX10_isHow_0 : decode cX10_isHow 0 = .ok (.iload_n 0, 1) := by decide +kernel
theorem dX10_isHow_1 : decode cX10_isHow 1 = .ok (.iconst 0, 1) := by decide +kernel
theorem dX10_isHow_2 : decode cX10_isHow 2 = .ok (.iconst 1, 1) := by decide +kernel
theorem dX10_isHow_3 : decode cX10_isHow 3 = .ok (.invokestatic 179, 3) := by decide +kernel
theorem dX10_isHow_6 : decode cX10_isHow 6 = .ok (.ireturn, 1) := by decide +kernel
theorem dX10_isColour_0 : decode cX10_isColour 0 = .ok (.iload_n 0, 1) := by decide +kernel
theorem dX10_isColour_1 : decode cX10_isColour 1 = .ok (.iconst 0, 1) := by decide +kernel
theorem dX10_isColour_2 : decode cX10_isColour 2 = .ok (.sipush 400, 3) := by decide +kernel
theorem dX10_isColour_5 : decode cX10_isColour 5 = .ok (.invokestatic 179, 3) := by decide +kernel
theorem dX10_isColour_8 : decode cX10_isColour 8 = .ok (.ifCond .eq 29, 3) := by decide +kernel
theorem dX10_isColour_11 : decode cX10_isColour 11 = .ok (.iload_n 1, 1) := by decide +kernel
theorem dX10_isColour_12 : decode cX10_isColour 12 = .ok (.iconst 0, 1) := by decide +kernel
theorem dX10_isColour_13 : decode cX10_isColour 13 = .ok (.sipush 400, 3) := by decide +kernel
theorem dX10_isColour_16 : decode cX10_isColour 16 = .ok (.invokestatic 179, 3) := by decide +kernel
theorem dX10_isColour_19 : decode cX10_isColour 19 = .ok (.ifCond .eq 18, 3) := by decide +kernel
theorem dX10_isColour_22 : decode cX10_isColour 22 = .ok (.iload_n 2, 1) := by decide +kernel
theorem dX10_isColour_23 : decode cX10_isColour 23 = .ok (.iconst 0, 1) := by decide +kernel
theorem dX10_isColour_24 : decode cX10_isColour 24 = .ok (.sipush 400, 3) := by decide +kernel
theorem dX10_isColour_27 : decode cX10_isColour 27 = .ok (.invokestatic 179, 3) := by decide +kernel
theorem dX10_isColour_30 : decode cX10_isColour 30 = .ok (.ifCond .eq 7, 3) := by decide +kernel
theorem dX10_isColour_33 : decode cX10_isColour 33 = .ok (.iconst 1, 1) := by decide +kernel
theorem dX10_isColour_34 : decode cX10_isColour 34 = .ok (.goto 4, 3) := by decide +kernel
theorem dX10_isColour_37 : decode cX10_isColour 37 = .ok (.iconst 0, 1) := by decide +kernel
theorem dX10_isColour_38 : decode cX10_isColour 38 = .ok (.ireturn, 1) := by decide +kernel
theorem dX10_put_0 : decode cX10_put 0 = .ok (.iconst 0, 1) := by decide +kernel
theorem dX10_put_1 : decode cX10_put 1 = .ok (.iload_n 0, 1) := by decide +kernel
theorem dX10_put_2 : decode cX10_put 2 = .ok (.iload_n 1, 1) := by decide +kernel
theorem dX10_put_3 : decode cX10_put 3 = .ok (.invokestatic 381, 3) := by decide +kernel
theorem dX10_put_6 : decode cX10_put 6 = .ok (.invokestatic 224, 3) := by decide +kernel
theorem dX10_put_9 : decode cX10_put 9 = .ok (.ireturn, 1) := by decide +kernel
theorem dX10_placeOf_0 : decode cX10_placeOf 0 = .ok (.iload_n 0, 1) := by decide +kernel
theorem dX10_placeOf_1 : decode cX10_placeOf 1 = .ok (.iconst 0, 1) := by decide +kernel
theorem dX10_placeOf_2 : decode cX10_placeOf 2 = .ok (.sipush 8888, 3) := by decide +kernel
theorem dX10_placeOf_5 : decode cX10_placeOf 5 = .ok (.invokestatic 179, 3) := by decide +kernel
theorem dX10_placeOf_8 : decode cX10_placeOf 8 = .ok (.ifCond .ne 5, 3) := by decide +kernel
theorem dX10_placeOf_11 : decode cX10_placeOf 11 = .ok (.iconst (-1), 1) := by decide +kernel
theorem dX10_placeOf_12 : decode cX10_placeOf 12 = .ok (.ireturn, 1) := by decide +kernel
theorem dX10_placeOf_13 : decode cX10_placeOf 13 = .ok (.iconst 0, 1) := by decide +kernel
theorem dX10_placeOf_14 : decode cX10_placeOf 14 = .ok (.istore_n 1, 1) := by decide +kernel
theorem dX10_placeOf_15 : decode cX10_placeOf 15 = .ok (.iconst 0, 1) := by decide +kernel
theorem dX10_placeOf_16 : decode cX10_placeOf 16 = .ok (.istore_n 2, 1) := by decide +kernel
theorem dX10_placeOf_17 : decode cX10_placeOf 17 = .ok (.iload_n 2, 1) := by decide +kernel
theorem dX10_placeOf_18 : decode cX10_placeOf 18 = .ok (.iconst 4, 1) := by decide +kernel
theorem dX10_placeOf_19 : decode cX10_placeOf 19 = .ok (.if_icmp .ge 38, 3) := by decide +kernel
theorem dX10_placeOf_22 : decode cX10_placeOf 22 = .ok (.iload_n 0, 1) := by decide +kernel
theorem dX10_placeOf_23 : decode cX10_placeOf 23 = .ok (.getstatic 471, 3) := by decide +kernel
theorem dX10_placeOf_26 : decode cX10_placeOf 26 = .ok (.iload_n 2, 1) := by decide +kernel
theorem dX10_placeOf_27 : decode cX10_placeOf 27 = .ok (.iaload, 1) := by decide +kernel
theorem dX10_placeOf_28 : decode cX10_placeOf 28 = .ok (.idiv, 1) := by decide +kernel
theorem dX10_placeOf_29 : decode cX10_placeOf 29 = .ok (.bipush 10, 2) := by decide +kernel
theorem dX10_placeOf_31 : decode cX10_placeOf 31 = .ok (.irem, 1) := by decide +kernel
theorem dX10_placeOf_32 : decode cX10_placeOf 32 = .ok (.istore_n 3, 1) := by decide +kernel
theorem dX10_placeOf_33 : decode cX10_placeOf 33 = .ok (.iload_n 3, 1) := by decide +kernel
theorem dX10_placeOf_34 : decode cX10_placeOf 34 = .ok (.bipush 8, 2) := by decide +kernel
theorem dX10_placeOf_36 : decode cX10_placeOf 36 = .ok (.if_icmp .le 5, 3) := by decide +kernel
theorem dX10_placeOf_39 : decode cX10_placeOf 39 = .ok (.iconst (-1), 1) := by decide +kernel
theorem dX10_placeOf_40 : decode cX10_placeOf 40 = .ok (.ireturn, 1) := by decide +kernel
theorem dX10_placeOf_41 : decode cX10_placeOf 41 = .ok (.iload_n 1, 1) := by decide +kernel
theorem dX10_placeOf_42 : decode cX10_placeOf 42 = .ok (.iload_n 3, 1) := by decide +kernel
theorem dX10_placeOf_43 : decode cX10_placeOf 43 = .ok (.getstatic 375, 3) := by decide +kernel
theorem dX10_placeOf_46 : decode cX10_placeOf 46 = .ok (.iload_n 2, 1) := by decide +kernel
theorem dX10_placeOf_47 : decode cX10_placeOf 47 = .ok (.iaload, 1) := by decide +kernel
theorem dX10_placeOf_48 : decode cX10_placeOf 48 = .ok (.imul, 1) := by decide +kernel
theorem dX10_placeOf_49 : decode cX10_placeOf 49 = .ok (.iadd, 1) := by decide +kernel
theorem dX10_placeOf_50 : decode cX10_placeOf 50 = .ok (.istore_n 1, 1) := by decide +kernel
theorem dX10_placeOf_51 : decode cX10_placeOf 51 = .ok (.iinc 2 1, 3) := by decide +kernel
theorem dX10_placeOf_54 : decode cX10_placeOf 54 = .ok (.goto (-37), 3) := by decide +kernel
theorem dX10_placeOf_57 : decode cX10_placeOf 57 = .ok (.iload_n 1, 1) := by decide +kernel
theorem dX10_placeOf_58 : decode cX10_placeOf 58 = .ok (.ireturn, 1) := by decide +kernel
theorem dX10_codeOf_0 : decode cX10_codeOf 0 = .ok (.iconst 0, 1) := by decide +kernel
theorem dX10_codeOf_1 : decode cX10_codeOf 1 = .ok (.istore_n 1, 1) := by decide +kernel
theorem dX10_codeOf_2 : decode cX10_codeOf 2 = .ok (.iconst 0, 1) := by decide +kernel
theorem dX10_codeOf_3 : decode cX10_codeOf 3 = .ok (.istore_n 2, 1) := by decide +kernel
theorem dX10_codeOf_4 : decode cX10_codeOf 4 = .ok (.iload_n 2, 1) := by decide +kernel
theorem dX10_codeOf_5 : decode cX10_codeOf 5 = .ok (.iconst 4, 1) := by decide +kernel
theorem dX10_codeOf_6 : decode cX10_codeOf 6 = .ok (.if_icmp .ge 23, 3) := by decide +kernel
theorem dX10_codeOf_9 : decode cX10_codeOf 9 = .ok (.iload_n 1, 1) := by decide +kernel
theorem dX10_codeOf_10 : decode cX10_codeOf 10 = .ok (.iload_n 0, 1) := by decide +kernel
theorem dX10_codeOf_11 : decode cX10_codeOf 11 = .ok (.iload_n 2, 1) := by decide +kernel
theorem dX10_codeOf_12 : decode cX10_codeOf 12 = .ok (.invokestatic 362, 3) := by decide +kernel
theorem dX10_codeOf_15 : decode cX10_codeOf 15 = .ok (.getstatic 471, 3) := by decide +kernel
theorem dX10_codeOf_18 : decode cX10_codeOf 18 = .ok (.iload_n 2, 1) := by decide +kernel
theorem dX10_codeOf_19 : decode cX10_codeOf 19 = .ok (.iaload, 1) := by decide +kernel
theorem dX10_codeOf_20 : decode cX10_codeOf 20 = .ok (.imul, 1) := by decide +kernel
theorem dX10_codeOf_21 : decode cX10_codeOf 21 = .ok (.iadd, 1) := by decide +kernel
theorem dX10_codeOf_22 : decode cX10_codeOf 22 = .ok (.istore_n 1, 1) := by decide +kernel
theorem dX10_codeOf_23 : decode cX10_codeOf 23 = .ok (.iinc 2 1, 3) := by decide +kernel
theorem dX10_codeOf_26 : decode cX10_codeOf 26 = .ok (.goto (-22), 3) := by decide +kernel
theorem dX10_codeOf_29 : decode cX10_codeOf 29 = .ok (.iload_n 1, 1) := by decide +kernel
theorem dX10_codeOf_30 : decode cX10_codeOf 30 = .ok (.ireturn, 1) := by decide +kernel
theorem dX10_amountOf_0 : decode cX10_amountOf 0 = .ok (.iload_n 0, 1) := by decide +kernel
theorem dX10_amountOf_1 : decode cX10_amountOf 1 = .ok (.getstatic 375, 3) := by decide +kernel
theorem dX10_amountOf_4 : decode cX10_amountOf 4 = .ok (.iload_n 1, 1) := by decide +kernel
theorem dX10_amountOf_5 : decode cX10_amountOf 5 = .ok (.iaload, 1) := by decide +kernel
theorem dX10_amountOf_6 : decode cX10_amountOf 6 = .ok (.idiv, 1) := by decide +kernel
theorem dX10_amountOf_7 : decode cX10_amountOf 7 = .ok (.bipush 9, 2) := by decide +kernel
theorem dX10_amountOf_9 : decode cX10_amountOf 9 = .ok (.irem, 1) := by decide +kernel
theorem dX10_amountOf_10 : decode cX10_amountOf 10 = .ok (.ireturn, 1) := by decide +kernel
theorem dX10_totalOf_0 : decode cX10_totalOf 0 = .ok (.iload_n 0, 1) := by decide +kernel
theorem dX10_totalOf_1 : decode cX10_totalOf 1 = .ok (.sipush 729, 3) := by decide +kernel
theorem dX10_totalOf_4 : decode cX10_totalOf 4 = .ok (.idiv, 1) := by decide +kernel
theorem dX10_totalOf_5 : decode cX10_totalOf 5 = .ok (.iload_n 0, 1) := by decide +kernel
theorem dX10_totalOf_6 : decode cX10_totalOf 6 = .ok (.bipush 81, 2) := by decide +kernel
theorem dX10_totalOf_8 : decode cX10_totalOf 8 = .ok (.idiv, 1) := by decide +kernel
theorem dX10_totalOf_9 : decode cX10_totalOf 9 = .ok (.bipush 9, 2) := by decide +kernel
theorem dX10_totalOf_11 : decode cX10_totalOf 11 = .ok (.irem, 1) := by decide +kernel
theorem dX10_totalOf_12 : decode cX10_totalOf 12 = .ok (.iadd, 1) := by decide +kernel
theorem dX10_totalOf_13 : decode cX10_totalOf 13 = .ok (.iload_n 0, 1) := by decide +kernel
theorem dX10_totalOf_14 : decode cX10_totalOf 14 = .ok (.bipush 9, 2) := by decide +kernel
theorem dX10_totalOf_16 : decode cX10_totalOf 16 = .ok (.idiv, 1) := by decide +kernel
theorem dX10_totalOf_17 : decode cX10_totalOf 17 = .ok (.bipush 9, 2) := by decide +kernel
theorem dX10_totalOf_19 : decode cX10_totalOf 19 = .ok (.irem, 1) := by decide +kernel
theorem dX10_totalOf_20 : decode cX10_totalOf 20 = .ok (.iadd, 1) := by decide +kernel
theorem dX10_totalOf_21 : decode cX10_totalOf 21 = .ok (.iload_n 0, 1) := by decide +kernel
theorem dX10_totalOf_22 : decode cX10_totalOf 22 = .ok (.bipush 9, 2) := by decide +kernel
theorem dX10_totalOf_24 : decode cX10_totalOf 24 = .ok (.irem, 1) := by decide +kernel
theorem dX10_totalOf_25 : decode cX10_totalOf 25 = .ok (.iadd, 1) := by decide +kernel
theorem dX10_totalOf_26 : decode cX10_totalOf 26 = .ok (.ireturn, 1) := by decide +kernel
theorem dX10_levelOf_0 : decode cX10_levelOf 0 = .ok (.iload_n 0, 1) := by decide +kernel
theorem dX10_levelOf_1 : decode cX10_levelOf 1 = .ok (.getstatic 453, 3) := by decide +kernel
theorem dX10_levelOf_4 : decode cX10_levelOf 4 = .ok (.iload_n 1, 1) := by decide +kernel
theorem dX10_levelOf_5 : decode cX10_levelOf 5 = .ok (.iaload, 1) := by decide +kernel
theorem dX10_levelOf_6 : decode cX10_levelOf 6 = .ok (.idiv, 1) := by decide +kernel
theorem dX10_levelOf_7 : decode cX10_levelOf 7 = .ok (.iconst 3, 1) := by decide +kernel
theorem dX10_levelOf_8 : decode cX10_levelOf 8 = .ok (.irem, 1) := by decide +kernel
theorem dX10_levelOf_9 : decode cX10_levelOf 9 = .ok (.ireturn, 1) := by decide +kernel
theorem dX10_isPlain_0 : decode cX10_isPlain 0 = .ok (.iconst 0, 1) := by decide +kernel
theorem dX10_isPlain_1 : decode cX10_isPlain 1 = .ok (.istore_n 1, 1) := by decide +kernel
theorem dX10_isPlain_2 : decode cX10_isPlain 2 = .ok (.iconst 0, 1) := by decide +kernel
theorem dX10_isPlain_3 : decode cX10_isPlain 3 = .ok (.istore_n 2, 1) := by decide +kernel
theorem dX10_isPlain_4 : decode cX10_isPlain 4 = .ok (.iload_n 2, 1) := by decide +kernel
theorem dX10_isPlain_5 : decode cX10_isPlain 5 = .ok (.iconst 4, 1) := by decide +kernel
theorem dX10_isPlain_6 : decode cX10_isPlain 6 = .ok (.if_icmp .ge 20, 3) := by decide +kernel
theorem dX10_isPlain_9 : decode cX10_isPlain 9 = .ok (.iload_n 0, 1) := by decide +kernel
theorem dX10_isPlain_10 : decode cX10_isPlain 10 = .ok (.iload_n 2, 1) := by decide +kernel
theorem dX10_isPlain_11 : decode cX10_isPlain 11 = .ok (.invokestatic 474, 3) := by decide +kernel
theorem dX10_isPlain_14 : decode cX10_isPlain 14 = .ok (.ifCond .le 6, 3) := by decide +kernel
theorem dX10_isPlain_17 : decode cX10_isPlain 17 = .ok (.iinc 1 1, 3) := by decide +kernel
theorem dX10_isPlain_20 : decode cX10_isPlain 20 = .ok (.iinc 2 1, 3) := by decide +kernel
theorem dX10_isPlain_23 : decode cX10_isPlain 23 = .ok (.goto (-19), 3) := by decide +kernel
theorem dX10_isPlain_26 : decode cX10_isPlain 26 = .ok (.iload_n 1, 1) := by decide +kernel
theorem dX10_isPlain_27 : decode cX10_isPlain 27 = .ok (.iconst 1, 1) := by decide +kernel
theorem dX10_isPlain_28 : decode cX10_isPlain 28 = .ok (.if_icmp .gt 7, 3) := by decide +kernel
theorem dX10_isPlain_31 : decode cX10_isPlain 31 = .ok (.iconst 1, 1) := by decide +kernel
theorem dX10_isPlain_32 : decode cX10_isPlain 32 = .ok (.goto 4, 3) := by decide +kernel
theorem dX10_isPlain_35 : decode cX10_isPlain 35 = .ok (.iconst 0, 1) := by decide +kernel
theorem dX10_isPlain_36 : decode cX10_isPlain 36 = .ok (.ireturn, 1) := by decide +kernel
theorem dX11_init_0 : decode cX11_init 0 = .ok (.aload_n 0, 1) := by decide +kernel
theorem dX11_init_1 : decode cX11_init 1 = .ok (.invokespecial 3, 3) := by decide +kernel
theorem dX11_init_4 : decode cX11_init 4 = .ok (.aload_n 0, 1) := by decide +kernel
theorem dX11_init_5 : decode cX11_init 5 = .ok (.sipush 711, 3) := by decide +kernel
theorem dX11_init_8 : decode cX11_init 8 = .ok (.newarray .int, 2) := by decide +kernel
theorem dX11_init_10 : decode cX11_init 10 = .ok (.putfield 9, 3) := by decide +kernel
theorem dX11_init_13 : decode cX11_init 13 = .ok (.aload_n 0, 1) := by decide +kernel
theorem dX11_init_14 : decode cX11_init 14 = .ok (.bipush 80, 2) := by decide +kernel
theorem dX11_init_16 : decode cX11_init 16 = .ok (.newarray .byte, 2) := by decide +kernel
theorem dX11_init_18 : decode cX11_init 18 = .ok (.putfield 13, 3) := by decide +kernel
theorem dX11_init_21 : decode cX11_init 21 = .ok (.aload_n 0, 1) := by decide +kernel
theorem dX11_init_22 : decode cX11_init 22 = .ok (.bipush 16, 2) := by decide +kernel
theorem dX11_init_24 : decode cX11_init 24 = .ok (.newarray .long, 2) := by decide +kernel
theorem dX11_init_26 : decode cX11_init 26 = .ok (.putfield 17, 3) := by decide +kernel
theorem dX11_init_29 : decode cX11_init 29 = .ok (.aload_n 0, 1) := by decide +kernel
theorem dX11_init_30 : decode cX11_init 30 = .ok (.sipush 320, 3) := by decide +kernel
theorem dX11_init_33 : decode cX11_init 33 = .ok (.newarray .int, 2) := by decide +kernel
theorem dX11_init_35 : decode cX11_init 35 = .ok (.putfield 21, 3) := by decide +kernel
theorem dX11_init_38 : decode cX11_init 38 = .ok (.aload_n 0, 1) := by decide +kernel
theorem dX11_init_39 : decode cX11_init 39 = .ok (.sipush 243, 3) := by decide +kernel
theorem dX11_init_42 : decode cX11_init 42 = .ok (.newarray .int, 2) := by decide +kernel
theorem dX11_init_44 : decode cX11_init 44 = .ok (.putfield 24, 3) := by decide +kernel
theorem dX11_init_47 : decode cX11_init 47 = .ok (.aload_n 0, 1) := by decide +kernel
theorem dX11_init_48 : decode cX11_init 48 = .ok (.sipush 19683, 3) := by decide +kernel
theorem dX11_init_51 : decode cX11_init 51 = .ok (.newarray .int, 2) := by decide +kernel
theorem dX11_init_53 : decode cX11_init 53 = .ok (.putfield 27, 3) := by decide +kernel
theorem dX11_init_56 : decode cX11_init 56 = .ok (.aload_n 0, 1) := by decide +kernel
theorem dX11_init_57 : decode cX11_init 57 = .ok (.iconst 5, 1) := by decide +kernel
theorem dX11_init_58 : decode cX11_init 58 = .ok (.newarray .int, 2) := by decide +kernel
theorem dX11_init_60 : decode cX11_init 60 = .ok (.putfield 30, 3) := by decide +kernel
theorem dX11_init_63 : decode cX11_init 63 = .ok (.aload_n 0, 1) := by decide +kernel
theorem dX11_init_64 : decode cX11_init 64 = .ok (.iconst 5, 1) := by decide +kernel
theorem dX11_init_65 : decode cX11_init 65 = .ok (.newarray .int, 2) := by decide +kernel
theorem dX11_init_67 : decode cX11_init 67 = .ok (.putfield 33, 3) := by decide +kernel
theorem dX11_init_70 : decode cX11_init 70 = .ok (.aload_n 0, 1) := by decide +kernel
theorem dX11_init_71 : decode cX11_init 71 = .ok (.sipush 6561, 3) := by decide +kernel
theorem dX11_init_74 : decode cX11_init 74 = .ok (.newarray .int, 2) := by decide +kernel
theorem dX11_init_76 : decode cX11_init 76 = .ok (.putfield 36, 3) := by decide +kernel
theorem dX11_init_79 : decode cX11_init 79 = .ok (.aload_n 0, 1) := by decide +kernel
theorem dX11_init_80 : decode cX11_init 80 = .ok (.sipush 6561, 3) := by decide +kernel
theorem dX11_init_83 : decode cX11_init 83 = .ok (.newarray .int, 2) := by decide +kernel
theorem dX11_init_85 : decode cX11_init 85 = .ok (.putfield 39, 3) := by decide +kernel
theorem dX11_init_88 : decode cX11_init 88 = .ok (.aload_n 0, 1) := by decide +kernel
theorem dX11_init_89 : decode cX11_init 89 = .ok (.iconst 4, 1) := by decide +kernel
theorem dX11_init_90 : decode cX11_init 90 = .ok (.newarray .int, 2) := by decide +kernel
theorem dX11_init_92 : decode cX11_init 92 = .ok (.putfield 42, 3) := by decide +kernel
theorem dX11_init_95 : decode cX11_init 95 = .ok (.aload_n 0, 1) := by decide +kernel
theorem dX11_init_96 : decode cX11_init 96 = .ok (.sipush 6561, 3) := by decide +kernel
theorem dX11_init_99 : decode cX11_init 99 = .ok (.newarray .int, 2) := by decide +kernel
theorem dX11_init_101 : decode cX11_init 101 = .ok (.putfield 45, 3) := by decide +kernel
theorem dX11_init_104 : decode cX11_init 104 = .ok (.aload_n 0, 1) := by decide +kernel
theorem dX11_init_105 : decode cX11_init 105 = .ok (.iconst 3, 1) := by decide +kernel
theorem dX11_init_106 : decode cX11_init 106 = .ok (.newarray .int, 2) := by decide +kernel
theorem dX11_init_108 : decode cX11_init 108 = .ok (.putfield 48, 3) := by decide +kernel
theorem dX11_init_111 : decode cX11_init 111 = .ok (.aload_n 0, 1) := by decide +kernel
theorem dX11_init_112 : decode cX11_init 112 = .ok (.sipush 6561, 3) := by decide +kernel
theorem dX11_init_115 : decode cX11_init 115 = .ok (.newarray .int, 2) := by decide +kernel
theorem dX11_init_117 : decode cX11_init 117 = .ok (.putfield 51, 3) := by decide +kernel
theorem dX11_init_120 : decode cX11_init 120 = .ok (.aload_n 0, 1) := by decide +kernel
theorem dX11_init_121 : decode cX11_init 121 = .ok (.sipush 6561, 3) := by decide +kernel
theorem dX11_init_124 : decode cX11_init 124 = .ok (.newarray .int, 2) := by decide +kernel
theorem dX11_init_126 : decode cX11_init 126 = .ok (.putfield 54, 3) := by decide +kernel
theorem dX11_init_129 : decode cX11_init 129 = .ok (.aload_n 0, 1) := by decide +kernel
theorem dX11_init_130 : decode cX11_init 130 = .ok (.sipush 6561, 3) := by decide +kernel
theorem dX11_init_133 : decode cX11_init 133 = .ok (.newarray .long, 2) := by decide +kernel
theorem dX11_init_135 : decode cX11_init 135 = .ok (.putfield 57, 3) := by decide +kernel
theorem dX11_init_138 : decode cX11_init 138 = .ok (.aload_n 0, 1) := by decide +kernel
theorem dX11_init_139 : decode cX11_init 139 = .ok (.sipush 6561, 3) := by decide +kernel
theorem dX11_init_142 : decode cX11_init 142 = .ok (.newarray .long, 2) := by decide +kernel
theorem dX11_init_144 : decode cX11_init 144 = .ok (.putfield 60, 3) := by decide +kernel
theorem dX11_init_147 : decode cX11_init 147 = .ok (.aload_n 0, 1) := by decide +kernel
theorem dX11_init_148 : decode cX11_init 148 = .ok (.bipush 64, 2) := by decide +kernel
theorem dX11_init_150 : decode cX11_init 150 = .ok (.newarray .int, 2) := by decide +kernel
theorem dX11_init_152 : decode cX11_init 152 = .ok (.putfield 63, 3) := by decide +kernel
theorem dX11_init_155 : decode cX11_init 155 = .ok (.aload_n 0, 1) := by decide +kernel
theorem dX11_init_156 : decode cX11_init 156 = .ok (.sipush 192, 3) := by decide +kernel
theorem dX11_init_159 : decode cX11_init 159 = .ok (.newarray .int, 2) := by decide +kernel
theorem dX11_init_161 : decode cX11_init 161 = .ok (.putfield 66, 3) := by decide +kernel
theorem dX11_init_164 : decode cX11_init 164 = .ok (.aload_n 0, 1) := by decide +kernel
theorem dX11_init_165 : decode cX11_init 165 = .ok (.bipush 81, 2) := by decide +kernel
theorem dX11_init_167 : decode cX11_init 167 = .ok (.newarray .int, 2) := by decide +kernel
theorem dX11_init_169 : decode cX11_init 169 = .ok (.putfield 69, 3) := by decide +kernel
theorem dX11_init_172 : decode cX11_init 172 = .ok (.aload_n 0, 1) := by decide +kernel
theorem dX11_init_173 : decode cX11_init 173 = .ok (.sipush 19683, 3) := by decide +kernel
theorem dX11_init_176 : decode cX11_init 176 = .ok (.newarray .int, 2) := by decide +kernel
theorem dX11_init_178 : decode cX11_init 178 = .ok (.putfield 72, 3) := by decide +kernel
theorem dX11_init_181 : decode cX11_init 181 = .ok (.aload_n 0, 1) := by decide +kernel
theorem dX11_init_182 : decode cX11_init 182 = .ok (.sipush 7110, 3) := by decide +kernel
theorem dX11_init_185 : decode cX11_init 185 = .ok (.newarray .int, 2) := by decide +kernel
theorem dX11_init_187 : decode cX11_init 187 = .ok (.putfield 75, 3) := by decide +kernel
theorem dX11_init_190 : decode cX11_init 190 = .ok (.aload_n 0, 1) := by decide +kernel
theorem dX11_init_191 : decode cX11_init 191 = .ok (.sipush 711, 3) := by decide +kernel
theorem dX11_init_194 : decode cX11_init 194 = .ok (.newarray .int, 2) := by decide +kernel
theorem dX11_init_196 : decode cX11_init 196 = .ok (.putfield 78, 3) := by decide +kernel
theorem dX11_init_199 : decode cX11_init 199 = .ok (.aload_n 0, 1) := by decide +kernel
theorem dX11_init_200 : decode cX11_init 200 = .ok (.sipush 711, 3) := by decide +kernel
theorem dX11_init_203 : decode cX11_init 203 = .ok (.newarray .int, 2) := by decide +kernel
theorem dX11_init_205 : decode cX11_init 205 = .ok (.putfield 81, 3) := by decide +kernel
theorem dX11_init_208 : decode cX11_init 208 = .ok (.aload_n 0, 1) := by decide +kernel
theorem dX11_init_209 : decode cX11_init 209 = .ok (.sipush 400, 3) := by decide +kernel
theorem dX11_init_212 : decode cX11_init 212 = .ok (.newarray .int, 2) := by decide +kernel
theorem dX11_init_214 : decode cX11_init 214 = .ok (.putfield 84, 3) := by decide +kernel
theorem dX11_init_217 : decode cX11_init 217 = .ok (.aload_n 0, 1) := by decide +kernel
theorem dX11_init_218 : decode cX11_init 218 = .ok (.sipush 1422, 3) := by decide +kernel
theorem dX11_init_221 : decode cX11_init 221 = .ok (.newarray .int, 2) := by decide +kernel
theorem dX11_init_223 : decode cX11_init 223 = .ok (.putfield 87, 3) := by decide +kernel
theorem dX11_init_226 : decode cX11_init 226 = .ok (.aload_n 0, 1) := by decide +kernel
theorem dX11_init_227 : decode cX11_init 227 = .ok (.iconst 2, 1) := by decide +kernel
theorem dX11_init_228 : decode cX11_init 228 = .ok (.newarray .boolean, 2) := by decide +kernel
theorem dX11_init_230 : decode cX11_init 230 = .ok (.putfield 90, 3) := by decide +kernel
theorem dX11_init_233 : decode cX11_init 233 = .ok (.iconst 0, 1) := by decide +kernel
theorem dX11_init_234 : decode cX11_init 234 = .ok (.istore_n 1, 1) := by decide +kernel
theorem dX11_init_235 : decode cX11_init 235 = .ok (.iload_n 1, 1) := by decide +kernel
theorem dX11_init_236 : decode cX11_init 236 = .ok (.iconst 3, 1) := by decide +kernel
theorem dX11_init_237 : decode cX11_init 237 = .ok (.if_icmp .ge 108, 3) := by decide +kernel
theorem dX11_init_240 : decode cX11_init 240 = .ok (.aload_n 0, 1) := by decide +kernel
theorem dX11_init_241 : decode cX11_init 241 = .ok (.getfield 9, 3) := by decide +kernel
theorem dX11_init_244 : decode cX11_init 244 = .ok (.iload_n 1, 1) := by decide +kernel
theorem dX11_init_245 : decode cX11_init 245 = .ok (.bipush 100, 2) := by decide +kernel
theorem dX11_init_247 : decode cX11_init 247 = .ok (.iastore, 1) := by decide +kernel
theorem dX11_init_248 : decode cX11_init 248 = .ok (.iconst 0, 1) := by decide +kernel
theorem dX11_init_249 : decode cX11_init 249 = .ok (.istore_n 2, 1) := by decide +kernel
theorem dX11_init_250 : decode cX11_init 250 = .ok (.iload_n 2, 1) := by decide +kernel
theorem dX11_init_251 : decode cX11_init 251 = .ok (.iconst 4, 1) := by decide +kernel
theorem dX11_init_252 : decode cX11_init 252 = .ok (.if_icmp .ge 76, 3) := by decide +kernel
theorem dX11_init_255 : decode cX11_init 255 = .ok (.iload_n 2, 1) := by decide +kernel
theorem dX11_init_256 : decode cX11_init 256 = .ok (.iconst 3, 1) := by decide +kernel
theorem dX11_init_257 : decode cX11_init 257 = .ok (.if_icmp .eq 8, 3) := by decide +kernel
theorem dX11_init_260 : decode cX11_init 260 = .ok (.iload_n 2, 1) := by decide +kernel
theorem dX11_init_261 : decode cX11_init 261 = .ok (.iload_n 1, 1) := by decide +kernel
theorem dX11_init_262 : decode cX11_init 262 = .ok (.if_icmp .ne 7, 3) := by decide +kernel
theorem dX11_init_265 : decode cX11_init 265 = .ok (.iconst 1, 1) := by decide +kernel
theorem dX11_init_266 : decode cX11_init 266 = .ok (.goto 4, 3) := by decide +kernel
theorem dX11_init_269 : decode cX11_init 269 = .ok (.iconst 0, 1) := by decide +kernel
theorem dX11_init_270 : decode cX11_init 270 = .ok (.istore_n 3, 1) := by decide +kernel
theorem dX11_init_271 : decode cX11_init 271 = .ok (.aload_n 0, 1) := by decide +kernel
theorem dX11_init_272 : decode cX11_init 272 = .ok (.getfield 9, 3) := by decide +kernel
theorem dX11_init_275 : decode cX11_init 275 = .ok (.iconst 3, 1) := by decide +kernel
theorem dX11_init_276 : decode cX11_init 276 = .ok (.getstatic 94, 3) := by decide +kernel
theorem dX11_init_279 : decode cX11_init 279 = .ok (.iload_n 2, 1) := by decide +kernel
theorem dX11_init_280 : decode cX11_init 280 = .ok (.iaload, 1) := by decide +kernel
theorem dX11_init_281 : decode cX11_init 281 = .ok (.imul, 1) := by decide +kernel
theorem dX11_init_282 : decode cX11_init 282 = .ok (.iload_n 1, 1) := by decide +kernel
theorem dX11_init_283 : decode cX11_init 283 = .ok (.iadd, 1) := by decide +kernel
theorem dX11_init_284 : decode cX11_init 284 = .ok (.iload_n 3, 1) := by decide +kernel
theorem dX11_init_285 : decode cX11_init 285 = .ok (.ifCond .eq 8, 3) := by decide +kernel
theorem dX11_init_288 : decode cX11_init 288 = .ok (.bipush 50, 2) := by decide +kernel
theorem dX11_init_290 : decode cX11_init 290 = .ok (.goto 5, 3) := by decide +kernel
theorem dX11_init_293 : decode cX11_init 293 = .ok (.bipush 90, 2) := by decide +kernel
theorem dX11_init_295 : decode cX11_init 295 = .ok (.iastore, 1) := by decide +kernel
theorem dX11_init_296 : decode cX11_init 296 = .ok (.aload_n 0, 1) := by decide +kernel
theorem dX11_init_297 : decode cX11_init 297 = .ok (.getfield 9, 3) := by decide +kernel
theorem dX11_init_300 : decode cX11_init 300 = .ok (.bipush 6, 2) := by decide +kernel
theorem dX11_init_302 : decode cX11_init 302 = .ok (.getstatic 94, 3) := by decide +kernel
theorem dX11_init_305 : decode cX11_init 305 = .ok (.iload_n 2, 1) := by decide +kernel
theorem dX11_init_306 : decode cX11_init 306 = .ok (.iaload, 1) := by decide +kernel
theorem dX11_init_307 : decode cX11_init 307 = .ok (.imul, 1) := by decide +kernel
theorem dX11_init_308 : decode cX11_init 308 = .ok (.iload_n 1, 1) := by decide +kernel
theorem dX11_init_309 : decode cX11_init 309 = .ok (.iadd, 1) := by decide +kernel
theorem dX11_init_310 : decode cX11_init 310 = .ok (.iload_n 3, 1) := by decide +kernel
theorem dX11_init_311 : decode cX11_init 311 = .ok (.ifCond .eq 8, 3) := by decide +kernel
theorem dX11_init_314 : decode cX11_init 314 = .ok (.bipush 10, 2) := by decide +kernel
theorem dX11_init_316 : decode cX11_init 316 = .ok (.goto 5, 3) := by decide +kernel
theorem dX11_init_319 : decode cX11_init 319 = .ok (.bipush 80, 2) := by decide +kernel
theorem dX11_init_321 : decode cX11_init 321 = .ok (.iastore, 1) := by decide +kernel
theorem dX11_init_322 : decode cX11_init 322 = .ok (.iinc 2 1, 3) := by decide +kernel
theorem dX11_init_325 : decode cX11_init 325 = .ok (.goto (-75), 3) := by decide +kernel
theorem dX11_init_328 : decode cX11_init 328 = .ok (.aload_n 0, 1) := by decide +kernel
theorem dX11_init_329 : decode cX11_init 329 = .ok (.getfield 9, 3) := by decide +kernel
theorem dX11_init_332 : decode cX11_init 332 = .ok (.sipush 708, 3) := by decide +kernel
theorem dX11_init_335 : decode cX11_init 335 = .ok (.iload_n 1, 1) := by decide +kernel
theorem dX11_init_336 : decode cX11_init 336 = .ok (.iadd, 1) := by decide +kernel
theorem dX11_init_337 : decode cX11_init 337 = .ok (.iconst 1, 1) := by decide +kernel
theorem dX11_init_338 : decode cX11_init 338 = .ok (.iastore, 1) := by decide +kernel
theorem dX11_init_339 : decode cX11_init 339 = .ok (.iinc 1 1, 3) := by decide +kernel
theorem dX11_init_342 : decode cX11_init 342 = .ok (.goto (-107), 3) := by decide +kernel
theorem dX11_init_345 : decode cX11_init 345 = .ok (.iconst 0, 1) := by decide +kernel
theorem dX11_init_346 : decode cX11_init 346 = .ok (.istore_n 1, 1) := by decide +kernel
theorem dX11_init_347 : decode cX11_init 347 = .ok (.iload_n 1, 1) := by decide +kernel
theorem dX11_init_348 : decode cX11_init 348 = .ok (.iconst 4, 1) := by decide +kernel
theorem dX11_init_349 : decode cX11_init 349 = .ok (.if_icmp .ge 14, 3) := by decide +kernel
theorem dX11_init_352 : decode cX11_init 352 = .ok (.aload_n 0, 1) := by decide +kernel
theorem dX11_init_353 : decode cX11_init 353 = .ok (.iload_n 1, 1) := by decide +kernel
theorem dX11_init_354 : decode cX11_init 354 = .ok (.invokevirtual 97, 3) := by decide +kernel
theorem dX11_init_357 : decode cX11_init 357 = .ok (.iinc 1 1, 3) := by decide +kernel
theorem dX11_init_360 : decode cX11_init 360 = .ok (.goto (-13), 3) := by decide +kernel
theorem dX11_init_363 : decode cX11_init 363 = .ok (.iconst 0, 1) := by decide +kernel
theorem dX11_init_364 : decode cX11_init 364 = .ok (.istore_n 1, 1) := by decide +kernel
theorem dX11_init_365 : decode cX11_init 365 = .ok (.iload_n 1, 1) := by decide +kernel
theorem dX11_init_366 : decode cX11_init 366 = .ok (.sipush 6561, 3) := by decide +kernel
theorem dX11_init_369 : decode cX11_init 369 = .ok (.if_icmp .ge 19, 3) := by decide +kernel
theorem dX11_init_372 : decode cX11_init 372 = .ok (.aload_n 0, 1) := by decide +kernel
theorem dX11_init_373 : decode cX11_init 373 = .ok (.getfield 36, 3) := by decide +kernel
theorem dX11_init_376 : decode cX11_init 376 = .ok (.iload_n 1, 1) := by decide +kernel
theorem dX11_init_377 : decode cX11_init 377 = .ok (.iload_n 1, 1) := by decide +kernel
theorem dX11_init_378 : decode cX11_init 378 = .ok (.invokestatic 101, 3) := by decide +kernel
theorem dX11_init_381 : decode cX11_init 381 = .ok (.iastore, 1) := by decide +kernel
theorem dX11_init_382 : decode cX11_init 382 = .ok (.iinc 1 1, 3) := by decide +kernel
theorem dX11_init_385 : decode cX11_init 385 = .ok (.goto (-20), 3) := by decide +kernel
theorem dX11_init_388 : decode cX11_init 388 = .ok (.aload_n 0, 1) := by decide +kernel
theorem dX11_init_389 : decode cX11_init 389 = .ok (.getfield 9, 3) := by decide +kernel
theorem dX11_init_392 : decode cX11_init 392 = .ok (.sipush 704, 3) := by decide +kernel
theorem dX11_init_395 : decode cX11_init 395 = .ok (.bipush 32, 2) := by decide +kernel
theorem dX11_init_397 : decode cX11_init 397 = .ok (.iastore, 1) := by decide +kernel
theorem dX11_init_398 : decode cX11_init 398 = .ok (.aload_n 0, 1) := by decide +kernel
theorem dX11_init_399 : decode cX11_init 399 = .ok (.getfield 9, 3) := by decide +kernel
theorem dX11_init_402 : decode cX11_init 402 = .ok (.sipush 705, 3) := by decide +kernel
theorem dX11_init_405 : decode cX11_init 405 = .ok (.iconst 2, 1) := by decide +kernel
theorem dX11_init_406 : decode cX11_init 406 = .ok (.iastore, 1) := by decide +kernel
theorem dX11_init_407 : decode cX11_init 407 = .ok (.aload_n 0, 1) := by decide +kernel
theorem dX11_init_408 : decode cX11_init 408 = .ok (.getfield 9, 3) := by decide +kernel
theorem dX11_init_411 : decode cX11_init 411 = .ok (.sipush 707, 3) := by decide +kernel
theorem dX11_init_414 : decode cX11_init 414 = .ok (.bipush 8, 2) := by decide +kernel
theorem dX11_init_416 : decode cX11_init 416 = .ok (.iastore, 1) := by decide +kernel
theorem dX11_init_417 : decode cX11_init 417 = .ok (.return_, 1) := by decide +kernel
theorem dX11_straighten_0 : decode cX11_straighten 0 = .ok (.iconst 0, 1) := by decide +kernel
theorem dX11_straighten_1 : decode cX11_straighten 1 = .ok (.istore_n 2, 1) := by decide +kernel
theorem dX11_straighten_2 : decode cX11_straighten 2 = .ok (.iload_n 2, 1) := by decide +kernel
theorem dX11_straighten_3 : decode cX11_straighten 3 = .ok (.bipush 9, 2) := by decide +kernel
theorem dX11_straighten_5 : decode cX11_straighten 5 = .ok (.if_icmp .ge 25, 3) := by decide +kernel
theorem dX11_straighten_8 : decode cX11_straighten 8 = .ok (.aload_n 0, 1) := by decide +kernel
theorem dX11_straighten_9 : decode cX11_straighten 9 = .ok (.getfield 9, 3) := by decide +kernel
theorem dX11_straighten_12 : decode cX11_straighten 12 = .ok (.sipush 324, 3) := by decide +kernel
theorem dX11_straighten_15 : decode cX11_straighten 15 = .ok (.bipush 9, 2) := by decide +kernel
theorem dX11_straighten_17 : decode cX11_straighten 17 = .ok (.iload_n 1, 1) := by decide +kernel
theorem dX11_straighten_18 : decode cX11_straighten 18 = .ok (.imul, 1) := by decide +kernel
theorem dX11_straighten_19 : decode cX11_straighten 19 = .ok (.iadd, 1) := by decide +kernel
theorem dX11_straighten_20 : decode cX11_straighten 20 = .ok (.iload_n 2, 1) := by decide +kernel
theorem dX11_straighten_21 : decode cX11_straighten 21 = .ok (.iadd, 1) := by decide +kernel
theorem dX11_straighten_22 : decode cX11_straighten 22 = .ok (.iload_n 2, 1) := by decide +kernel
theorem dX11_straighten_23 : decode cX11_straighten 23 = .ok (.iastore, 1) := by decide +kernel
theorem dX11_straighten_24 : decode cX11_straighten 24 = .ok (.iinc 2 1, 3) := by decide +kernel
theorem dX11_straighten_27 : decode cX11_straighten 27 = .ok (.goto (-25), 3) := by decide +kernel
theorem dX11_straighten_30 : decode cX11_straighten 30 = .ok (.return_, 1) := by decide +kernel
theorem dX11_thrown_0 : decode cX11_thrown 0 = .ok (.aload_n 0, 1) := by decide +kernel
theorem dX11_thrown_1 : decode cX11_thrown 1 = .ok (.getfield 105, 3) := by decide +kernel
theorem dX11_thrown_4 : decode cX11_thrown 4 = .ok (.ireturn, 1) := by decide +kernel
theorem dX11_in_0 : decode cX11_in 0 = .ok (.iload_n 0, 1) := by decide +kernel
theorem dX11_in_1 : decode cX11_in 1 = .ok (.iload_n 1, 1) := by decide +kernel
theorem dX11_in_2 : decode cX11_in 2 = .ok (.if_icmp .lt 12, 3) := by decide +kernel
theorem dX11_in_5 : decode cX11_in 5 = .ok (.iload_n 0, 1) := by decide +kernel
theorem dX11_in_6 : decode cX11_in 6 = .ok (.iload_n 2, 1) := by decide +kernel
theorem dX11_in_7 : decode cX11_in 7 = .ok (.if_icmp .gt 7, 3) := by decide +kernel
theorem dX11_in_10 : decode cX11_in 10 = .ok (.iconst 1, 1) := by decide +kernel
theorem dX11_in_11 : decode cX11_in 11 = .ok (.goto 4, 3) := by decide +kernel
theorem dX11_in_14 : decode cX11_in 14 = .ok (.iconst 0, 1) := by decide +kernel
theorem dX11_in_15 : decode cX11_in 15 = .ok (.ireturn, 1) := by decide +kernel
theorem dX11_lost_0 : decode cX11_lost 0 = .ok (.aload_n 0, 1) := by decide +kernel
theorem dX11_lost_1 : decode cX11_lost 1 = .ok (.iconst 1, 1) := by decide +kernel
theorem dX11_lost_2 : decode cX11_lost 2 = .ok (.putfield 105, 3) := by decide +kernel
theorem dX11_lost_5 : decode cX11_lost 5 = .ok (.iconst 0, 1) := by decide +kernel
theorem dX11_lost_6 : decode cX11_lost 6 = .ok (.ireturn, 1) := by decide +kernel
theorem dX11_tell_0 : decode cX11_tell 0 = .ok (.aload_n 0, 1) := by decide +kernel
theorem dX11_tell_1 : decode cX11_tell 1 = .ok (.getfield 17, 3) := by decide +kernel
theorem dX11_tell_4 : decode cX11_tell 4 = .ok (.aload_n 0, 1) := by decide +kernel
theorem dX11_tell_5 : decode cX11_tell 5 = .ok (.getfield 109, 3) := by decide +kernel
theorem dX11_tell_8 : decode cX11_tell 8 = .ok (.lload_n 1, 1) := by decide +kernel
theorem dX11_tell_9 : decode cX11_tell 9 = .ok (.lastore, 1) := by decide +kernel
theorem dX11_tell_10 : decode cX11_tell 10 = .ok (.aload_n 0, 1) := by decide +kernel
theorem dX11_tell_11 : decode cX11_tell 11 = .ok (.dup, 1) := by decide +kernel
theorem dX11_tell_12 : decode cX11_tell 12 = .ok (.getfield 109, 3) := by decide +kernel
theorem dX11_tell_15 : decode cX11_tell 15 = .ok (.iconst 1, 1) := by decide +kernel
theorem dX11_tell_16 : decode cX11_tell 16 = .ok (.iadd, 1) := by decide +kernel
theorem dX11_tell_17 : decode cX11_tell 17 = .ok (.putfield 109, 3) := by decide +kernel
theorem dX11_tell_20 : decode cX11_tell 20 = .ok (.return_, 1) := by decide +kernel
theorem dX11_isInk_0 : decode cX11_isInk 0 = .ok (.iload_n 0, 1) := by decide +kernel
theorem dX11_isInk_1 : decode cX11_isInk 1 = .ok (.iconst 0, 1) := by decide +kernel
theorem dX11_isInk_2 : decode cX11_isInk 2 = .ok (.iconst 3, 1) := by decide +kernel
theorem dX11_isInk_3 : decode cX11_isInk 3 = .ok (.invokestatic 112, 3) := by decide +kernel
theorem dX11_isInk_6 : decode cX11_isInk 6 = .ok (.ireturn, 1) := by decide +kernel
theorem dX11_isCode_0 : decode cX11_isCode 0 = .ok (.iload_n 0, 1) := by decide +kernel
theorem dX11_isCode_1 : decode cX11_isCode 1 = .ok (.iconst 0, 1) := by decide +kernel
theorem dX11_isCode_2 : decode cX11_isCode 2 = .ok (.sipush 8888, 3) := by decide +kernel
theorem dX11_isCode_5 : decode cX11_isCode 5 = .ok (.invokestatic 112, 3) := by decide +kernel
theorem dX11_isCode_8 : decode cX11_isCode 8 = .ok (.ifCond .ne 5, 3) := by decide +kernel
theorem dX11_isCode_11 : decode cX11_isCode 11 = .ok (.iconst 0, 1) := by decide +kernel
theorem dX11_isCode_12 : decode cX11_isCode 12 = .ok (.ireturn, 1) := by decide +kernel
theorem dX11_isCode_13 : decode cX11_isCode 13 = .ok (.iconst 0, 1) := by decide +kernel
theorem dX11_isCode_14 : decode cX11_isCode 14 = .ok (.istore_n 1, 1) := by decide +kernel
theorem dX11_isCode_15 : decode cX11_isCode 15 = .ok (.iload_n 1, 1) := by decide +kernel
theorem dX11_isCode_16 : decode cX11_isCode 16 = .ok (.iconst 4, 1) := by decide +kernel
theorem dX11_isCode_17 : decode cX11_isCode 17 = .ok (.if_icmp .ge 26, 3) := by decide +kernel
theorem dX11_isCode_20 : decode cX11_isCode 20 = .ok (.iload_n 0, 1) := by decide +kernel
theorem dX11_isCode_21 : decode cX11_isCode 21 = .ok (.getstatic 116, 3) := by decide +kernel
theorem dX11_isCode_24 : decode cX11_isCode 24 = .ok (.iload_n 1, 1) := by decide +kernel
theorem dX11_isCode_25 : decode cX11_isCode 25 = .ok (.iaload, 1) := by decide +kernel
theorem dX11_isCode_26 : decode cX11_isCode 26 = .ok (.idiv, 1) := by decide +kernel
theorem dX11_isCode_27 : decode cX11_isCode 27 = .ok (.bipush 10, 2) := by decide +kernel
theorem dX11_isCode_29 : decode cX11_isCode 29 = .ok (.irem, 1) := by decide +kernel
theorem dX11_isCode_30 : decode cX11_isCode 30 = .ok (.bipush 8, 2) := by decide +kernel
theorem dX11_isCode_32 : decode cX11_isCode 32 = .ok (.if_icmp .le 5, 3) := by decide +kernel
theorem dX11_isCode_35 : decode cX11_isCode 35 = .ok (.iconst 0, 1) := by decide +kernel
theorem dX11_isCode_36 : decode cX11_isCode 36 = .ok (.ireturn, 1) := by decide +kernel
theorem dX11_isCode_37 : decode cX11_isCode 37 = .ok (.iinc 1 1, 3) := by decide +kernel
theorem dX11_isCode_40 : decode cX11_isCode 40 = .ok (.goto (-25), 3) := by decide +kernel
theorem dX11_isCode_43 : decode cX11_isCode 43 = .ok (.iconst 1, 1) := by decide +kernel
theorem dX11_isCode_44 : decode cX11_isCode 44 = .ok (.ireturn, 1) := by decide +kernel
theorem dX11_amountOf_0 : decode cX11_amountOf 0 = .ok (.iload_n 0, 1) := by decide +kernel
theorem dX11_amountOf_1 : decode cX11_amountOf 1 = .ok (.getstatic 116, 3) := by decide +kernel
theorem dX11_amountOf_4 : decode cX11_amountOf 4 = .ok (.iload_n 1, 1) := by decide +kernel
theorem dX11_amountOf_5 : decode cX11_amountOf 5 = .ok (.iaload, 1) := by decide +kernel
theorem dX11_amountOf_6 : decode cX11_amountOf 6 = .ok (.idiv, 1) := by decide +kernel
theorem dX11_amountOf_7 : decode cX11_amountOf 7 = .ok (.bipush 10, 2) := by decide +kernel
theorem dX11_amountOf_9 : decode cX11_amountOf 9 = .ok (.irem, 1) := by decide +kernel
theorem dX11_amountOf_10 : decode cX11_amountOf 10 = .ok (.ireturn, 1) := by decide +kernel
theorem dX11_totalOf_0 : decode cX11_totalOf 0 = .ok (.iload_n 0, 1) := by decide +kernel
theorem dX11_totalOf_1 : decode cX11_totalOf 1 = .ok (.iconst 0, 1) := by decide +kernel
theorem dX11_totalOf_2 : decode cX11_totalOf 2 = .ok (.invokestatic 119, 3) := by decide +kernel
theorem dX11_totalOf_5 : decode cX11_totalOf 5 = .ok (.iload_n 0, 1) := by decide +kernel
theorem dX11_totalOf_6 : decode cX11_totalOf 6 = .ok (.iconst 1, 1) := by decide +kernel
theorem dX11_totalOf_7 : decode cX11_totalOf 7 = .ok (.invokestatic 119, 3) := by decide +kernel
theorem dX11_totalOf_10 : decode cX11_totalOf 10 = .ok (.iadd, 1) := by decide +kernel
theorem dX11_totalOf_11 : decode cX11_totalOf 11 = .ok (.iload_n 0, 1) := by decide +kernel
theorem dX11_totalOf_12 : decode cX11_totalOf 12 = .ok (.iconst 2, 1) := by decide +kernel
theorem dX11_totalOf_13 : decode cX11_totalOf 13 = .ok (.invokestatic 119, 3) := by decide +kernel
theorem dX11_totalOf_16 : decode cX11_totalOf 16 = .ok (.iadd, 1) := by decide +kernel
theorem dX11_totalOf_17 : decode cX11_totalOf 17 = .ok (.iload_n 0, 1) := by decide +kernel
theorem dX11_totalOf_18 : decode cX11_totalOf 18 = .ok (.iconst 3, 1) := by decide +kernel
theorem dX11_totalOf_19 : decode cX11_totalOf 19 = .ok (.invokestatic 119, 3) := by decide +kernel
theorem dX11_totalOf_22 : decode cX11_totalOf 22 = .ok (.iadd, 1) := by decide +kernel
theorem dX11_totalOf_23 : decode cX11_totalOf 23 = .ok (.ireturn, 1) := by decide +kernel
theorem dX11_numberOf_0 : decode cX11_numberOf 0 = .ok (.iconst 0, 1) := by decide +kernel
theorem dX11_numberOf_1 : decode cX11_numberOf 1 = .ok (.istore_n 1, 1) := by decide +kernel
theorem dX11_numberOf_2 : decode cX11_numberOf 2 = .ok (.iconst 0, 1) := by decide +kernel
theorem dX11_numberOf_3 : decode cX11_numberOf 3 = .ok (.istore_n 2, 1) := by decide +kernel
theorem dX11_numberOf_4 : decode cX11_numberOf 4 = .ok (.iload_n 2, 1) := by decide +kernel
theorem dX11_numberOf_5 : decode cX11_numberOf 5 = .ok (.iconst 4, 1) := by decide +kernel
theorem dX11_numberOf_6 : decode cX11_numberOf 6 = .ok (.if_icmp .ge 20, 3) := by decide +kernel
theorem dX11_numberOf_9 : decode cX11_numberOf 9 = .ok (.bipush 9, 2) := by decide +kernel
theorem dX11_numberOf_11 : decode cX11_numberOf 11 = .ok (.iload_n 1, 1) := by decide +kernel
theorem dX11_numberOf_12 : decode cX11_numberOf 12 = .ok (.imul, 1) := by decide +kernel
theorem dX11_numberOf_13 : decode cX11_numberOf 13 = .ok (.iload_n 0, 1) := by decide +kernel
theorem dX11_numberOf_14 : decode cX11_numberOf 14 = .ok (.iload_n 2, 1) := by decide +kernel
theorem dX11_numberOf_15 : decode cX11_numberOf 15 = .ok (.invokestatic 119, 3) := by decide +kernel
theorem dX11_numberOf_18 : decode cX11_numberOf 18 = .ok (.iadd, 1) := by decide +kernel
theorem dX11_numberOf_19 : decode cX11_numberOf 19 = .ok (.istore_n 1, 1) := by decide +kernel
theorem dX11_numberOf_20 : decode cX11_numberOf 20 = .ok (.iinc 2 1, 3) := by decide +kernel
theorem dX11_numberOf_23 : decode cX11_numberOf 23 = .ok (.goto (-19), 3) := by decide +kernel
theorem dX11_numberOf_26 : decode cX11_numberOf 26 = .ok (.iload_n 1, 1) := by decide +kernel
theorem dX11_numberOf_27 : decode cX11_numberOf 27 = .ok (.ireturn, 1) := by decide +kernel
theorem dX11_codeOf_0 : decode cX11_codeOf 0 = .ok (.iconst 0, 1) := by decide +kernel
theorem dX11_codeOf_1 : decode cX11_codeOf 1 = .ok (.istore_n 1, 1) := by decide +kernel
theorem dX11_codeOf_2 : decode cX11_codeOf 2 = .ok (.iload_n 0, 1) := by decide +kernel
theorem dX11_codeOf_3 : decode cX11_codeOf 3 = .ok (.istore_n 2, 1) := by decide +kernel
theorem dX11_codeOf_4 : decode cX11_codeOf 4 = .ok (.iconst 3, 1) := by decide +kernel
theorem dX11_codeOf_5 : decode cX11_codeOf 5 = .ok (.istore_n 3, 1) := by decide +kernel
theorem dX11_codeOf_6 : decode cX11_codeOf 6 = .ok (.iload_n 3, 1) := by decide +kernel
theorem dX11_codeOf_7 : decode cX11_codeOf 7 = .ok (.ifCond .lt 27, 3) := by decide +kernel
theorem dX11_codeOf_10 : decode cX11_codeOf 10 = .ok (.iload_n 1, 1) := by decide +kernel
theorem dX11_codeOf_11 : decode cX11_codeOf 11 = .ok (.iload_n 2, 1) := by decide +kernel
theorem dX11_codeOf_12 : decode cX11_codeOf 12 = .ok (.bipush 9, 2) := by decide +kernel
theorem dX11_codeOf_14 : decode cX11_codeOf 14 = .ok (.irem, 1) := by decide +kernel
theorem dX11_codeOf_15 : decode cX11_codeOf 15 = .ok (.getstatic 116, 3) := by decide +kernel
theorem dX11_codeOf_18 : decode cX11_codeOf 18 = .ok (.iload_n 3, 1) := by decide +kernel
theorem dX11_codeOf_19 : decode cX11_codeOf 19 = .ok (.iaload, 1) := by decide +kernel
theorem dX11_codeOf_20 : decode cX11_codeOf 20 = .ok (.imul, 1) := by decide +kernel
theorem dX11_codeOf_21 : decode cX11_codeOf 21 = .ok (.iadd, 1) := by decide +kernel
theorem dX11_codeOf_22 : decode cX11_codeOf 22 = .ok (.istore_n 1, 1) := by decide +kernel
theorem dX11_codeOf_23 : decode cX11_codeOf 23 = .ok (.iload_n 2, 1) := by decide +kernel
theorem dX11_codeOf_24 : decode cX11_codeOf 24 = .ok (.bipush 9, 2) := by decide +kernel
theorem dX11_codeOf_26 : decode cX11_codeOf 26 = .ok (.idiv, 1) := by decide +kernel
theorem dX11_codeOf_27 : decode cX11_codeOf 27 = .ok (.istore_n 2, 1) := by decide +kernel
theorem dX11_codeOf_28 : decode cX11_codeOf 28 = .ok (.iinc 3 (-1), 3) := by decide +kernel
theorem dX11_codeOf_31 : decode cX11_codeOf 31 = .ok (.goto (-25), 3) := by decide +kernel
theorem dX11_codeOf_34 : decode cX11_codeOf 34 = .ok (.iload_n 1, 1) := by decide +kernel
theorem dX11_codeOf_35 : decode cX11_codeOf 35 = .ok (.ireturn, 1) := by decide +kernel
theorem dX11_levelOf_0 : decode cX11_levelOf 0 = .ok (.iload_n 0, 1) := by decide +kernel
theorem dX11_levelOf_1 : decode cX11_levelOf 1 = .ok (.getstatic 94, 3) := by decide +kernel
theorem dX11_levelOf_4 : decode cX11_levelOf 4 = .ok (.iload_n 1, 1) := by decide +kernel
theorem dX11_levelOf_5 : decode cX11_levelOf 5 = .ok (.iaload, 1) := by decide +kernel
theorem dX11_levelOf_6 : decode cX11_levelOf 6 = .ok (.idiv, 1) := by decide +kernel
theorem dX11_levelOf_7 : decode cX11_levelOf 7 = .ok (.iconst 3, 1) := by decide +kernel
theorem dX11_levelOf_8 : decode cX11_levelOf 8 = .ok (.irem, 1) := by decide +kernel
theorem dX11_levelOf_9 : decode cX11_levelOf 9 = .ok (.ireturn, 1) := by decide +kernel
theorem dX11_isPlain_0 : decode cX11_isPlain 0 = .ok (.iconst 0, 1) := by decide +kernel
theorem dX11_isPlain_1 : decode cX11_isPlain 1 = .ok (.istore_n 1, 1) := by decide +kernel
theorem dX11_isPlain_2 : decode cX11_isPlain 2 = .ok (.iconst 0, 1) := by decide +kernel
theorem dX11_isPlain_3 : decode cX11_isPlain 3 = .ok (.istore_n 2, 1) := by decide +kernel
theorem dX11_isPlain_4 : decode cX11_isPlain 4 = .ok (.iload_n 2, 1) := by decide +kernel
theorem dX11_isPlain_5 : decode cX11_isPlain 5 = .ok (.iconst 4, 1) := by decide +kernel
theorem dX11_isPlain_6 : decode cX11_isPlain 6 = .ok (.if_icmp .ge 25, 3) := by decide +kernel
theorem dX11_isPlain_9 : decode cX11_isPlain 9 = .ok (.iload_n 1, 1) := by decide +kernel
theorem dX11_isPlain_10 : decode cX11_isPlain 10 = .ok (.iload_n 0, 1) := by decide +kernel
theorem dX11_isPlain_11 : decode cX11_isPlain 11 = .ok (.iload_n 2, 1) := by decide +kernel
theorem dX11_isPlain_12 : decode cX11_isPlain 12 = .ok (.invokestatic 123, 3) := by decide +kernel
theorem dX11_isPlain_15 : decode cX11_isPlain 15 = .ok (.ifCond .le 7, 3) := by decide +kernel
theorem dX11_isPlain_18 : decode cX11_isPlain 18 = .ok (.iconst 1, 1) := by decide +kernel
theorem dX11_isPlain_19 : decode cX11_isPlain 19 = .ok (.goto 4, 3) := by decide +kernel
theorem dX11_isPlain_22 : decode cX11_isPlain 22 = .ok (.iconst 0, 1) := by decide +kernel
theorem dX11_isPlain_23 : decode cX11_isPlain 23 = .ok (.iadd, 1) := by decide +kernel
theorem dX11_isPlain_24 : decode cX11_isPlain 24 = .ok (.istore_n 1, 1) := by decide +kernel
theorem dX11_isPlain_25 : decode cX11_isPlain 25 = .ok (.iinc 2 1, 3) := by decide +kernel
theorem dX11_isPlain_28 : decode cX11_isPlain 28 = .ok (.goto (-24), 3) := by decide +kernel
theorem dX11_isPlain_31 : decode cX11_isPlain 31 = .ok (.iload_n 1, 1) := by decide +kernel
theorem dX11_isPlain_32 : decode cX11_isPlain 32 = .ok (.iconst 1, 1) := by decide +kernel
theorem dX11_isPlain_33 : decode cX11_isPlain 33 = .ok (.if_icmp .gt 7, 3) := by decide +kernel
theorem dX11_isPlain_36 : decode cX11_isPlain 36 = .ok (.iconst 1, 1) := by decide +kernel
theorem dX11_isPlain_37 : decode cX11_isPlain 37 = .ok (.goto 4, 3) := by decide +kernel
theorem dX11_isPlain_40 : decode cX11_isPlain 40 = .ok (.iconst 0, 1) := by decide +kernel
theorem dX11_isPlain_41 : decode cX11_isPlain 41 = .ok (.ireturn, 1) := by decide +kernel
theorem dX11_sign_0 : decode cX11_sign 0 = .ok (.aload_n 0, 1) := by decide +kernel
theorem dX11_sign_1 : decode cX11_sign 1 = .ok (.iconst 0, 1) := by decide +kernel
theorem dX11_sign_2 : decode cX11_sign 2 = .ok (.putfield 105, 3) := by decide +kernel
theorem dX11_sign_5 : decode cX11_sign 5 = .ok (.aload_n 0, 1) := by decide +kernel
theorem dX11_sign_6 : decode cX11_sign 6 = .ok (.getfield 126, 3) := by decide +kernel
theorem dX11_sign_9 : decode cX11_sign 9 = .ok (.iconst 4, 1) := by decide +kernel
theorem dX11_sign_10 : decode cX11_sign 10 = .ok (.iadd, 1) := by decide +kernel
theorem dX11_sign_11 : decode cX11_sign 11 = .ok (.bipush 80, 2) := by decide +kernel
theorem dX11_sign_13 : decode cX11_sign 13 = .ok (.if_icmp .le 5, 3) := by decide +kernel
theorem dX11_sign_16 : decode cX11_sign 16 = .ok (.iconst (-1), 1) := by decide +kernel
theorem dX11_sign_17 : decode cX11_sign 17 = .ok (.ireturn, 1) := by decide +kernel
theorem dX11_sign_18 : decode cX11_sign 18 = .ok (.iconst 3, 1) := by decide +kernel
theorem dX11_sign_19 : decode cX11_sign 19 = .ok (.istore_n 2, 1) := by decide +kernel
theorem dX11_sign_20 : decode cX11_sign 20 = .ok (.iload_n 2, 1) := by decide +kernel
theorem dX11_sign_21 : decode cX11_sign 21 = .ok (.ifCond .lt 32, 3) := by decide +kernel
theorem dX11_sign_24 : decode cX11_sign 24 = .ok (.aload_n 0, 1) := by decide +kernel
theorem dX11_sign_25 : decode cX11_sign 25 = .ok (.getfield 13, 3) := by decide +kernel
theorem dX11_sign_28 : decode cX11_sign 28 = .ok (.aload_n 0, 1) := by decide +kernel
theorem dX11_sign_29 : decode cX11_sign 29 = .ok (.dup, 1) := by decide +kernel
theorem dX11_sign_30 : decode cX11_sign 30 = .ok (.getfield 126, 3) := by decide +kernel
theorem dX11_sign_33 : decode cX11_sign 33 = .ok (.dup_x1, 1) := by decide +kernel
theorem dX11_sign_34 : decode cX11_sign 34 = .ok (.iconst 1, 1) := by decide +kernel
theorem dX11_sign_35 : decode cX11_sign 35 = .ok (.iadd, 1) := by decide +kernel
theorem dX11_sign_36 : decode cX11_sign 36 = .ok (.putfield 126, 3) := by decide +kernel
theorem dX11_sign_39 : decode cX11_sign 39 = .ok (.iload_n 1, 1) := by decide +kernel
theorem dX11_sign_40 : decode cX11_sign 40 = .ok (.bipush 8, 2) := by decide +kernel
theorem dX11_sign_42 : decode cX11_sign 42 = .ok (.iload_n 2, 1) := by decide +kernel
theorem dX11_sign_43 : decode cX11_sign 43 = .ok (.imul, 1) := by decide +kernel
theorem dX11_sign_44 : decode cX11_sign 44 = .ok (.ishr, 1) := by decide +kernel
theorem dX11_sign_45 : decode cX11_sign 45 = .ok (.i2b, 1) := by decide +kernel
theorem dX11_sign_46 : decode cX11_sign 46 = .ok (.bastore, 1) := by decide +kernel
theorem dX11_sign_47 : decode cX11_sign 47 = .ok (.iinc 2 (-1), 3) := by decide +kernel
theorem dX11_sign_50 : decode cX11_sign 50 = .ok (.goto (-30), 3) := by decide +kernel
theorem dX11_sign_53 : decode cX11_sign 53 = .ok (.aload_n 0, 1) := by decide +kernel
theorem dX11_sign_54 : decode cX11_sign 54 = .ok (.getfield 126, 3) := by decide +kernel
theorem dX11_sign_57 : decode cX11_sign 57 = .ok (.ireturn, 1) := by decide +kernel
theorem dX11_end_0 : decode cX11_end 0 = .ok (.aload_n 0, 1) := by decide +kernel
theorem dX11_end_1 : decode cX11_end 1 = .ok (.iconst 0, 1) := by decide +kernel
theorem dX11_end_2 : decode cX11_end 2 = .ok (.putfield 105, 3) := by decide +kernel
theorem dX11_end_5 : decode cX11_end 5 = .ok (.iload_n 1, 1) := by decide +kernel
theorem dX11_end_6 : decode cX11_end 6 = .ok (.iconst 0, 1) := by decide +kernel
theorem dX11_end_7 : decode cX11_end 7 = .ok (.aload_n 0, 1) := by decide +kernel
theorem dX11_end_8 : decode cX11_end 8 = .ok (.getfield 126, 3) := by decide +kernel
theorem dX11_end_11 : decode cX11_end 11 = .ok (.invokestatic 112, 3) := by decide +kernel
theorem dX11_end_14 : decode cX11_end 14 = .ok (.ifCond .ne 5, 3) := by decide +kernel
theorem dX11_end_17 : decode cX11_end 17 = .ok (.iconst 0, 1) := by decide +kernel
theorem dX11_end_18 : decode cX11_end 18 = .ok (.ireturn, 1) := by decide +kernel
theorem dX11_end_19 : decode cX11_end 19 = .ok (.aload_n 0, 1) := by decide +kernel
theorem dX11_end_20 : decode cX11_end 20 = .ok (.iload_n 1, 1) := by decide +kernel
theorem dX11_end_21 : decode cX11_end 21 = .ok (.putfield 126, 3) := by decide +kernel
theorem dX11_end_24 : decode cX11_end 24 = .ok (.iconst 1, 1) := by decide +kernel
theorem dX11_end_25 : decode cX11_end 25 = .ok (.ireturn, 1) := by decide +kernel
theorem dX11_begin_0 : decode cX11_begin 0 = .ok (.aload_n 0, 1) := by decide +kernel
theorem dX11_begin_1 : decode cX11_begin 1 = .ok (.aload_n 0, 1) := by decide +kernel
theorem dX11_begin_2 : decode cX11_begin 2 = .ok (.getfield 126, 3) := by decide +kernel
theorem dX11_begin_5 : decode cX11_begin 5 = .ok (.putfield 129, 3) := by decide +kernel
theorem dX11_begin_8 : decode cX11_begin 8 = .ok (.aload_n 0, 1) := by decide +kernel
theorem dX11_begin_9 : decode cX11_begin 9 = .ok (.iload_n 1, 1) := by decide +kernel
theorem dX11_begin_10 : decode cX11_begin 10 = .ok (.putfield 132, 3) := by decide +kernel
theorem dX11_begin_13 : decode cX11_begin 13 = .ok (.aload_n 0, 1) := by decide +kernel
theorem dX11_begin_14 : decode cX11_begin 14 = .ok (.iconst 0, 1) := by decide +kernel
theorem dX11_begin_15 : decode cX11_begin 15 = .ok (.putfield 135, 3) := by decide +kernel
theorem dX11_begin_18 : decode cX11_begin 18 = .ok (.aload_n 0, 1) := by decide +kernel
theorem dX11_begin_19 : decode cX11_begin 19 = .ok (.iconst (-1), 1) := by decide +kernel
theorem dX11_begin_20 : decode cX11_begin 20 = .ok (.putfield 138, 3) := by decide +kernel
theorem dX11_begin_23 : decode cX11_begin 23 = .ok (.aload_n 0, 1) := by decide +kernel
theorem dX11_begin_24 : decode cX11_begin 24 = .ok (.iconst 0, 1) := by decide +kernel
theorem dX11_begin_25 : decode cX11_begin 25 = .ok (.putfield 126, 3) := by decide +kernel
theorem dX11_begin_28 : decode cX11_begin 28 = .ok (.return_, 1) := by decide +kernel
theorem dX11_here_0 : decode cX11_here 0 = .ok (.aload_n 0, 1) := by decide +kernel
theorem dX11_here_1 : decode cX11_here 1 = .ok (.getfield 135, 3) := by decide +kernel
theorem dX11_here_4 : decode cX11_here 4 = .ok (.aload_n 0, 1) := by decide +kernel
theorem dX11_here_5 : decode cX11_here 5 = .ok (.getfield 129, 3) := by decide +kernel
theorem dX11_here_8 : decode cX11_here 8 = .ok (.if_icmp .ge 30, 3) := by decide +kernel
theorem dX11_here_11 : decode cX11_here 11 = .ok (.aload_n 0, 1) := by decide +kernel
theorem dX11_here_12 : decode cX11_here 12 = .ok (.getfield 135, 3) := by decide +kernel
theorem dX11_here_15 : decode cX11_here 15 = .ok (.aload_n 0, 1) := by decide +kernel
theorem dX11_here_16 : decode cX11_here 16 = .ok (.getfield 132, 3) := by decide +kernel
theorem dX11_here_19 : decode cX11_here 19 = .ok (.if_icmp .ge 19, 3) := by decide +kernel
theorem dX11_here_22 : decode cX11_here 22 = .ok (.aload_n 0, 1) := by decide +kernel
theorem dX11_here_23 : decode cX11_here 23 = .ok (.getfield 13, 3) := by decide +kernel
theorem dX11_here_26 : decode cX11_here 26 = .ok (.aload_n 0, 1) := by decide +kernel
theorem dX11_here_27 : decode cX11_here 27 = .ok (.getfield 135, 3) := by decide +kernel
theorem dX11_here_30 : decode cX11_here 30 = .ok (.baload, 1) := by decide +kernel
theorem dX11_here_31 : decode cX11_here 31 = .ok (.sipush 255, 3) := by decide +kernel
theorem dX11_here_34 : decode cX11_here 34 = .ok (.iand, 1) := by decide +kernel
theorem dX11_here_35 : decode cX11_here 35 = .ok (.goto 4, 3) := by decide +kernel
theorem dX11_here_38 : decode cX11_here 38 = .ok (.iconst (-1), 1) := by decide +kernel
theorem dX11_here_39 : decode cX11_here 39 = .ok (.ireturn, 1) := by decide +kernel
theorem dX11_fine_0 : decode cX11_fine 0 = .ok (.aload_n 0, 1) := by decide +kernel
theorem dX11_fine_1 : decode cX11_fine 1 = .ok (.getfield 138, 3) := by decide +kernel
theorem dX11_fine_4 : decode cX11_fine 4 = .ok (.iconst (-1), 1) := by decide +kernel
theorem dX11_fine_5 : decode cX11_fine 5 = .ok (.if_icmp .ne 7, 3) := by decide +kernel
theorem dX11_fine_8 : decode cX11_fine 8 = .ok (.iconst 1, 1) := by decide +kernel
theorem dX11_fine_9 : decode cX11_fine 9 = .ok (.goto 4, 3) := by decide +kernel
theorem dX11_fine_12 : decode cX11_fine 12 = .ok (.iconst 0, 1) := by decide +kernel
theorem dX11_fine_13 : decode cX11_fine 13 = .ok (.ireturn, 1) := by decide +kernel
theorem dX11_fault_0 : decode cX11_fault 0 = .ok (.aload_n 0, 1) := by decide +kernel
theorem dX11_fault_1 : decode cX11_fault 1 = .ok (.invokevirtual 141, 3) := by decide +kernel
theorem dX11_fault_4 : decode cX11_fault 4 = .ok (.ifCond .eq 8, 3) := by decide +kernel
theorem dX11_fault_7 : decode cX11_fault 7 = .ok (.aload_n 0, 1) := by decide +kernel
theorem dX11_fault_8 : decode cX11_fault 8 = .ok (.iload_n 1, 1) := by decide +kernel
theorem dX11_fault_9 : decode cX11_fault 9 = .ok (.putfield 138, 3) := by decide +kernel
theorem dX11_fault_12 : decode cX11_fault 12 = .ok (.return_, 1) := by decide +kernel
theorem dX11_oneOf_0 : decode cX11_oneOf 0 = .ok (.aload_n 0, 1) := by decide +kernel
theorem dX11_oneOf_1 : decode cX11_oneOf 1 = .ok (.invokevirtual 141, 3) := by decide +kernel
theorem dX11_oneOf_4 : decode cX11_oneOf 4 = .ok (.ifCond .ne 5, 3) := by decide +kernel
theorem dX11_oneOf_7 : decode cX11_oneOf 7 = .ok (.iconst 0, 1) := by decide +kernel
theorem dX11_oneOf_8 : decode cX11_oneOf 8 = .ok (.ireturn, 1) := by decide +kernel
theorem dX11_oneOf_9 : decode cX11_oneOf 9 = .ok (.aload_n 0, 1) := by decide +kernel
theorem dX11_oneOf_10 : decode cX11_oneOf 10 = .ok (.invokevirtual 145, 3) := by decide +kernel
theorem dX11_oneOf_13 : decode cX11_oneOf 13 = .ok (.iload_n 1, 1) := by decide +kernel
theorem dX11_oneOf_14 : decode cX11_oneOf 14 = .ok (.iload_n 1, 1) := by decide +kernel
theorem dX11_oneOf_15 : decode cX11_oneOf 15 = .ok (.iload_n 2, 1) := by decide +kernel
theorem dX11_oneOf_16 : decode cX11_oneOf 16 = .ok (.iadd, 1) := by decide +kernel
theorem dX11_oneOf_17 : decode cX11_oneOf 17 = .ok (.iconst 1, 1) := by decide +kernel
theorem dX11_oneOf_18 : decode cX11_oneOf 18 = .ok (.isub, 1) := by decide +kernel
theorem dX11_oneOf_19 : decode cX11_oneOf 19 = .ok (.invokestatic 112, 3) := by decide +kernel
theorem dX11_oneOf_22 : decode cX11_oneOf 22 = .ok (.ifCond .ne 13, 3) := by decide +kernel
theorem dX11_oneOf_25 : decode cX11_oneOf 25 = .ok (.aload_n 0, 1) := by decide +kernel
theorem dX11_oneOf_26 : decode cX11_oneOf 26 = .ok (.aload_n 0, 1) := by decide +kernel
theorem dX11_oneOf_27 : decode cX11_oneOf 27 = .ok (.getfield 135, 3) := by decide +kernel
theorem dX11_oneOf_30 : decode cX11_oneOf 30 = .ok (.invokevirtual 149, 3) := by decide +kernel
theorem dX11_oneOf_33 : decode cX11_oneOf 33 = .ok (.iconst 0, 1) := by decide +kernel
theorem dX11_oneOf_34 : decode cX11_oneOf 34 = .ok (.ireturn, 1) := by decide +kernel
theorem dX11_oneOf_35 : decode cX11_oneOf 35 = .ok (.aload_n 0, 1) := by decide +kernel
theorem dX11_oneOf_36 : decode cX11_oneOf 36 = .ok (.dup, 1) := by decide +kernel
theorem dX11_oneOf_37 : decode cX11_oneOf 37 = .ok (.getfield 135, 3) := by decide +kernel
theorem dX11_oneOf_40 : decode cX11_oneOf 40 = .ok (.iconst 1, 1) := by decide +kernel
theorem dX11_oneOf_41 : decode cX11_oneOf 41 = .ok (.iadd, 1) := by decide +kernel
theorem dX11_oneOf_42 : decode cX11_oneOf 42 = .ok (.putfield 135, 3) := by decide +kernel
theorem dX11_oneOf_45 : decode cX11_oneOf 45 = .ok (.aload_n 0, 1) := by decide +kernel
theorem dX11_oneOf_46 : decode cX11_oneOf 46 = .ok (.getfield 13, 3) := by decide +kernel
theorem dX11_oneOf_49 : decode cX11_oneOf 49 = .ok (.aload_n 0, 1) := by decide +kernel
theorem dX11_oneOf_50 : decode cX11_oneOf 50 = .ok (.getfield 135, 3) := by decide +kernel
theorem dX11_oneOf_53 : decode cX11_oneOf 53 = .ok (.iconst 1, 1) := by decide +kernel
theorem dX11_oneOf_54 : decode cX11_oneOf 54 = .ok (.isub, 1) := by decide +kernel
theorem dX11_oneOf_55 : decode cX11_oneOf 55 = .ok (.baload, 1) := by decide +kernel
theorem dX11_oneOf_56 : decode cX11_oneOf 56 = .ok (.iload_n 1, 1) := by decide +kernel
theorem dX11_oneOf_57 : decode cX11_oneOf 57 = .ok (.isub, 1) := by decide +kernel
theorem dX11_oneOf_58 : decode cX11_oneOf 58 = .ok (.ireturn, 1) := by decide +kernel
theorem dX11_need_0 : decode cX11_need 0 = .ok (.aload_n 0, 1) := by decide +kernel
theorem dX11_need_1 : decode cX11_need 1 = .ok (.iload_n 1, 1) := by decide +kernel
theorem dX11_need_2 : decode cX11_need 2 = .ok (.iconst 1, 1) := by decide +kernel
theorem dX11_need_3 : decode cX11_need 3 = .ok (.invokevirtual 152, 3) := by decide +kernel
theorem dX11_need_6 : decode cX11_need 6 = .ok (.pop, 1) := by decide +kernel
theorem dX11_need_7 : decode cX11_need 7 = .ok (.return_, 1) := by decide +kernel
theorem dX11_twoDigits_0 : decode cX11_twoDigits 0 = .ok (.aload_n 0, 1) := by decide +kernel
theorem dX11_twoDigits_1 : decode cX11_twoDigits 1 = .ok (.bipush 48, 2) := by decide +kernel
theorem dX11_twoDigits_3 : decode cX11_twoDigits 3 = .ok (.bipush 10, 2) := by decide +kernel
theorem dX11_twoDigits_5 : decode cX11_twoDigits 5 = .ok (.invokevirtual 152, 3) := by decide +kernel
theorem dX11_twoDigits_8 : decode cX11_twoDigits 8 = .ok (.istore_n 1, 1) := by decide +kernel
theorem dX11_twoDigits_9 : decode cX11_twoDigits 9 = .ok (.bipush 10, 2) := by decide +kernel
theorem dX11_twoDigits_11 : decode cX11_twoDigits 11 = .ok (.iload_n 1, 1) := by decide +kernel
theorem dX11_twoDigits_12 : decode cX11_twoDigits 12 = .ok (.imul, 1) := by decide +kernel
theorem dX11_twoDigits_13 : decode cX11_twoDigits 13 = .ok (.aload_n 0, 1) := by decide +kernel
theorem dX11_twoDigits_14 : decode cX11_twoDigits 14 = .ok (.bipush 48, 2) := by decide +kernel
theorem dX11_twoDigits_16 : decode cX11_twoDigits 16 = .ok (.bipush 10, 2) := by decide +kernel
theorem dX11_twoDigits_18 : decode cX11_twoDigits 18 = .ok (.invokevirtual 152, 3) := by decide +kernel
theorem dX11_twoDigits_21 : decode cX11_twoDigits 21 = .ok (.iadd, 1) := by decide +kernel
theorem dX11_twoDigits_22 : decode cX11_twoDigits 22 = .ok (.ireturn, 1) := by decide +kernel
theorem dX11_wasRight_0 : decode cX11_wasRight 0 = .ok (.aload_n 0, 1) := by decide +kernel
theorem dX11_wasRight_1 : decode cX11_wasRight 1 = .ok (.getfield 135, 3) := by decide +kernel
theorem dX11_wasRight_4 : decode cX11_wasRight 4 = .ok (.aload_n 0, 1) := by decide +kernel
theorem dX11_wasRight_5 : decode cX11_wasRight 5 = .ok (.getfield 129, 3) := by decide +kernel
theorem dX11_wasRight_8 : decode cX11_wasRight 8 = .ok (.if_icmp .ge 11, 3) := by decide +kernel
theorem dX11_wasRight_11 : decode cX11_wasRight 11 = .ok (.aload_n 0, 1) := by decide +kernel
theorem dX11_wasRight_12 : decode cX11_wasRight 12 = .ok (.aload_n 0, 1) := by decide +kernel
theorem dX11_wasRight_13 : decode cX11_wasRight 13 = .ok (.getfield 135, 3) := by decide +kernel
theorem dX11_wasRight_16 : decode cX11_wasRight 16 = .ok (.invokevirtual 149, 3) := by decide +kernel
theorem dX11_wasRight_19 : decode cX11_wasRight 19 = .ok (.aload_n 0, 1) := by decide +kernel
theorem dX11_wasRight_20 : decode cX11_wasRight 20 = .ok (.invokevirtual 141, 3) := by decide +kernel
theorem dX11_wasRight_23 : decode cX11_wasRight 23 = .ok (.ireturn, 1) := by decide +kernel
theorem dX11_inkBy_0 : decode cX11_inkBy 0 = .ok (.iload_n 0, 1) := by decide +kernel
theorem dX11_inkBy_1 : decode cX11_inkBy 1 = .ok (.bipush 99, 2) := by decide +kernel
theorem dX11_inkBy_3 : decode cX11_inkBy 3 = .ok (.if_icmp .ne 7, 3) := by decide +kernel
theorem dX11_inkBy_6 : decode cX11_inkBy 6 = .ok (.iconst 0, 1) := by decide +kernel
theorem dX11_inkBy_7 : decode cX11_inkBy 7 = .ok (.goto 34, 3) := by decide +kernel
theorem dX11_inkBy_10 : decode cX11_inkBy 10 = .ok (.iload_n 0, 1) := by decide +kernel
theorem dX11_inkBy_11 : decode cX11_inkBy 11 = .ok (.bipush 109, 2) := by decide +kernel
theorem dX11_inkBy_13 : decode cX11_inkBy 13 = .ok (.if_icmp .ne 7, 3) := by decide +kernel
theorem dX11_inkBy_16 : decode cX11_inkBy 16 = .ok (.iconst 1, 1) := by decide +kernel
theorem dX11_inkBy_17 : decode cX11_inkBy 17 = .ok (.goto 24, 3) := by decide +kernel
theorem dX11_inkBy_20 : decode cX11_inkBy 20 = .ok (.iload_n 0, 1) := by decide +kernel
theorem dX11_inkBy_21 : decode cX11_inkBy 21 = .ok (.bipush 121, 2) := by decide +kernel
theorem dX11_inkBy_23 : decode cX11_inkBy 23 = .ok (.if_icmp .ne 7, 3) := by decide +kernel
theorem dX11_inkBy_26 : decode cX11_inkBy 26 = .ok (.iconst 2, 1) := by decide +kernel
theorem dX11_inkBy_27 : decode cX11_inkBy 27 = .ok (.goto 14, 3) := by decide +kernel
theorem dX11_inkBy_30 : decode cX11_inkBy 30 = .ok (.iload_n 0, 1) := by decide +kernel
theorem dX11_inkBy_31 : decode cX11_inkBy 31 = .ok (.bipush 107, 2) := by decide +kernel
theorem dX11_inkBy_33 : decode cX11_inkBy 33 = .ok (.if_icmp .ne 7, 3) := by decide +kernel
theorem dX11_inkBy_36 : decode cX11_inkBy 36 = .ok (.iconst 3, 1) := by decide +kernel
theorem dX11_inkBy_37 : decode cX11_inkBy 37 = .ok (.goto 4, 3) := by decide +kernel
theorem dX11_inkBy_40 : decode cX11_inkBy 40 = .ok (.iconst (-1), 1) := by decide +kernel
theorem dX11_inkBy_41 : decode cX11_inkBy 41 = .ok (.ireturn, 1) := by decide +kernel
theorem dX11_readInk_0 : decode cX11_readInk 0 = .ok (.aload_n 0, 1) := by decide +kernel
theorem dX11_readInk_1 : decode cX11_readInk 1 = .ok (.invokevirtual 141, 3) := by decide +kernel
theorem dX11_readInk_4 : decode cX11_readInk 4 = .ok (.ifCond .ne 5, 3) := by decide +kernel
theorem dX11_readInk_7 : decode cX11_readInk 7 = .ok (.iconst 0, 1) := by decide +kernel
theorem dX11_readInk_8 : decode cX11_readInk 8 = .ok (.ireturn, 1) := by decide +kernel
theorem dX11_readInk_9 : decode cX11_readInk 9 = .ok (.aload_n 0, 1) := by decide +kernel
theorem dX11_readInk_10 : decode cX11_readInk 10 = .ok (.invokevirtual 145, 3) := by decide +kernel
theorem dX11_readInk_13 : decode cX11_readInk 13 = .ok (.invokestatic 156, 3) := by decide +kernel
theorem dX11_readInk_16 : decode cX11_readInk 16 = .ok (.istore_n 1, 1) := by decide +kernel
theorem dX11_readInk_17 : decode cX11_readInk 17 = .ok (.iload_n 1, 1) := by decide +kernel
theorem dX11_readInk_18 : decode cX11_readInk 18 = .ok (.iconst (-1), 1) := by decide +kernel
theorem dX11_readInk_19 : decode cX11_readInk 19 = .ok (.if_icmp .ne 13, 3) := by decide +kernel
theorem dX11_readInk_22 : decode cX11_readInk 22 = .ok (.aload_n 0, 1) := by decide +kernel
theorem dX11_readInk_23 : decode cX11_readInk 23 = .ok (.aload_n 0, 1) := by decide +kernel
theorem dX11_readInk_24 : decode cX11_readInk 24 = .ok (.getfield 135, 3) := by decide +kernel
theorem dX11_readInk_27 : decode cX11_readInk 27 = .ok (.invokevirtual 149, 3) := by decide +kernel
theorem dX11_readInk_30 : decode cX11_readInk 30 = .ok (.iconst 0, 1) := by decide +kernel
theorem dX11_readInk_31 : decode cX11_readInk 31 = .ok (.ireturn, 1) := by decide +kernel
theorem dX11_readInk_32 : decode cX11_readInk 32 = .ok (.aload_n 0, 1) := by decide +kernel
theorem dX11_readInk_33 : decode cX11_readInk 33 = .ok (.dup, 1) := by decide +kernel
theorem dX11_readInk_34 : decode cX11_readInk 34 = .ok (.getfield 135, 3) := by decide +kernel
theorem dX11_readInk_37 : decode cX11_readInk 37 = .ok (.iconst 1, 1) := by decide +kernel
theorem dX11_readInk_38 : decode cX11_readInk 38 = .ok (.iadd, 1) := by decide +kernel
theorem dX11_readInk_39 : decode cX11_readInk 39 = .ok (.putfield 135, 3) := by decide +kernel
theorem dX11_readInk_42 : decode cX11_readInk 42 = .ok (.iload_n 1, 1) := by decide +kernel
theorem dX11_readInk_43 : decode cX11_readInk 43 = .ok (.ireturn, 1) := by decide +kernel
theorem dX11_readPatch_0 : decode cX11_readPatch 0 = .ok (.iconst 0, 1) := by decide +kernel
theorem dX11_readPatch_1 : decode cX11_readPatch 1 = .ok (.istore_n 1, 1) := by decide +kernel
theorem dX11_readPatch_2 : decode cX11_readPatch 2 = .ok (.iconst 0, 1) := by decide +kernel
theorem dX11_readPatch_3 : decode cX11_readPatch 3 = .ok (.istore_n 2, 1) := by decide +kernel
theorem dX11_readPatch_4 : decode cX11_readPatch 4 = .ok (.iload_n 2, 1) := by decide +kernel
theorem dX11_readPatch_5 : decode cX11_readPatch 5 = .ok (.iconst 4, 1) := by decide +kernel
theorem dX11_readPatch_6 : decode cX11_readPatch 6 = .ok (.if_icmp .ge 21, 3) := by decide +kernel
theorem dX11_readPatch_9 : decode cX11_readPatch 9 = .ok (.iconst 3, 1) := by decide +kernel
theorem dX11_readPatch_10 : decode cX11_readPatch 10 = .ok (.iload_n 1, 1) := by decide +kernel
theorem dX11_readPatch_11 : decode cX11_readPatch 11 = .ok (.imul, 1) := by decide +kernel
theorem dX11_readPatch_12 : decode cX11_readPatch 12 = .ok (.aload_n 0, 1) := by decide +kernel
theorem dX11_readPatch_13 : decode cX11_readPatch 13 = .ok (.bipush 48, 2) := by decide +kernel
theorem dX11_readPatch_15 : decode cX11_readPatch 15 = .ok (.iconst 3, 1) := by decide +kernel
theorem dX11_readPatch_16 : decode cX11_readPatch 16 = .ok (.invokevirtual 152, 3) := by decide +kernel
theorem dX11_readPatch_19 : decode cX11_readPatch 19 = .ok (.iadd, 1) := by decide +kernel
theorem dX11_readPatch_20 : decode cX11_readPatch 20 = .ok (.istore_n 1, 1) := by decide +kernel
theorem dX11_readPatch_21 : decode cX11_readPatch 21 = .ok (.iinc 2 1, 3) := by decide +kernel
theorem dX11_readPatch_24 : decode cX11_readPatch 24 = .ok (.goto (-20), 3) := by decide +kernel
theorem dX11_readPatch_27 : decode cX11_readPatch 27 = .ok (.iload_n 1, 1) := by decide +kernel
theorem dX11_readPatch_28 : decode cX11_readPatch 28 = .ok (.ireturn, 1) := by decide +kernel
theorem dX11_readMeasure_0 : decode cX11_readMeasure 0 = .ok (.aload_n 0, 1) := by decide +kernel
theorem dX11_readMeasure_1 : decode cX11_readMeasure 1 = .ok (.getfield 21, 3) := by decide +kernel
theorem dX11_readMeasure_4 : decode cX11_readMeasure 4 = .ok (.iload_n 1, 1) := by decide +kernel
theorem dX11_readMeasure_5 : decode cX11_readMeasure 5 = .ok (.aload_n 0, 1) := by decide +kernel
theorem dX11_readMeasure_6 : decode cX11_readMeasure 6 = .ok (.invokevirtual 159, 3) := by decide +kernel
theorem dX11_readMeasure_9 : decode cX11_readMeasure 9 = .ok (.iastore, 1) := by decide +kernel
theorem dX11_readMeasure_10 : decode cX11_readMeasure 10 = .ok (.iconst 0, 1) := by decide +kernel
theorem dX11_readMeasure_11 : decode cX11_readMeasure 11 = .ok (.istore_n 2, 1) := by decide +kernel
theorem dX11_readMeasure_12 : decode cX11_readMeasure 12 = .ok (.iload_n 2, 1) := by decide +kernel
theorem dX11_readMeasure_13 : decode cX11_readMeasure 13 = .ok (.iconst 3, 1) := by decide +kernel
theorem dX11_readMeasure_14 : decode cX11_readMeasure 14 = .ok (.if_icmp .ge 23, 3) := by decide +kernel
theorem dX11_readMeasure_17 : decode cX11_readMeasure 17 = .ok (.aload_n 0, 1) := by decide +kernel
theorem dX11_readMeasure_18 : decode cX11_readMeasure 18 = .ok (.getfield 21, 3) := by decide +kernel
theorem dX11_readMeasure_21 : decode cX11_readMeasure 21 = .ok (.iload_n 1, 1) := by decide +kernel
theorem dX11_readMeasure_22 : decode cX11_readMeasure 22 = .ok (.iconst 1, 1) := by decide +kernel
theorem dX11_readMeasure_23 : decode cX11_readMeasure 23 = .ok (.iadd, 1) := by decide +kernel
theorem dX11_readMeasure_24 : decode cX11_readMeasure 24 = .ok (.iload_n 2, 1) := by decide +kernel
theorem dX11_readMeasure_25 : decode cX11_readMeasure 25 = .ok (.iadd, 1) := by decide +kernel
theorem dX11_readMeasure_26 : decode cX11_readMeasure 26 = .ok (.aload_n 0, 1) := by decide +kernel
theorem dX11_readMeasure_27 : decode cX11_readMeasure 27 = .ok (.invokevirtual 162, 3) := by decide +kernel
theorem dX11_readMeasure_30 : decode cX11_readMeasure 30 = .ok (.iastore, 1) := by decide +kernel
theorem dX11_readMeasure_31 : decode cX11_readMeasure 31 = .ok (.iinc 2 1, 3) := by decide +kernel
theorem dX11_readMeasure_34 : decode cX11_readMeasure 34 = .ok (.goto (-22), 3) := by decide +kernel
theorem dX11_readMeasure_37 : decode cX11_readMeasure 37 = .ok (.return_, 1) := by decide +kernel
theorem dX11_putLight_0 : decode cX11_putLight 0 = .ok (.aload_n 0, 1) := by decide +kernel
theorem dX11_putLight_1 : decode cX11_putLight 1 = .ok (.getfield 9, 3) := by decide +kernel
theorem dX11_putLight_4 : decode cX11_putLight 4 = .ok (.iconst 3, 1) := by decide +kernel
theorem dX11_putLight_5 : decode cX11_putLight 5 = .ok (.iload_n 1, 1) := by decide +kernel
theorem dX11_putLight_6 : decode cX11_putLight 6 = .ok (.imul, 1) := by decide +kernel
theorem dX11_putLight_7 : decode cX11_putLight 7 = .ok (.iload_n 2, 1) := by decide +kernel
theorem dX11_putLight_8 : decode cX11_putLight 8 = .ok (.iastore, 1) := by decide +kernel
theorem dX11_putLight_9 : decode cX11_putLight 9 = .ok (.aload_n 0, 1) := by decide +kernel
theorem dX11_putLight_10 : decode cX11_putLight 10 = .ok (.getfield 9, 3) := by decide +kernel
theorem dX11_putLight_13 : decode cX11_putLight 13 = .ok (.iconst 3, 1) := by decide +kernel
theorem dX11_putLight_14 : decode cX11_putLight 14 = .ok (.iload_n 1, 1) := by decide +kernel
theorem dX11_putLight_15 : decode cX11_putLight 15 = .ok (.imul, 1) := by decide +kernel
theorem dX11_putLight_16 : decode cX11_putLight 16 = .ok (.iconst 1, 1) := by decide +kernel
theorem dX11_putLight_17 : decode cX11_putLight 17 = .ok (.iadd, 1) := by decide +kernel
theorem dX11_putLight_18 : decode cX11_putLight 18 = .ok (.iload_n 3, 1) := by decide +kernel
theorem dX11_putLight_19 : decode cX11_putLight 19 = .ok (.iastore, 1) := by decide +kernel
theorem dX11_putLight_20 : decode cX11_putLight 20 = .ok (.aload_n 0, 1) := by decide +kernel
theorem dX11_putLight_21 : decode cX11_putLight 21 = .ok (.getfield 9, 3) := by decide +kernel
theorem dX11_putLight_24 : decode cX11_putLight 24 = .ok (.iconst 3, 1) := by decide +kernel
theorem dX11_putLight_25 : decode cX11_putLight 25 = .ok (.iload_n 1, 1) := by decide +kernel
theorem dX11_putLight_26 : decode cX11_putLight 26 = .ok (.imul, 1) := by decide +kernel
theorem dX11_putLight_27 : decode cX11_putLight 27 = .ok (.iconst 2, 1) := by decide +kernel
theorem dX11_putLight_28 : decode cX11_putLight 28 = .ok (.iadd, 1) := by decide +kernel
theorem dX11_putLight_29 : decode cX11_putLight 29 = .ok (.iload 4, 2) := by decide +kernel
theorem dX11_putLight_31 : decode cX11_putLight 31 = .ok (.iastore, 1) := by decide +kernel
theorem dX11_putLight_32 : decode cX11_putLight 32 = .ok (.iload_n 1, 1) := by decide +kernel
theorem dX11_putLight_33 : decode cX11_putLight 33 = .ok (.invokestatic 165, 3) := by decide +kernel
theorem dX11_putLight_36 : decode cX11_putLight 36 = .ok (.ifCond .ne 14, 3) := by decide +kernel
theorem dX11_putLight_39 : decode cX11_putLight 39 = .ok (.aload_n 0, 1) := by decide +kernel
theorem dX11_putLight_40 : decode cX11_putLight 40 = .ok (.getfield 9, 3) := by decide +kernel
theorem dX11_putLight_43 : decode cX11_putLight 43 = .ok (.sipush 243, 3) := by decide +kernel
theorem dX11_putLight_46 : decode cX11_putLight 46 = .ok (.iload_n 1, 1) := by decide +kernel
theorem dX11_putLight_47 : decode cX11_putLight 47 = .ok (.iadd, 1) := by decide +kernel
theorem dX11_putLight_48 : decode cX11_putLight 48 = .ok (.iconst 1, 1) := by decide +kernel
theorem dX11_putLight_49 : decode cX11_putLight 49 = .ok (.iastore, 1) := by decide +kernel
theorem dX11_putLight_50 : decode cX11_putLight 50 = .ok (.return_, 1) := by decide +kernel
theorem dX11_patches_0 : decode cX11_patches 0 = .ok (.aload_n 0, 1) := by decide +kernel
theorem dX11_patches_1 : decode cX11_patches 1 = .ok (.iconst 0, 1) := by decide +kernel
theorem dX11_patches_2 : decode cX11_patches 2 = .ok (.putfield 105, 3) := by decide +kernel
theorem dX11_patches_5 : decode cX11_patches 5 = .ok (.aload_n 0, 1) := by decide +kernel
theorem dX11_patches_6 : decode cX11_patches 6 = .ok (.bipush 80, 2) := by decide +kernel
theorem dX11_patches_8 : decode cX11_patches 8 = .ok (.invokevirtual 169, 3) := by decide +kernel
theorem dX11_patches_11 : decode cX11_patches 11 = .ok (.iconst 0, 1) := by decide +kernel
theorem dX11_patches_12 : decode cX11_patches 12 = .ok (.istore_n 1, 1) := by decide +kernel
theorem dX11_patches_13 : decode cX11_patches 13 = .ok (.aload_n 0, 1) := by decide +kernel
theorem dX11_patches_14 : decode cX11_patches 14 = .ok (.invokevirtual 141, 3) := by decide +kernel
theorem dX11_patches_17 : decode cX11_patches 17 = .ok (.ifCond .eq 27, 3) := by decide +kernel
theorem dX11_patches_20 : decode cX11_patches 20 = .ok (.aload_n 0, 1) := by decide +kernel
theorem dX11_patches_21 : decode cX11_patches 21 = .ok (.getfield 135, 3) := by decide +kernel
theorem dX11_patches_24 : decode cX11_patches 24 = .ok (.aload_n 0, 1) := by decide +kernel
theorem dX11_patches_25 : decode cX11_patches 25 = .ok (.getfield 129, 3) := by decide +kernel
theorem dX11_patches_28 : decode cX11_patches 28 = .ok (.if_icmp .ge 16, 3) := by decide +kernel
theorem dX11_patches_31 : decode cX11_patches 31 = .ok (.aload_n 0, 1) := by decide +kernel
theorem dX11_patches_32 : decode cX11_patches 32 = .ok (.iconst 4, 1) := by decide +kernel
theorem dX11_patches_33 : decode cX11_patches 33 = .ok (.iload_n 1, 1) := by decide +kernel
theorem dX11_patches_34 : decode cX11_patches 34 = .ok (.imul, 1) := by decide +kernel
theorem dX11_patches_35 : decode cX11_patches 35 = .ok (.invokevirtual 172, 3) := by decide +kernel
theorem dX11_patches_38 : decode cX11_patches 38 = .ok (.iinc 1 1, 3) := by decide +kernel
theorem dX11_patches_41 : decode cX11_patches 41 = .ok (.goto (-28), 3) := by decide +kernel
theorem dX11_patches_44 : decode cX11_patches 44 = .ok (.aload_n 0, 1) := by decide +kernel
theorem dX11_patches_45 : decode cX11_patches 45 = .ok (.invokevirtual 175, 3) := by decide +kernel
theorem dX11_patches_48 : decode cX11_patches 48 = .ok (.ifCond .ne 10, 3) := by decide +kernel
theorem dX11_patches_51 : decode cX11_patches 51 = .ok (.iconst (-1), 1) := by decide +kernel
theorem dX11_patches_52 : decode cX11_patches 52 = .ok (.aload_n 0, 1) := by decide +kernel
theorem dX11_patches_53 : decode cX11_patches 53 = .ok (.getfield 138, 3) := by decide +kernel
theorem dX11_patches_56 : decode cX11_patches 56 = .ok (.isub, 1) := by decide +kernel
theorem dX11_patches_57 : decode cX11_patches 57 = .ok (.ireturn, 1) := by decide +kernel
theorem dX11_patches_58 : decode cX11_patches 58 = .ok (.aload_n 0, 1) := by decide +kernel
theorem dX11_patches_59 : decode cX11_patches 59 = .ok (.invokevirtual 178, 3) := by decide +kernel
theorem dX11_patches_62 : decode cX11_patches 62 = .ok (.iconst 0, 1) := by decide +kernel
theorem dX11_patches_63 : decode cX11_patches 63 = .ok (.istore_n 2, 1) := by decide +kernel
theorem dX11_patches_64 : decode cX11_patches 64 = .ok (.iload_n 2, 1) := by decide +kernel
theorem dX11_patches_65 : decode cX11_patches 65 = .ok (.iload_n 1, 1) := by decide +kernel
theorem dX11_patches_66 : decode cX11_patches 66 = .ok (.if_icmp .ge 51, 3) := by decide +kernel
theorem dX11_patches_69 : decode cX11_patches 69 = .ok (.aload_n 0, 1) := by decide +kernel
theorem dX11_patches_70 : decode cX11_patches 70 = .ok (.aload_n 0, 1) := by decide +kernel
theorem dX11_patches_71 : decode cX11_patches 71 = .ok (.getfield 21, 3) := by decide +kernel
theorem dX11_patches_74 : decode cX11_patches 74 = .ok (.iconst 4, 1) := by decide +kernel
theorem dX11_patches_75 : decode cX11_patches 75 = .ok (.iload_n 2, 1) := by decide +kernel
theorem dX11_patches_76 : decode cX11_patches 76 = .ok (.imul, 1) := by decide +kernel
theorem dX11_patches_77 : decode cX11_patches 77 = .ok (.iaload, 1) := by decide +kernel
theorem dX11_patches_78 : decode cX11_patches 78 = .ok (.aload_n 0, 1) := by decide +kernel
theorem dX11_patches_79 : decode cX11_patches 79 = .ok (.getfield 21, 3) := by decide +kernel
theorem dX11_patches_82 : decode cX11_patches 82 = .ok (.iconst 4, 1) := by decide +kernel
theorem dX11_patches_83 : decode cX11_patches 83 = .ok (.iload_n 2, 1) := by decide +kernel
theorem dX11_patches_84 : decode cX11_patches 84 = .ok (.imul, 1) := by decide +kernel
theorem dX11_patches_85 : decode cX11_patches 85 = .ok (.iconst 1, 1) := by decide +kernel
theorem dX11_patches_86 : decode cX11_patches 86 = .ok (.iadd, 1) := by decide +kernel
theorem dX11_patches_87 : decode cX11_patches 87 = .ok (.iaload, 1) := by decide +kernel
theorem dX11_patches_88 : decode cX11_patches 88 = .ok (.aload_n 0, 1) := by decide +kernel
theorem dX11_patches_89 : decode cX11_patches 89 = .ok (.getfield 21, 3) := by decide +kernel
theorem dX11_patches_92 : decode cX11_patches 92 = .ok (.iconst 4, 1) := by decide +kernel
theorem dX11_patches_93 : decode cX11_patches 93 = .ok (.iload_n 2, 1) := by decide +kernel
theorem dX11_patches_94 : decode cX11_patches 94 = .ok (.imul, 1) := by decide +kernel
theorem dX11_patches_95 : decode cX11_patches 95 = .ok (.iconst 2, 1) := by decide +kernel
theorem dX11_patches_96 : decode cX11_patches 96 = .ok (.iadd, 1) := by decide +kernel
theorem dX11_patches_97 : decode cX11_patches 97 = .ok (.iaload, 1) := by decide +kernel
theorem dX11_patches_98 : decode cX11_patches 98 = .ok (.aload_n 0, 1) := by decide +kernel
theorem dX11_patches_99 : decode cX11_patches 99 = .ok (.getfield 21, 3) := by decide +kernel
theorem dX11_patches_102 : decode cX11_patches 102 = .ok (.iconst 4, 1) := by decide +kernel
theorem dX11_patches_103 : decode cX11_patches 103 = .ok (.iload_n 2, 1) := by decide +kernel
theorem dX11_patches_104 : decode cX11_patches 104 = .ok (.imul, 1) := by decide +kernel
theorem dX11_patches_105 : decode cX11_patches 105 = .ok (.iconst 3, 1) := by decide +kernel
theorem dX11_patches_106 : decode cX11_patches 106 = .ok (.iadd, 1) := by decide +kernel
theorem dX11_patches_107 : decode cX11_patches 107 = .ok (.iaload, 1) := by decide +kernel
theorem dX11_patches_108 : decode cX11_patches 108 = .ok (.invokevirtual 181, 3) := by decide +kernel
theorem dX11_patches_111 : decode cX11_patches 111 = .ok (.iinc 2 1, 3) := by decide +kernel
theorem dX11_patches_114 : decode cX11_patches 114 = .ok (.goto (-50), 3) := by decide +kernel
theorem dX11_patches_117 : decode cX11_patches 117 = .ok (.iload_n 1, 1) := by decide +kernel
theorem dX11_patches_118 : decode cX11_patches 118 = .ok (.ireturn, 1) := by decide +kernel
theorem dX11_curve_0 : decode cX11_curve 0 = .ok (.aload_n 0, 1) := by decide +kernel
theorem dX11_curve_1 : decode cX11_curve 1 = .ok (.iconst 0, 1) := by decide +kernel
theorem dX11_curve_2 : decode cX11_curve 2 = .ok (.putfield 105, 3) := by decide +kernel
theorem dX11_curve_5 : decode cX11_curve 5 = .ok (.aload_n 0, 1) := by decide +kernel
theorem dX11_curve_6 : decode cX11_curve 6 = .ok (.bipush 80, 2) := by decide +kernel
theorem dX11_curve_8 : decode cX11_curve 8 = .ok (.invokevirtual 169, 3) := by decide +kernel
theorem dX11_curve_11 : decode cX11_curve 11 = .ok (.aload_n 0, 1) := by decide +kernel
theorem dX11_curve_12 : decode cX11_curve 12 = .ok (.getfield 129, 3) := by decide +kernel
theorem dX11_curve_15 : decode cX11_curve 15 = .ok (.ifCond .ne 7, 3) := by decide +kernel
theorem dX11_curve_18 : decode cX11_curve 18 = .ok (.iconst 1, 1) := by decide +kernel
theorem dX11_curve_19 : decode cX11_curve 19 = .ok (.goto 4, 3) := by decide +kernel
theorem dX11_curve_22 : decode cX11_curve 22 = .ok (.iconst 0, 1) := by decide +kernel
theorem dX11_curve_23 : decode cX11_curve 23 = .ok (.istore_n 2, 1) := by decide +kernel
theorem dX11_curve_24 : decode cX11_curve 24 = .ok (.iconst 0, 1) := by decide +kernel
theorem dX11_curve_25 : decode cX11_curve 25 = .ok (.istore_n 3, 1) := by decide +kernel
theorem dX11_curve_26 : decode cX11_curve 26 = .ok (.iconst 0, 1) := by decide +kernel
theorem dX11_curve_27 : decode cX11_curve 27 = .ok (.istore 4, 2) := by decide +kernel
theorem dX11_curve_29 : decode cX11_curve 29 = .ok (.iload 4, 2) := by decide +kernel
theorem dX11_curve_31 : decode cX11_curve 31 = .ok (.bipush 9, 2) := by decide +kernel
theorem dX11_curve_33 : decode cX11_curve 33 = .ok (.if_icmp .ge 54, 3) := by decide +kernel
theorem dX11_curve_36 : decode cX11_curve 36 = .ok (.iload_n 2, 1) := by decide +kernel
theorem dX11_curve_37 : decode cX11_curve 37 = .ok (.ifCond .ne 50, 3) := by decide +kernel
theorem dX11_curve_40 : decode cX11_curve 40 = .ok (.aload_n 0, 1) := by decide +kernel
theorem dX11_curve_41 : decode cX11_curve 41 = .ok (.getfield 21, 3) := by decide +kernel
theorem dX11_curve_44 : decode cX11_curve 44 = .ok (.iload 4, 2) := by decide +kernel
theorem dX11_curve_46 : decode cX11_curve 46 = .ok (.iload_n 3, 1) := by decide +kernel
theorem dX11_curve_47 : decode cX11_curve 47 = .ok (.aload_n 0, 1) := by decide +kernel
theorem dX11_curve_48 : decode cX11_curve 48 = .ok (.bipush 48, 2) := by decide +kernel
theorem dX11_curve_50 : decode cX11_curve 50 = .ok (.iload_n 3, 1) := by decide +kernel
theorem dX11_curve_51 : decode cX11_curve 51 = .ok (.iadd, 1) := by decide +kernel
theorem dX11_curve_52 : decode cX11_curve 52 = .ok (.i2c, 1) := by decide +kernel
theorem dX11_curve_53 : decode cX11_curve 53 = .ok (.bipush 9, 2) := by decide +kernel
theorem dX11_curve_55 : decode cX11_curve 55 = .ok (.iload_n 3, 1) := by decide +kernel
theorem dX11_curve_56 : decode cX11_curve 56 = .ok (.isub, 1) := by decide +kernel
theorem dX11_curve_57 : decode cX11_curve 57 = .ok (.invokevirtual 152, 3) := by decide +kernel
theorem dX11_curve_60 : decode cX11_curve 60 = .ok (.iadd, 1) := by decide +kernel
theorem dX11_curve_61 : decode cX11_curve 61 = .ok (.iastore, 1) := by decide +kernel
theorem dX11_curve_62 : decode cX11_curve 62 = .ok (.aload_n 0, 1) := by decide +kernel
theorem dX11_curve_63 : decode cX11_curve 63 = .ok (.invokevirtual 141, 3) := by decide +kernel
theorem dX11_curve_66 : decode cX11_curve 66 = .ok (.ifCond .eq 13, 3) := by decide +kernel
theorem dX11_curve_69 : decode cX11_curve 69 = .ok (.aload_n 0, 1) := by decide +kernel
theorem dX11_curve_70 : decode cX11_curve 70 = .ok (.getfield 21, 3) := by decide +kernel
theorem dX11_curve_73 : decode cX11_curve 73 = .ok (.iload 4, 2) := by decide +kernel
theorem dX11_curve_75 : decode cX11_curve 75 = .ok (.iaload, 1) := by decide +kernel
theorem dX11_curve_76 : decode cX11_curve 76 = .ok (.goto 4, 3) := by decide +kernel
theorem dX11_curve_79 : decode cX11_curve 79 = .ok (.iconst 0, 1) := by decide +kernel
theorem dX11_curve_80 : decode cX11_curve 80 = .ok (.istore_n 3, 1) := by decide +kernel
theorem dX11_curve_81 : decode cX11_curve 81 = .ok (.iinc 4 1, 3) := by decide +kernel
theorem dX11_curve_84 : decode cX11_curve 84 = .ok (.goto (-55), 3) := by decide +kernel
theorem dX11_curve_87 : decode cX11_curve 87 = .ok (.aload_n 0, 1) := by decide +kernel
theorem dX11_curve_88 : decode cX11_curve 88 = .ok (.invokevirtual 175, 3) := by decide +kernel
theorem dX11_curve_91 : decode cX11_curve 91 = .ok (.ifCond .ne 10, 3) := by decide +kernel
theorem dX11_curve_94 : decode cX11_curve 94 = .ok (.iconst (-1), 1) := by decide +kernel
theorem dX11_curve_95 : decode cX11_curve 95 = .ok (.aload_n 0, 1) := by decide +kernel
theorem dX11_curve_96 : decode cX11_curve 96 = .ok (.getfield 138, 3) := by decide +kernel
theorem dX11_curve_99 : decode cX11_curve 99 = .ok (.isub, 1) := by decide +kernel
theorem dX11_curve_100 : decode cX11_curve 100 = .ok (.ireturn, 1) := by decide +kernel
theorem dX11_curve_101 : decode cX11_curve 101 = .ok (.iload_n 1, 1) := by decide +kernel
theorem dX11_curve_102 : decode cX11_curve 102 = .ok (.invokestatic 185, 3) := by decide +kernel
theorem dX11_curve_105 : decode cX11_curve 105 = .ok (.ifCond .ne 5, 3) := by decide +kernel
theorem dX11_curve_108 : decode cX11_curve 108 = .ok (.iconst (-1), 1) := by decide +kernel
theorem dX11_curve_109 : decode cX11_curve 109 = .ok (.ireturn, 1) := by decide +kernel
theorem dX11_curve_110 : decode cX11_curve 110 = .ok (.aload_n 0, 1) := by decide +kernel
theorem dX11_curve_111 : decode cX11_curve 111 = .ok (.invokevirtual 178, 3) := by decide +kernel
theorem dX11_curve_114 : decode cX11_curve 114 = .ok (.iload_n 2, 1) := by decide +kernel
theorem dX11_curve_115 : decode cX11_curve 115 = .ok (.ifCond .eq 8, 3) := by decide +kernel
theorem dX11_curve_118 : decode cX11_curve 118 = .ok (.aload_n 0, 1) := by decide +kernel
theorem dX11_curve_119 : decode cX11_curve 119 = .ok (.iload_n 1, 1) := by decide +kernel
theorem dX11_curve_120 : decode cX11_curve 120 = .ok (.invokevirtual 97, 3) := by decide +kernel
theorem dX11_curve_123 : decode cX11_curve 123 = .ok (.iconst 0, 1) := by decide +kernel
theorem dX11_curve_124 : decode cX11_curve 124 = .ok (.istore 4, 2) := by decide +kernel
theorem dX11_curve_126 : decode cX11_curve 126 = .ok (.iconst 0, 1) := by decide +kernel
theorem dX11_curve_127 : decode cX11_curve 127 = .ok (.istore 5, 2) := by decide +kernel
theorem dX11_curve_129 : decode cX11_curve 129 = .ok (.iload 5, 2) := by decide +kernel
theorem dX11_curve_131 : decode cX11_curve 131 = .ok (.bipush 9, 2) := by decide +kernel
theorem dX11_curve_133 : decode cX11_curve 133 = .ok (.if_icmp .ge 63, 3) := by decide +kernel
theorem dX11_curve_136 : decode cX11_curve 136 = .ok (.iload_n 2, 1) := by decide +kernel
theorem dX11_curve_137 : decode cX11_curve 137 = .ok (.ifCond .ne 26, 3) := by decide +kernel
theorem dX11_curve_140 : decode cX11_curve 140 = .ok (.aload_n 0, 1) := by decide +kernel
theorem dX11_curve_141 : decode cX11_curve 141 = .ok (.getfield 9, 3) := by decide +kernel
theorem dX11_curve_144 : decode cX11_curve 144 = .ok (.sipush 324, 3) := by decide +kernel
theorem dX11_curve_147 : decode cX11_curve 147 = .ok (.bipush 9, 2) := by decide +kernel
theorem dX11_curve_149 : decode cX11_curve 149 = .ok (.iload_n 1, 1) := by decide +kernel
theorem dX11_curve_150 : decode cX11_curve 150 = .ok (.imul, 1) := by decide +kernel
theorem dX11_curve_151 : decode cX11_curve 151 = .ok (.iadd, 1) := by decide +kernel
theorem dX11_curve_152 : decode cX11_curve 152 = .ok (.iload 5, 2) := by decide +kernel
theorem dX11_curve_154 : decode cX11_curve 154 = .ok (.iadd, 1) := by decide +kernel
theorem dX11_curve_155 : decode cX11_curve 155 = .ok (.aload_n 0, 1) := by decide +kernel
theorem dX11_curve_156 : decode cX11_curve 156 = .ok (.getfield 21, 3) := by decide +kernel
theorem dX11_curve_159 : decode cX11_curve 159 = .ok (.iload 5, 2) := by decide +kernel
theorem dX11_curve_161 : decode cX11_curve 161 = .ok (.iaload, 1) := by decide +kernel
theorem dX11_curve_162 : decode cX11_curve 162 = .ok (.iastore, 1) := by decide +kernel
theorem dX11_curve_163 : decode cX11_curve 163 = .ok (.iload 4, 2) := by decide +kernel
theorem dX11_curve_165 : decode cX11_curve 165 = .ok (.aload_n 0, 1) := by decide +kernel
theorem dX11_curve_166 : decode cX11_curve 166 = .ok (.getfield 9, 3) := by decide +kernel
theorem dX11_curve_169 : decode cX11_curve 169 = .ok (.sipush 324, 3) := by decide +kernel
theorem dX11_curve_172 : decode cX11_curve 172 = .ok (.bipush 9, 2) := by decide +kernel
theorem dX11_curve_174 : decode cX11_curve 174 = .ok (.iload_n 1, 1) := by decide +kernel
theorem dX11_curve_175 : decode cX11_curve 175 = .ok (.imul, 1) := by decide +kernel
theorem dX11_curve_176 : decode cX11_curve 176 = .ok (.iadd, 1) := by decide +kernel
theorem dX11_curve_177 : decode cX11_curve 177 = .ok (.iload 5, 2) := by decide +kernel
theorem dX11_curve_179 : decode cX11_curve 179 = .ok (.iadd, 1) := by decide +kernel
theorem dX11_curve_180 : decode cX11_curve 180 = .ok (.iaload, 1) := by decide +kernel
theorem dX11_curve_181 : decode cX11_curve 181 = .ok (.iload 5, 2) := by decide +kernel
theorem dX11_curve_183 : decode cX11_curve 183 = .ok (.isub, 1) := by decide +kernel
theorem dX11_curve_184 : decode cX11_curve 184 = .ok (.invokestatic 188, 3) := by decide +kernel
theorem dX11_curve_187 : decode cX11_curve 187 = .ok (.iadd, 1) := by decide +kernel
theorem dX11_curve_188 : decode cX11_curve 188 = .ok (.istore 4, 2) := by decide +kernel
theorem dX11_curve_190 : decode cX11_curve 190 = .ok (.iinc 5 1, 3) := by decide +kernel
theorem dX11_curve_193 : decode cX11_curve 193 = .ok (.goto (-64), 3) := by decide +kernel
theorem dX11_curve_196 : decode cX11_curve 196 = .ok (.iload 4, 2) := by decide +kernel
theorem dX11_curve_198 : decode cX11_curve 198 = .ok (.ireturn, 1) := by decide +kernel
theorem dX11_readSteps_0 : decode cX11_readSteps 0 = .ok (.iconst 0, 1) := by decide +kernel
theorem dX11_readSteps_1 : decode cX11_readSteps 1 = .ok (.istore_n 2, 1) := by decide +kernel
theorem dX11_readSteps_2 : decode cX11_readSteps 2 = .ok (.aload_n 0, 1) := by decide +kernel
theorem dX11_readSteps_3 : decode cX11_readSteps 3 = .ok (.invokevirtual 141, 3) := by decide +kernel
theorem dX11_readSteps_6 : decode cX11_readSteps 6 = .ok (.ifCond .eq 40, 3) := by decide +kernel
theorem dX11_readSteps_9 : decode cX11_readSteps 9 = .ok (.aload_n 0, 1) := by decide +kernel
theorem dX11_readSteps_10 : decode cX11_readSteps 10 = .ok (.invokevirtual 145, 3) := by decide +kernel
theorem dX11_readSteps_13 : decode cX11_readSteps 13 = .ok (.invokestatic 193, 3) := by decide +kernel
theorem dX11_readSteps_16 : decode cX11_readSteps 16 = .ok (.ifCond .eq 30, 3) := by decide +kernel
theorem dX11_readSteps_19 : decode cX11_readSteps 19 = .ok (.aload_n 0, 1) := by decide +kernel
theorem dX11_readSteps_20 : decode cX11_readSteps 20 = .ok (.invokevirtual 145, 3) := by decide +kernel
theorem dX11_readSteps_23 : decode cX11_readSteps 23 = .ok (.istore_n 3, 1) := by decide +kernel
theorem dX11_readSteps_24 : decode cX11_readSteps 24 = .ok (.aload_n 0, 1) := by decide +kernel
theorem dX11_readSteps_25 : decode cX11_readSteps 25 = .ok (.dup, 1) := by decide +kernel
theorem dX11_readSteps_26 : decode cX11_readSteps 26 = .ok (.getfield 135, 3) := by decide +kernel
theorem dX11_readSteps_29 : decode cX11_readSteps 29 = .ok (.iconst 1, 1) := by decide +kernel
theorem dX11_readSteps_30 : decode cX11_readSteps 30 = .ok (.iadd, 1) := by decide +kernel
theorem dX11_readSteps_31 : decode cX11_readSteps 31 = .ok (.putfield 135, 3) := by decide +kernel
theorem dX11_readSteps_34 : decode cX11_readSteps 34 = .ok (.iload_n 2, 1) := by decide +kernel
theorem dX11_readSteps_35 : decode cX11_readSteps 35 = .ok (.aload_n 0, 1) := by decide +kernel
theorem dX11_readSteps_36 : decode cX11_readSteps 36 = .ok (.iload_n 3, 1) := by decide +kernel
theorem dX11_readSteps_37 : decode cX11_readSteps 37 = .ok (.iload_n 1, 1) := by decide +kernel
theorem dX11_readSteps_38 : decode cX11_readSteps 38 = .ok (.invokevirtual 196, 3) := by decide +kernel
theorem dX11_readSteps_41 : decode cX11_readSteps 41 = .ok (.iadd, 1) := by decide +kernel
theorem dX11_readSteps_42 : decode cX11_readSteps 42 = .ok (.istore_n 2, 1) := by decide +kernel
theorem dX11_readSteps_43 : decode cX11_readSteps 43 = .ok (.goto (-41), 3) := by decide +kernel
theorem dX11_readSteps_46 : decode cX11_readSteps 46 = .ok (.iload_n 2, 1) := by decide +kernel
theorem dX11_readSteps_47 : decode cX11_readSteps 47 = .ok (.ireturn, 1) := by decide +kernel
theorem dX11_isStep_0 : decode cX11_isStep 0 = .ok (.iload_n 0, 1) := by decide +kernel
theorem dX11_isStep_1 : decode cX11_isStep 1 = .ok (.bipush 108, 2) := by decide +kernel
theorem dX11_isStep_3 : decode cX11_isStep 3 = .ok (.if_icmp .eq 64, 3) := by decide +kernel
theorem dX11_isStep_6 : decode cX11_isStep 6 = .ok (.iload_n 0, 1) := by decide +kernel
theorem dX11_isStep_7 : decode cX11_isStep 7 = .ok (.bipush 118, 2) := by decide +kernel
theorem dX11_isStep_9 : decode cX11_isStep 9 = .ok (.if_icmp .eq 58, 3) := by decide +kernel
theorem dX11_isStep_12 : decode cX11_isStep 12 = .ok (.iload_n 0, 1) := by decide +kernel
theorem dX11_isStep_13 : decode cX11_isStep 13 = .ok (.bipush 103, 2) := by decide +kernel
theorem dX11_isStep_15 : decode cX11_isStep 15 = .ok (.if_icmp .eq 52, 3) := by decide +kernel
theorem dX11_isStep_18 : decode cX11_isStep 18 = .ok (.iload_n 0, 1) := by decide +kernel
theorem dX11_isStep_19 : decode cX11_isStep 19 = .ok (.bipush 117, 2) := by decide +kernel
theorem dX11_isStep_21 : decode cX11_isStep 21 = .ok (.if_icmp .eq 46, 3) := by decide +kernel
theorem dX11_isStep_24 : decode cX11_isStep 24 = .ok (.iload_n 0, 1) := by decide +kernel
theorem dX11_isStep_25 : decode cX11_isStep 25 = .ok (.bipush 97, 2) := by decide +kernel
theorem dX11_isStep_27 : decode cX11_isStep 27 = .ok (.if_icmp .eq 40, 3) := by decide +kernel
theorem dX11_isStep_30 : decode cX11_isStep 30 = .ok (.iload_n 0, 1) := by decide +kernel
theorem dX11_isStep_31 : decode cX11_isStep 31 = .ok (.bipush 115, 2) := by decide +kernel
theorem dX11_isStep_33 : decode cX11_isStep 33 = .ok (.if_icmp .eq 34, 3) := by decide +kernel
theorem dX11_isStep_36 : decode cX11_isStep 36 = .ok (.iload_n 0, 1) := by decide +kernel
theorem dX11_isStep_37 : decode cX11_isStep 37 = .ok (.bipush 119, 2) := by decide +kernel
theorem dX11_isStep_39 : decode cX11_isStep 39 = .ok (.if_icmp .eq 28, 3) := by decide +kernel
theorem dX11_isStep_42 : decode cX11_isStep 42 = .ok (.iload_n 0, 1) := by decide +kernel
theorem dX11_isStep_43 : decode cX11_isStep 43 = .ok (.bipush 104, 2) := by decide +kernel
theorem dX11_isStep_45 : decode cX11_isStep 45 = .ok (.if_icmp .eq 22, 3) := by decide +kernel
theorem dX11_isStep_48 : decode cX11_isStep 48 = .ok (.iload_n 0, 1) := by decide +kernel
theorem dX11_isStep_49 : decode cX11_isStep 49 = .ok (.bipush 120, 2) := by decide +kernel
theorem dX11_isStep_51 : decode cX11_isStep 51 = .ok (.if_icmp .eq 16, 3) := by decide +kernel
theorem dX11_isStep_54 : decode cX11_isStep 54 = .ok (.iload_n 0, 1) := by decide +kernel
theorem dX11_isStep_55 : decode cX11_isStep 55 = .ok (.bipush 112, 2) := by decide +kernel
theorem dX11_isStep_57 : decode cX11_isStep 57 = .ok (.if_icmp .eq 10, 3) := by decide +kernel
theorem dX11_isStep_60 : decode cX11_isStep 60 = .ok (.iload_n 0, 1) := by decide +kernel
theorem dX11_isStep_61 : decode cX11_isStep 61 = .ok (.invokestatic 199, 3) := by decide +kernel
theorem dX11_isStep_64 : decode cX11_isStep 64 = .ok (.ifCond .eq 7, 3) := by decide +kernel
theorem dX11_isStep_67 : decode cX11_isStep 67 = .ok (.iconst 1, 1) := by decide +kernel
theorem dX11_isStep_68 : decode cX11_isStep 68 = .ok (.goto 4, 3) := by decide +kernel
theorem dX11_isStep_71 : decode cX11_isStep 71 = .ok (.iconst 0, 1) := by decide +kernel
theorem dX11_isStep_72 : decode cX11_isStep 72 = .ok (.ireturn, 1) := by decide +kernel
theorem dX11_isAround_0 : decode cX11_isAround 0 = .ok (.iload_n 0, 1) := by decide +kernel
theorem dX11_isAround_1 : decode cX11_isAround 1 = .ok (.bipush 110, 2) := by decide +kernel
theorem dX11_isAround_3 : decode cX11_isAround 3 = .ok (.if_icmp .eq 21, 3) := by decide +kernel
theorem dX11_isAround_6 : decode cX11_isAround 6 = .ok (.iload_n 0, 1) := by decide +kernel
theorem dX11_isAround_7 : decode cX11_isAround 7 = .ok (.bipush 111, 2) := by decide +kernel
theorem dX11_isAround_9 : decode cX11_isAround 9 = .ok (.if_icmp .eq 15, 3) := by decide +kernel
theorem dX11_isAround_12 : decode cX11_isAround 12 = .ok (.iload_n 0, 1) := by decide +kernel
theorem dX11_isAround_13 : decode cX11_isAround 13 = .ok (.bipush 105, 2) := by decide +kernel
theorem dX11_isAround_15 : decode cX11_isAround 15 = .ok (.if_icmp .eq 9, 3) := by decide +kernel
theorem dX11_isAround_18 : decode cX11_isAround 18 = .ok (.iload_n 0, 1) := by decide +kernel
theorem dX11_isAround_19 : decode cX11_isAround 19 = .ok (.bipush 106, 2) := by decide +kernel
theorem dX11_isAround_21 : decode cX11_isAround 21 = .ok (.if_icmp .ne 7, 3) := by decide +kernel
theorem dX11_isAround_24 : decode cX11_isAround 24 = .ok (.iconst 1, 1) := by decide +kernel
theorem dX11_isAround_25 : decode cX11_isAround 25 = .ok (.goto 4, 3) := by decide +kernel
theorem dX11_isAround_28 : decode cX11_isAround 28 = .ok (.iconst 0, 1) := by decide +kernel
theorem dX11_isAround_29 : decode cX11_isAround 29 = .ok (.ireturn, 1) := by decide +kernel
theorem dX11_readStep_0 : decode cX11_readStep 0 = .ok (.iload_n 1, 1) := by decide +kernel
theorem dX11_readStep_1 : decode cX11_readStep 1 = .ok (.tableswitch 240 97 120 #[134, 240, 240, 240, 240, 240, 113, 150, 218, 240, 240, 111, 240, 183, 202, 169, 240, 240, 134, 240, 123, 111, 134, 157], 111) := by decide +kernel
theorem dX11_readStep_112 : decode cX11_readStep 112 = .ok (.iconst 1, 1) := by decide +kernel
theorem dX11_readStep_113 : decode cX11_readStep 113 = .ok (.ireturn, 1) := by decide +kernel
theorem dX11_readStep_114 : decode cX11_readStep 114 = .ok (.aload_n 0, 1) := by decide +kernel
theorem dX11_readStep_115 : decode cX11_readStep 115 = .ok (.bipush 48, 2) := by decide +kernel
theorem dX11_readStep_117 : decode cX11_readStep 117 = .ok (.iconst 5, 1) := by decide +kernel
theorem dX11_readStep_118 : decode cX11_readStep 118 = .ok (.invokevirtual 152, 3) := by decide +kernel
theorem dX11_readStep_121 : decode cX11_readStep 121 = .ok (.pop, 1) := by decide +kernel
theorem dX11_readStep_122 : decode cX11_readStep 122 = .ok (.iconst 1, 1) := by decide +kernel
theorem dX11_readStep_123 : decode cX11_readStep 123 = .ok (.ireturn, 1) := by decide +kernel
theorem dX11_readStep_124 : decode cX11_readStep 124 = .ok (.aload_n 0, 1) := by decide +kernel
theorem dX11_readStep_125 : decode cX11_readStep 125 = .ok (.bipush 48, 2) := by decide +kernel
theorem dX11_readStep_127 : decode cX11_readStep 127 = .ok (.bipush 9, 2) := by decide +kernel
theorem dX11_readStep_129 : decode cX11_readStep 129 = .ok (.invokevirtual 152, 3) := by decide +kernel
theorem dX11_readStep_132 : decode cX11_readStep 132 = .ok (.pop, 1) := by decide +kernel
theorem dX11_readStep_133 : decode cX11_readStep 133 = .ok (.iconst 1, 1) := by decide +kernel
theorem dX11_readStep_134 : decode cX11_readStep 134 = .ok (.ireturn, 1) := by decide +kernel
theorem dX11_readStep_135 : decode cX11_readStep 135 = .ok (.aload_n 0, 1) := by decide +kernel
theorem dX11_readStep_136 : decode cX11_readStep 136 = .ok (.invokevirtual 202, 3) := by decide +kernel
theorem dX11_readStep_139 : decode cX11_readStep 139 = .ok (.pop, 1) := by decide +kernel
theorem dX11_readStep_140 : decode cX11_readStep 140 = .ok (.aload_n 0, 1) := by decide +kernel
theorem dX11_readStep_141 : decode cX11_readStep 141 = .ok (.bipush 48, 2) := by decide +kernel
theorem dX11_readStep_143 : decode cX11_readStep 143 = .ok (.bipush 9, 2) := by decide +kernel
theorem dX11_readStep_145 : decode cX11_readStep 145 = .ok (.invokevirtual 152, 3) := by decide +kernel
theorem dX11_readStep_148 : decode cX11_readStep 148 = .ok (.pop, 1) := by decide +kernel
theorem dX11_readStep_149 : decode cX11_readStep 149 = .ok (.iconst 1, 1) := by decide +kernel
theorem dX11_readStep_150 : decode cX11_readStep 150 = .ok (.ireturn, 1) := by decide +kernel
theorem dX11_readStep_151 : decode cX11_readStep 151 = .ok (.aload_n 0, 1) := by decide +kernel
theorem dX11_readStep_152 : decode cX11_readStep 152 = .ok (.invokevirtual 202, 3) := by decide +kernel
theorem dX11_readStep_155 : decode cX11_readStep 155 = .ok (.pop, 1) := by decide +kernel
theorem dX11_readStep_156 : decode cX11_readStep 156 = .ok (.iconst 1, 1) := by decide +kernel
theorem dX11_readStep_157 : decode cX11_readStep 157 = .ok (.ireturn, 1) := by decide +kernel
theorem dX11_readStep_158 : decode cX11_readStep 158 = .ok (.aload_n 0, 1) := by decide +kernel
theorem dX11_readStep_159 : decode cX11_readStep 159 = .ok (.invokevirtual 202, 3) := by decide +kernel
theorem dX11_readStep_162 : decode cX11_readStep 162 = .ok (.pop, 1) := by decide +kernel
theorem dX11_readStep_163 : decode cX11_readStep 163 = .ok (.aload_n 0, 1) := by decide +kernel
theorem dX11_readStep_164 : decode cX11_readStep 164 = .ok (.invokevirtual 202, 3) := by decide +kernel
theorem dX11_readStep_167 : decode cX11_readStep 167 = .ok (.pop, 1) := by decide +kernel
theorem dX11_readStep_168 : decode cX11_readStep 168 = .ok (.iconst 1, 1) := by decide +kernel
theorem dX11_readStep_169 : decode cX11_readStep 169 = .ok (.ireturn, 1) := by decide +kernel
theorem dX11_readStep_170 : decode cX11_readStep 170 = .ok (.aload_n 0, 1) := by decide +kernel
theorem dX11_readStep_171 : decode cX11_readStep 171 = .ok (.iconst 1, 1) := by decide +kernel
theorem dX11_readStep_172 : decode cX11_readStep 172 = .ok (.putfield 205, 3) := by decide +kernel
theorem dX11_readStep_175 : decode cX11_readStep 175 = .ok (.aload_n 0, 1) := by decide +kernel
theorem dX11_readStep_176 : decode cX11_readStep 176 = .ok (.getfield 9, 3) := by decide +kernel
theorem dX11_readStep_179 : decode cX11_readStep 179 = .ok (.sipush 613, 3) := by decide +kernel
theorem dX11_readStep_182 : decode cX11_readStep 182 = .ok (.iaload, 1) := by decide +kernel
theorem dX11_readStep_183 : decode cX11_readStep 183 = .ok (.ireturn, 1) := by decide +kernel
theorem dX11_readStep_184 : decode cX11_readStep 184 = .ok (.aload_n 0, 1) := by decide +kernel
theorem dX11_readStep_185 : decode cX11_readStep 185 = .ok (.bipush 48, 2) := by decide +kernel
theorem dX11_readStep_187 : decode cX11_readStep 187 = .ok (.bipush 10, 2) := by decide +kernel
theorem dX11_readStep_189 : decode cX11_readStep 189 = .ok (.invokevirtual 152, 3) := by decide +kernel
theorem dX11_readStep_192 : decode cX11_readStep 192 = .ok (.istore_n 3, 1) := by decide +kernel
theorem dX11_readStep_193 : decode cX11_readStep 193 = .ok (.iconst 1, 1) := by decide +kernel
theorem dX11_readStep_194 : decode cX11_readStep 194 = .ok (.iload_n 3, 1) := by decide +kernel
theorem dX11_readStep_195 : decode cX11_readStep 195 = .ok (.aload_n 0, 1) := by decide +kernel
theorem dX11_readStep_196 : decode cX11_readStep 196 = .ok (.iload_n 2, 1) := by decide +kernel
theorem dX11_readStep_197 : decode cX11_readStep 197 = .ok (.invokevirtual 209, 3) := by decide +kernel
theorem dX11_readStep_200 : decode cX11_readStep 200 = .ok (.imul, 1) := by decide +kernel
theorem dX11_readStep_201 : decode cX11_readStep 201 = .ok (.iadd, 1) := by decide +kernel
theorem dX11_readStep_202 : decode cX11_readStep 202 = .ok (.ireturn, 1) := by decide +kernel
theorem dX11_readStep_203 : decode cX11_readStep 203 = .ok (.aload_n 0, 1) := by decide +kernel
theorem dX11_readStep_204 : decode cX11_readStep 204 = .ok (.invokevirtual 202, 3) := by decide +kernel
theorem dX11_readStep_207 : decode cX11_readStep 207 = .ok (.pop, 1) := by decide +kernel
theorem dX11_readStep_208 : decode cX11_readStep 208 = .ok (.iconst 1, 1) := by decide +kernel
theorem dX11_readStep_209 : decode cX11_readStep 209 = .ok (.bipush 8, 2) := by decide +kernel
theorem dX11_readStep_211 : decode cX11_readStep 211 = .ok (.aload_n 0, 1) := by decide +kernel
theorem dX11_readStep_212 : decode cX11_readStep 212 = .ok (.iload_n 2, 1) := by decide +kernel
theorem dX11_readStep_213 : decode cX11_readStep 213 = .ok (.invokevirtual 209, 3) := by decide +kernel
theorem dX11_readStep_216 : decode cX11_readStep 216 = .ok (.imul, 1) := by decide +kernel
theorem dX11_readStep_217 : decode cX11_readStep 217 = .ok (.iadd, 1) := by decide +kernel
theorem dX11_readStep_218 : decode cX11_readStep 218 = .ok (.ireturn, 1) := by decide +kernel
theorem dX11_readStep_219 : decode cX11_readStep 219 = .ok (.aload_n 0, 1) := by decide +kernel
theorem dX11_readStep_220 : decode cX11_readStep 220 = .ok (.invokevirtual 202, 3) := by decide +kernel
theorem dX11_readStep_223 : decode cX11_readStep 223 = .ok (.pop, 1) := by decide +kernel
theorem dX11_readStep_224 : decode cX11_readStep 224 = .ok (.aload_n 0, 1) := by decide +kernel
theorem dX11_readStep_225 : decode cX11_readStep 225 = .ok (.bipush 48, 2) := by decide +kernel
theorem dX11_readStep_227 : decode cX11_readStep 227 = .ok (.bipush 9, 2) := by decide +kernel
theorem dX11_readStep_229 : decode cX11_readStep 229 = .ok (.invokevirtual 152, 3) := by decide +kernel
theorem dX11_readStep_232 : decode cX11_readStep 232 = .ok (.pop, 1) := by decide +kernel
theorem dX11_readStep_233 : decode cX11_readStep 233 = .ok (.iconst 1, 1) := by decide +kernel
theorem dX11_readStep_234 : decode cX11_readStep 234 = .ok (.aload_n 0, 1) := by decide +kernel
theorem dX11_readStep_235 : decode cX11_readStep 235 = .ok (.iload_n 2, 1) := by decide +kernel
theorem dX11_readStep_236 : decode cX11_readStep 236 = .ok (.invokevirtual 209, 3) := by decide +kernel
theorem dX11_readStep_239 : decode cX11_readStep 239 = .ok (.iadd, 1) := by decide +kernel
theorem dX11_readStep_240 : decode cX11_readStep 240 = .ok (.ireturn, 1) := by decide +kernel
theorem dX11_readStep_241 : decode cX11_readStep 241 = .ok (.aload_n 0, 1) := by decide +kernel
theorem dX11_readStep_242 : decode cX11_readStep 242 = .ok (.invokevirtual 202, 3) := by decide +kernel
theorem dX11_readStep_245 : decode cX11_readStep 245 = .ok (.pop, 1) := by decide +kernel
theorem dX11_readStep_246 : decode cX11_readStep 246 = .ok (.aload_n 0, 1) := by decide +kernel
theorem dX11_readStep_247 : decode cX11_readStep 247 = .ok (.invokevirtual 202, 3) := by decide +kernel
theorem dX11_readStep_250 : decode cX11_readStep 250 = .ok (.pop, 1) := by decide +kernel
theorem dX11_readStep_251 : decode cX11_readStep 251 = .ok (.iconst 1, 1) := by decide +kernel
theorem dX11_readStep_252 : decode cX11_readStep 252 = .ok (.aload_n 0, 1) := by decide +kernel
theorem dX11_readStep_253 : decode cX11_readStep 253 = .ok (.iload_n 2, 1) := by decide +kernel

theorem dX11_slips_86 : decode cX11_slips 86 = .ok (.iaload, 1) := by decide +kernel
theorem dX11_slips_87 : decode cX11_slips 87 = .ok (.irem, 1) := by decide +kernel
theorem dX11_slips_88 : decode cX11_slips 88 = .ok (.iload_n 2, 1) := by decide +kernel
theorem dX11_slips_89 : decode cX11_slips 89 = .ok (.isub, 1) := by decide +kernel
theorem dX11_slips_90 : decode cX11_slips 90 = .ok (.istore 8, 2) := by decide +kernel
theorem dX11_slips_92 : decode cX11_slips 92 = .ok (.iload 7, 2) := by decide +kernel
theorem dX11_slips_94 : decode cX11_slips 94 = .ok (.aload_n 0, 1) := by decide +kernel
theorem dX11_slips_95 : decode cX11_slips 95 = .ok (.getfield 9, 3) := by decide +kernel
theorem dX11_slips_98 : decode cX11_slips 98 = .ok (.sipush 702, 3) := by decide +kernel
theorem dX11_slips_101 : decode cX11_slips 101 = .ok (.iaload, 1) := by decide +kernel
theorem dX11_slips_102 : decode cX11_slips 102 = .ok (.idiv, 1) := by decide +kernel
theorem dX11_slips_103 : decode cX11_slips 103 = .ok (.iload_n 3, 1) := by decide +kernel
theorem dX11_slips_104 : decode cX11_slips 104 = .ok (.isub, 1) := by decide +kernel
theorem dX11_slips_105 : decode cX11_slips 105 = .ok (.istore 9, 2) := by decide +kernel
theorem dX11_slips_107 : decode cX11_slips 107 = .ok (.iload 8, 2) := by decide +kernel
theorem dX11_slips_109 : decode cX11_slips 109 = .ok (.iconst 0, 1) := by decide +kernel
theorem dX11_slips_110 : decode cX11_slips 110 = .ok (.aload_n 0, 1) := by decide +kernel
theorem dX11_slips_111 : decode cX11_slips 111 = .ok (.getfield 9, 3) := by decide +kernel
theorem dX11_slips_114 : decode cX11_slips 114 = .ok (.sipush 702, 3) := by decide +kernel
theorem dX11_slips_117 : decode cX11_slips 117 = .ok (.iaload, 1) := by decide +kernel
theorem dX11_slips_118 : decode cX11_slips 118 = .ok (.iconst 1, 1) := by decide +kernel
theorem dX11_slips_119 : decode cX11_slips 119 = .ok (.isub, 1) := by decide +kernel
theorem dX11_slips_120 : decode cX11_slips 120 = .ok (.invokestatic 112, 3) := by decide +kernel
theorem dX11_slips_123 : decode cX11_slips 123 = .ok (.ifCond .eq 26, 3) := by decide +kernel
theorem dX11_slips_126 : decode cX11_slips 126 = .ok (.iload 9, 2) := by decide +kernel
theorem dX11_slips_128 : decode cX11_slips 128 = .ok (.iconst 0, 1) := by decide +kernel
theorem dX11_slips_129 : decode cX11_slips 129 = .ok (.aload_n 0, 1) := by decide +kernel
theorem dX11_slips_130 : decode cX11_slips 130 = .ok (.getfield 9, 3) := by decide +kernel
theorem dX11_slips_133 : decode cX11_slips 133 = .ok (.sipush 703, 3) := by decide +kernel
theorem dX11_slips_136 : decode cX11_slips 136 = .ok (.iaload, 1) := by decide +kernel
theorem dX11_slips_137 : decode cX11_slips 137 = .ok (.iconst 1, 1) := by decide +kernel
theorem dX11_slips_138 : decode cX11_slips 138 = .ok (.isub, 1) := by decide +kernel
theorem dX11_slips_139 : decode cX11_slips 139 = .ok (.invokestatic 112, 3) := by decide +kernel
theorem dX11_slips_142 : decode cX11_slips 142 = .ok (.ifCond .eq 7, 3) := by decide +kernel
theorem dX11_slips_145 : decode cX11_slips 145 = .ok (.iconst 1, 1) := by decide +kernel
theorem dX11_slips_146 : decode cX11_slips 146 = .ok (.goto 4, 3) := by decide +kernel
theorem dX11_slips_149 : decode cX11_slips 149 = .ok (.iconst 0, 1) := by decide +kernel
theorem dX11_slips_150 : decode cX11_slips 150 = .ok (.istore 10, 2) := by decide +kernel
theorem dX11_slips_152 : decode cX11_slips 152 = .ok (.iload 10, 2) := by decide +kernel
theorem dX11_slips_154 : decode cX11_slips 154 = .ok (.ifCond .eq 29, 3) := by decide +kernel
theorem dX11_slips_157 : decode cX11_slips 157 = .ok (.aload_n 0, 1) := by decide +kernel
theorem dX11_slips_158 : decode cX11_slips 158 = .ok (.getfield 63, 3) := by decide +kernel
theorem dX11_slips_161 : decode cX11_slips 161 = .ok (.aload_n 0, 1) := by decide +kernel
theorem dX11_slips_162 : decode cX11_slips 162 = .ok (.getfield 9, 3) := by decide +kernel
theorem dX11_slips_165 : decode cX11_slips 165 = .ok (.sipush 702, 3) := by decide +kernel
theorem dX11_slips_168 : decode cX11_slips 168 = .ok (.iaload, 1) := by decide +kernel
theorem dX11_slips_169 : decode cX11_slips 169 = .ok (.iload 9, 2) := by decide +kernel
theorem dX11_slips_171 : decode cX11_slips 171 = .ok (.imul, 1) := by decide +kernel
theorem dX11_slips_172 : decode cX11_slips 172 = .ok (.iload 8, 2) := by decide +kernel
theorem dX11_slips_174 : decode cX11_slips 174 = .ok (.iadd, 1) := by decide +kernel
theorem dX11_slips_175 : decode cX11_slips 175 = .ok (.iaload, 1) := by decide +kernel
theorem dX11_slips_176 : decode cX11_slips 176 = .ok (.iload_n 1, 1) := by decide +kernel
theorem dX11_slips_177 : decode cX11_slips 177 = .ok (.invokestatic 119, 3) := by decide +kernel
theorem dX11_slips_180 : decode cX11_slips 180 = .ok (.goto 4, 3) := by decide +kernel
theorem dX11_slips_183 : decode cX11_slips 183 = .ok (.iconst 0, 1) := by decide +kernel
theorem dX11_slips_184 : decode cX11_slips 184 = .ok (.istore 11, 2) := by decide +kernel
theorem dX11_slips_186 : decode cX11_slips 186 = .ok (.aload_n 0, 1) := by decide +kernel
theorem dX11_slips_187 : decode cX11_slips 187 = .ok (.getfield 63, 3) := by decide +kernel
theorem dX11_slips_190 : decode cX11_slips 190 = .ok (.iload 7, 2) := by decide +kernel
theorem dX11_slips_192 : decode cX11_slips 192 = .ok (.iaload, 1) := by decide +kernel
theorem dX11_slips_193 : decode cX11_slips 193 = .ok (.iload 11, 2) := by decide +kernel
theorem dX11_slips_195 : decode cX11_slips 195 = .ok (.aload_n 0, 1) := by decide +kernel
theorem dX11_slips_196 : decode cX11_slips 196 = .ok (.getfield 63, 3) := by decide +kernel
theorem dX11_slips_199 : decode cX11_slips 199 = .ok (.iload 7, 2) := by decide +kernel
theorem dX11_slips_201 : decode cX11_slips 201 = .ok (.iaload, 1) := by decide +kernel
theorem dX11_slips_202 : decode cX11_slips 202 = .ok (.iload_n 1, 1) := by decide +kernel
theorem dX11_slips_203 : decode cX11_slips 203 = .ok (.invokestatic 119, 3) := by decide +kernel
theorem dX11_slips_206 : decode cX11_slips 206 = .ok (.isub, 1) := by decide +kernel
theorem dX11_slips_207 : decode cX11_slips 207 = .ok (.getstatic 116, 3) := by decide +kernel
theorem dX11_slips_210 : decode cX11_slips 210 = .ok (.iload_n 1, 1) := by decide +kernel
theorem dX11_slips_211 : decode cX11_slips 211 = .ok (.iaload, 1) := by decide +kernel
theorem dX11_slips_212 : decode cX11_slips 212 = .ok (.imul, 1) := by decide +kernel
theorem dX11_slips_213 : decode cX11_slips 213 = .ok (.iadd, 1) := by decide +kernel
theorem dX11_slips_214 : decode cX11_slips 214 = .ok (.istore 12, 2) := by decide +kernel
theorem dX11_slips_216 : decode cX11_slips 216 = .ok (.iload 4, 2) := by decide +kernel
theorem dX11_slips_218 : decode cX11_slips 218 = .ok (.iload 12, 2) := by decide +kernel
theorem dX11_slips_220 : decode cX11_slips 220 = .ok (.aload_n 0, 1) := by decide +kernel
theorem dX11_slips_221 : decode cX11_slips 221 = .ok (.getfield 63, 3) := by decide +kernel
theorem dX11_slips_224 : decode cX11_slips 224 = .ok (.iload 7, 2) := by decide +kernel
theorem dX11_slips_226 : decode cX11_slips 226 = .ok (.iaload, 1) := by decide +kernel
theorem dX11_slips_227 : decode cX11_slips 227 = .ok (.if_icmp .eq 7, 3) := by decide +kernel
theorem dX11_slips_230 : decode cX11_slips 230 = .ok (.iconst 1, 1) := by decide +kernel
theorem dX11_slips_231 : decode cX11_slips 231 = .ok (.goto 4, 3) := by decide +kernel
theorem dX11_slips_234 : decode cX11_slips 234 = .ok (.iconst 0, 1) := by decide +kernel
theorem dX11_slips_235 : decode cX11_slips 235 = .ok (.iadd, 1) := by decide +kernel
theorem dX11_slips_236 : decode cX11_slips 236 = .ok (.istore 4, 2) := by decide +kernel
theorem dX11_slips_238 : decode cX11_slips 238 = .ok (.lload 5, 2) := by decide +kernel
theorem dX11_slips_240 : decode cX11_slips 240 = .ok (.aload_n 0, 1) := by decide +kernel
theorem dX11_slips_241 : decode cX11_slips 241 = .ok (.iload 12, 2) := by decide +kernel
theorem dX11_slips_243 : decode cX11_slips 243 = .ok (.invokestatic 314, 3) := by decide +kernel
theorem dX11_slips_246 : decode cX11_slips 246 = .ok (.aload_n 0, 1) := by decide +kernel
theorem dX11_slips_247 : decode cX11_slips 247 = .ok (.getfield 63, 3) := by decide +kernel
theorem dX11_slips_250 : decode cX11_slips 250 = .ok (.iload 7, 2) := by decide +kernel
theorem dX11_slips_252 : decode cX11_slips 252 = .ok (.iaload, 1) := by decide +kernel
theorem dX11_slips_253 : decode cX11_slips 253 = .ok (.invokestatic 314, 3) := by decide +kernel
theorem dX11_slips_256 : decode cX11_slips 256 = .ok (.invokevirtual 355, 3) := by decide +kernel
theorem dX11_slips_259 : decode cX11_slips 259 = .ok (.i2l, 1) := by decide +kernel
theorem dX11_slips_260 : decode cX11_slips 260 = .ok (.ladd, 1) := by decide +kernel
theorem dX11_slips_261 : decode cX11_slips 261 = .ok (.lstore 5, 2) := by decide +kernel
theorem dX11_slips_263 : decode cX11_slips 263 = .ok (.iinc 7 1, 3) := by decide +kernel
theorem dX11_slips_266 : decode cX11_slips 266 = .ok (.goto (-198), 3) := by decide +kernel
theorem dX11_slips_269 : decode cX11_slips 269 = .ok (.aload_n 0, 1) := by decide +kernel
theorem dX11_slips_270 : decode cX11_slips 270 = .ok (.iconst 0, 1) := by decide +kernel
theorem dX11_slips_271 : decode cX11_slips 271 = .ok (.putfield 109, 3) := by decide +kernel
theorem dX11_slips_274 : decode cX11_slips 274 = .ok (.aload_n 0, 1) := by decide +kernel
theorem dX11_slips_275 : decode cX11_slips 275 = .ok (.lload 5, 2) := by decide +kernel
theorem dX11_slips_277 : decode cX11_slips 277 = .ok (.invokevirtual 273, 3) := by decide +kernel
theorem dX11_slips_280 : decode cX11_slips 280 = .ok (.iload 4, 2) := by decide +kernel
theorem dX11_slips_282 : decode cX11_slips 282 = .ok (.ireturn, 1) := by decide +kernel
theorem dX11_greys_0 : decode cX11_greys 0 = .ok (.aload_n 0, 1) := by decide +kernel
theorem dX11_greys_1 : decode cX11_greys 1 = .ok (.iconst 0, 1) := by decide +kernel
theorem dX11_greys_2 : decode cX11_greys 2 = .ok (.putfield 105, 3) := by decide +kernel
theorem dX11_greys_5 : decode cX11_greys 5 = .ok (.iload_n 1, 1) := by decide +kernel
theorem dX11_greys_6 : decode cX11_greys 6 = .ok (.iconst 0, 1) := by decide +kernel
theorem dX11_greys_7 : decode cX11_greys 7 = .ok (.bipush 8, 2) := by decide +kernel
theorem dX11_greys_9 : decode cX11_greys 9 = .ok (.invokestatic 112, 3) := by decide +kernel
theorem dX11_greys_12 : decode cX11_greys 12 = .ok (.ifCond .ne 5, 3) := by decide +kernel
theorem dX11_greys_15 : decode cX11_greys 15 = .ok (.iconst (-1), 1) := by decide +kernel
theorem dX11_greys_16 : decode cX11_greys 16 = .ok (.ireturn, 1) := by decide +kernel
theorem dX11_greys_17 : decode cX11_greys 17 = .ok (.aload_n 0, 1) := by decide +kernel
theorem dX11_greys_18 : decode cX11_greys 18 = .ok (.aload_n 0, 1) := by decide +kernel
theorem dX11_greys_19 : decode cX11_greys 19 = .ok (.getfield 9, 3) := by decide +kernel
theorem dX11_greys_22 : decode cX11_greys 22 = .ok (.invokevirtual 308, 3) := by decide +kernel
theorem dX11_greys_25 : decode cX11_greys 25 = .ok (.iconst 0, 1) := by decide +kernel
theorem dX11_greys_26 : decode cX11_greys 26 = .ok (.istore_n 3, 1) := by decide +kernel
theorem dX11_greys_27 : decode cX11_greys 27 = .ok (.iconst (-1), 1) := by decide +kernel
theorem dX11_greys_28 : decode cX11_greys 28 = .ok (.istore 4, 2) := by decide +kernel
theorem dX11_greys_30 : decode cX11_greys 30 = .ok (.iconst (-1), 1) := by decide +kernel
theorem dX11_greys_31 : decode cX11_greys 31 = .ok (.istore 5, 2) := by decide +kernel
theorem dX11_greys_33 : decode cX11_greys 33 = .ok (.iconst 0, 1) := by decide +kernel
theorem dX11_greys_34 : decode cX11_greys 34 = .ok (.istore 6, 2) := by decide +kernel
theorem dX11_greys_36 : decode cX11_greys 36 = .ok (.iload 6, 2) := by decide +kernel
theorem dX11_greys_38 : decode cX11_greys 38 = .ok (.sipush 6561, 3) := by decide +kernel
theorem dX11_greys_41 : decode cX11_greys 41 = .ok (.if_icmp .ge 97, 3) := by decide +kernel
theorem dX11_greys_44 : decode cX11_greys 44 = .ok (.iload 6, 2) := by decide +kernel
theorem dX11_greys_46 : decode cX11_greys 46 = .ok (.invokestatic 101, 3) := by decide +kernel
theorem dX11_greys_49 : decode cX11_greys 49 = .ok (.istore 7, 2) := by decide +kernel
theorem dX11_greys_51 : decode cX11_greys 51 = .ok (.aload_n 0, 1) := by decide +kernel
theorem dX11_greys_52 : decode cX11_greys 52 = .ok (.iload 7, 2) := by decide +kernel
theorem dX11_greys_54 : decode cX11_greys 54 = .ok (.invokevirtual 256, 3) := by decide +kernel
theorem dX11_greys_57 : decode cX11_greys 57 = .ok (.ifCond .eq 75, 3) := by decide +kernel
theorem dX11_greys_60 : decode cX11_greys 60 = .ok (.iload 7, 2) := by decide +kernel
theorem dX11_greys_62 : decode cX11_greys 62 = .ok (.iconst 3, 1) := by decide +kernel
theorem dX11_greys_63 : decode cX11_greys 63 = .ok (.invokestatic 119, 3) := by decide +kernel
theorem dX11_greys_66 : decode cX11_greys 66 = .ok (.iload_n 1, 1) := by decide +kernel
theorem dX11_greys_67 : decode cX11_greys 67 = .ok (.if_icmp .ne 65, 3) := by decide +kernel
theorem dX11_greys_70 : decode cX11_greys 70 = .ok (.aload_n 0, 1) := by decide +kernel
theorem dX11_greys_71 : decode cX11_greys 71 = .ok (.iload 6, 2) := by decide +kernel
theorem dX11_greys_73 : decode cX11_greys 73 = .ok (.invokevirtual 394, 3) := by decide +kernel
theorem dX11_greys_76 : decode cX11_greys 76 = .ok (.iload_n 2, 1) := by decide +kernel
theorem dX11_greys_77 : decode cX11_greys 77 = .ok (.if_icmp .le 6, 3) := by decide +kernel
theorem dX11_greys_80 : decode cX11_greys 80 = .ok (.goto 52, 3) := by decide +kernel
theorem dX11_greys_83 : decode cX11_greys 83 = .ok (.iload_n 3, 1) := by decide +kernel
theorem dX11_greys_84 : decode cX11_greys 84 = .ok (.ifCond .eq 18, 3) := by decide +kernel
theorem dX11_greys_87 : decode cX11_greys 87 = .ok (.aload_n 0, 1) := by decide +kernel
theorem dX11_greys_88 : decode cX11_greys 88 = .ok (.iload 6, 2) := by decide +kernel
theorem dX11_greys_90 : decode cX11_greys 90 = .ok (.invokevirtual 397, 3) := by decide +kernel
theorem dX11_greys_93 : decode cX11_greys 93 = .ok (.aload_n 0, 1) := by decide +kernel
theorem dX11_greys_94 : decode cX11_greys 94 = .ok (.iload 4, 2) := by decide +kernel
theorem dX11_greys_96 : decode cX11_greys 96 = .ok (.invokevirtual 397, 3) := by decide +kernel
theorem dX11_greys_99 : decode cX11_greys 99 = .ok (.if_icmp .ge 7, 3) := by decide +kernel
theorem dX11_greys_102 : decode cX11_greys 102 = .ok (.iload 6, 2) := by decide +kernel
theorem dX11_greys_104 : decode cX11_greys 104 = .ok (.istore 4, 2) := by decide +kernel
theorem dX11_greys_106 : decode cX11_greys 106 = .ok (.iload_n 3, 1) := by decide +kernel
theorem dX11_greys_107 : decode cX11_greys 107 = .ok (.ifCond .eq 18, 3) := by decide +kernel
theorem dX11_greys_110 : decode cX11_greys 110 = .ok (.aload_n 0, 1) := by decide +kernel
theorem dX11_greys_111 : decode cX11_greys 111 = .ok (.iload 6, 2) := by decide +kernel
theorem dX11_greys_113 : decode cX11_greys 113 = .ok (.invokevirtual 397, 3) := by decide +kernel
theorem dX11_greys_116 : decode cX11_greys 116 = .ok (.aload_n 0, 1) := by decide +kernel
theorem dX11_greys_117 : decode cX11_greys 117 = .ok (.iload 5, 2) := by decide +kernel
theorem dX11_greys_119 : decode cX11_greys 119 = .ok (.invokevirtual 397, 3) := by decide +kernel
theorem dX11_greys_122 : decode cX11_greys 122 = .ok (.if_icmp .le 7, 3) := by decide +kernel
theorem dX11_greys_125 : decode cX11_greys 125 = .ok (.iload 6, 2) := by decide +kernel
theorem dX11_greys_127 : decode cX11_greys 127 = .ok (.istore 5, 2) := by decide +kernel
theorem dX11_greys_129 : decode cX11_greys 129 = .ok (.iinc 3 1, 3) := by decide +kernel
theorem dX11_greys_132 : decode cX11_greys 132 = .ok (.iinc 6 1, 3) := by decide +kernel
theorem dX11_greys_135 : decode cX11_greys 135 = .ok (.goto (-99), 3) := by decide +kernel
theorem dX11_greys_138 : decode cX11_greys 138 = .ok (.aload_n 0, 1) := by decide +kernel
theorem dX11_greys_139 : decode cX11_greys 139 = .ok (.iconst 0, 1) := by decide +kernel
theorem dX11_greys_140 : decode cX11_greys 140 = .ok (.putfield 109, 3) := by decide +kernel
theorem dX11_greys_143 : decode cX11_greys 143 = .ok (.iload_n 3, 1) := by decide +kernel
theorem dX11_greys_144 : decode cX11_greys 144 = .ok (.ifCond .le 45, 3) := by decide +kernel
theorem dX11_greys_147 : decode cX11_greys 147 = .ok (.aload_n 0, 1) := by decide +kernel
theorem dX11_greys_148 : decode cX11_greys 148 = .ok (.iload 4, 2) := by decide +kernel
theorem dX11_greys_150 : decode cX11_greys 150 = .ok (.invokestatic 101, 3) := by decide +kernel
theorem dX11_greys_153 : decode cX11_greys 153 = .ok (.i2l, 1) := by decide +kernel
theorem dX11_greys_154 : decode cX11_greys 154 = .ok (.invokevirtual 273, 3) := by decide +kernel
theorem dX11_greys_157 : decode cX11_greys 157 = .ok (.aload_n 0, 1) := by decide +kernel
theorem dX11_greys_158 : decode cX11_greys 158 = .ok (.aload_n 0, 1) := by decide +kernel
theorem dX11_greys_159 : decode cX11_greys 159 = .ok (.iload 4, 2) := by decide +kernel
theorem dX11_greys_161 : decode cX11_greys 161 = .ok (.invokevirtual 397, 3) := by decide +kernel
theorem dX11_greys_164 : decode cX11_greys 164 = .ok (.i2l, 1) := by decide +kernel
theorem dX11_greys_165 : decode cX11_greys 165 = .ok (.invokevirtual 273, 3) := by decide +kernel
theorem dX11_greys_168 : decode cX11_greys 168 = .ok (.aload_n 0, 1) := by decide +kernel
theorem dX11_greys_169 : decode cX11_greys 169 = .ok (.iload 5, 2) := by decide +kernel
theorem dX11_greys_171 : decode cX11_greys 171 = .ok (.invokestatic 101, 3) := by decide +kernel
theorem dX11_greys_174 : decode cX11_greys 174 = .ok (.i2l, 1) := by decide +kernel
theorem dX11_greys_175 : decode cX11_greys 175 = .ok (.invokevirtual 273, 3) := by decide +kernel
theorem dX11_greys_178 : decode cX11_greys 178 = .ok (.aload_n 0, 1) := by decide +kernel
theorem dX11_greys_179 : decode cX11_greys 179 = .ok (.aload_n 0, 1) := by decide +kernel
theorem dX11_greys_180 : decode cX11_greys 180 = .ok (.iload 5, 2) := by decide +kernel
theorem dX11_greys_182 : decode cX11_greys 182 = .ok (.invokevirtual 397, 3) := by decide +kernel
theorem dX11_greys_185 : decode cX11_greys 185 = .ok (.i2l, 1) := by decide +kernel
theorem dX11_greys_186 : decode cX11_greys 186 = .ok (.invokevirtual 273, 3) := by decide +kernel
theorem dX11_greys_189 : decode cX11_greys 189 = .ok (.iload_n 3, 1) := by decide +kernel
theorem dX11_greys_190 : decode cX11_greys 190 = .ok (.ireturn, 1) := by decide +kernel
theorem dX11_spanOf_0 : decode cX11_spanOf 0 = .ok (.aload_n 0, 1) := by decide +kernel
theorem dX11_spanOf_1 : decode cX11_spanOf 1 = .ok (.getfield 27, 3) := by decide +kernel
theorem dX11_spanOf_4 : decode cX11_spanOf 4 = .ok (.iconst 3, 1) := by decide +kernel
theorem dX11_spanOf_5 : decode cX11_spanOf 5 = .ok (.iload_n 1, 1) := by decide +kernel
theorem dX11_spanOf_6 : decode cX11_spanOf 6 = .ok (.imul, 1) := by decide +kernel
theorem dX11_spanOf_7 : decode cX11_spanOf 7 = .ok (.iaload, 1) := by decide +kernel
theorem dX11_spanOf_8 : decode cX11_spanOf 8 = .ok (.istore_n 2, 1) := by decide +kernel
theorem dX11_spanOf_9 : decode cX11_spanOf 9 = .ok (.aload_n 0, 1) := by decide +kernel
theorem dX11_spanOf_10 : decode cX11_spanOf 10 = .ok (.getfield 27, 3) := by decide +kernel
theorem dX11_spanOf_13 : decode cX11_spanOf 13 = .ok (.iconst 3, 1) := by decide +kernel
theorem dX11_spanOf_14 : decode cX11_spanOf 14 = .ok (.iload_n 1, 1) := by decide +kernel
theorem dX11_spanOf_15 : decode cX11_spanOf 15 = .ok (.imul, 1) := by decide +kernel
theorem dX11_spanOf_16 : decode cX11_spanOf 16 = .ok (.iconst 1, 1) := by decide +kernel
theorem dX11_spanOf_17 : decode cX11_spanOf 17 = .ok (.iadd, 1) := by decide +kernel
theorem dX11_spanOf_18 : decode cX11_spanOf 18 = .ok (.iaload, 1) := by decide +kernel
theorem dX11_spanOf_19 : decode cX11_spanOf 19 = .ok (.istore_n 3, 1) := by decide +kernel
theorem dX11_spanOf_20 : decode cX11_spanOf 20 = .ok (.aload_n 0, 1) := by decide +kernel
theorem dX11_spanOf_21 : decode cX11_spanOf 21 = .ok (.getfield 27, 3) := by decide +kernel
theorem dX11_spanOf_24 : decode cX11_spanOf 24 = .ok (.iconst 3, 1) := by decide +kernel
theorem dX11_spanOf_25 : decode cX11_spanOf 25 = .ok (.iload_n 1, 1) := by decide +kernel
theorem dX11_spanOf_26 : decode cX11_spanOf 26 = .ok (.imul, 1) := by decide +kernel
theorem dX11_spanOf_27 : decode cX11_spanOf 27 = .ok (.iconst 2, 1) := by decide +kernel
theorem dX11_spanOf_28 : decode cX11_spanOf 28 = .ok (.iadd, 1) := by decide +kernel
theorem dX11_spanOf_29 : decode cX11_spanOf 29 = .ok (.iaload, 1) := by decide +kernel
theorem dX11_spanOf_30 : decode cX11_spanOf 30 = .ok (.istore 4, 2) := by decide +kernel
theorem dX11_spanOf_32 : decode cX11_spanOf 32 = .ok (.iload_n 2, 1) := by decide +kernel
theorem dX11_spanOf_33 : decode cX11_spanOf 33 = .ok (.iload_n 3, 1) := by decide +kernel
theorem dX11_spanOf_34 : decode cX11_spanOf 34 = .ok (.iload 4, 2) := by decide +kernel
theorem dX11_spanOf_36 : decode cX11_spanOf 36 = .ok (.invokestatic 239, 3) := by decide +kernel
theorem dX11_spanOf_39 : decode cX11_spanOf 39 = .ok (.invokestatic 239, 3) := by decide +kernel
theorem dX11_spanOf_42 : decode cX11_spanOf 42 = .ok (.iload_n 2, 1) := by decide +kernel
theorem dX11_spanOf_43 : decode cX11_spanOf 43 = .ok (.iload_n 3, 1) := by decide +kernel
theorem dX11_spanOf_44 : decode cX11_spanOf 44 = .ok (.iload 4, 2) := by decide +kernel
theorem dX11_spanOf_46 : decode cX11_spanOf 46 = .ok (.invokestatic 223, 3) := by decide +kernel
theorem dX11_spanOf_49 : decode cX11_spanOf 49 = .ok (.invokestatic 223, 3) := by decide +kernel
theorem dX11_spanOf_52 : decode cX11_spanOf 52 = .ok (.isub, 1) := by decide +kernel
theorem dX11_spanOf_53 : decode cX11_spanOf 53 = .ok (.ireturn, 1) := by decide +kernel
theorem dX11_sumOf_0 : decode cX11_sumOf 0 = .ok (.aload_n 0, 1) := by decide +kernel
theorem dX11_sumOf_1 : decode cX11_sumOf 1 = .ok (.getfield 27, 3) := by decide +kernel
theorem dX11_sumOf_4 : decode cX11_sumOf 4 = .ok (.iconst 3, 1) := by decide +kernel
theorem dX11_sumOf_5 : decode cX11_sumOf 5 = .ok (.iload_n 1, 1) := by decide +kernel
theorem dX11_sumOf_6 : decode cX11_sumOf 6 = .ok (.imul, 1) := by decide +kernel
theorem dX11_sumOf_7 : decode cX11_sumOf 7 = .ok (.iaload, 1) := by decide +kernel
theorem dX11_sumOf_8 : decode cX11_sumOf 8 = .ok (.aload_n 0, 1) := by decide +kernel
theorem dX11_sumOf_9 : decode cX11_sumOf 9 = .ok (.getfield 27, 3) := by decide +kernel
theorem dX11_sumOf_12 : decode cX11_sumOf 12 = .ok (.iconst 3, 1) := by decide +kernel
theorem dX11_sumOf_13 : decode cX11_sumOf 13 = .ok (.iload_n 1, 1) := by decide +kernel
theorem dX11_sumOf_14 : decode cX11_sumOf 14 = .ok (.imul, 1) := by decide +kernel
theorem dX11_sumOf_15 : decode cX11_sumOf 15 = .ok (.iconst 1, 1) := by decide +kernel
theorem dX11_sumOf_16 : decode cX11_sumOf 16 = .ok (.iadd, 1) := by decide +kernel
theorem dX11_sumOf_17 : decode cX11_sumOf 17 = .ok (.iaload, 1) := by decide +kernel
theorem dX11_sumOf_18 : decode cX11_sumOf 18 = .ok (.iadd, 1) := by decide +kernel
theorem dX11_sumOf_19 : decode cX11_sumOf 19 = .ok (.aload_n 0, 1) := by decide +kernel
theorem dX11_sumOf_20 : decode cX11_sumOf 20 = .ok (.getfield 27, 3) := by decide +kernel
theorem dX11_sumOf_23 : decode cX11_sumOf 23 = .ok (.iconst 3, 1) := by decide +kernel
theorem dX11_sumOf_24 : decode cX11_sumOf 24 = .ok (.iload_n 1, 1) := by decide +kernel
theorem dX11_sumOf_25 : decode cX11_sumOf 25 = .ok (.imul, 1) := by decide +kernel
theorem dX11_sumOf_26 : decode cX11_sumOf 26 = .ok (.iconst 2, 1) := by decide +kernel
theorem dX11_sumOf_27 : decode cX11_sumOf 27 = .ok (.iadd, 1) := by decide +kernel
theorem dX11_sumOf_28 : decode cX11_sumOf 28 = .ok (.iaload, 1) := by decide +kernel
theorem dX11_sumOf_29 : decode cX11_sumOf 29 = .ok (.iadd, 1) := by decide +kernel
theorem dX11_sumOf_30 : decode cX11_sumOf 30 = .ok (.ireturn, 1) := by decide +kernel
theorem dX11_rankOf_0 : decode cX11_rankOf 0 = .ok (.iload_n 1, 1) := by decide +kernel
theorem dX11_rankOf_1 : decode cX11_rankOf 1 = .ok (.iconst 3, 1) := by decide +kernel
theorem dX11_rankOf_2 : decode cX11_rankOf 2 = .ok (.invokestatic 119, 3) := by decide +kernel
theorem dX11_rankOf_5 : decode cX11_rankOf 5 = .ok (.istore_n 2, 1) := by decide +kernel
theorem dX11_rankOf_6 : decode cX11_rankOf 6 = .ok (.iload_n 1, 1) := by decide +kernel
theorem dX11_rankOf_7 : decode cX11_rankOf 7 = .ok (.invokestatic 259, 3) := by decide +kernel
theorem dX11_rankOf_10 : decode cX11_rankOf 10 = .ok (.istore_n 3, 1) := by decide +kernel
theorem dX11_rankOf_11 : decode cX11_rankOf 11 = .ok (.iload_n 0, 1) := by decide +kernel
theorem dX11_rankOf_12 : decode cX11_rankOf 12 = .ok (.ifCond .ne 15, 3) := by decide +kernel
theorem dX11_rankOf_15 : decode cX11_rankOf 15 = .ok (.bipush 100, 2) := by decide +kernel
theorem dX11_rankOf_17 : decode cX11_rankOf 17 = .ok (.bipush 8, 2) := by decide +kernel
theorem dX11_rankOf_19 : decode cX11_rankOf 19 = .ok (.iload_n 2, 1) := by decide +kernel
theorem dX11_rankOf_20 : decode cX11_rankOf 20 = .ok (.isub, 1) := by decide +kernel
theorem dX11_rankOf_21 : decode cX11_rankOf 21 = .ok (.imul, 1) := by decide +kernel
theorem dX11_rankOf_22 : decode cX11_rankOf 22 = .ok (.iload_n 3, 1) := by decide +kernel
theorem dX11_rankOf_23 : decode cX11_rankOf 23 = .ok (.iadd, 1) := by decide +kernel
theorem dX11_rankOf_24 : decode cX11_rankOf 24 = .ok (.goto 26, 3) := by decide +kernel
theorem dX11_rankOf_27 : decode cX11_rankOf 27 = .ok (.iload_n 0, 1) := by decide +kernel
theorem dX11_rankOf_28 : decode cX11_rankOf 28 = .ok (.iconst 1, 1) := by decide +kernel
theorem dX11_rankOf_29 : decode cX11_rankOf 29 = .ok (.if_icmp .ne 15, 3) := by decide +kernel
theorem dX11_rankOf_32 : decode cX11_rankOf 32 = .ok (.bipush 100, 2) := by decide +kernel
theorem dX11_rankOf_34 : decode cX11_rankOf 34 = .ok (.iload_n 3, 1) := by decide +kernel
theorem dX11_rankOf_35 : decode cX11_rankOf 35 = .ok (.imul, 1) := by decide +kernel
theorem dX11_rankOf_36 : decode cX11_rankOf 36 = .ok (.bipush 8, 2) := by decide +kernel
theorem dX11_rankOf_38 : decode cX11_rankOf 38 = .ok (.iadd, 1) := by decide +kernel
theorem dX11_rankOf_39 : decode cX11_rankOf 39 = .ok (.iload_n 2, 1) := by decide +kernel
theorem dX11_rankOf_40 : decode cX11_rankOf 40 = .ok (.isub, 1) := by decide +kernel
theorem dX11_rankOf_41 : decode cX11_rankOf 41 = .ok (.goto 9, 3) := by decide +kernel
theorem dX11_rankOf_44 : decode cX11_rankOf 44 = .ok (.bipush 100, 2) := by decide +kernel
theorem dX11_rankOf_46 : decode cX11_rankOf 46 = .ok (.iload_n 2, 1) := by decide +kernel
theorem dX11_rankOf_47 : decode cX11_rankOf 47 = .ok (.imul, 1) := by decide +kernel
theorem dX11_rankOf_48 : decode cX11_rankOf 48 = .ok (.iload_n 3, 1) := by decide +kernel
theorem dX11_rankOf_49 : decode cX11_rankOf 49 = .ok (.iadd, 1) := by decide +kernel
theorem dX11_rankOf_50 : decode cX11_rankOf 50 = .ok (.ireturn, 1) := by decide +kernel
theorem dX11_replaces_0 : decode cX11_replaces 0 = .ok (.aload_n 0, 1) := by decide +kernel
theorem dX11_replaces_1 : decode cX11_replaces 1 = .ok (.iconst 0, 1) := by decide +kernel
theorem dX11_replaces_2 : decode cX11_replaces 2 = .ok (.putfield 105, 3) := by decide +kernel
theorem dX11_replaces_5 : decode cX11_replaces 5 = .ok (.iload_n 1, 1) := by decide +kernel
theorem dX11_replaces_6 : decode cX11_replaces 6 = .ok (.iconst 0, 1) := by decide +kernel
theorem dX11_replaces_7 : decode cX11_replaces 7 = .ok (.iconst 2, 1) := by decide +kernel
theorem dX11_replaces_8 : decode cX11_replaces 8 = .ok (.invokestatic 112, 3) := by decide +kernel
theorem dX11_replaces_11 : decode cX11_replaces 11 = .ok (.ifCond .eq 10, 3) := by decide +kernel
theorem dX11_replaces_14 : decode cX11_replaces 14 = .ok (.iload_n 2, 1) := by decide +kernel
theorem dX11_replaces_15 : decode cX11_replaces 15 = .ok (.invokestatic 270, 3) := by decide +kernel
theorem dX11_replaces_18 : decode cX11_replaces 18 = .ok (.ifCond .ne 5, 3) := by decide +kernel
theorem dX11_replaces_21 : decode cX11_replaces 21 = .ok (.iconst (-1), 1) := by decide +kernel
theorem dX11_replaces_22 : decode cX11_replaces 22 = .ok (.ireturn, 1) := by decide +kernel
theorem dX11_replaces_23 : decode cX11_replaces 23 = .ok (.aload_n 0, 1) := by decide +kernel
theorem dX11_replaces_24 : decode cX11_replaces 24 = .ok (.aload_n 0, 1) := by decide +kernel
theorem dX11_replaces_25 : decode cX11_replaces 25 = .ok (.getfield 9, 3) := by decide +kernel
theorem dX11_replaces_28 : decode cX11_replaces 28 = .ok (.invokevirtual 308, 3) := by decide +kernel
theorem dX11_replaces_31 : decode cX11_replaces 31 = .ok (.iconst 0, 1) := by decide +kernel
theorem dX11_replaces_32 : decode cX11_replaces 32 = .ok (.istore 4, 2) := by decide +kernel
theorem dX11_replaces_34 : decode cX11_replaces 34 = .ok (.iconst (-1), 1) := by decide +kernel
theorem dX11_replaces_35 : decode cX11_replaces 35 = .ok (.istore 5, 2) := by decide +kernel
theorem dX11_replaces_37 : decode cX11_replaces 37 = .ok (.iconst 0, 1) := by decide +kernel
theorem dX11_replaces_38 : decode cX11_replaces 38 = .ok (.istore 6, 2) := by decide +kernel
theorem dX11_replaces_40 : decode cX11_replaces 40 = .ok (.iload 6, 2) := by decide +kernel
theorem dX11_replaces_42 : decode cX11_replaces 42 = .ok (.sipush 6561, 3) := by decide +kernel
theorem dX11_replaces_45 : decode cX11_replaces 45 = .ok (.if_icmp .ge 72, 3) := by decide +kernel
theorem dX11_replaces_48 : decode cX11_replaces 48 = .ok (.aload_n 0, 1) := by decide +kernel
theorem dX11_replaces_49 : decode cX11_replaces 49 = .ok (.iload 6, 2) := by decide +kernel
theorem dX11_replaces_51 : decode cX11_replaces 51 = .ok (.invokestatic 101, 3) := by decide +kernel
theorem dX11_replaces_54 : decode cX11_replaces 54 = .ok (.invokevirtual 256, 3) := by decide +kernel
theorem dX11_replaces_57 : decode cX11_replaces 57 = .ok (.ifCond .eq 54, 3) := by decide +kernel
theorem dX11_replaces_60 : decode cX11_replaces 60 = .ok (.aload_n 0, 1) := by decide +kernel
theorem dX11_replaces_61 : decode cX11_replaces 61 = .ok (.iload 6, 2) := by decide +kernel
theorem dX11_replaces_63 : decode cX11_replaces 63 = .ok (.iload_n 2, 1) := by decide +kernel
theorem dX11_replaces_64 : decode cX11_replaces 64 = .ok (.invokestatic 314, 3) := by decide +kernel
theorem dX11_replaces_67 : decode cX11_replaces 67 = .ok (.invokevirtual 355, 3) := by decide +kernel
theorem dX11_replaces_70 : decode cX11_replaces 70 = .ok (.iload_n 3, 1) := by decide +kernel
theorem dX11_replaces_71 : decode cX11_replaces 71 = .ok (.if_icmp .le 6, 3) := by decide +kernel
theorem dX11_replaces_74 : decode cX11_replaces 74 = .ok (.goto 37, 3) := by decide +kernel
theorem dX11_replaces_77 : decode cX11_replaces 77 = .ok (.iinc 4 1, 3) := by decide +kernel
theorem dX11_replaces_80 : decode cX11_replaces 80 = .ok (.iload 5, 2) := by decide +kernel
theorem dX11_replaces_82 : decode cX11_replaces 82 = .ok (.iconst (-1), 1) := by decide +kernel
theorem dX11_replaces_83 : decode cX11_replaces 83 = .ok (.if_icmp .eq 21, 3) := by decide +kernel
theorem dX11_replaces_86 : decode cX11_replaces 86 = .ok (.iload_n 1, 1) := by decide +kernel
theorem dX11_replaces_87 : decode cX11_replaces 87 = .ok (.iload 6, 2) := by decide +kernel
theorem dX11_replaces_89 : decode cX11_replaces 89 = .ok (.invokestatic 101, 3) := by decide +kernel
theorem dX11_replaces_92 : decode cX11_replaces 92 = .ok (.invokestatic 400, 3) := by decide +kernel
theorem dX11_replaces_95 : decode cX11_replaces 95 = .ok (.iload_n 1, 1) := by decide +kernel
theorem dX11_replaces_96 : decode cX11_replaces 96 = .ok (.iload 5, 2) := by decide +kernel
theorem dX11_replaces_98 : decode cX11_replaces 98 = .ok (.invokestatic 400, 3) := by decide +kernel
theorem dX11_replaces_101 : decode cX11_replaces 101 = .ok (.if_icmp .ge 10, 3) := by decide +kernel
theorem dX11_replaces_104 : decode cX11_replaces 104 = .ok (.iload 6, 2) := by decide +kernel
theorem dX11_replaces_106 : decode cX11_replaces 106 = .ok (.invokestatic 101, 3) := by decide +kernel
theorem dX11_replaces_109 : decode cX11_replaces 109 = .ok (.istore 5, 2) := by decide +kernel
theorem dX11_replaces_111 : decode cX11_replaces 111 = .ok (.iinc 6 1, 3) := by decide +kernel
theorem dX11_replaces_114 : decode cX11_replaces 114 = .ok (.goto (-74), 3) := by decide +kernel
theorem dX11_replaces_117 : decode cX11_replaces 117 = .ok (.iload 4, 2) := by decide +kernel
theorem dX11_replaces_119 : decode cX11_replaces 119 = .ok (.ifCond .ne 6, 3) := by decide +kernel
theorem dX11_replaces_122 : decode cX11_replaces 122 = .ok (.bipush (-2), 2) := by decide +kernel
theorem dX11_replaces_124 : decode cX11_replaces 124 = .ok (.ireturn, 1) := by decide +kernel
theorem dX11_replaces_125 : decode cX11_replaces 125 = .ok (.aload_n 0, 1) := by decide +kernel
theorem dX11_replaces_126 : decode cX11_replaces 126 = .ok (.iconst 0, 1) := by decide +kernel
theorem dX11_replaces_127 : decode cX11_replaces 127 = .ok (.putfield 109, 3) := by decide +kernel
theorem dX11_replaces_130 : decode cX11_replaces 130 = .ok (.aload_n 0, 1) := by decide +kernel
theorem dX11_replaces_131 : decode cX11_replaces 131 = .ok (.iload 4, 2) := by decide +kernel
theorem dX11_replaces_133 : decode cX11_replaces 133 = .ok (.i2l, 1) := by decide +kernel
theorem dX11_replaces_134 : decode cX11_replaces 134 = .ok (.invokevirtual 273, 3) := by decide +kernel
theorem dX11_replaces_137 : decode cX11_replaces 137 = .ok (.iload 5, 2) := by decide +kernel
theorem dX11_replaces_139 : decode cX11_replaces 139 = .ok (.ireturn, 1) := by decide +kernel
theorem dX11_doubt_0 : decode cX11_doubt 0 = .ok (.aload_n 0, 1) := by decide +kernel
theorem dX11_doubt_1 : decode cX11_doubt 1 = .ok (.iconst 0, 1) := by decide +kernel
theorem dX11_doubt_2 : decode cX11_doubt 2 = .ok (.putfield 105, 3) := by decide +kernel
theorem dX11_doubt_5 : decode cX11_doubt 5 = .ok (.iconst (-1), 1) := by decide +kernel
theorem dX11_doubt_6 : decode cX11_doubt 6 = .ok (.istore_n 1, 1) := by decide +kernel
theorem dX11_doubt_7 : decode cX11_doubt 7 = .ok (.iconst 0, 1) := by decide +kernel
theorem dX11_doubt_8 : decode cX11_doubt 8 = .ok (.istore_n 2, 1) := by decide +kernel
theorem dX11_doubt_9 : decode cX11_doubt 9 = .ok (.iconst 0, 1) := by decide +kernel
theorem dX11_doubt_10 : decode cX11_doubt 10 = .ok (.istore_n 3, 1) := by decide +kernel
theorem dX11_doubt_11 : decode cX11_doubt 11 = .ok (.iload_n 3, 1) := by decide +kernel
theorem dX11_doubt_12 : decode cX11_doubt 12 = .ok (.bipush 81, 2) := by decide +kernel
theorem dX11_doubt_14 : decode cX11_doubt 14 = .ok (.if_icmp .ge 108, 3) := by decide +kernel
theorem dX11_doubt_17 : decode cX11_doubt 17 = .ok (.aload_n 0, 1) := by decide +kernel
theorem dX11_doubt_18 : decode cX11_doubt 18 = .ok (.getfield 9, 3) := by decide +kernel
theorem dX11_doubt_21 : decode cX11_doubt 21 = .ok (.sipush 243, 3) := by decide +kernel
theorem dX11_doubt_24 : decode cX11_doubt 24 = .ok (.iload_n 3, 1) := by decide +kernel
theorem dX11_doubt_25 : decode cX11_doubt 25 = .ok (.iadd, 1) := by decide +kernel
theorem dX11_doubt_26 : decode cX11_doubt 26 = .ok (.iaload, 1) := by decide +kernel
theorem dX11_doubt_27 : decode cX11_doubt 27 = .ok (.ifCond .ne 6, 3) := by decide +kernel
theorem dX11_doubt_30 : decode cX11_doubt 30 = .ok (.goto 86, 3) := by decide +kernel
theorem dX11_doubt_33 : decode cX11_doubt 33 = .ok (.iconst 0, 1) := by decide +kernel
theorem dX11_doubt_34 : decode cX11_doubt 34 = .ok (.istore 4, 2) := by decide +kernel
theorem dX11_doubt_36 : decode cX11_doubt 36 = .ok (.iconst 0, 1) := by decide +kernel
theorem dX11_doubt_37 : decode cX11_doubt 37 = .ok (.istore 5, 2) := by decide +kernel
theorem dX11_doubt_39 : decode cX11_doubt 39 = .ok (.iload 5, 2) := by decide +kernel
theorem dX11_doubt_41 : decode cX11_doubt 41 = .ok (.iconst 3, 1) := by decide +kernel
theorem dX11_doubt_42 : decode cX11_doubt 42 = .ok (.if_icmp .ge 55, 3) := by decide +kernel
theorem dX11_doubt_45 : decode cX11_doubt 45 = .ok (.aload_n 0, 1) := by decide +kernel
theorem dX11_doubt_46 : decode cX11_doubt 46 = .ok (.getfield 9, 3) := by decide +kernel
theorem dX11_doubt_49 : decode cX11_doubt 49 = .ok (.iconst 3, 1) := by decide +kernel
theorem dX11_doubt_50 : decode cX11_doubt 50 = .ok (.iload_n 3, 1) := by decide +kernel
theorem dX11_doubt_51 : decode cX11_doubt 51 = .ok (.imul, 1) := by decide +kernel
theorem dX11_doubt_52 : decode cX11_doubt 52 = .ok (.iload 5, 2) := by decide +kernel
theorem dX11_doubt_54 : decode cX11_doubt 54 = .ok (.iadd, 1) := by decide +kernel
theorem dX11_doubt_55 : decode cX11_doubt 55 = .ok (.iaload, 1) := by decide +kernel
theorem dX11_doubt_56 : decode cX11_doubt 56 = .ok (.aload_n 0, 1) := by decide +kernel
theorem dX11_doubt_57 : decode cX11_doubt 57 = .ok (.getfield 9, 3) := by decide +kernel
theorem dX11_doubt_60 : decode cX11_doubt 60 = .ok (.iload_n 3, 1) := by decide +kernel
theorem dX11_doubt_61 : decode cX11_doubt 61 = .ok (.iload 5, 2) := by decide +kernel
theorem dX11_doubt_63 : decode cX11_doubt 63 = .ok (.invokestatic 226, 3) := by decide +kernel
theorem dX11_doubt_66 : decode cX11_doubt 66 = .ok (.isub, 1) := by decide +kernel
theorem dX11_doubt_67 : decode cX11_doubt 67 = .ok (.istore 6, 2) := by decide +kernel
theorem dX11_doubt_69 : decode cX11_doubt 69 = .ok (.iload 4, 2) := by decide +kernel
theorem dX11_doubt_71 : decode cX11_doubt 71 = .ok (.aload_n 0, 1) := by decide +kernel
theorem dX11_doubt_72 : decode cX11_doubt 72 = .ok (.getfield 9, 3) := by decide +kernel
theorem dX11_doubt_75 : decode cX11_doubt 75 = .ok (.sipush 708, 3) := by decide +kernel
theorem dX11_doubt_78 : decode cX11_doubt 78 = .ok (.iload 5, 2) := by decide +kernel
theorem dX11_doubt_80 : decode cX11_doubt 80 = .ok (.iadd, 1) := by decide +kernel
theorem dX11_doubt_81 : decode cX11_doubt 81 = .ok (.iaload, 1) := by decide +kernel
theorem dX11_doubt_82 : decode cX11_doubt 82 = .ok (.iload 6, 2) := by decide +kernel
theorem dX11_doubt_84 : decode cX11_doubt 84 = .ok (.imul, 1) := by decide +kernel
theorem dX11_doubt_85 : decode cX11_doubt 85 = .ok (.iload 6, 2) := by decide +kernel
theorem dX11_doubt_87 : decode cX11_doubt 87 = .ok (.imul, 1) := by decide +kernel
theorem dX11_doubt_88 : decode cX11_doubt 88 = .ok (.iadd, 1) := by decide +kernel
theorem dX11_doubt_89 : decode cX11_doubt 89 = .ok (.istore 4, 2) := by decide +kernel
theorem dX11_doubt_91 : decode cX11_doubt 91 = .ok (.iinc 5 1, 3) := by decide +kernel
theorem dX11_doubt_94 : decode cX11_doubt 94 = .ok (.goto (-55), 3) := by decide +kernel
theorem dX11_doubt_97 : decode cX11_doubt 97 = .ok (.iload_n 1, 1) := by decide +kernel
theorem dX11_doubt_98 : decode cX11_doubt 98 = .ok (.iconst (-1), 1) := by decide +kernel
theorem dX11_doubt_99 : decode cX11_doubt 99 = .ok (.if_icmp .eq 12, 3) := by decide +kernel
theorem dX11_doubt_102 : decode cX11_doubt 102 = .ok (.iload 4, 2) := by decide +kernel
theorem dX11_doubt_104 : decode cX11_doubt 104 = .ok (.iload_n 2, 1) := by decide +kernel
theorem dX11_doubt_105 : decode cX11_doubt 105 = .ok (.if_icmp .gt 6, 3) := by decide +kernel
theorem dX11_doubt_108 : decode cX11_doubt 108 = .ok (.goto 8, 3) := by decide +kernel
theorem dX11_doubt_111 : decode cX11_doubt 111 = .ok (.iload_n 3, 1) := by decide +kernel
theorem dX11_doubt_112 : decode cX11_doubt 112 = .ok (.istore_n 1, 1) := by decide +kernel
theorem dX11_doubt_113 : decode cX11_doubt 113 = .ok (.iload 4, 2) := by decide +kernel
theorem dX11_doubt_115 : decode cX11_doubt 115 = .ok (.istore_n 2, 1) := by decide +kernel
theorem dX11_doubt_116 : decode cX11_doubt 116 = .ok (.iinc 3 1, 3) := by decide +kernel
theorem dX11_doubt_119 : decode cX11_doubt 119 = .ok (.goto (-108), 3) := by decide +kernel
theorem dX11_doubt_122 : decode cX11_doubt 122 = .ok (.iload_n 1, 1) := by decide +kernel
theorem dX11_doubt_123 : decode cX11_doubt 123 = .ok (.iconst (-1), 1) := by decide +kernel
theorem dX11_doubt_124 : decode cX11_doubt 124 = .ok (.if_icmp .ne 6, 3) := by decide +kernel
theorem dX11_doubt_127 : decode cX11_doubt 127 = .ok (.bipush (-2), 2) := by decide +kernel
theorem dX11_doubt_129 : decode cX11_doubt 129 = .ok (.ireturn, 1) := by decide +kernel
theorem dX11_doubt_130 : decode cX11_doubt 130 = .ok (.aload_n 0, 1) := by decide +kernel
theorem dX11_doubt_131 : decode cX11_doubt 131 = .ok (.iconst 0, 1) := by decide +kernel
theorem dX11_doubt_132 : decode cX11_doubt 132 = .ok (.putfield 109, 3) := by decide +kernel
theorem dX11_doubt_135 : decode cX11_doubt 135 = .ok (.aload_n 0, 1) := by decide +kernel
theorem dX11_doubt_136 : decode cX11_doubt 136 = .ok (.iload_n 2, 1) := by decide +kernel
theorem dX11_doubt_137 : decode cX11_doubt 137 = .ok (.i2l, 1) := by decide +kernel
theorem dX11_doubt_138 : decode cX11_doubt 138 = .ok (.invokevirtual 273, 3) := by decide +kernel
theorem dX11_doubt_141 : decode cX11_doubt 141 = .ok (.iload_n 1, 1) := by decide +kernel
theorem dX11_doubt_142 : decode cX11_doubt 142 = .ok (.ireturn, 1) := by decide +kernel
theorem dX11_asks_0 : decode cX11_asks 0 = .ok (.aload_n 0, 1) := by decide +kernel
theorem dX11_asks_1 : decode cX11_asks 1 = .ok (.iconst 0, 1) := by decide +kernel
theorem dX11_asks_2 : decode cX11_asks 2 = .ok (.putfield 105, 3) := by decide +kernel
theorem dX11_asks_5 : decode cX11_asks 5 = .ok (.iconst 0, 1) := by decide +kernel
theorem dX11_asks_6 : decode cX11_asks 6 = .ok (.istore_n 1, 1) := by decide +kernel
theorem dX11_asks_7 : decode cX11_asks 7 = .ok (.iload_n 1, 1) := by decide +kernel
theorem dX11_asks_8 : decode cX11_asks 8 = .ok (.bipush 81, 2) := by decide +kernel
theorem dX11_asks_10 : decode cX11_asks 10 = .ok (.if_icmp .ge 16, 3) := by decide +kernel
theorem dX11_asks_13 : decode cX11_asks 13 = .ok (.aload_n 0, 1) := by decide +kernel
theorem dX11_asks_14 : decode cX11_asks 14 = .ok (.getfield 69, 3) := by decide +kernel
theorem dX11_asks_17 : decode cX11_asks 17 = .ok (.iload_n 1, 1) := by decide +kernel
theorem dX11_asks_18 : decode cX11_asks 18 = .ok (.iconst 0, 1) := by decide +kernel
theorem dX11_asks_19 : decode cX11_asks 19 = .ok (.iastore, 1) := by decide +kernel
theorem dX11_asks_20 : decode cX11_asks 20 = .ok (.iinc 1 1, 3) := by decide +kernel
theorem dX11_asks_23 : decode cX11_asks 23 = .ok (.goto (-16), 3) := by decide +kernel
theorem dX11_asks_26 : decode cX11_asks 26 = .ok (.iconst 0, 1) := by decide +kernel
theorem dX11_asks_27 : decode cX11_asks 27 = .ok (.istore_n 1, 1) := by decide +kernel
theorem dX11_asks_28 : decode cX11_asks 28 = .ok (.iload_n 1, 1) := by decide +kernel
theorem dX11_asks_29 : decode cX11_asks 29 = .ok (.sipush 6561, 3) := by decide +kernel
theorem dX11_asks_32 : decode cX11_asks 32 = .ok (.if_icmp .ge 68, 3) := by decide +kernel
theorem dX11_asks_35 : decode cX11_asks 35 = .ok (.aload_n 0, 1) := by decide +kernel
theorem dX11_asks_36 : decode cX11_asks 36 = .ok (.iload_n 1, 1) := by decide +kernel
theorem dX11_asks_37 : decode cX11_asks 37 = .ok (.invokestatic 101, 3) := by decide +kernel
theorem dX11_asks_40 : decode cX11_asks 40 = .ok (.invokevirtual 256, 3) := by decide +kernel
theorem dX11_asks_43 : decode cX11_asks 43 = .ok (.ifCond .ne 6, 3) := by decide +kernel
theorem dX11_asks_46 : decode cX11_asks 46 = .ok (.goto 48, 3) := by decide +kernel
theorem dX11_asks_49 : decode cX11_asks 49 = .ok (.aload_n 0, 1) := by decide +kernel
theorem dX11_asks_50 : decode cX11_asks 50 = .ok (.iload_n 1, 1) := by decide +kernel
theorem dX11_asks_51 : decode cX11_asks 51 = .ok (.invokestatic 101, 3) := by decide +kernel
theorem dX11_asks_54 : decode cX11_asks 54 = .ok (.invokevirtual 242, 3) := by decide +kernel
theorem dX11_asks_57 : decode cX11_asks 57 = .ok (.iconst 0, 1) := by decide +kernel
theorem dX11_asks_58 : decode cX11_asks 58 = .ok (.istore_n 2, 1) := by decide +kernel
theorem dX11_asks_59 : decode cX11_asks 59 = .ok (.iload_n 2, 1) := by decide +kernel
theorem dX11_asks_60 : decode cX11_asks 60 = .ok (.iconst 4, 1) := by decide +kernel
theorem dX11_asks_61 : decode cX11_asks 61 = .ok (.if_icmp .gt 33, 3) := by decide +kernel
theorem dX11_asks_64 : decode cX11_asks 64 = .ok (.aload_n 0, 1) := by decide +kernel
theorem dX11_asks_65 : decode cX11_asks 65 = .ok (.getfield 33, 3) := by decide +kernel
theorem dX11_asks_68 : decode cX11_asks 68 = .ok (.iload_n 2, 1) := by decide +kernel
theorem dX11_asks_69 : decode cX11_asks 69 = .ok (.iaload, 1) := by decide +kernel
theorem dX11_asks_70 : decode cX11_asks 70 = .ok (.ifCond .le 18, 3) := by decide +kernel
theorem dX11_asks_73 : decode cX11_asks 73 = .ok (.aload_n 0, 1) := by decide +kernel
theorem dX11_asks_74 : decode cX11_asks 74 = .ok (.getfield 69, 3) := by decide +kernel
theorem dX11_asks_77 : decode cX11_asks 77 = .ok (.aload_n 0, 1) := by decide +kernel
theorem dX11_asks_78 : decode cX11_asks 78 = .ok (.getfield 30, 3) := by decide +kernel
theorem dX11_asks_81 : decode cX11_asks 81 = .ok (.iload_n 2, 1) := by decide +kernel
theorem dX11_asks_82 : decode cX11_asks 82 = .ok (.iaload, 1) := by decide +kernel
theorem dX11_asks_83 : decode cX11_asks 83 = .ok (.dup2, 1) := by decide +kernel
theorem dX11_asks_84 : decode cX11_asks 84 = .ok (.iaload, 1) := by decide +kernel
theorem dX11_asks_85 : decode cX11_asks 85 = .ok (.iconst 1, 1) := by decide +kernel
theorem dX11_asks_86 : decode cX11_asks 86 = .ok (.iadd, 1) := by decide +kernel
theorem dX11_asks_87 : decode cX11_asks 87 = .ok (.iastore, 1) := by decide +kernel
theorem dX11_asks_88 : decode cX11_asks 88 = .ok (.iinc 2 1, 3) := by decide +kernel
theorem dX11_asks_91 : decode cX11_asks 91 = .ok (.goto (-32), 3) := by decide +kernel
theorem dX11_asks_94 : decode cX11_asks 94 = .ok (.iinc 1 1, 3) := by decide +kernel
theorem dX11_asks_97 : decode cX11_asks 97 = .ok (.goto (-69), 3) := by decide +kernel
theorem dX11_asks_100 : decode cX11_asks 100 = .ok (.iconst (-1), 1) := by decide +kernel
theorem dX11_asks_101 : decode cX11_asks 101 = .ok (.istore_n 1, 1) := by decide +kernel
theorem dX11_asks_102 : decode cX11_asks 102 = .ok (.iconst 0, 1) := by decide +kernel
theorem dX11_asks_103 : decode cX11_asks 103 = .ok (.istore_n 2, 1) := by decide +kernel
theorem dX11_asks_104 : decode cX11_asks 104 = .ok (.iload_n 2, 1) := by decide +kernel
theorem dX11_asks_105 : decode cX11_asks 105 = .ok (.bipush 81, 2) := by decide +kernel
theorem dX11_asks_107 : decode cX11_asks 107 = .ok (.if_icmp .ge 55, 3) := by decide +kernel
theorem dX11_asks_110 : decode cX11_asks 110 = .ok (.iload_n 2, 1) := by decide +kernel
theorem dX11_asks_111 : decode cX11_asks 111 = .ok (.invokestatic 165, 3) := by decide +kernel
theorem dX11_asks_114 : decode cX11_asks 114 = .ok (.ifCond .ne 42, 3) := by decide +kernel
theorem dX11_asks_117 : decode cX11_asks 117 = .ok (.aload_n 0, 1) := by decide +kernel
theorem dX11_asks_118 : decode cX11_asks 118 = .ok (.getfield 9, 3) := by decide +kernel
theorem dX11_asks_121 : decode cX11_asks 121 = .ok (.sipush 243, 3) := by decide +kernel
theorem dX11_asks_124 : decode cX11_asks 124 = .ok (.iload_n 2, 1) := by decide +kernel
theorem dX11_asks_125 : decode cX11_asks 125 = .ok (.iadd, 1) := by decide +kernel
theorem dX11_asks_126 : decode cX11_asks 126 = .ok (.iaload, 1) := by decide +kernel
theorem dX11_asks_127 : decode cX11_asks 127 = .ok (.iconst 1, 1) := by decide +kernel
theorem dX11_asks_128 : decode cX11_asks 128 = .ok (.if_icmp .ne 6, 3) := by decide +kernel
theorem dX11_asks_131 : decode cX11_asks 131 = .ok (.goto 25, 3) := by decide +kernel
theorem dX11_asks_134 : decode cX11_asks 134 = .ok (.iload_n 1, 1) := by decide +kernel
theorem dX11_asks_135 : decode cX11_asks 135 = .ok (.iconst (-1), 1) := by decide +kernel
theorem dX11_asks_136 : decode cX11_asks 136 = .ok (.if_icmp .eq 18, 3) := by decide +kernel
theorem dX11_asks_139 : decode cX11_asks 139 = .ok (.aload_n 0, 1) := by decide +kernel
theorem dX11_asks_140 : decode cX11_asks 140 = .ok (.getfield 69, 3) := by decide +kernel
theorem dX11_asks_143 : decode cX11_asks 143 = .ok (.iload_n 2, 1) := by decide +kernel
theorem dX11_asks_144 : decode cX11_asks 144 = .ok (.iaload, 1) := by decide +kernel
theorem dX11_asks_145 : decode cX11_asks 145 = .ok (.aload_n 0, 1) := by decide +kernel
theorem dX11_asks_146 : decode cX11_asks 146 = .ok (.getfield 69, 3) := by decide +kernel
theorem dX11_asks_149 : decode cX11_asks 149 = .ok (.iload_n 1, 1) := by decide +kernel
theorem dX11_asks_150 : decode cX11_asks 150 = .ok (.iaload, 1) := by decide +kernel
theorem dX11_asks_151 : decode cX11_asks 151 = .ok (.if_icmp .le 5, 3) := by decide +kernel
theorem dX11_asks_154 : decode cX11_asks 154 = .ok (.iload_n 2, 1) := by decide +kernel
theorem dX11_asks_155 : decode cX11_asks 155 = .ok (.istore_n 1, 1) := by decide +kernel
theorem dX11_asks_156 : decode cX11_asks 156 = .ok (.iinc 2 1, 3) := by decide +kernel
theorem dX11_asks_159 : decode cX11_asks 159 = .ok (.goto (-55), 3) := by decide +kernel
theorem dX11_asks_162 : decode cX11_asks 162 = .ok (.iload_n 1, 1) := by decide +kernel
theorem dX11_asks_163 : decode cX11_asks 163 = .ok (.iconst (-1), 1) := by decide +kernel
theorem dX11_asks_164 : decode cX11_asks 164 = .ok (.if_icmp .ne 6, 3) := by decide +kernel
theorem dX11_asks_167 : decode cX11_asks 167 = .ok (.bipush (-2), 2) := by decide +kernel
theorem dX11_asks_169 : decode cX11_asks 169 = .ok (.ireturn, 1) := by decide +kernel
theorem dX11_asks_170 : decode cX11_asks 170 = .ok (.aload_n 0, 1) := by decide +kernel
theorem dX11_asks_171 : decode cX11_asks 171 = .ok (.iconst 0, 1) := by decide +kernel
theorem dX11_asks_172 : decode cX11_asks 172 = .ok (.putfield 109, 3) := by decide +kernel
theorem dX11_asks_175 : decode cX11_asks 175 = .ok (.aload_n 0, 1) := by decide +kernel
theorem dX11_asks_176 : decode cX11_asks 176 = .ok (.aload_n 0, 1) := by decide +kernel
theorem dX11_asks_177 : decode cX11_asks 177 = .ok (.getfield 69, 3) := by decide +kernel
theorem dX11_asks_180 : decode cX11_asks 180 = .ok (.iload_n 1, 1) := by decide +kernel
theorem dX11_asks_181 : decode cX11_asks 181 = .ok (.iaload, 1) := by decide +kernel
theorem dX11_asks_182 : decode cX11_asks 182 = .ok (.i2l, 1) := by decide +kernel
theorem dX11_asks_183 : decode cX11_asks 183 = .ok (.invokevirtual 273, 3) := by decide +kernel
theorem dX11_asks_186 : decode cX11_asks 186 = .ok (.iload_n 1, 1) := by decide +kernel
theorem dX11_asks_187 : decode cX11_asks 187 = .ok (.ireturn, 1) := by decide +kernel
theorem dX11_layTheirs_0 : decode cX11_layTheirs 0 = .ok (.iconst 0, 1) := by decide +kernel
theorem dX11_layTheirs_1 : decode cX11_layTheirs 1 = .ok (.istore_n 2, 1) := by decide +kernel
theorem dX11_layTheirs_2 : decode cX11_layTheirs 2 = .ok (.iload_n 2, 1) := by decide +kernel
theorem dX11_layTheirs_3 : decode cX11_layTheirs 3 = .ok (.sipush 711, 3) := by decide +kernel
theorem dX11_layTheirs_6 : decode cX11_layTheirs 6 = .ok (.if_icmp .ge 27, 3) := by decide +kernel
theorem dX11_layTheirs_9 : decode cX11_layTheirs 9 = .ok (.aload_n 0, 1) := by decide +kernel
theorem dX11_layTheirs_10 : decode cX11_layTheirs 10 = .ok (.getfield 78, 3) := by decide +kernel
theorem dX11_layTheirs_13 : decode cX11_layTheirs 13 = .ok (.iload_n 2, 1) := by decide +kernel
theorem dX11_layTheirs_14 : decode cX11_layTheirs 14 = .ok (.aload_n 0, 1) := by decide +kernel
theorem dX11_layTheirs_15 : decode cX11_layTheirs 15 = .ok (.getfield 87, 3) := by decide +kernel
theorem dX11_layTheirs_18 : decode cX11_layTheirs 18 = .ok (.sipush 711, 3) := by decide +kernel
theorem dX11_layTheirs_21 : decode cX11_layTheirs 21 = .ok (.iload_n 1, 1) := by decide +kernel
theorem dX11_layTheirs_22 : decode cX11_layTheirs 22 = .ok (.imul, 1) := by decide +kernel
theorem dX11_layTheirs_23 : decode cX11_layTheirs 23 = .ok (.iload_n 2, 1) := by decide +kernel
theorem dX11_layTheirs_24 : decode cX11_layTheirs 24 = .ok (.iadd, 1) := by decide +kernel
theorem dX11_layTheirs_25 : decode cX11_layTheirs 25 = .ok (.iaload, 1) := by decide +kernel
theorem dX11_layTheirs_26 : decode cX11_layTheirs 26 = .ok (.iastore, 1) := by decide +kernel
theorem dX11_layTheirs_27 : decode cX11_layTheirs 27 = .ok (.iinc 2 1, 3) := by decide +kernel
theorem dX11_layTheirs_30 : decode cX11_layTheirs 30 = .ok (.goto (-28), 3) := by decide +kernel
theorem dX11_layTheirs_33 : decode cX11_layTheirs 33 = .ok (.aload_n 0, 1) := by decide +kernel
theorem dX11_layTheirs_34 : decode cX11_layTheirs 34 = .ok (.aload_n 0, 1) := by decide +kernel
theorem dX11_layTheirs_35 : decode cX11_layTheirs 35 = .ok (.getfield 78, 3) := by decide +kernel
theorem dX11_layTheirs_38 : decode cX11_layTheirs 38 = .ok (.invokevirtual 308, 3) := by decide +kernel
theorem dX11_layTheirs_41 : decode cX11_layTheirs 41 = .ok (.iconst 0, 1) := by decide +kernel
theorem dX11_layTheirs_42 : decode cX11_layTheirs 42 = .ok (.istore_n 2, 1) := by decide +kernel
theorem dX11_layTheirs_43 : decode cX11_layTheirs 43 = .ok (.iload_n 2, 1) := by decide +kernel
theorem dX11_layTheirs_44 : decode cX11_layTheirs 44 = .ok (.aload_n 0, 1) := by decide +kernel
theorem dX11_layTheirs_45 : decode cX11_layTheirs 45 = .ok (.getfield 72, 3) := by decide +kernel
theorem dX11_layTheirs_48 : decode cX11_layTheirs 48 = .ok (.arraylength, 1) := by decide +kernel
theorem dX11_layTheirs_49 : decode cX11_layTheirs 49 = .ok (.if_icmp .ge 21, 3) := by decide +kernel
theorem dX11_layTheirs_52 : decode cX11_layTheirs 52 = .ok (.aload_n 0, 1) := by decide +kernel
theorem dX11_layTheirs_53 : decode cX11_layTheirs 53 = .ok (.getfield 72, 3) := by decide +kernel
theorem dX11_layTheirs_56 : decode cX11_layTheirs 56 = .ok (.iload_n 2, 1) := by decide +kernel
theorem dX11_layTheirs_57 : decode cX11_layTheirs 57 = .ok (.aload_n 0, 1) := by decide +kernel
theorem dX11_layTheirs_58 : decode cX11_layTheirs 58 = .ok (.getfield 27, 3) := by decide +kernel
theorem dX11_layTheirs_61 : decode cX11_layTheirs 61 = .ok (.iload_n 2, 1) := by decide +kernel
theorem dX11_layTheirs_62 : decode cX11_layTheirs 62 = .ok (.iaload, 1) := by decide +kernel
theorem dX11_layTheirs_63 : decode cX11_layTheirs 63 = .ok (.iastore, 1) := by decide +kernel
theorem dX11_layTheirs_64 : decode cX11_layTheirs 64 = .ok (.iinc 2 1, 3) := by decide +kernel
theorem dX11_layTheirs_67 : decode cX11_layTheirs 67 = .ok (.goto (-24), 3) := by decide +kernel
theorem dX11_layTheirs_70 : decode cX11_layTheirs 70 = .ok (.return_, 1) := by decide +kernel
theorem dX11_other_0 : decode cX11_other 0 = .ok (.aload_n 0, 1) := by decide +kernel
theorem dX11_other_1 : decode cX11_other 1 = .ok (.iconst 0, 1) := by decide +kernel
theorem dX11_other_2 : decode cX11_other 2 = .ok (.putfield 105, 3) := by decide +kernel
theorem dX11_other_5 : decode cX11_other 5 = .ok (.iload_n 1, 1) := by decide +kernel
theorem dX11_other_6 : decode cX11_other 6 = .ok (.iconst 0, 1) := by decide +kernel
theorem dX11_other_7 : decode cX11_other 7 = .ok (.iconst 1, 1) := by decide +kernel
theorem dX11_other_8 : decode cX11_other 8 = .ok (.invokestatic 112, 3) := by decide +kernel
theorem dX11_other_11 : decode cX11_other 11 = .ok (.ifCond .ne 5, 3) := by decide +kernel
theorem dX11_other_14 : decode cX11_other 14 = .ok (.iconst (-1), 1) := by decide +kernel
theorem dX11_other_15 : decode cX11_other 15 = .ok (.ireturn, 1) := by decide +kernel
theorem dX11_other_16 : decode cX11_other 16 = .ok (.aload_n 0, 1) := by decide +kernel
theorem dX11_other_17 : decode cX11_other 17 = .ok (.getfield 90, 3) := by decide +kernel
theorem dX11_other_20 : decode cX11_other 20 = .ok (.iload_n 1, 1) := by decide +kernel
theorem dX11_other_21 : decode cX11_other 21 = .ok (.baload, 1) := by decide +kernel
theorem dX11_other_22 : decode cX11_other 22 = .ok (.ifCond .ne 6, 3) := by decide +kernel
theorem dX11_other_25 : decode cX11_other 25 = .ok (.bipush (-2), 2) := by decide +kernel
theorem dX11_other_27 : decode cX11_other 27 = .ok (.ireturn, 1) := by decide +kernel
theorem dX11_other_28 : decode cX11_other 28 = .ok (.aload_n 0, 1) := by decide +kernel
theorem dX11_other_29 : decode cX11_other 29 = .ok (.iload_n 1, 1) := by decide +kernel
theorem dX11_other_30 : decode cX11_other 30 = .ok (.invokevirtual 403, 3) := by decide +kernel
theorem dX11_other_33 : decode cX11_other 33 = .ok (.aload_n 0, 1) := by decide +kernel
theorem dX11_other_34 : decode cX11_other 34 = .ok (.aload_n 0, 1) := by decide +kernel
theorem dX11_other_35 : decode cX11_other 35 = .ok (.getfield 9, 3) := by decide +kernel
theorem dX11_other_38 : decode cX11_other 38 = .ok (.invokevirtual 308, 3) := by decide +kernel
theorem dX11_other_41 : decode cX11_other 41 = .ok (.iconst 0, 1) := by decide +kernel
theorem dX11_other_42 : decode cX11_other 42 = .ok (.istore_n 2, 1) := by decide +kernel
theorem dX11_other_43 : decode cX11_other 43 = .ok (.iconst 0, 1) := by decide +kernel
theorem dX11_other_44 : decode cX11_other 44 = .ok (.istore_n 3, 1) := by decide +kernel
theorem dX11_other_45 : decode cX11_other 45 = .ok (.iconst 0, 1) := by decide +kernel
theorem dX11_other_46 : decode cX11_other 46 = .ok (.istore 4, 2) := by decide +kernel
theorem dX11_other_48 : decode cX11_other 48 = .ok (.iconst 0, 1) := by decide +kernel
theorem dX11_other_49 : decode cX11_other 49 = .ok (.istore 5, 2) := by decide +kernel
theorem dX11_other_51 : decode cX11_other 51 = .ok (.iload 5, 2) := by decide +kernel
theorem dX11_other_53 : decode cX11_other 53 = .ok (.sipush 6561, 3) := by decide +kernel
theorem dX11_other_56 : decode cX11_other 56 = .ok (.if_icmp .ge 87, 3) := by decide +kernel
theorem dX11_other_59 : decode cX11_other 59 = .ok (.aload_n 0, 1) := by decide +kernel
theorem dX11_other_60 : decode cX11_other 60 = .ok (.iload 5, 2) := by decide +kernel
theorem dX11_other_62 : decode cX11_other 62 = .ok (.invokestatic 101, 3) := by decide +kernel
theorem dX11_other_65 : decode cX11_other 65 = .ok (.invokevirtual 256, 3) := by decide +kernel
theorem dX11_other_68 : decode cX11_other 68 = .ok (.ifCond .ne 6, 3) := by decide +kernel
theorem dX11_other_71 : decode cX11_other 71 = .ok (.goto 66, 3) := by decide +kernel
theorem dX11_other_74 : decode cX11_other 74 = .ok (.aload_n 0, 1) := by decide +kernel
theorem dX11_other_75 : decode cX11_other 75 = .ok (.iload 5, 2) := by decide +kernel
theorem dX11_other_77 : decode cX11_other 77 = .ok (.aload_n 0, 1) := by decide +kernel
theorem dX11_other_78 : decode cX11_other 78 = .ok (.getfield 72, 3) := by decide +kernel
theorem dX11_other_81 : decode cX11_other 81 = .ok (.iconst 3, 1) := by decide +kernel
theorem dX11_other_82 : decode cX11_other 82 = .ok (.iload 5, 2) := by decide +kernel
theorem dX11_other_84 : decode cX11_other 84 = .ok (.imul, 1) := by decide +kernel
theorem dX11_other_85 : decode cX11_other 85 = .ok (.iaload, 1) := by decide +kernel
theorem dX11_other_86 : decode cX11_other 86 = .ok (.aload_n 0, 1) := by decide +kernel
theorem dX11_other_87 : decode cX11_other 87 = .ok (.getfield 72, 3) := by decide +kernel
theorem dX11_other_90 : decode cX11_other 90 = .ok (.iconst 3, 1) := by decide +kernel
theorem dX11_other_91 : decode cX11_other 91 = .ok (.iload 5, 2) := by decide +kernel
theorem dX11_other_93 : decode cX11_other 93 = .ok (.imul, 1) := by decide +kernel
theorem dX11_other_94 : decode cX11_other 94 = .ok (.iconst 1, 1) := by decide +kernel
theorem dX11_other_95 : decode cX11_other 95 = .ok (.iadd, 1) := by decide +kernel
theorem dX11_other_96 : decode cX11_other 96 = .ok (.iaload, 1) := by decide +kernel
theorem dX11_other_97 : decode cX11_other 97 = .ok (.aload_n 0, 1) := by decide +kernel
theorem dX11_other_98 : decode cX11_other 98 = .ok (.getfield 72, 3) := by decide +kernel
theorem dX11_other_101 : decode cX11_other 101 = .ok (.iconst 3, 1) := by decide +kernel
theorem dX11_other_102 : decode cX11_other 102 = .ok (.iload 5, 2) := by decide +kernel
theorem dX11_other_104 : decode cX11_other 104 = .ok (.imul, 1) := by decide +kernel
theorem dX11_other_105 : decode cX11_other 105 = .ok (.iconst 2, 1) := by decide +kernel
theorem dX11_other_106 : decode cX11_other 106 = .ok (.iadd, 1) := by decide +kernel
theorem dX11_other_107 : decode cX11_other 107 = .ok (.iaload, 1) := by decide +kernel
theorem dX11_other_108 : decode cX11_other 108 = .ok (.invokevirtual 266, 3) := by decide +kernel
theorem dX11_other_111 : decode cX11_other 111 = .ok (.istore 6, 2) := by decide +kernel
theorem dX11_other_113 : decode cX11_other 113 = .ok (.iload 6, 2) := by decide +kernel
theorem dX11_other_115 : decode cX11_other 115 = .ok (.ifCond .le 6, 3) := by decide +kernel
theorem dX11_other_118 : decode cX11_other 118 = .ok (.iinc 2 1, 3) := by decide +kernel
theorem dX11_other_121 : decode cX11_other 121 = .ok (.iload 6, 2) := by decide +kernel
theorem dX11_other_123 : decode cX11_other 123 = .ok (.iload_n 3, 1) := by decide +kernel
theorem dX11_other_124 : decode cX11_other 124 = .ok (.if_icmp .le 13, 3) := by decide +kernel
theorem dX11_other_127 : decode cX11_other 127 = .ok (.iload 6, 2) := by decide +kernel
theorem dX11_other_129 : decode cX11_other 129 = .ok (.istore_n 3, 1) := by decide +kernel
theorem dX11_other_130 : decode cX11_other 130 = .ok (.iload 5, 2) := by decide +kernel
theorem dX11_other_132 : decode cX11_other 132 = .ok (.invokestatic 101, 3) := by decide +kernel
theorem dX11_other_135 : decode cX11_other 135 = .ok (.istore 4, 2) := by decide +kernel
theorem dX11_other_137 : decode cX11_other 137 = .ok (.iinc 5 1, 3) := by decide +kernel
theorem dX11_other_140 : decode cX11_other 140 = .ok (.goto (-89), 3) := by decide +kernel
theorem dX11_other_143 : decode cX11_other 143 = .ok (.aload_n 0, 1) := by decide +kernel
theorem dX11_other_144 : decode cX11_other 144 = .ok (.iconst 0, 1) := by decide +kernel
theorem dX11_other_145 : decode cX11_other 145 = .ok (.putfield 109, 3) := by decide +kernel
theorem dX11_other_148 : decode cX11_other 148 = .ok (.iload_n 2, 1) := by decide +kernel
theorem dX11_other_149 : decode cX11_other 149 = .ok (.ifCond .le 16, 3) := by decide +kernel
theorem dX11_other_152 : decode cX11_other 152 = .ok (.aload_n 0, 1) := by decide +kernel
theorem dX11_other_153 : decode cX11_other 153 = .ok (.iload_n 3, 1) := by decide +kernel
theorem dX11_other_154 : decode cX11_other 154 = .ok (.i2l, 1) := by decide +kernel
theorem dX11_other_155 : decode cX11_other 155 = .ok (.invokevirtual 273, 3) := by decide +kernel
theorem dX11_other_158 : decode cX11_other 158 = .ok (.aload_n 0, 1) := by decide +kernel
theorem dX11_other_159 : decode cX11_other 159 = .ok (.iload 4, 2) := by decide +kernel
theorem dX11_other_161 : decode cX11_other 161 = .ok (.i2l, 1) := by decide +kernel
theorem dX11_other_162 : decode cX11_other 162 = .ok (.invokevirtual 273, 3) := by decide +kernel
theorem dX11_other_165 : decode cX11_other 165 = .ok (.iload_n 2, 1) := by decide +kernel
theorem dX11_other_166 : decode cX11_other 166 = .ok (.ireturn, 1) := by decide +kernel
theorem dX11_carry_0 : decode cX11_carry 0 = .ok (.aload_n 0, 1) := by decide +kernel
theorem dX11_carry_1 : decode cX11_carry 1 = .ok (.iconst 0, 1) := by decide +kernel
theorem dX11_carry_2 : decode cX11_carry 2 = .ok (.putfield 105, 3) := by decide +kernel
theorem dX11_carry_5 : decode cX11_carry 5 = .ok (.iload_n 1, 1) := by decide +kernel
theorem dX11_carry_6 : decode cX11_carry 6 = .ok (.iconst 0, 1) := by decide +kernel
theorem dX11_carry_7 : decode cX11_carry 7 = .ok (.iconst 1, 1) := by decide +kernel
theorem dX11_carry_8 : decode cX11_carry 8 = .ok (.invokestatic 112, 3) := by decide +kernel
theorem dX11_carry_11 : decode cX11_carry 11 = .ok (.ifCond .eq 10, 3) := by decide +kernel
theorem dX11_carry_14 : decode cX11_carry 14 = .ok (.iload_n 2, 1) := by decide +kernel
theorem dX11_carry_15 : decode cX11_carry 15 = .ok (.invokestatic 270, 3) := by decide +kernel
theorem dX11_carry_18 : decode cX11_carry 18 = .ok (.ifCond .ne 5, 3) := by decide +kernel
theorem dX11_carry_21 : decode cX11_carry 21 = .ok (.iconst (-1), 1) := by decide +kernel
theorem dX11_carry_22 : decode cX11_carry 22 = .ok (.ireturn, 1) := by decide +kernel
theorem dX11_carry_23 : decode cX11_carry 23 = .ok (.aload_n 0, 1) := by decide +kernel
theorem dX11_carry_24 : decode cX11_carry 24 = .ok (.getfield 90, 3) := by decide +kernel
theorem dX11_carry_27 : decode cX11_carry 27 = .ok (.iload_n 1, 1) := by decide +kernel
theorem dX11_carry_28 : decode cX11_carry 28 = .ok (.baload, 1) := by decide +kernel
theorem dX11_carry_29 : decode cX11_carry 29 = .ok (.ifCond .ne 6, 3) := by decide +kernel
theorem dX11_carry_32 : decode cX11_carry 32 = .ok (.bipush (-2), 2) := by decide +kernel
theorem dX11_carry_34 : decode cX11_carry 34 = .ok (.ireturn, 1) := by decide +kernel
theorem dX11_carry_35 : decode cX11_carry 35 = .ok (.aload_n 0, 1) := by decide +kernel
theorem dX11_carry_36 : decode cX11_carry 36 = .ok (.iload_n 1, 1) := by decide +kernel
theorem dX11_carry_37 : decode cX11_carry 37 = .ok (.invokevirtual 403, 3) := by decide +kernel
theorem dX11_carry_40 : decode cX11_carry 40 = .ok (.aload_n 0, 1) := by decide +kernel
theorem dX11_carry_41 : decode cX11_carry 41 = .ok (.aload_n 0, 1) := by decide +kernel
theorem dX11_carry_42 : decode cX11_carry 42 = .ok (.getfield 9, 3) := by decide +kernel
theorem dX11_carry_45 : decode cX11_carry 45 = .ok (.invokevirtual 308, 3) := by decide +kernel
theorem dX11_carry_48 : decode cX11_carry 48 = .ok (.iconst 3, 1) := by decide +kernel
theorem dX11_carry_49 : decode cX11_carry 49 = .ok (.iload_n 2, 1) := by decide +kernel
theorem dX11_carry_50 : decode cX11_carry 50 = .ok (.invokestatic 314, 3) := by decide +kernel
theorem dX11_carry_53 : decode cX11_carry 53 = .ok (.imul, 1) := by decide +kernel
theorem dX11_carry_54 : decode cX11_carry 54 = .ok (.istore_n 3, 1) := by decide +kernel
theorem dX11_carry_55 : decode cX11_carry 55 = .ok (.aload_n 0, 1) := by decide +kernel
theorem dX11_carry_56 : decode cX11_carry 56 = .ok (.aload_n 0, 1) := by decide +kernel
theorem dX11_carry_57 : decode cX11_carry 57 = .ok (.getfield 72, 3) := by decide +kernel
theorem dX11_carry_60 : decode cX11_carry 60 = .ok (.iload_n 3, 1) := by decide +kernel
theorem dX11_carry_61 : decode cX11_carry 61 = .ok (.iaload, 1) := by decide +kernel
theorem dX11_carry_62 : decode cX11_carry 62 = .ok (.aload_n 0, 1) := by decide +kernel
theorem dX11_carry_63 : decode cX11_carry 63 = .ok (.getfield 72, 3) := by decide +kernel
theorem dX11_carry_66 : decode cX11_carry 66 = .ok (.iload_n 3, 1) := by decide +kernel
theorem dX11_carry_67 : decode cX11_carry 67 = .ok (.iconst 1, 1) := by decide +kernel
theorem dX11_carry_68 : decode cX11_carry 68 = .ok (.iadd, 1) := by decide +kernel
theorem dX11_carry_69 : decode cX11_carry 69 = .ok (.iaload, 1) := by decide +kernel
theorem dX11_carry_70 : decode cX11_carry 70 = .ok (.aload_n 0, 1) := by decide +kernel
theorem dX11_carry_71 : decode cX11_carry 71 = .ok (.getfield 72, 3) := by decide +kernel
theorem dX11_carry_74 : decode cX11_carry 74 = .ok (.iload_n 3, 1) := by decide +kernel
theorem dX11_carry_75 : decode cX11_carry 75 = .ok (.iconst 2, 1) := by decide +kernel
theorem dX11_carry_76 : decode cX11_carry 76 = .ok (.iadd, 1) := by decide +kernel
theorem dX11_carry_77 : decode cX11_carry 77 = .ok (.iaload, 1) := by decide +kernel
theorem dX11_carry_78 : decode cX11_carry 78 = .ok (.invokevirtual 311, 3) := by decide +kernel
theorem dX11_carry_81 : decode cX11_carry 81 = .ok (.istore 4, 2) := by decide +kernel
theorem dX11_carry_83 : decode cX11_carry 83 = .ok (.aload_n 0, 1) := by decide +kernel
theorem dX11_carry_84 : decode cX11_carry 84 = .ok (.iconst 0, 1) := by decide +kernel
theorem dX11_carry_85 : decode cX11_carry 85 = .ok (.putfield 109, 3) := by decide +kernel
theorem dX11_carry_88 : decode cX11_carry 88 = .ok (.aload_n 0, 1) := by decide +kernel
theorem dX11_carry_89 : decode cX11_carry 89 = .ok (.aload_n 0, 1) := by decide +kernel
theorem dX11_carry_90 : decode cX11_carry 90 = .ok (.iload 4, 2) := by decide +kernel
theorem dX11_carry_92 : decode cX11_carry 92 = .ok (.invokestatic 314, 3) := by decide +kernel
theorem dX11_carry_95 : decode cX11_carry 95 = .ok (.aload_n 0, 1) := by decide +kernel
theorem dX11_carry_96 : decode cX11_carry 96 = .ok (.getfield 72, 3) := by decide +kernel
theorem dX11_carry_99 : decode cX11_carry 99 = .ok (.iload_n 3, 1) := by decide +kernel
theorem dX11_carry_100 : decode cX11_carry 100 = .ok (.iaload, 1) := by decide +kernel
theorem dX11_carry_101 : decode cX11_carry 101 = .ok (.aload_n 0, 1) := by decide +kernel
theorem dX11_carry_102 : decode cX11_carry 102 = .ok (.getfield 72, 3) := by decide +kernel
theorem dX11_carry_105 : decode cX11_carry 105 = .ok (.iload_n 3, 1) := by decide +kernel
theorem dX11_carry_106 : decode cX11_carry 106 = .ok (.iconst 1, 1) := by decide +kernel
theorem dX11_carry_107 : decode cX11_carry 107 = .ok (.iadd, 1) := by decide +kernel
theorem dX11_carry_108 : decode cX11_carry 108 = .ok (.iaload, 1) := by decide +kernel
theorem dX11_carry_109 : decode cX11_carry 109 = .ok (.aload_n 0, 1) := by decide +kernel
theorem dX11_carry_110 : decode cX11_carry 110 = .ok (.getfield 72, 3) := by decide +kernel
theorem dX11_carry_113 : decode cX11_carry 113 = .ok (.iload_n 3, 1) := by decide +kernel
theorem dX11_carry_114 : decode cX11_carry 114 = .ok (.iconst 2, 1) := by decide +kernel
theorem dX11_carry_115 : decode cX11_carry 115 = .ok (.iadd, 1) := by decide +kernel
theorem dX11_carry_116 : decode cX11_carry 116 = .ok (.iaload, 1) := by decide +kernel
theorem dX11_carry_117 : decode cX11_carry 117 = .ok (.invokevirtual 266, 3) := by decide +kernel
theorem dX11_carry_120 : decode cX11_carry 120 = .ok (.i2l, 1) := by decide +kernel
theorem dX11_carry_121 : decode cX11_carry 121 = .ok (.invokevirtual 273, 3) := by decide +kernel
theorem dX11_carry_124 : decode cX11_carry 124 = .ok (.iload 4, 2) := by decide +kernel
theorem dX11_carry_126 : decode cX11_carry 126 = .ok (.ireturn, 1) := by decide +kernel
theorem dX11_draw_0 : decode cX11_draw 0 = .ok (.aload_n 0, 1) := by decide +kernel
theorem dX11_draw_1 : decode cX11_draw 1 = .ok (.aload_n 0, 1) := by decide +kernel
theorem dX11_draw_2 : decode cX11_draw 2 = .ok (.getfield 406, 3) := by decide +kernel
theorem dX11_draw_5 : decode cX11_draw 5 = .ok (.ldc_w 409, 3) := by decide +kernel
theorem dX11_draw_8 : decode cX11_draw 8 = .ok (.imul, 1) := by decide +kernel
theorem dX11_draw_9 : decode cX11_draw 9 = .ok (.sipush 12345, 3) := by decide +kernel
theorem dX11_draw_12 : decode cX11_draw 12 = .ok (.iadd, 1) := by decide +kernel
theorem dX11_draw_13 : decode cX11_draw 13 = .ok (.putfield 406, 3) := by decide +kernel
theorem dX11_draw_16 : decode cX11_draw 16 = .ok (.aload_n 0, 1) := by decide +kernel
theorem dX11_draw_17 : decode cX11_draw 17 = .ok (.getfield 406, 3) := by decide +kernel
theorem dX11_draw_20 : decode cX11_draw 20 = .ok (.bipush 16, 2) := by decide +kernel
theorem dX11_draw_22 : decode cX11_draw 22 = .ok (.iushr, 1) := by decide +kernel
theorem dX11_draw_23 : decode cX11_draw 23 = .ok (.iload_n 1, 1) := by decide +kernel
theorem dX11_draw_24 : decode cX11_draw 24 = .ok (.irem, 1) := by decide +kernel
theorem dX11_draw_25 : decode cX11_draw 25 = .ok (.ireturn, 1) := by decide +kernel
theorem dX11_drifts_0 : decode cX11_drifts 0 = .ok (.aload_n 0, 1) := by decide +kernel
theorem dX11_drifts_1 : decode cX11_drifts 1 = .ok (.iconst 0, 1) := by decide +kernel
theorem dX11_drifts_2 : decode cX11_drifts 2 = .ok (.putfield 105, 3) := by decide +kernel
theorem dX11_drifts_5 : decode cX11_drifts 5 = .ok (.iload_n 2, 1) := by decide +kernel
theorem dX11_drifts_6 : decode cX11_drifts 6 = .ok (.iconst 1, 1) := by decide +kernel
theorem dX11_drifts_7 : decode cX11_drifts 7 = .ok (.bipush 40, 2) := by decide +kernel
theorem dX11_drifts_9 : decode cX11_drifts 9 = .ok (.invokestatic 112, 3) := by decide +kernel
theorem dX11_drifts_12 : decode cX11_drifts 12 = .ok (.ifCond .ne 5, 3) := by decide +kernel
theorem dX11_drifts_15 : decode cX11_drifts 15 = .ok (.iconst (-1), 1) := by decide +kernel
theorem dX11_drifts_16 : decode cX11_drifts 16 = .ok (.ireturn, 1) := by decide +kernel
theorem dX11_drifts_17 : decode cX11_drifts 17 = .ok (.aload_n 0, 1) := by decide +kernel
theorem dX11_drifts_18 : decode cX11_drifts 18 = .ok (.iload_n 1, 1) := by decide +kernel
theorem dX11_drifts_19 : decode cX11_drifts 19 = .ok (.putfield 406, 3) := by decide +kernel
theorem dX11_drifts_22 : decode cX11_drifts 22 = .ok (.iconst 0, 1) := by decide +kernel
theorem dX11_drifts_23 : decode cX11_drifts 23 = .ok (.istore_n 3, 1) := by decide +kernel
theorem dX11_drifts_24 : decode cX11_drifts 24 = .ok (.iload_n 3, 1) := by decide +kernel
theorem dX11_drifts_25 : decode cX11_drifts 25 = .ok (.sipush 711, 3) := by decide +kernel
theorem dX11_drifts_28 : decode cX11_drifts 28 = .ok (.if_icmp .ge 21, 3) := by decide +kernel
theorem dX11_drifts_31 : decode cX11_drifts 31 = .ok (.aload_n 0, 1) := by decide +kernel
theorem dX11_drifts_32 : decode cX11_drifts 32 = .ok (.getfield 78, 3) := by decide +kernel
theorem dX11_drifts_35 : decode cX11_drifts 35 = .ok (.iload_n 3, 1) := by decide +kernel
theorem dX11_drifts_36 : decode cX11_drifts 36 = .ok (.aload_n 0, 1) := by decide +kernel
theorem dX11_drifts_37 : decode cX11_drifts 37 = .ok (.getfield 9, 3) := by decide +kernel
theorem dX11_drifts_40 : decode cX11_drifts 40 = .ok (.iload_n 3, 1) := by decide +kernel
theorem dX11_drifts_41 : decode cX11_drifts 41 = .ok (.iaload, 1) := by decide +kernel
theorem dX11_drifts_42 : decode cX11_drifts 42 = .ok (.iastore, 1) := by decide +kernel
theorem dX11_drifts_43 : decode cX11_drifts 43 = .ok (.iinc 3 1, 3) := by decide +kernel
theorem dX11_drifts_46 : decode cX11_drifts 46 = .ok (.goto (-22), 3) := by decide +kernel
theorem dX11_drifts_49 : decode cX11_drifts 49 = .ok (.iconst 0, 1) := by decide +kernel
theorem dX11_drifts_50 : decode cX11_drifts 50 = .ok (.istore_n 3, 1) := by decide +kernel
theorem dX11_drifts_51 : decode cX11_drifts 51 = .ok (.iload_n 3, 1) := by decide +kernel
theorem dX11_drifts_52 : decode cX11_drifts 52 = .ok (.iload_n 2, 1) := by decide +kernel
theorem dX11_drifts_53 : decode cX11_drifts 53 = .ok (.if_icmp .ge 81, 3) := by decide +kernel
theorem dX11_drifts_56 : decode cX11_drifts 56 = .ok (.aload_n 0, 1) := by decide +kernel
theorem dX11_drifts_57 : decode cX11_drifts 57 = .ok (.iconst 4, 1) := by decide +kernel
theorem dX11_drifts_58 : decode cX11_drifts 58 = .ok (.invokevirtual 410, 3) := by decide +kernel
theorem dX11_drifts_61 : decode cX11_drifts 61 = .ok (.istore 4, 2) := by decide +kernel
theorem dX11_drifts_63 : decode cX11_drifts 63 = .ok (.aload_n 0, 1) := by decide +kernel
theorem dX11_drifts_64 : decode cX11_drifts 64 = .ok (.iconst 2, 1) := by decide +kernel
theorem dX11_drifts_65 : decode cX11_drifts 65 = .ok (.invokevirtual 410, 3) := by decide +kernel
theorem dX11_drifts_68 : decode cX11_drifts 68 = .ok (.iconst 1, 1) := by decide +kernel
theorem dX11_drifts_69 : decode cX11_drifts 69 = .ok (.iadd, 1) := by decide +kernel
theorem dX11_drifts_70 : decode cX11_drifts 70 = .ok (.istore 5, 2) := by decide +kernel
theorem dX11_drifts_72 : decode cX11_drifts 72 = .ok (.aload_n 0, 1) := by decide +kernel
theorem dX11_drifts_73 : decode cX11_drifts 73 = .ok (.iconst 3, 1) := by decide +kernel
theorem dX11_drifts_74 : decode cX11_drifts 74 = .ok (.invokevirtual 410, 3) := by decide +kernel
theorem dX11_drifts_77 : decode cX11_drifts 77 = .ok (.istore 6, 2) := by decide +kernel
theorem dX11_drifts_79 : decode cX11_drifts 79 = .ok (.iconst 3, 1) := by decide +kernel
theorem dX11_drifts_80 : decode cX11_drifts 80 = .ok (.iload 5, 2) := by decide +kernel
theorem dX11_drifts_82 : decode cX11_drifts 82 = .ok (.imul, 1) := by decide +kernel
theorem dX11_drifts_83 : decode cX11_drifts 83 = .ok (.getstatic 94, 3) := by decide +kernel
theorem dX11_drifts_86 : decode cX11_drifts 86 = .ok (.iload 4, 2) := by decide +kernel
theorem dX11_drifts_88 : decode cX11_drifts 88 = .ok (.iaload, 1) := by decide +kernel
theorem dX11_drifts_89 : decode cX11_drifts 89 = .ok (.imul, 1) := by decide +kernel
theorem dX11_drifts_90 : decode cX11_drifts 90 = .ok (.iload 6, 2) := by decide +kernel
theorem dX11_drifts_92 : decode cX11_drifts 92 = .ok (.iadd, 1) := by decide +kernel
theorem dX11_drifts_93 : decode cX11_drifts 93 = .ok (.istore 7, 2) := by decide +kernel
theorem dX11_drifts_95 : decode cX11_drifts 95 = .ok (.aload_n 0, 1) := by decide +kernel
theorem dX11_drifts_96 : decode cX11_drifts 96 = .ok (.getfield 78, 3) := by decide +kernel
theorem dX11_drifts_99 : decode cX11_drifts 99 = .ok (.iload 7, 2) := by decide +kernel
theorem dX11_drifts_101 : decode cX11_drifts 101 = .ok (.iconst 0, 1) := by decide +kernel
theorem dX11_drifts_102 : decode cX11_drifts 102 = .ok (.bipush 100, 2) := by decide +kernel
theorem dX11_drifts_104 : decode cX11_drifts 104 = .ok (.aload_n 0, 1) := by decide +kernel
theorem dX11_drifts_105 : decode cX11_drifts 105 = .ok (.getfield 78, 3) := by decide +kernel
theorem dX11_drifts_108 : decode cX11_drifts 108 = .ok (.iload 7, 2) := by decide +kernel
theorem dX11_drifts_110 : decode cX11_drifts 110 = .ok (.iaload, 1) := by decide +kernel
theorem dX11_drifts_111 : decode cX11_drifts 111 = .ok (.aload_n 0, 1) := by decide +kernel
theorem dX11_drifts_112 : decode cX11_drifts 112 = .ok (.bipush 21, 2) := by decide +kernel
theorem dX11_drifts_114 : decode cX11_drifts 114 = .ok (.invokevirtual 410, 3) := by decide +kernel
theorem dX11_drifts_117 : decode cX11_drifts 117 = .ok (.iadd, 1) := by decide +kernel
theorem dX11_drifts_118 : decode cX11_drifts 118 = .ok (.bipush 10, 2) := by decide +kernel
theorem dX11_drifts_120 : decode cX11_drifts 120 = .ok (.isub, 1) := by decide +kernel
theorem dX11_drifts_121 : decode cX11_drifts 121 = .ok (.invokestatic 223, 3) := by decide +kernel
theorem dX11_drifts_124 : decode cX11_drifts 124 = .ok (.invokestatic 239, 3) := by decide +kernel
theorem dX11_drifts_127 : decode cX11_drifts 127 = .ok (.iastore, 1) := by decide +kernel
theorem dX11_drifts_128 : decode cX11_drifts 128 = .ok (.iinc 3 1, 3) := by decide +kernel
theorem dX11_drifts_131 : decode cX11_drifts 131 = .ok (.goto (-80), 3) := by decide +kernel
theorem dX11_drifts_134 : decode cX11_drifts 134 = .ok (.iconst 0, 1) := by decide +kernel
theorem dX11_drifts_135 : decode cX11_drifts 135 = .ok (.istore_n 3, 1) := by decide +kernel
theorem dX11_drifts_136 : decode cX11_drifts 136 = .ok (.iconst 0, 1) := by decide +kernel
theorem dX11_drifts_137 : decode cX11_drifts 137 = .ok (.istore 4, 2) := by decide +kernel
theorem dX11_drifts_139 : decode cX11_drifts 139 = .ok (.iload 4, 2) := by decide +kernel
theorem dX11_drifts_141 : decode cX11_drifts 141 = .ok (.iconst 4, 1) := by decide +kernel
theorem dX11_drifts_142 : decode cX11_drifts 142 = .ok (.if_icmp .ge 22, 3) := by decide +kernel
theorem dX11_drifts_145 : decode cX11_drifts 145 = .ok (.iload_n 3, 1) := by decide +kernel
theorem dX11_drifts_146 : decode cX11_drifts 146 = .ok (.aload_n 0, 1) := by decide +kernel
theorem dX11_drifts_147 : decode cX11_drifts 147 = .ok (.aload_n 0, 1) := by decide +kernel
theorem dX11_drifts_148 : decode cX11_drifts 148 = .ok (.getfield 78, 3) := by decide +kernel
theorem dX11_drifts_151 : decode cX11_drifts 151 = .ok (.iload 4, 2) := by decide +kernel
theorem dX11_drifts_153 : decode cX11_drifts 153 = .ok (.invokevirtual 367, 3) := by decide +kernel
theorem dX11_drifts_156 : decode cX11_drifts 156 = .ok (.iadd, 1) := by decide +kernel
theorem dX11_drifts_157 : decode cX11_drifts 157 = .ok (.istore_n 3, 1) := by decide +kernel
theorem dX11_drifts_158 : decode cX11_drifts 158 = .ok (.iinc 4 1, 3) := by decide +kernel
theorem dX11_drifts_161 : decode cX11_drifts 161 = .ok (.goto (-22), 3) := by decide +kernel
theorem dX11_drifts_164 : decode cX11_drifts 164 = .ok (.aload_n 0, 1) := by decide +kernel
theorem dX11_drifts_165 : decode cX11_drifts 165 = .ok (.aload_n 0, 1) := by decide +kernel
theorem dX11_drifts_166 : decode cX11_drifts 166 = .ok (.getfield 78, 3) := by decide +kernel
theorem dX11_drifts_169 : decode cX11_drifts 169 = .ok (.invokevirtual 308, 3) := by decide +kernel
theorem dX11_drifts_172 : decode cX11_drifts 172 = .ok (.aload_n 0, 1) := by decide +kernel
theorem dX11_drifts_173 : decode cX11_drifts 173 = .ok (.sipush 200, 3) := by decide +kernel
theorem dX11_drifts_176 : decode cX11_drifts 176 = .ok (.sipush 200, 3) := by decide +kernel
theorem dX11_drifts_179 : decode cX11_drifts 179 = .ok (.sipush 200, 3) := by decide +kernel
theorem dX11_drifts_182 : decode cX11_drifts 182 = .ok (.invokevirtual 311, 3) := by decide +kernel
theorem dX11_drifts_185 : decode cX11_drifts 185 = .ok (.istore 4, 2) := by decide +kernel
theorem dX11_drifts_187 : decode cX11_drifts 187 = .ok (.aload_n 0, 1) := by decide +kernel
theorem dX11_drifts_188 : decode cX11_drifts 188 = .ok (.iconst 0, 1) := by decide +kernel
theorem dX11_drifts_189 : decode cX11_drifts 189 = .ok (.putfield 109, 3) := by decide +kernel
theorem dX11_drifts_192 : decode cX11_drifts 192 = .ok (.aload_n 0, 1) := by decide +kernel
theorem dX11_drifts_193 : decode cX11_drifts 193 = .ok (.iload 4, 2) := by decide +kernel
theorem dX11_drifts_195 : decode cX11_drifts 195 = .ok (.i2l, 1) := by decide +kernel
theorem dX11_drifts_196 : decode cX11_drifts 196 = .ok (.invokevirtual 273, 3) := by decide +kernel
theorem dX11_drifts_199 : decode cX11_drifts 199 = .ok (.aload_n 0, 1) := by decide +kernel
theorem dX11_drifts_200 : decode cX11_drifts 200 = .ok (.aload_n 0, 1) := by decide +kernel
theorem dX11_drifts_201 : decode cX11_drifts 201 = .ok (.iload 4, 2) := by decide +kernel
theorem dX11_drifts_203 : decode cX11_drifts 203 = .ok (.invokestatic 314, 3) := by decide +kernel
theorem dX11_drifts_206 : decode cX11_drifts 206 = .ok (.sipush 200, 3) := by decide +kernel
theorem dX11_drifts_209 : decode cX11_drifts 209 = .ok (.sipush 200, 3) := by decide +kernel
theorem dX11_drifts_212 : decode cX11_drifts 212 = .ok (.sipush 200, 3) := by decide +kernel
theorem dX11_drifts_215 : decode cX11_drifts 215 = .ok (.invokevirtual 266, 3) := by decide +kernel
theorem dX11_drifts_218 : decode cX11_drifts 218 = .ok (.i2l, 1) := by decide +kernel
theorem dX11_drifts_219 : decode cX11_drifts 219 = .ok (.invokevirtual 273, 3) := by decide +kernel
theorem dX11_drifts_222 : decode cX11_drifts 222 = .ok (.iload_n 3, 1) := by decide +kernel
theorem dX11_drifts_223 : decode cX11_drifts 223 = .ok (.ireturn, 1) := by decide +kernel
theorem dX11_change_0 : decode cX11_change 0 = .ok (.iconst 0, 1) := by decide +kernel
theorem dX11_change_1 : decode cX11_change 1 = .ok (.istore_n 1, 1) := by decide +kernel
theorem dX11_change_2 : decode cX11_change 2 = .ok (.iload_n 1, 1) := by decide +kernel
theorem dX11_change_3 : decode cX11_change 3 = .ok (.sipush 711, 3) := by decide +kernel
theorem dX11_change_6 : decode cX11_change 6 = .ok (.if_icmp .ge 21, 3) := by decide +kernel
theorem dX11_change_9 : decode cX11_change 9 = .ok (.aload_n 0, 1) := by decide +kernel
theorem dX11_change_10 : decode cX11_change 10 = .ok (.getfield 81, 3) := by decide +kernel
theorem dX11_change_13 : decode cX11_change 13 = .ok (.iload_n 1, 1) := by decide +kernel
theorem dX11_change_14 : decode cX11_change 14 = .ok (.aload_n 0, 1) := by decide +kernel
theorem dX11_change_15 : decode cX11_change 15 = .ok (.getfield 9, 3) := by decide +kernel
theorem dX11_change_18 : decode cX11_change 18 = .ok (.iload_n 1, 1) := by decide +kernel
theorem dX11_change_19 : decode cX11_change 19 = .ok (.iaload, 1) := by decide +kernel
theorem dX11_change_20 : decode cX11_change 20 = .ok (.iastore, 1) := by decide +kernel
theorem dX11_change_21 : decode cX11_change 21 = .ok (.iinc 1 1, 3) := by decide +kernel
theorem dX11_change_24 : decode cX11_change 24 = .ok (.goto (-22), 3) := by decide +kernel
theorem dX11_change_27 : decode cX11_change 27 = .ok (.aload_n 0, 1) := by decide +kernel
theorem dX11_change_28 : decode cX11_change 28 = .ok (.invokevirtual 413, 3) := by decide +kernel
theorem dX11_change_31 : decode cX11_change 31 = .ok (.return_, 1) := by decide +kernel
theorem dX11_note_0 : decode cX11_note 0 = .ok (.aload_n 0, 1) := by decide +kernel
theorem dX11_note_1 : decode cX11_note 1 = .ok (.getfield 416, 3) := by decide +kernel
theorem dX11_note_4 : decode cX11_note 4 = .ok (.bipush 10, 2) := by decide +kernel
theorem dX11_note_6 : decode cX11_note 6 = .ok (.if_icmp .ne 44, 3) := by decide +kernel
theorem dX11_note_9 : decode cX11_note 9 = .ok (.iconst 0, 1) := by decide +kernel
theorem dX11_note_10 : decode cX11_note 10 = .ok (.istore_n 1, 1) := by decide +kernel
theorem dX11_note_11 : decode cX11_note 11 = .ok (.iload_n 1, 1) := by decide +kernel
theorem dX11_note_12 : decode cX11_note 12 = .ok (.sipush 6399, 3) := by decide +kernel
theorem dX11_note_15 : decode cX11_note 15 = .ok (.if_icmp .ge 25, 3) := by decide +kernel
theorem dX11_note_18 : decode cX11_note 18 = .ok (.aload_n 0, 1) := by decide +kernel
theorem dX11_note_19 : decode cX11_note 19 = .ok (.getfield 75, 3) := by decide +kernel
theorem dX11_note_22 : decode cX11_note 22 = .ok (.iload_n 1, 1) := by decide +kernel
theorem dX11_note_23 : decode cX11_note 23 = .ok (.aload_n 0, 1) := by decide +kernel
theorem dX11_note_24 : decode cX11_note 24 = .ok (.getfield 75, 3) := by decide +kernel
theorem dX11_note_27 : decode cX11_note 27 = .ok (.iload_n 1, 1) := by decide +kernel
theorem dX11_note_28 : decode cX11_note 28 = .ok (.sipush 711, 3) := by decide +kernel
theorem dX11_note_31 : decode cX11_note 31 = .ok (.iadd, 1) := by decide +kernel
theorem dX11_note_32 : decode cX11_note 32 = .ok (.iaload, 1) := by decide +kernel
theorem dX11_note_33 : decode cX11_note 33 = .ok (.iastore, 1) := by decide +kernel
theorem dX11_note_34 : decode cX11_note 34 = .ok (.iinc 1 1, 3) := by decide +kernel
theorem dX11_note_37 : decode cX11_note 37 = .ok (.goto (-26), 3) := by decide +kernel
theorem dX11_note_40 : decode cX11_note 40 = .ok (.aload_n 0, 1) := by decide +kernel
theorem dX11_note_41 : decode cX11_note 41 = .ok (.dup, 1) := by decide +kernel
theorem dX11_note_42 : decode cX11_note 42 = .ok (.getfield 416, 3) := by decide +kernel
theorem dX11_note_45 : decode cX11_note 45 = .ok (.iconst 1, 1) := by decide +kernel
theorem dX11_note_46 : decode cX11_note 46 = .ok (.isub, 1) := by decide +kernel
theorem dX11_note_47 : decode cX11_note 47 = .ok (.putfield 416, 3) := by decide +kernel
theorem dX11_note_50 : decode cX11_note 50 = .ok (.iconst 0, 1) := by decide +kernel
theorem dX11_note_51 : decode cX11_note 51 = .ok (.istore_n 1, 1) := by decide +kernel
theorem dX11_note_52 : decode cX11_note 52 = .ok (.iload_n 1, 1) := by decide +kernel
theorem dX11_note_53 : decode cX11_note 53 = .ok (.sipush 711, 3) := by decide +kernel
theorem dX11_note_56 : decode cX11_note 56 = .ok (.if_icmp .ge 30, 3) := by decide +kernel
theorem dX11_note_59 : decode cX11_note 59 = .ok (.aload_n 0, 1) := by decide +kernel
theorem dX11_note_60 : decode cX11_note 60 = .ok (.getfield 75, 3) := by decide +kernel
theorem dX11_note_63 : decode cX11_note 63 = .ok (.sipush 711, 3) := by decide +kernel
theorem dX11_note_66 : decode cX11_note 66 = .ok (.aload_n 0, 1) := by decide +kernel
theorem dX11_note_67 : decode cX11_note 67 = .ok (.getfield 416, 3) := by decide +kernel
theorem dX11_note_70 : decode cX11_note 70 = .ok (.imul, 1) := by decide +kernel
theorem dX11_note_71 : decode cX11_note 71 = .ok (.iload_n 1, 1) := by decide +kernel
theorem dX11_note_72 : decode cX11_note 72 = .ok (.iadd, 1) := by decide +kernel
theorem dX11_note_73 : decode cX11_note 73 = .ok (.aload_n 0, 1) := by decide +kernel
theorem dX11_note_74 : decode cX11_note 74 = .ok (.getfield 81, 3) := by decide +kernel
theorem dX11_note_77 : decode cX11_note 77 = .ok (.iload_n 1, 1) := by decide +kernel
theorem dX11_note_78 : decode cX11_note 78 = .ok (.iaload, 1) := by decide +kernel
theorem dX11_note_79 : decode cX11_note 79 = .ok (.iastore, 1) := by decide +kernel
theorem dX11_note_80 : decode cX11_note 80 = .ok (.iinc 1 1, 3) := by decide +kernel
theorem dX11_note_83 : decode cX11_note 83 = .ok (.goto (-31), 3) := by decide +kernel
theorem dX11_note_86 : decode cX11_note 86 = .ok (.aload_n 0, 1) := by decide +kernel
theorem dX11_note_87 : decode cX11_note 87 = .ok (.dup, 1) := by decide +kernel
theorem dX11_note_88 : decode cX11_note 88 = .ok (.getfield 416, 3) := by decide +kernel
theorem dX11_note_91 : decode cX11_note 91 = .ok (.iconst 1, 1) := by decide +kernel
theorem dX11_note_92 : decode cX11_note 92 = .ok (.iadd, 1) := by decide +kernel
theorem dX11_note_93 : decode cX11_note 93 = .ok (.putfield 416, 3) := by decide +kernel
theorem dX11_note_96 : decode cX11_note 96 = .ok (.return_, 1) := by decide +kernel
theorem dX11_measured_0 : decode cX11_measured 0 = .ok (.iconst 0, 1) := by decide +kernel
theorem dX11_measured_1 : decode cX11_measured 1 = .ok (.istore_n 1, 1) := by decide +kernel
theorem dX11_measured_2 : decode cX11_measured 2 = .ok (.iconst 0, 1) := by decide +kernel
theorem dX11_measured_3 : decode cX11_measured 3 = .ok (.istore_n 2, 1) := by decide +kernel
theorem dX11_measured_4 : decode cX11_measured 4 = .ok (.iload_n 2, 1) := by decide +kernel
theorem dX11_measured_5 : decode cX11_measured 5 = .ok (.bipush 81, 2) := by decide +kernel
theorem dX11_measured_7 : decode cX11_measured 7 = .ok (.if_icmp .ge 22, 3) := by decide +kernel
theorem dX11_measured_10 : decode cX11_measured 10 = .ok (.iload_n 1, 1) := by decide +kernel
theorem dX11_measured_11 : decode cX11_measured 11 = .ok (.aload_n 0, 1) := by decide +kernel
theorem dX11_measured_12 : decode cX11_measured 12 = .ok (.getfield 9, 3) := by decide +kernel
theorem dX11_measured_15 : decode cX11_measured 15 = .ok (.sipush 243, 3) := by decide +kernel
theorem dX11_measured_18 : decode cX11_measured 18 = .ok (.iload_n 2, 1) := by decide +kernel
theorem dX11_measured_19 : decode cX11_measured 19 = .ok (.iadd, 1) := by decide +kernel
theorem dX11_measured_20 : decode cX11_measured 20 = .ok (.iaload, 1) := by decide +kernel
theorem dX11_measured_21 : decode cX11_measured 21 = .ok (.iadd, 1) := by decide +kernel
theorem dX11_measured_22 : decode cX11_measured 22 = .ok (.istore_n 1, 1) := by decide +kernel
theorem dX11_measured_23 : decode cX11_measured 23 = .ok (.iinc 2 1, 3) := by decide +kernel
theorem dX11_measured_26 : decode cX11_measured 26 = .ok (.goto (-22), 3) := by decide +kernel
theorem dX11_measured_29 : decode cX11_measured 29 = .ok (.iload_n 1, 1) := by decide +kernel
theorem dX11_measured_30 : decode cX11_measured 30 = .ok (.ireturn, 1) := by decide +kernel
theorem dX11_measure_0 : decode cX11_measure 0 = .ok (.aload_n 0, 1) := by decide +kernel
theorem dX11_measure_1 : decode cX11_measure 1 = .ok (.iconst 0, 1) := by decide +kernel
theorem dX11_measure_2 : decode cX11_measure 2 = .ok (.putfield 105, 3) := by decide +kernel
theorem dX11_measure_5 : decode cX11_measure 5 = .ok (.iload_n 1, 1) := by decide +kernel
theorem dX11_measure_6 : decode cX11_measure 6 = .ok (.iconst 0, 1) := by decide +kernel
theorem dX11_measure_7 : decode cX11_measure 7 = .ok (.bipush 80, 2) := by decide +kernel
theorem dX11_measure_9 : decode cX11_measure 9 = .ok (.invokestatic 112, 3) := by decide +kernel
theorem dX11_measure_12 : decode cX11_measure 12 = .ok (.ifCond .eq 34, 3) := by decide +kernel
theorem dX11_measure_15 : decode cX11_measure 15 = .ok (.iload_n 2, 1) := by decide +kernel
theorem dX11_measure_16 : decode cX11_measure 16 = .ok (.iconst 0, 1) := by decide +kernel
theorem dX11_measure_17 : decode cX11_measure 17 = .ok (.bipush 100, 2) := by decide +kernel
theorem dX11_measure_19 : decode cX11_measure 19 = .ok (.invokestatic 112, 3) := by decide +kernel
theorem dX11_measure_22 : decode cX11_measure 22 = .ok (.ifCond .eq 24, 3) := by decide +kernel
theorem dX11_measure_25 : decode cX11_measure 25 = .ok (.iload_n 3, 1) := by decide +kernel
theorem dX11_measure_26 : decode cX11_measure 26 = .ok (.iconst 0, 1) := by decide +kernel
theorem dX11_measure_27 : decode cX11_measure 27 = .ok (.bipush 100, 2) := by decide +kernel
theorem dX11_measure_29 : decode cX11_measure 29 = .ok (.invokestatic 112, 3) := by decide +kernel
theorem dX11_measure_32 : decode cX11_measure 32 = .ok (.ifCond .eq 14, 3) := by decide +kernel
theorem dX11_measure_35 : decode cX11_measure 35 = .ok (.iload 4, 2) := by decide +kernel
theorem dX11_measure_37 : decode cX11_measure 37 = .ok (.iconst 0, 1) := by decide +kernel
theorem dX11_measure_38 : decode cX11_measure 38 = .ok (.bipush 100, 2) := by decide +kernel
theorem dX11_measure_40 : decode cX11_measure 40 = .ok (.invokestatic 112, 3) := by decide +kernel
theorem dX11_measure_43 : decode cX11_measure 43 = .ok (.ifCond .ne 5, 3) := by decide +kernel
theorem dX11_measure_46 : decode cX11_measure 46 = .ok (.iconst (-1), 1) := by decide +kernel
theorem dX11_measure_47 : decode cX11_measure 47 = .ok (.ireturn, 1) := by decide +kernel
theorem dX11_measure_48 : decode cX11_measure 48 = .ok (.aload_n 0, 1) := by decide +kernel
theorem dX11_measure_49 : decode cX11_measure 49 = .ok (.invokevirtual 178, 3) := by decide +kernel
theorem dX11_measure_52 : decode cX11_measure 52 = .ok (.aload_n 0, 1) := by decide +kernel
theorem dX11_measure_53 : decode cX11_measure 53 = .ok (.iload_n 1, 1) := by decide +kernel
theorem dX11_measure_54 : decode cX11_measure 54 = .ok (.iload_n 2, 1) := by decide +kernel
theorem dX11_measure_55 : decode cX11_measure 55 = .ok (.iload_n 3, 1) := by decide +kernel
theorem dX11_measure_56 : decode cX11_measure 56 = .ok (.iload 4, 2) := by decide +kernel
theorem dX11_measure_58 : decode cX11_measure 58 = .ok (.invokevirtual 181, 3) := by decide +kernel
theorem dX11_measure_61 : decode cX11_measure 61 = .ok (.aload_n 0, 1) := by decide +kernel
theorem dX11_measure_62 : decode cX11_measure 62 = .ok (.invokevirtual 419, 3) := by decide +kernel
theorem dX11_measure_65 : decode cX11_measure 65 = .ok (.ireturn, 1) := by decide +kernel
theorem dX11_forgets_0 : decode cX11_forgets 0 = .ok (.aload_n 0, 1) := by decide +kernel
theorem dX11_forgets_1 : decode cX11_forgets 1 = .ok (.iconst 0, 1) := by decide +kernel
theorem dX11_forgets_2 : decode cX11_forgets 2 = .ok (.putfield 105, 3) := by decide +kernel
theorem dX11_forgets_5 : decode cX11_forgets 5 = .ok (.iload_n 1, 1) := by decide +kernel
theorem dX11_forgets_6 : decode cX11_forgets 6 = .ok (.iconst 0, 1) := by decide +kernel
theorem dX11_forgets_7 : decode cX11_forgets 7 = .ok (.bipush 80, 2) := by decide +kernel
theorem dX11_forgets_9 : decode cX11_forgets 9 = .ok (.invokestatic 112, 3) := by decide +kernel
theorem dX11_forgets_12 : decode cX11_forgets 12 = .ok (.ifCond .ne 5, 3) := by decide +kernel
theorem dX11_forgets_15 : decode cX11_forgets 15 = .ok (.iconst (-1), 1) := by decide +kernel
theorem dX11_forgets_16 : decode cX11_forgets 16 = .ok (.ireturn, 1) := by decide +kernel
theorem dX11_forgets_17 : decode cX11_forgets 17 = .ok (.aload_n 0, 1) := by decide +kernel
theorem dX11_forgets_18 : decode cX11_forgets 18 = .ok (.getfield 9, 3) := by decide +kernel
theorem dX11_forgets_21 : decode cX11_forgets 21 = .ok (.sipush 243, 3) := by decide +kernel
theorem dX11_forgets_24 : decode cX11_forgets 24 = .ok (.iload_n 1, 1) := by decide +kernel
theorem dX11_forgets_25 : decode cX11_forgets 25 = .ok (.iadd, 1) := by decide +kernel
theorem dX11_forgets_26 : decode cX11_forgets 26 = .ok (.iaload, 1) := by decide +kernel
theorem dX11_forgets_27 : decode cX11_forgets 27 = .ok (.ifCond .ne 6, 3) := by decide +kernel
theorem dX11_forgets_30 : decode cX11_forgets 30 = .ok (.bipush (-2), 2) := by decide +kernel
theorem dX11_forgets_32 : decode cX11_forgets 32 = .ok (.ireturn, 1) := by decide +kernel
theorem dX11_forgets_33 : decode cX11_forgets 33 = .ok (.aload_n 0, 1) := by decide +kernel
theorem dX11_forgets_34 : decode cX11_forgets 34 = .ok (.invokevirtual 178, 3) := by decide +kernel
theorem dX11_forgets_37 : decode cX11_forgets 37 = .ok (.aload_n 0, 1) := by decide +kernel
theorem dX11_forgets_38 : decode cX11_forgets 38 = .ok (.getfield 9, 3) := by decide +kernel
theorem dX11_forgets_41 : decode cX11_forgets 41 = .ok (.sipush 243, 3) := by decide +kernel
theorem dX11_forgets_44 : decode cX11_forgets 44 = .ok (.iload_n 1, 1) := by decide +kernel
theorem dX11_forgets_45 : decode cX11_forgets 45 = .ok (.iadd, 1) := by decide +kernel
theorem dX11_forgets_46 : decode cX11_forgets 46 = .ok (.iconst 0, 1) := by decide +kernel
theorem dX11_forgets_47 : decode cX11_forgets 47 = .ok (.iastore, 1) := by decide +kernel
theorem dX11_forgets_48 : decode cX11_forgets 48 = .ok (.aload_n 0, 1) := by decide +kernel
theorem dX11_forgets_49 : decode cX11_forgets 49 = .ok (.invokevirtual 419, 3) := by decide +kernel
theorem dX11_forgets_52 : decode cX11_forgets 52 = .ok (.ireturn, 1) := by decide +kernel
theorem dX11_refusesSet_0 : decode cX11_refusesSet 0 = .ok (.iload_n 1, 1) := by decide +kernel
theorem dX11_refusesSet_1 : decode cX11_refusesSet 1 = .ok (.iconst 0, 1) := by decide +kernel
theorem dX11_refusesSet_2 : decode cX11_refusesSet 2 = .ok (.bipush 6, 2) := by decide +kernel
theorem dX11_refusesSet_4 : decode cX11_refusesSet 4 = .ok (.invokestatic 112, 3) := by decide +kernel
theorem dX11_refusesSet_7 : decode cX11_refusesSet 7 = .ok (.ifCond .eq 20, 3) := by decide +kernel
theorem dX11_refusesSet_10 : decode cX11_refusesSet 10 = .ok (.iload_n 2, 1) := by decide +kernel
theorem dX11_refusesSet_11 : decode cX11_refusesSet 11 = .ok (.getstatic 422, 3) := by decide +kernel
theorem dX11_refusesSet_14 : decode cX11_refusesSet 14 = .ok (.iload_n 1, 1) := by decide +kernel
theorem dX11_refusesSet_15 : decode cX11_refusesSet 15 = .ok (.iaload, 1) := by decide +kernel
theorem dX11_refusesSet_16 : decode cX11_refusesSet 16 = .ok (.getstatic 425, 3) := by decide +kernel
theorem dX11_refusesSet_19 : decode cX11_refusesSet 19 = .ok (.iload_n 1, 1) := by decide +kernel
theorem dX11_refusesSet_20 : decode cX11_refusesSet 20 = .ok (.iaload, 1) := by decide +kernel
theorem dX11_refusesSet_21 : decode cX11_refusesSet 21 = .ok (.invokestatic 112, 3) := by decide +kernel
theorem dX11_refusesSet_24 : decode cX11_refusesSet 24 = .ok (.ifCond .ne 5, 3) := by decide +kernel
theorem dX11_refusesSet_27 : decode cX11_refusesSet 27 = .ok (.iconst (-1), 1) := by decide +kernel
theorem dX11_refusesSet_28 : decode cX11_refusesSet 28 = .ok (.ireturn, 1) := by decide +kernel
theorem dX11_refusesSet_29 : decode cX11_refusesSet 29 = .ok (.aload_n 0, 1) := by decide +kernel
theorem dX11_refusesSet_30 : decode cX11_refusesSet 30 = .ok (.getfield 9, 3) := by decide +kernel
theorem dX11_refusesSet_33 : decode cX11_refusesSet 33 = .ok (.sipush 704, 3) := by decide +kernel
theorem dX11_refusesSet_36 : decode cX11_refusesSet 36 = .ok (.iload_n 1, 1) := by decide +kernel
theorem dX11_refusesSet_37 : decode cX11_refusesSet 37 = .ok (.iadd, 1) := by decide +kernel
theorem dX11_refusesSet_38 : decode cX11_refusesSet 38 = .ok (.iaload, 1) := by decide +kernel
theorem dX11_refusesSet_39 : decode cX11_refusesSet 39 = .ok (.iload_n 2, 1) := by decide +kernel
theorem dX11_refusesSet_40 : decode cX11_refusesSet 40 = .ok (.if_icmp .ne 8, 3) := by decide +kernel
theorem dX11_refusesSet_43 : decode cX11_refusesSet 43 = .ok (.bipush (-2), 2) := by decide +kernel
theorem dX11_refusesSet_45 : decode cX11_refusesSet 45 = .ok (.goto 4, 3) := by decide +kernel
theorem dX11_refusesSet_48 : decode cX11_refusesSet 48 = .ok (.iconst 0, 1) := by decide +kernel
theorem dX11_refusesSet_49 : decode cX11_refusesSet 49 = .ok (.ireturn, 1) := by decide +kernel
theorem dX11_sets_0 : decode cX11_sets 0 = .ok (.aload_n 0, 1) := by decide +kernel
theorem dX11_sets_1 : decode cX11_sets 1 = .ok (.iconst 0, 1) := by decide +kernel
theorem dX11_sets_2 : decode cX11_sets 2 = .ok (.putfield 105, 3) := by decide +kernel
theorem dX11_sets_5 : decode cX11_sets 5 = .ok (.aload_n 0, 1) := by decide +kernel
theorem dX11_sets_6 : decode cX11_sets 6 = .ok (.iload_n 1, 1) := by decide +kernel
theorem dX11_sets_7 : decode cX11_sets 7 = .ok (.iload_n 2, 1) := by decide +kernel
theorem dX11_sets_8 : decode cX11_sets 8 = .ok (.invokevirtual 428, 3) := by decide +kernel
theorem dX11_sets_11 : decode cX11_sets 11 = .ok (.istore_n 3, 1) := by decide +kernel
theorem dX11_sets_12 : decode cX11_sets 12 = .ok (.iload_n 3, 1) := by decide +kernel
theorem dX11_sets_13 : decode cX11_sets 13 = .ok (.ifCond .ge 5, 3) := by decide +kernel
theorem dX11_sets_16 : decode cX11_sets 16 = .ok (.iload_n 3, 1) := by decide +kernel
theorem dX11_sets_17 : decode cX11_sets 17 = .ok (.ireturn, 1) := by decide +kernel
theorem dX11_sets_18 : decode cX11_sets 18 = .ok (.aload_n 0, 1) := by decide +kernel
theorem dX11_sets_19 : decode cX11_sets 19 = .ok (.invokevirtual 178, 3) := by decide +kernel
theorem dX11_sets_22 : decode cX11_sets 22 = .ok (.aload_n 0, 1) := by decide +kernel
theorem dX11_sets_23 : decode cX11_sets 23 = .ok (.getfield 9, 3) := by decide +kernel
theorem dX11_sets_26 : decode cX11_sets 26 = .ok (.sipush 704, 3) := by decide +kernel
theorem dX11_sets_29 : decode cX11_sets 29 = .ok (.iload_n 1, 1) := by decide +kernel
theorem dX11_sets_30 : decode cX11_sets 30 = .ok (.iadd, 1) := by decide +kernel
theorem dX11_sets_31 : decode cX11_sets 31 = .ok (.iaload, 1) := by decide +kernel
theorem dX11_sets_32 : decode cX11_sets 32 = .ok (.istore 4, 2) := by decide +kernel
theorem dX11_sets_34 : decode cX11_sets 34 = .ok (.aload_n 0, 1) := by decide +kernel
theorem dX11_sets_35 : decode cX11_sets 35 = .ok (.getfield 9, 3) := by decide +kernel
theorem dX11_sets_38 : decode cX11_sets 38 = .ok (.sipush 704, 3) := by decide +kernel
theorem dX11_sets_41 : decode cX11_sets 41 = .ok (.iload_n 1, 1) := by decide +kernel
theorem dX11_sets_42 : decode cX11_sets 42 = .ok (.iadd, 1) := by decide +kernel
theorem dX11_sets_43 : decode cX11_sets 43 = .ok (.iload_n 2, 1) := by decide +kernel
theorem dX11_sets_44 : decode cX11_sets 44 = .ok (.iastore, 1) := by decide +kernel
theorem dX11_sets_45 : decode cX11_sets 45 = .ok (.iload 4, 2) := by decide +kernel
theorem dX11_sets_47 : decode cX11_sets 47 = .ok (.ireturn, 1) := by decide +kernel
theorem dX11_paint_0 : decode cX11_paint 0 = .ok (.aload_n 0, 1) := by decide +kernel
theorem dX11_paint_1 : decode cX11_paint 1 = .ok (.getfield 9, 3) := by decide +kernel
theorem dX11_paint_4 : decode cX11_paint 4 = .ok (.sipush 614, 3) := by decide +kernel
theorem dX11_paint_7 : decode cX11_paint 7 = .ok (.iconst 3, 1) := by decide +kernel
theorem dX11_paint_8 : decode cX11_paint 8 = .ok (.iload_n 1, 1) := by decide +kernel
theorem dX11_paint_9 : decode cX11_paint 9 = .ok (.imul, 1) := by decide +kernel
theorem dX11_paint_10 : decode cX11_paint 10 = .ok (.iadd, 1) := by decide +kernel
theorem dX11_paint_11 : decode cX11_paint 11 = .ok (.iload_n 2, 1) := by decide +kernel
theorem dX11_paint_12 : decode cX11_paint 12 = .ok (.iastore, 1) := by decide +kernel
theorem dX11_paint_13 : decode cX11_paint 13 = .ok (.aload_n 0, 1) := by decide +kernel
theorem dX11_paint_14 : decode cX11_paint 14 = .ok (.getfield 9, 3) := by decide +kernel
theorem dX11_paint_17 : decode cX11_paint 17 = .ok (.sipush 614, 3) := by decide +kernel
theorem dX11_paint_20 : decode cX11_paint 20 = .ok (.iconst 3, 1) := by decide +kernel
theorem dX11_paint_21 : decode cX11_paint 21 = .ok (.iload_n 1, 1) := by decide +kernel
theorem dX11_paint_22 : decode cX11_paint 22 = .ok (.imul, 1) := by decide +kernel
theorem dX11_paint_23 : decode cX11_paint 23 = .ok (.iadd, 1) := by decide +kernel
theorem dX11_paint_24 : decode cX11_paint 24 = .ok (.iconst 1, 1) := by decide +kernel
theorem dX11_paint_25 : decode cX11_paint 25 = .ok (.iadd, 1) := by decide +kernel
theorem dX11_paint_26 : decode cX11_paint 26 = .ok (.iload_n 3, 1) := by decide +kernel
theorem dX11_paint_27 : decode cX11_paint 27 = .ok (.iastore, 1) := by decide +kernel
theorem dX11_paint_28 : decode cX11_paint 28 = .ok (.aload_n 0, 1) := by decide +kernel
theorem dX11_paint_29 : decode cX11_paint 29 = .ok (.getfield 9, 3) := by decide +kernel
theorem dX11_paint_32 : decode cX11_paint 32 = .ok (.sipush 614, 3) := by decide +kernel
theorem dX11_paint_35 : decode cX11_paint 35 = .ok (.iconst 3, 1) := by decide +kernel
theorem dX11_paint_36 : decode cX11_paint 36 = .ok (.iload_n 1, 1) := by decide +kernel
theorem dX11_paint_37 : decode cX11_paint 37 = .ok (.imul, 1) := by decide +kernel
theorem dX11_paint_38 : decode cX11_paint 38 = .ok (.iadd, 1) := by decide +kernel
theorem dX11_paint_39 : decode cX11_paint 39 = .ok (.iconst 2, 1) := by decide +kernel
theorem dX11_paint_40 : decode cX11_paint 40 = .ok (.iadd, 1) := by decide +kernel
theorem dX11_paint_41 : decode cX11_paint 41 = .ok (.iload 4, 2) := by decide +kernel
theorem dX11_paint_43 : decode cX11_paint 43 = .ok (.iastore, 1) := by decide +kernel
theorem dX11_paint_44 : decode cX11_paint 44 = .ok (.return_, 1) := by decide +kernel
theorem dX11_paints_0 : decode cX11_paints 0 = .ok (.aload_n 0, 1) := by decide +kernel
theorem dX11_paints_1 : decode cX11_paints 1 = .ok (.iconst 0, 1) := by decide +kernel
theorem dX11_paints_2 : decode cX11_paints 2 = .ok (.putfield 105, 3) := by decide +kernel
theorem dX11_paints_5 : decode cX11_paints 5 = .ok (.iload_n 1, 1) := by decide +kernel
theorem dX11_paints_6 : decode cX11_paints 6 = .ok (.iconst 0, 1) := by decide +kernel
theorem dX11_paints_7 : decode cX11_paints 7 = .ok (.bipush 7, 2) := by decide +kernel
theorem dX11_paints_9 : decode cX11_paints 9 = .ok (.invokestatic 112, 3) := by decide +kernel
theorem dX11_paints_12 : decode cX11_paints 12 = .ok (.ifCond .eq 13, 3) := by decide +kernel
theorem dX11_paints_15 : decode cX11_paints 15 = .ok (.iload_n 2, 1) := by decide +kernel
theorem dX11_paints_16 : decode cX11_paints 16 = .ok (.iload_n 3, 1) := by decide +kernel
theorem dX11_paints_17 : decode cX11_paints 17 = .ok (.iload 4, 2) := by decide +kernel
theorem dX11_paints_19 : decode cX11_paints 19 = .ok (.invokestatic 305, 3) := by decide +kernel
theorem dX11_paints_22 : decode cX11_paints 22 = .ok (.ifCond .ne 5, 3) := by decide +kernel
theorem dX11_paints_25 : decode cX11_paints 25 = .ok (.iconst (-1), 1) := by decide +kernel
theorem dX11_paints_26 : decode cX11_paints 26 = .ok (.ireturn, 1) := by decide +kernel
theorem dX11_paints_27 : decode cX11_paints 27 = .ok (.aload_n 0, 1) := by decide +kernel
theorem dX11_paints_28 : decode cX11_paints 28 = .ok (.invokevirtual 178, 3) := by decide +kernel
theorem dX11_paints_31 : decode cX11_paints 31 = .ok (.aload_n 0, 1) := by decide +kernel
theorem dX11_paints_32 : decode cX11_paints 32 = .ok (.iload_n 2, 1) := by decide +kernel
theorem dX11_paints_33 : decode cX11_paints 33 = .ok (.iload_n 3, 1) := by decide +kernel
theorem dX11_paints_34 : decode cX11_paints 34 = .ok (.iload 4, 2) := by decide +kernel
theorem dX11_paints_36 : decode cX11_paints 36 = .ok (.aload_n 0, 1) := by decide +kernel
theorem dX11_paints_37 : decode cX11_paints 37 = .ok (.getfield 9, 3) := by decide +kernel
theorem dX11_paints_40 : decode cX11_paints 40 = .ok (.sipush 614, 3) := by decide +kernel
theorem dX11_paints_43 : decode cX11_paints 43 = .ok (.iconst 3, 1) := by decide +kernel
theorem dX11_paints_44 : decode cX11_paints 44 = .ok (.iload_n 1, 1) := by decide +kernel
theorem dX11_paints_45 : decode cX11_paints 45 = .ok (.imul, 1) := by decide +kernel
theorem dX11_paints_46 : decode cX11_paints 46 = .ok (.iadd, 1) := by decide +kernel
theorem dX11_paints_47 : decode cX11_paints 47 = .ok (.invokevirtual 262, 3) := by decide +kernel
theorem dX11_paints_50 : decode cX11_paints 50 = .ok (.istore 5, 2) := by decide +kernel
theorem dX11_paints_52 : decode cX11_paints 52 = .ok (.aload_n 0, 1) := by decide +kernel
theorem dX11_paints_53 : decode cX11_paints 53 = .ok (.iload_n 1, 1) := by decide +kernel
theorem dX11_paints_54 : decode cX11_paints 54 = .ok (.iload_n 2, 1) := by decide +kernel
theorem dX11_paints_55 : decode cX11_paints 55 = .ok (.iload_n 3, 1) := by decide +kernel
theorem dX11_paints_56 : decode cX11_paints 56 = .ok (.iload 4, 2) := by decide +kernel
theorem dX11_paints_58 : decode cX11_paints 58 = .ok (.invokevirtual 431, 3) := by decide +kernel
theorem dX11_paints_61 : decode cX11_paints 61 = .ok (.iload 5, 2) := by decide +kernel
theorem dX11_paints_63 : decode cX11_paints 63 = .ok (.ireturn, 1) := by decide +kernel
theorem dX11_readAct_0 : decode cX11_readAct 0 = .ok (.aload_n 0, 1) := by decide +kernel
theorem dX11_readAct_1 : decode cX11_readAct 1 = .ok (.invokevirtual 145, 3) := by decide +kernel
theorem dX11_readAct_4 : decode cX11_readAct 4 = .ok (.istore_n 2, 1) := by decide +kernel
theorem dX11_readAct_5 : decode cX11_readAct 5 = .ok (.iload_n 2, 1) := by decide +kernel
theorem dX11_readAct_6 : decode cX11_readAct 6 = .ok (.bipush 109, 2) := by decide +kernel
theorem dX11_readAct_8 : decode cX11_readAct 8 = .ok (.if_icmp .eq 48, 3) := by decide +kernel
theorem dX11_readAct_11 : decode cX11_readAct 11 = .ok (.iload_n 2, 1) := by decide +kernel
theorem dX11_readAct_12 : decode cX11_readAct 12 = .ok (.bipush 102, 2) := by decide +kernel
theorem dX11_readAct_14 : decode cX11_readAct 14 = .ok (.if_icmp .eq 42, 3) := by decide +kernel
theorem dX11_readAct_17 : decode cX11_readAct 17 = .ok (.iload_n 2, 1) := by decide +kernel
theorem dX11_readAct_18 : decode cX11_readAct 18 = .ok (.bipush 108, 2) := by decide +kernel
theorem dX11_readAct_20 : decode cX11_readAct 20 = .ok (.if_icmp .eq 36, 3) := by decide +kernel
theorem dX11_readAct_23 : decode cX11_readAct 23 = .ok (.iload_n 2, 1) := by decide +kernel
theorem dX11_readAct_24 : decode cX11_readAct 24 = .ok (.bipush 103, 2) := by decide +kernel
theorem dX11_readAct_26 : decode cX11_readAct 26 = .ok (.if_icmp .eq 30, 3) := by decide +kernel
theorem dX11_readAct_29 : decode cX11_readAct 29 = .ok (.iload_n 2, 1) := by decide +kernel
theorem dX11_readAct_30 : decode cX11_readAct 30 = .ok (.bipush 116, 2) := by decide +kernel
theorem dX11_readAct_32 : decode cX11_readAct 32 = .ok (.if_icmp .eq 24, 3) := by decide +kernel
theorem dX11_readAct_35 : decode cX11_readAct 35 = .ok (.iload_n 2, 1) := by decide +kernel
theorem dX11_readAct_36 : decode cX11_readAct 36 = .ok (.bipush 119, 2) := by decide +kernel
theorem dX11_readAct_38 : decode cX11_readAct 38 = .ok (.if_icmp .eq 18, 3) := by decide +kernel
theorem dX11_readAct_41 : decode cX11_readAct 41 = .ok (.iload_n 2, 1) := by decide +kernel
theorem dX11_readAct_42 : decode cX11_readAct 42 = .ok (.bipush 101, 2) := by decide +kernel
theorem dX11_readAct_44 : decode cX11_readAct 44 = .ok (.if_icmp .eq 12, 3) := by decide +kernel
theorem dX11_readAct_47 : decode cX11_readAct 47 = .ok (.aload_n 0, 1) := by decide +kernel
theorem dX11_readAct_48 : decode cX11_readAct 48 = .ok (.aload_n 0, 1) := by decide +kernel
theorem dX11_readAct_49 : decode cX11_readAct 49 = .ok (.getfield 135, 3) := by decide +kernel
theorem dX11_readAct_52 : decode cX11_readAct 52 = .ok (.invokevirtual 149, 3) := by decide +kernel
theorem dX11_readAct_55 : decode cX11_readAct 55 = .ok (.return_, 1) := by decide +kernel
theorem dX11_readAct_56 : decode cX11_readAct 56 = .ok (.aload_n 0, 1) := by decide +kernel
theorem dX11_readAct_57 : decode cX11_readAct 57 = .ok (.dup, 1) := by decide +kernel
theorem dX11_readAct_58 : decode cX11_readAct 58 = .ok (.getfield 135, 3) := by decide +kernel
theorem dX11_readAct_61 : decode cX11_readAct 61 = .ok (.iconst 1, 1) := by decide +kernel
theorem dX11_readAct_62 : decode cX11_readAct 62 = .ok (.iadd, 1) := by decide +kernel
theorem dX11_readAct_63 : decode cX11_readAct 63 = .ok (.putfield 135, 3) := by decide +kernel
theorem dX11_readAct_66 : decode cX11_readAct 66 = .ok (.aload_n 0, 1) := by decide +kernel
theorem dX11_readAct_67 : decode cX11_readAct 67 = .ok (.getfield 84, 3) := by decide +kernel
theorem dX11_readAct_70 : decode cX11_readAct 70 = .ok (.iload_n 1, 1) := by decide +kernel
theorem dX11_readAct_71 : decode cX11_readAct 71 = .ok (.iload_n 2, 1) := by decide +kernel
theorem dX11_readAct_72 : decode cX11_readAct 72 = .ok (.iastore, 1) := by decide +kernel
theorem dX11_readAct_73 : decode cX11_readAct 73 = .ok (.iload_n 2, 1) := by decide +kernel
theorem dX11_readAct_74 : decode cX11_readAct 74 = .ok (.tableswitch 211 102 119 #[128, 158, 211, 211, 211, 211, 143, 86, 211, 211, 211, 211, 211, 211, 158, 211, 211, 177], 86) := by decide +kernel
theorem dX11_readAct_160 : decode cX11_readAct 160 = .ok (.aload_n 0, 1) := by decide +kernel
theorem dX11_readAct_161 : decode cX11_readAct 161 = .ok (.getfield 84, 3) := by decide +kernel
theorem dX11_readAct_164 : decode cX11_readAct 164 = .ok (.iload_n 1, 1) := by decide +kernel
theorem dX11_readAct_165 : decode cX11_readAct 165 = .ok (.iconst 1, 1) := by decide +kernel
theorem dX11_readAct_166 : decode cX11_readAct 166 = .ok (.iadd, 1) := by decide +kernel
theorem dX11_readAct_167 : decode cX11_readAct 167 = .ok (.aload_n 0, 1) := by decide +kernel
theorem dX11_readAct_168 : decode cX11_readAct 168 = .ok (.invokevirtual 159, 3) := by decide +kernel
theorem dX11_readAct_171 : decode cX11_readAct 171 = .ok (.iastore, 1) := by decide +kernel
theorem dX11_readAct_172 : decode cX11_readAct 172 = .ok (.iconst 0, 1) := by decide +kernel
theorem dX11_readAct_173 : decode cX11_readAct 173 = .ok (.istore_n 3, 1) := by decide +kernel
theorem dX11_readAct_174 : decode cX11_readAct 174 = .ok (.iload_n 3, 1) := by decide +kernel
theorem dX11_readAct_175 : decode cX11_readAct 175 = .ok (.iconst 3, 1) := by decide +kernel
theorem dX11_readAct_176 : decode cX11_readAct 176 = .ok (.if_icmp .ge 23, 3) := by decide +kernel
theorem dX11_readAct_179 : decode cX11_readAct 179 = .ok (.aload_n 0, 1) := by decide +kernel
theorem dX11_readAct_180 : decode cX11_readAct 180 = .ok (.getfield 84, 3) := by decide +kernel
theorem dX11_readAct_183 : decode cX11_readAct 183 = .ok (.iload_n 1, 1) := by decide +kernel
theorem dX11_readAct_184 : decode cX11_readAct 184 = .ok (.iconst 2, 1) := by decide +kernel
theorem dX11_readAct_185 : decode cX11_readAct 185 = .ok (.iadd, 1) := by decide +kernel
theorem dX11_readAct_186 : decode cX11_readAct 186 = .ok (.iload_n 3, 1) := by decide +kernel
theorem dX11_readAct_187 : decode cX11_readAct 187 = .ok (.iadd, 1) := by decide +kernel
theorem dX11_readAct_188 : decode cX11_readAct 188 = .ok (.aload_n 0, 1) := by decide +kernel
theorem dX11_readAct_189 : decode cX11_readAct 189 = .ok (.invokevirtual 162, 3) := by decide +kernel
theorem dX11_readAct_192 : decode cX11_readAct 192 = .ok (.iastore, 1) := by decide +kernel
theorem dX11_readAct_193 : decode cX11_readAct 193 = .ok (.iinc 3 1, 3) := by decide +kernel
theorem dX11_readAct_196 : decode cX11_readAct 196 = .ok (.goto (-22), 3) := by decide +kernel
theorem dX11_readAct_199 : decode cX11_readAct 199 = .ok (.goto 131, 3) := by decide +kernel
theorem dX11_readAct_202 : decode cX11_readAct 202 = .ok (.aload_n 0, 1) := by decide +kernel
theorem dX11_readAct_203 : decode cX11_readAct 203 = .ok (.getfield 84, 3) := by decide +kernel
theorem dX11_readAct_206 : decode cX11_readAct 206 = .ok (.iload_n 1, 1) := by decide +kernel
theorem dX11_readAct_207 : decode cX11_readAct 207 = .ok (.iconst 1, 1) := by decide +kernel
theorem dX11_readAct_208 : decode cX11_readAct 208 = .ok (.iadd, 1) := by decide +kernel
theorem dX11_readAct_209 : decode cX11_readAct 209 = .ok (.aload_n 0, 1) := by decide +kernel
theorem dX11_readAct_210 : decode cX11_readAct 210 = .ok (.invokevirtual 159, 3) := by decide +kernel
theorem dX11_readAct_213 : decode cX11_readAct 213 = .ok (.iastore, 1) := by decide +kernel
theorem dX11_readAct_214 : decode cX11_readAct 214 = .ok (.goto 116, 3) := by decide +kernel
theorem dX11_readAct_217 : decode cX11_readAct 217 = .ok (.aload_n 0, 1) := by decide +kernel
theorem dX11_readAct_218 : decode cX11_readAct 218 = .ok (.getfield 84, 3) := by decide +kernel
theorem dX11_readAct_221 : decode cX11_readAct 221 = .ok (.iload_n 1, 1) := by decide +kernel
theorem dX11_readAct_222 : decode cX11_readAct 222 = .ok (.iconst 1, 1) := by decide +kernel
theorem dX11_readAct_223 : decode cX11_readAct 223 = .ok (.iadd, 1) := by decide +kernel
theorem dX11_readAct_224 : decode cX11_readAct 224 = .ok (.aload_n 0, 1) := by decide +kernel
theorem dX11_readAct_225 : decode cX11_readAct 225 = .ok (.invokevirtual 162, 3) := by decide +kernel
theorem dX11_readAct_228 : decode cX11_readAct 228 = .ok (.iastore, 1) := by decide +kernel
theorem dX11_readAct_229 : decode cX11_readAct 229 = .ok (.goto 101, 3) := by decide +kernel
theorem dX11_readAct_232 : decode cX11_readAct 232 = .ok (.aload_n 0, 1) := by decide +kernel
theorem dX11_readAct_233 : decode cX11_readAct 233 = .ok (.getfield 84, 3) := by decide +kernel
theorem dX11_readAct_236 : decode cX11_readAct 236 = .ok (.iload_n 1, 1) := by decide +kernel
theorem dX11_readAct_237 : decode cX11_readAct 237 = .ok (.iconst 1, 1) := by decide +kernel
theorem dX11_readAct_238 : decode cX11_readAct 238 = .ok (.iadd, 1) := by decide +kernel
theorem dX11_readAct_239 : decode cX11_readAct 239 = .ok (.aload_n 0, 1) := by decide +kernel
theorem dX11_readAct_240 : decode cX11_readAct 240 = .ok (.bipush 48, 2) := by decide +kernel
theorem dX11_readAct_242 : decode cX11_readAct 242 = .ok (.bipush 10, 2) := by decide +kernel
theorem dX11_readAct_244 : decode cX11_readAct 244 = .ok (.invokevirtual 152, 3) := by decide +kernel
theorem dX11_readAct_247 : decode cX11_readAct 247 = .ok (.iastore, 1) := by decide +kernel
theorem dX11_readAct_248 : decode cX11_readAct 248 = .ok (.goto 82, 3) := by decide +kernel
theorem dX11_readAct_251 : decode cX11_readAct 251 = .ok (.aload_n 0, 1) := by decide +kernel
theorem dX11_readAct_252 : decode cX11_readAct 252 = .ok (.getfield 84, 3) := by decide +kernel
theorem dX11_readAct_255 : decode cX11_readAct 255 = .ok (.iload_n 1, 1) := by decide +kernel
theorem dX11_readAct_256 : decode cX11_readAct 256 = .ok (.iconst 1, 1) := by decide +kernel
theorem dX11_readAct_257 : decode cX11_readAct 257 = .ok (.iadd, 1) := by decide +kernel
theorem dX11_readAct_258 : decode cX11_readAct 258 = .ok (.aload_n 0, 1) := by decide +kernel
theorem dX11_readAct_259 : decode cX11_readAct 259 = .ok (.bipush 48, 2) := by decide +kernel
theorem dX11_readAct_261 : decode cX11_readAct 261 = .ok (.iconst 3, 1) := by decide +kernel
theorem dX11_readAct_262 : decode cX11_readAct 262 = .ok (.invokevirtual 152, 3) := by decide +kernel
theorem dX11_readAct_265 : decode cX11_readAct 265 = .ok (.iastore, 1) := by decide +kernel
theorem dX11_readAct_266 : decode cX11_readAct 266 = .ok (.aload_n 0, 1) := by decide +kernel
theorem dX11_readAct_267 : decode cX11_readAct 267 = .ok (.getfield 84, 3) := by decide +kernel
theorem dX11_readAct_270 : decode cX11_readAct 270 = .ok (.iload_n 1, 1) := by decide +kernel
theorem dX11_readAct_271 : decode cX11_readAct 271 = .ok (.iconst 2, 1) := by decide +kernel
theorem dX11_readAct_272 : decode cX11_readAct 272 = .ok (.iadd, 1) := by decide +kernel
theorem dX11_readAct_273 : decode cX11_readAct 273 = .ok (.aload_n 0, 1) := by decide +kernel
theorem dX11_readAct_274 : decode cX11_readAct 274 = .ok (.bipush 48, 2) := by decide +kernel
theorem dX11_readAct_276 : decode cX11_readAct 276 = .ok (.bipush 10, 2) := by decide +kernel
theorem dX11_readAct_278 : decode cX11_readAct 278 = .ok (.invokevirtual 152, 3) := by decide +kernel
theorem dX11_readAct_281 : decode cX11_readAct 281 = .ok (.iastore, 1) := by decide +kernel
theorem dX11_readAct_282 : decode cX11_readAct 282 = .ok (.goto 48, 3) := by decide +kernel
theorem dX11_readAct_285 : decode cX11_readAct 285 = .ok (.aload_n 0, 1) := by decide +kernel
theorem dX11_readAct_286 : decode cX11_readAct 286 = .ok (.getfield 84, 3) := by decide +kernel
theorem dX11_readAct_289 : decode cX11_readAct 289 = .ok (.iload_n 1, 1) := by decide +kernel
theorem dX11_readAct_290 : decode cX11_readAct 290 = .ok (.iconst 1, 1) := by decide +kernel
theorem dX11_readAct_291 : decode cX11_readAct 291 = .ok (.iadd, 1) := by decide +kernel
theorem dX11_readAct_292 : decode cX11_readAct 292 = .ok (.aload_n 0, 1) := by decide +kernel
theorem dX11_readAct_293 : decode cX11_readAct 293 = .ok (.bipush 97, 2) := by decide +kernel
theorem dX11_readAct_295 : decode cX11_readAct 295 = .ok (.bipush 8, 2) := by decide +kernel
theorem dX11_readAct_297 : decode cX11_readAct 297 = .ok (.invokevirtual 152, 3) := by decide +kernel
theorem dX11_readAct_300 : decode cX11_readAct 300 = .ok (.iastore, 1) := by decide +kernel
theorem dX11_readAct_301 : decode cX11_readAct 301 = .ok (.iconst 0, 1) := by decide +kernel
theorem dX11_readAct_302 : decode cX11_readAct 302 = .ok (.istore_n 3, 1) := by decide +kernel
theorem dX11_readAct_303 : decode cX11_readAct 303 = .ok (.iload_n 3, 1) := by decide +kernel
theorem dX11_readAct_304 : decode cX11_readAct 304 = .ok (.iconst 3, 1) := by decide +kernel
theorem dX11_readAct_305 : decode cX11_readAct 305 = .ok (.if_icmp .ge 25, 3) := by decide +kernel
theorem dX11_readAct_308 : decode cX11_readAct 308 = .ok (.aload_n 0, 1) := by decide +kernel
theorem dX11_readAct_309 : decode cX11_readAct 309 = .ok (.getfield 84, 3) := by decide +kernel
theorem dX11_readAct_312 : decode cX11_readAct 312 = .ok (.iload_n 1, 1) := by decide +kernel
theorem dX11_readAct_313 : decode cX11_readAct 313 = .ok (.iconst 2, 1) := by decide +kernel
theorem dX11_readAct_314 : decode cX11_readAct 314 = .ok (.iadd, 1) := by decide +kernel
theorem dX11_readAct_315 : decode cX11_readAct 315 = .ok (.iload_n 3, 1) := by decide +kernel
theorem dX11_readAct_316 : decode cX11_readAct 316 = .ok (.iadd, 1) := by decide +kernel
theorem dX11_readAct_317 : decode cX11_readAct 317 = .ok (.iconst 4, 1) := by decide +kernel
theorem dX11_readAct_318 : decode cX11_readAct 318 = .ok (.aload_n 0, 1) := by decide +kernel
theorem dX11_readAct_319 : decode cX11_readAct 319 = .ok (.invokevirtual 162, 3) := by decide +kernel
theorem dX11_readAct_322 : decode cX11_readAct 322 = .ok (.imul, 1) := by decide +kernel
theorem dX11_readAct_323 : decode cX11_readAct 323 = .ok (.iastore, 1) := by decide +kernel
theorem dX11_readAct_324 : decode cX11_readAct 324 = .ok (.iinc 3 1, 3) := by decide +kernel
theorem dX11_readAct_327 : decode cX11_readAct 327 = .ok (.goto (-24), 3) := by decide +kernel
theorem dX11_readAct_330 : decode cX11_readAct 330 = .ok (.return_, 1) := by decide +kernel
theorem dX11_set_0 : decode cX11_set 0 = .ok (.aload_n 0, 1) := by decide +kernel
theorem dX11_set_1 : decode cX11_set 1 = .ok (.iload_n 1, 1) := by decide +kernel
theorem dX11_set_2 : decode cX11_set 2 = .ok (.iload_n 2, 1) := by decide +kernel
theorem dX11_set_3 : decode cX11_set 3 = .ok (.invokevirtual 428, 3) := by decide +kernel
theorem dX11_set_6 : decode cX11_set 6 = .ok (.ifCond .ge 5, 3) := by decide +kernel
theorem dX11_set_9 : decode cX11_set 9 = .ok (.iconst 0, 1) := by decide +kernel
theorem dX11_set_10 : decode cX11_set 10 = .ok (.ireturn, 1) := by decide +kernel
theorem dX11_set_11 : decode cX11_set 11 = .ok (.aload_n 0, 1) := by decide +kernel
theorem dX11_set_12 : decode cX11_set 12 = .ok (.getfield 9, 3) := by decide +kernel
theorem dX11_set_15 : decode cX11_set 15 = .ok (.sipush 704, 3) := by decide +kernel
theorem dX11_set_18 : decode cX11_set 18 = .ok (.iload_n 1, 1) := by decide +kernel
theorem dX11_set_19 : decode cX11_set 19 = .ok (.iadd, 1) := by decide +kernel
theorem dX11_set_20 : decode cX11_set 20 = .ok (.iload_n 2, 1) := by decide +kernel
theorem dX11_set_21 : decode cX11_set 21 = .ok (.iastore, 1) := by decide +kernel
theorem dX11_set_22 : decode cX11_set 22 = .ok (.iconst 1, 1) := by decide +kernel
theorem dX11_set_23 : decode cX11_set 23 = .ok (.ireturn, 1) := by decide +kernel
theorem dX11_act_0 : decode cX11_act 0 = .ok (.aload_n 0, 1) := by decide +kernel
theorem dX11_act_1 : decode cX11_act 1 = .ok (.getfield 84, 3) := by decide +kernel
theorem dX11_act_4 : decode cX11_act 4 = .ok (.iload_n 1, 1) := by decide +kernel
theorem dX11_act_5 : decode cX11_act 5 = .ok (.iconst 1, 1) := by decide +kernel
theorem dX11_act_6 : decode cX11_act 6 = .ok (.iadd, 1) := by decide +kernel
theorem dX11_act_7 : decode cX11_act 7 = .ok (.iaload, 1) := by decide +kernel
theorem dX11_act_8 : decode cX11_act 8 = .ok (.istore_n 2, 1) := by decide +kernel
theorem dX11_act_9 : decode cX11_act 9 = .ok (.aload_n 0, 1) := by decide +kernel
theorem dX11_act_10 : decode cX11_act 10 = .ok (.getfield 84, 3) := by decide +kernel
theorem dX11_act_13 : decode cX11_act 13 = .ok (.iload_n 1, 1) := by decide +kernel
theorem dX11_act_14 : decode cX11_act 14 = .ok (.iconst 2, 1) := by decide +kernel
theorem dX11_act_15 : decode cX11_act 15 = .ok (.iadd, 1) := by decide +kernel
theorem dX11_act_16 : decode cX11_act 16 = .ok (.iaload, 1) := by decide +kernel
theorem dX11_act_17 : decode cX11_act 17 = .ok (.istore_n 3, 1) := by decide +kernel
theorem dX11_act_18 : decode cX11_act 18 = .ok (.aload_n 0, 1) := by decide +kernel
theorem dX11_act_19 : decode cX11_act 19 = .ok (.getfield 84, 3) := by decide +kernel
theorem dX11_act_22 : decode cX11_act 22 = .ok (.iload_n 1, 1) := by decide +kernel
theorem dX11_act_23 : decode cX11_act 23 = .ok (.iaload, 1) := by decide +kernel
theorem dX11_act_24 : decode cX11_act 24 = .ok (.tableswitch 170 102 119 #[112, 147, 170, 170, 170, 170, 140, 88, 170, 170, 170, 170, 170, 170, 154, 170, 170, 161], 88) := by decide +kernel
theorem dX11_act_112 : decode cX11_act 112 = .ok (.aload_n 0, 1) := by decide +kernel
theorem dX11_act_113 : decode cX11_act 113 = .ok (.iload_n 2, 1) := by decide +kernel
theorem dX11_act_114 : decode cX11_act 114 = .ok (.iload_n 3, 1) := by decide +kernel
theorem dX11_act_115 : decode cX11_act 115 = .ok (.aload_n 0, 1) := by decide +kernel
theorem dX11_act_116 : decode cX11_act 116 = .ok (.getfield 84, 3) := by decide +kernel
theorem dX11_act_119 : decode cX11_act 119 = .ok (.iload_n 1, 1) := by decide +kernel
theorem dX11_act_120 : decode cX11_act 120 = .ok (.iconst 3, 1) := by decide +kernel
theorem dX11_act_121 : decode cX11_act 121 = .ok (.iadd, 1) := by decide +kernel
theorem dX11_act_122 : decode cX11_act 122 = .ok (.iaload, 1) := by decide +kernel
theorem dX11_act_123 : decode cX11_act 123 = .ok (.aload_n 0, 1) := by decide +kernel
theorem dX11_act_124 : decode cX11_act 124 = .ok (.getfield 84, 3) := by decide +kernel
theorem dX11_act_127 : decode cX11_act 127 = .ok (.iload_n 1, 1) := by decide +kernel
theorem dX11_act_128 : decode cX11_act 128 = .ok (.iconst 4, 1) := by decide +kernel
theorem dX11_act_129 : decode cX11_act 129 = .ok (.iadd, 1) := by decide +kernel
theorem dX11_act_130 : decode cX11_act 130 = .ok (.iaload, 1) := by decide +kernel
theorem dX11_act_131 : decode cX11_act 131 = .ok (.invokevirtual 181, 3) := by decide +kernel
theorem dX11_act_134 : decode cX11_act 134 = .ok (.iconst 1, 1) := by decide +kernel
theorem dX11_act_135 : decode cX11_act 135 = .ok (.ireturn, 1) := by decide +kernel
theorem dX11_act_136 : decode cX11_act 136 = .ok (.aload_n 0, 1) := by decide +kernel
theorem dX11_act_137 : decode cX11_act 137 = .ok (.getfield 9, 3) := by decide +kernel
theorem dX11_act_140 : decode cX11_act 140 = .ok (.sipush 243, 3) := by decide +kernel
theorem dX11_act_143 : decode cX11_act 143 = .ok (.iload_n 2, 1) := by decide +kernel
theorem dX11_act_144 : decode cX11_act 144 = .ok (.iadd, 1) := by decide +kernel
theorem dX11_act_145 : decode cX11_act 145 = .ok (.iaload, 1) := by decide +kernel
theorem dX11_act_146 : decode cX11_act 146 = .ok (.ifCond .ne 5, 3) := by decide +kernel
theorem dX11_act_149 : decode cX11_act 149 = .ok (.iconst 0, 1) := by decide +kernel
theorem dX11_act_150 : decode cX11_act 150 = .ok (.ireturn, 1) := by decide +kernel
theorem dX11_act_151 : decode cX11_act 151 = .ok (.aload_n 0, 1) := by decide +kernel
theorem dX11_act_152 : decode cX11_act 152 = .ok (.getfield 9, 3) := by decide +kernel
theorem dX11_act_155 : decode cX11_act 155 = .ok (.sipush 243, 3) := by decide +kernel
theorem dX11_act_158 : decode cX11_act 158 = .ok (.iload_n 2, 1) := by decide +kernel
theorem dX11_act_159 : decode cX11_act 159 = .ok (.iadd, 1) := by decide +kernel
theorem dX11_act_160 : decode cX11_act 160 = .ok (.iconst 0, 1) := by decide +kernel
theorem dX11_act_161 : decode cX11_act 161 = .ok (.iastore, 1) := by decide +kernel
theorem dX11_act_162 : decode cX11_act 162 = .ok (.iconst 1, 1) := by decide +kernel
theorem dX11_act_163 : decode cX11_act 163 = .ok (.ireturn, 1) := by decide +kernel
theorem dX11_act_164 : decode cX11_act 164 = .ok (.aload_n 0, 1) := by decide +kernel
theorem dX11_act_165 : decode cX11_act 165 = .ok (.iconst 0, 1) := by decide +kernel
theorem dX11_act_166 : decode cX11_act 166 = .ok (.iload_n 2, 1) := by decide +kernel
theorem dX11_act_167 : decode cX11_act 167 = .ok (.invokevirtual 434, 3) := by decide +kernel
theorem dX11_act_170 : decode cX11_act 170 = .ok (.ireturn, 1) := by decide +kernel
theorem dX11_act_171 : decode cX11_act 171 = .ok (.aload_n 0, 1) := by decide +kernel
theorem dX11_act_172 : decode cX11_act 172 = .ok (.iconst 1, 1) := by decide +kernel
theorem dX11_act_173 : decode cX11_act 173 = .ok (.iload_n 2, 1) := by decide +kernel
theorem dX11_act_174 : decode cX11_act 174 = .ok (.invokevirtual 434, 3) := by decide +kernel
theorem dX11_act_177 : decode cX11_act 177 = .ok (.ireturn, 1) := by decide +kernel
theorem dX11_act_178 : decode cX11_act 178 = .ok (.aload_n 0, 1) := by decide +kernel
theorem dX11_act_179 : decode cX11_act 179 = .ok (.iconst 3, 1) := by decide +kernel
theorem dX11_act_180 : decode cX11_act 180 = .ok (.iload_n 2, 1) := by decide +kernel
theorem dX11_act_181 : decode cX11_act 181 = .ok (.invokevirtual 434, 3) := by decide +kernel
theorem dX11_act_184 : decode cX11_act 184 = .ok (.ireturn, 1) := by decide +kernel
theorem dX11_act_185 : decode cX11_act 185 = .ok (.aload_n 0, 1) := by decide +kernel
theorem dX11_act_186 : decode cX11_act 186 = .ok (.iconst 4, 1) := by decide +kernel
theorem dX11_act_187 : decode cX11_act 187 = .ok (.iload_n 2, 1) := by decide +kernel
theorem dX11_act_188 : decode cX11_act 188 = .ok (.iadd, 1) := by decide +kernel
theorem dX11_act_189 : decode cX11_act 189 = .ok (.iload_n 3, 1) := by decide +kernel
theorem dX11_act_190 : decode cX11_act 190 = .ok (.invokevirtual 434, 3) := by decide +kernel
theorem dX11_act_193 : decode cX11_act 193 = .ok (.ireturn, 1) := by decide +kernel
theorem dX11_act_194 : decode cX11_act 194 = .ok (.aload_n 0, 1) := by decide +kernel
theorem dX11_act_195 : decode cX11_act 195 = .ok (.iload_n 2, 1) := by decide +kernel
theorem dX11_act_196 : decode cX11_act 196 = .ok (.iload_n 3, 1) := by decide +kernel
theorem dX11_act_197 : decode cX11_act 197 = .ok (.aload_n 0, 1) := by decide +kernel
theorem dX11_act_198 : decode cX11_act 198 = .ok (.getfield 84, 3) := by decide +kernel
theorem dX11_act_201 : decode cX11_act 201 = .ok (.iload_n 1, 1) := by decide +kernel
theorem dX11_act_202 : decode cX11_act 202 = .ok (.iconst 3, 1) := by decide +kernel
theorem dX11_act_203 : decode cX11_act 203 = .ok (.iadd, 1) := by decide +kernel
theorem dX11_act_204 : decode cX11_act 204 = .ok (.iaload, 1) := by decide +kernel
theorem dX11_act_205 : decode cX11_act 205 = .ok (.aload_n 0, 1) := by decide +kernel
theorem dX11_act_206 : decode cX11_act 206 = .ok (.getfield 84, 3) := by decide +kernel
theorem dX11_act_209 : decode cX11_act 209 = .ok (.iload_n 1, 1) := by decide +kernel
theorem dX11_act_210 : decode cX11_act 210 = .ok (.iconst 4, 1) := by decide +kernel
theorem dX11_act_211 : decode cX11_act 211 = .ok (.iadd, 1) := by decide +kernel
theorem dX11_act_212 : decode cX11_act 212 = .ok (.iaload, 1) := by decide +kernel
theorem dX11_act_213 : decode cX11_act 213 = .ok (.invokevirtual 431, 3) := by decide +kernel
theorem dX11_act_216 : decode cX11_act 216 = .ok (.iconst 1, 1) := by decide +kernel
theorem dX11_act_217 : decode cX11_act 217 = .ok (.ireturn, 1) := by decide +kernel
theorem dX11_day_0 : decode cX11_day 0 = .ok (.aload_n 0, 1) := by decide +kernel
theorem dX11_day_1 : decode cX11_day 1 = .ok (.iconst 0, 1) := by decide +kernel
theorem dX11_day_2 : decode cX11_day 2 = .ok (.putfield 105, 3) := by decide +kernel
theorem dX11_day_5 : decode cX11_day 5 = .ok (.aload_n 0, 1) := by decide +kernel
theorem dX11_day_6 : decode cX11_day 6 = .ok (.bipush 60, 2) := by decide +kernel
theorem dX11_day_8 : decode cX11_day 8 = .ok (.invokevirtual 169, 3) := by decide +kernel
theorem dX11_day_11 : decode cX11_day 11 = .ok (.iconst 0, 1) := by decide +kernel
theorem dX11_day_12 : decode cX11_day 12 = .ok (.istore_n 1, 1) := by decide +kernel
theorem dX11_day_13 : decode cX11_day 13 = .ok (.aload_n 0, 1) := by decide +kernel
theorem dX11_day_14 : decode cX11_day 14 = .ok (.invokevirtual 141, 3) := by decide +kernel
theorem dX11_day_17 : decode cX11_day 17 = .ok (.ifCond .eq 27, 3) := by decide +kernel
theorem dX11_day_20 : decode cX11_day 20 = .ok (.aload_n 0, 1) := by decide +kernel
theorem dX11_day_21 : decode cX11_day 21 = .ok (.getfield 135, 3) := by decide +kernel
theorem dX11_day_24 : decode cX11_day 24 = .ok (.aload_n 0, 1) := by decide +kernel
theorem dX11_day_25 : decode cX11_day 25 = .ok (.getfield 129, 3) := by decide +kernel
theorem dX11_day_28 : decode cX11_day 28 = .ok (.if_icmp .ge 16, 3) := by decide +kernel
theorem dX11_day_31 : decode cX11_day 31 = .ok (.aload_n 0, 1) := by decide +kernel
theorem dX11_day_32 : decode cX11_day 32 = .ok (.iconst 5, 1) := by decide +kernel
theorem dX11_day_33 : decode cX11_day 33 = .ok (.iload_n 1, 1) := by decide +kernel
theorem dX11_day_34 : decode cX11_day 34 = .ok (.imul, 1) := by decide +kernel
theorem dX11_day_35 : decode cX11_day 35 = .ok (.invokevirtual 438, 3) := by decide +kernel
theorem dX11_day_38 : decode cX11_day 38 = .ok (.iinc 1 1, 3) := by decide +kernel
theorem dX11_day_41 : decode cX11_day 41 = .ok (.goto (-28), 3) := by decide +kernel
theorem dX11_day_44 : decode cX11_day 44 = .ok (.aload_n 0, 1) := by decide +kernel
theorem dX11_day_45 : decode cX11_day 45 = .ok (.invokevirtual 175, 3) := by decide +kernel
theorem dX11_day_48 : decode cX11_day 48 = .ok (.ifCond .ne 10, 3) := by decide +kernel
theorem dX11_day_51 : decode cX11_day 51 = .ok (.iconst (-1), 1) := by decide +kernel
theorem dX11_day_52 : decode cX11_day 52 = .ok (.aload_n 0, 1) := by decide +kernel
theorem dX11_day_53 : decode cX11_day 53 = .ok (.getfield 138, 3) := by decide +kernel
theorem dX11_day_56 : decode cX11_day 56 = .ok (.isub, 1) := by decide +kernel
theorem dX11_day_57 : decode cX11_day 57 = .ok (.ireturn, 1) := by decide +kernel
theorem dX11_day_58 : decode cX11_day 58 = .ok (.iconst 0, 1) := by decide +kernel
theorem dX11_day_59 : decode cX11_day 59 = .ok (.istore_n 2, 1) := by decide +kernel
theorem dX11_day_60 : decode cX11_day 60 = .ok (.iload_n 2, 1) := by decide +kernel
theorem dX11_day_61 : decode cX11_day 61 = .ok (.sipush 711, 3) := by decide +kernel
theorem dX11_day_64 : decode cX11_day 64 = .ok (.if_icmp .ge 21, 3) := by decide +kernel
theorem dX11_day_67 : decode cX11_day 67 = .ok (.aload_n 0, 1) := by decide +kernel
theorem dX11_day_68 : decode cX11_day 68 = .ok (.getfield 81, 3) := by decide +kernel
theorem dX11_day_71 : decode cX11_day 71 = .ok (.iload_n 2, 1) := by decide +kernel
theorem dX11_day_72 : decode cX11_day 72 = .ok (.aload_n 0, 1) := by decide +kernel
theorem dX11_day_73 : decode cX11_day 73 = .ok (.getfield 9, 3) := by decide +kernel
theorem dX11_day_76 : decode cX11_day 76 = .ok (.iload_n 2, 1) := by decide +kernel
theorem dX11_day_77 : decode cX11_day 77 = .ok (.iaload, 1) := by decide +kernel
theorem dX11_day_78 : decode cX11_day 78 = .ok (.iastore, 1) := by decide +kernel
theorem dX11_day_79 : decode cX11_day 79 = .ok (.iinc 2 1, 3) := by decide +kernel
theorem dX11_day_82 : decode cX11_day 82 = .ok (.goto (-22), 3) := by decide +kernel
theorem dX11_day_85 : decode cX11_day 85 = .ok (.iconst 0, 1) := by decide +kernel
theorem dX11_day_86 : decode cX11_day 86 = .ok (.istore_n 2, 1) := by decide +kernel
theorem dX11_day_87 : decode cX11_day 87 = .ok (.iload_n 2, 1) := by decide +kernel
theorem dX11_day_88 : decode cX11_day 88 = .ok (.iload_n 1, 1) := by decide +kernel
theorem dX11_day_89 : decode cX11_day 89 = .ok (.if_icmp .ge 19, 3) := by decide +kernel
theorem dX11_day_92 : decode cX11_day 92 = .ok (.aload_n 0, 1) := by decide +kernel
theorem dX11_day_93 : decode cX11_day 93 = .ok (.iconst 5, 1) := by decide +kernel
theorem dX11_day_94 : decode cX11_day 94 = .ok (.iload_n 2, 1) := by decide +kernel
theorem dX11_day_95 : decode cX11_day 95 = .ok (.imul, 1) := by decide +kernel
theorem dX11_day_96 : decode cX11_day 96 = .ok (.invokevirtual 441, 3) := by decide +kernel
theorem dX11_day_99 : decode cX11_day 99 = .ok (.ifCond .eq 9, 3) := by decide +kernel
theorem dX11_day_102 : decode cX11_day 102 = .ok (.iinc 2 1, 3) := by decide +kernel
theorem dX11_day_105 : decode cX11_day 105 = .ok (.goto (-18), 3) := by decide +kernel
theorem dX11_day_108 : decode cX11_day 108 = .ok (.iload_n 2, 1) := by decide +kernel
theorem dX11_day_109 : decode cX11_day 109 = .ok (.ifCond .le 7, 3) := by decide +kernel
theorem dX11_day_112 : decode cX11_day 112 = .ok (.aload_n 0, 1) := by decide +kernel
theorem dX11_day_113 : decode cX11_day 113 = .ok (.invokevirtual 413, 3) := by decide +kernel
theorem dX11_day_116 : decode cX11_day 116 = .ok (.aload_n 0, 1) := by decide +kernel
theorem dX11_day_117 : decode cX11_day 117 = .ok (.iconst 0, 1) := by decide +kernel
theorem dX11_day_118 : decode cX11_day 118 = .ok (.putfield 109, 3) := by decide +kernel
theorem dX11_day_121 : decode cX11_day 121 = .ok (.aload_n 0, 1) := by decide +kernel
theorem dX11_day_122 : decode cX11_day 122 = .ok (.iload_n 2, 1) := by decide +kernel
theorem dX11_day_123 : decode cX11_day 123 = .ok (.iload_n 1, 1) := by decide +kernel
theorem dX11_day_124 : decode cX11_day 124 = .ok (.if_icmp .ge 7, 3) := by decide +kernel
theorem dX11_day_127 : decode cX11_day 127 = .ok (.lconst 1, 1) := by decide +kernel
theorem dX11_day_128 : decode cX11_day 128 = .ok (.goto 4, 3) := by decide +kernel
theorem dX11_day_131 : decode cX11_day 131 = .ok (.lconst 0, 1) := by decide +kernel
theorem dX11_day_132 : decode cX11_day 132 = .ok (.invokevirtual 273, 3) := by decide +kernel
theorem dX11_day_135 : decode cX11_day 135 = .ok (.iload_n 2, 1) := by decide +kernel
theorem dX11_day_136 : decode cX11_day 136 = .ok (.ireturn, 1) := by decide +kernel
theorem dX11_undo_0 : decode cX11_undo 0 = .ok (.aload_n 0, 1) := by decide +kernel
theorem dX11_undo_1 : decode cX11_undo 1 = .ok (.iconst 0, 1) := by decide +kernel
theorem dX11_undo_2 : decode cX11_undo 2 = .ok (.putfield 105, 3) := by decide +kernel
theorem dX11_undo_5 : decode cX11_undo 5 = .ok (.aload_n 0, 1) := by decide +kernel
theorem dX11_undo_6 : decode cX11_undo 6 = .ok (.getfield 416, 3) := by decide +kernel
theorem dX11_undo_9 : decode cX11_undo 9 = .ok (.ifCond .ne 5, 3) := by decide +kernel
theorem dX11_undo_12 : decode cX11_undo 12 = .ok (.iconst (-1), 1) := by decide +kernel
theorem dX11_undo_13 : decode cX11_undo 13 = .ok (.ireturn, 1) := by decide +kernel
theorem dX11_undo_14 : decode cX11_undo 14 = .ok (.aload_n 0, 1) := by decide +kernel
theorem dX11_undo_15 : decode cX11_undo 15 = .ok (.dup, 1) := by decide +kernel
theorem dX11_undo_16 : decode cX11_undo 16 = .ok (.getfield 416, 3) := by decide +kernel
theorem dX11_undo_19 : decode cX11_undo 19 = .ok (.iconst 1, 1) := by decide +kernel
theorem dX11_undo_20 : decode cX11_undo 20 = .ok (.isub, 1) := by decide +kernel
theorem dX11_undo_21 : decode cX11_undo 21 = .ok (.putfield 416, 3) := by decide +kernel
theorem dX11_undo_24 : decode cX11_undo 24 = .ok (.iconst 0, 1) := by decide +kernel
theorem dX11_undo_25 : decode cX11_undo 25 = .ok (.istore_n 1, 1) := by decide +kernel
theorem dX11_undo_26 : decode cX11_undo 26 = .ok (.iload_n 1, 1) := by decide +kernel
theorem dX11_undo_27 : decode cX11_undo 27 = .ok (.sipush 711, 3) := by decide +kernel
theorem dX11_undo_30 : decode cX11_undo 30 = .ok (.if_icmp .ge 30, 3) := by decide +kernel
theorem dX11_undo_33 : decode cX11_undo 33 = .ok (.aload_n 0, 1) := by decide +kernel
theorem dX11_undo_34 : decode cX11_undo 34 = .ok (.getfield 9, 3) := by decide +kernel
theorem dX11_undo_37 : decode cX11_undo 37 = .ok (.iload_n 1, 1) := by decide +kernel
theorem dX11_undo_38 : decode cX11_undo 38 = .ok (.aload_n 0, 1) := by decide +kernel
theorem dX11_undo_39 : decode cX11_undo 39 = .ok (.getfield 75, 3) := by decide +kernel
theorem dX11_undo_42 : decode cX11_undo 42 = .ok (.sipush 711, 3) := by decide +kernel
theorem dX11_undo_45 : decode cX11_undo 45 = .ok (.aload_n 0, 1) := by decide +kernel
theorem dX11_undo_46 : decode cX11_undo 46 = .ok (.getfield 416, 3) := by decide +kernel
theorem dX11_undo_49 : decode cX11_undo 49 = .ok (.imul, 1) := by decide +kernel
theorem dX11_undo_50 : decode cX11_undo 50 = .ok (.iload_n 1, 1) := by decide +kernel
theorem dX11_undo_51 : decode cX11_undo 51 = .ok (.iadd, 1) := by decide +kernel
theorem dX11_undo_52 : decode cX11_undo 52 = .ok (.iaload, 1) := by decide +kernel
theorem dX11_undo_53 : decode cX11_undo 53 = .ok (.iastore, 1) := by decide +kernel
theorem dX11_undo_54 : decode cX11_undo 54 = .ok (.iinc 1 1, 3) := by decide +kernel
theorem dX11_undo_57 : decode cX11_undo 57 = .ok (.goto (-31), 3) := by decide +kernel
theorem dX11_undo_60 : decode cX11_undo 60 = .ok (.aload_n 0, 1) := by decide +kernel
theorem dX11_undo_61 : decode cX11_undo 61 = .ok (.getfield 416, 3) := by decide +kernel
theorem dX11_undo_64 : decode cX11_undo 64 = .ok (.ireturn, 1) := by decide +kernel
theorem dX11_keep_0 : decode cX11_keep 0 = .ok (.aload_n 0, 1) := by decide +kernel
theorem dX11_keep_1 : decode cX11_keep 1 = .ok (.iconst 0, 1) := by decide +kernel
theorem dX11_keep_2 : decode cX11_keep 2 = .ok (.putfield 105, 3) := by decide +kernel
theorem dX11_keep_5 : decode cX11_keep 5 = .ok (.iload_n 1, 1) := by decide +kernel
theorem dX11_keep_6 : decode cX11_keep 6 = .ok (.iconst 0, 1) := by decide +kernel
theorem dX11_keep_7 : decode cX11_keep 7 = .ok (.iconst 1, 1) := by decide +kernel
theorem dX11_keep_8 : decode cX11_keep 8 = .ok (.invokestatic 112, 3) := by decide +kernel
theorem dX11_keep_11 : decode cX11_keep 11 = .ok (.ifCond .ne 5, 3) := by decide +kernel
theorem dX11_keep_14 : decode cX11_keep 14 = .ok (.iconst 0, 1) := by decide +kernel
theorem dX11_keep_15 : decode cX11_keep 15 = .ok (.ireturn, 1) := by decide +kernel
theorem dX11_keep_16 : decode cX11_keep 16 = .ok (.aload_n 0, 1) := by decide +kernel
theorem dX11_keep_17 : decode cX11_keep 17 = .ok (.getfield 90, 3) := by decide +kernel
theorem dX11_keep_20 : decode cX11_keep 20 = .ok (.iload_n 1, 1) := by decide +kernel
theorem dX11_keep_21 : decode cX11_keep 21 = .ok (.iconst 1, 1) := by decide +kernel
theorem dX11_keep_22 : decode cX11_keep 22 = .ok (.bastore, 1) := by decide +kernel
theorem dX11_keep_23 : decode cX11_keep 23 = .ok (.iconst 0, 1) := by decide +kernel
theorem dX11_keep_24 : decode cX11_keep 24 = .ok (.istore_n 2, 1) := by decide +kernel
theorem dX11_keep_25 : decode cX11_keep 25 = .ok (.iload_n 2, 1) := by decide +kernel
theorem dX11_keep_26 : decode cX11_keep 26 = .ok (.sipush 711, 3) := by decide +kernel
theorem dX11_keep_29 : decode cX11_keep 29 = .ok (.if_icmp .ge 27, 3) := by decide +kernel
theorem dX11_keep_32 : decode cX11_keep 32 = .ok (.aload_n 0, 1) := by decide +kernel
theorem dX11_keep_33 : decode cX11_keep 33 = .ok (.getfield 87, 3) := by decide +kernel
theorem dX11_keep_36 : decode cX11_keep 36 = .ok (.sipush 711, 3) := by decide +kernel
theorem dX11_keep_39 : decode cX11_keep 39 = .ok (.iload_n 1, 1) := by decide +kernel
theorem dX11_keep_40 : decode cX11_keep 40 = .ok (.imul, 1) := by decide +kernel
theorem dX11_keep_41 : decode cX11_keep 41 = .ok (.iload_n 2, 1) := by decide +kernel
theorem dX11_keep_42 : decode cX11_keep 42 = .ok (.iadd, 1) := by decide +kernel
theorem dX11_keep_43 : decode cX11_keep 43 = .ok (.aload_n 0, 1) := by decide +kernel
theorem dX11_keep_44 : decode cX11_keep 44 = .ok (.getfield 9, 3) := by decide +kernel
theorem dX11_keep_47 : decode cX11_keep 47 = .ok (.iload_n 2, 1) := by decide +kernel
theorem dX11_keep_48 : decode cX11_keep 48 = .ok (.iaload, 1) := by decide +kernel
theorem dX11_keep_49 : decode cX11_keep 49 = .ok (.iastore, 1) := by decide +kernel
theorem dX11_keep_50 : decode cX11_keep 50 = .ok (.iinc 2 1, 3) := by decide +kernel
theorem dX11_keep_53 : decode cX11_keep 53 = .ok (.goto (-28), 3) := by decide +kernel
theorem dX11_keep_56 : decode cX11_keep 56 = .ok (.iconst 1, 1) := by decide +kernel
theorem dX11_keep_57 : decode cX11_keep 57 = .ok (.ireturn, 1) := by decide +kernel
theorem dX11_again_0 : decode cX11_again 0 = .ok (.aload_n 0, 1) := by decide +kernel
theorem dX11_again_1 : decode cX11_again 1 = .ok (.iconst 0, 1) := by decide +kernel
theorem dX11_again_2 : decode cX11_again 2 = .ok (.putfield 105, 3) := by decide +kernel
theorem dX11_again_5 : decode cX11_again 5 = .ok (.iload_n 1, 1) := by decide +kernel
theorem dX11_again_6 : decode cX11_again 6 = .ok (.iconst 0, 1) := by decide +kernel
theorem dX11_again_7 : decode cX11_again 7 = .ok (.iconst 1, 1) := by decide +kernel
theorem dX11_again_8 : decode cX11_again 8 = .ok (.invokestatic 112, 3) := by decide +kernel
theorem dX11_again_11 : decode cX11_again 11 = .ok (.ifCond .eq 12, 3) := by decide +kernel
theorem dX11_again_14 : decode cX11_again 14 = .ok (.aload_n 0, 1) := by decide +kernel
theorem dX11_again_15 : decode cX11_again 15 = .ok (.getfield 90, 3) := by decide +kernel
theorem dX11_again_18 : decode cX11_again 18 = .ok (.iload_n 1, 1) := by decide +kernel
theorem dX11_again_19 : decode cX11_again 19 = .ok (.baload, 1) := by decide +kernel
theorem dX11_again_20 : decode cX11_again 20 = .ok (.ifCond .ne 5, 3) := by decide +kernel
theorem dX11_again_23 : decode cX11_again 23 = .ok (.iconst 0, 1) := by decide +kernel
theorem dX11_again_24 : decode cX11_again 24 = .ok (.ireturn, 1) := by decide +kernel
theorem dX11_again_25 : decode cX11_again 25 = .ok (.iconst 0, 1) := by decide +kernel
theorem dX11_again_26 : decode cX11_again 26 = .ok (.istore_n 2, 1) := by decide +kernel
theorem dX11_again_27 : decode cX11_again 27 = .ok (.iload_n 2, 1) := by decide +kernel
theorem dX11_again_28 : decode cX11_again 28 = .ok (.sipush 711, 3) := by decide +kernel
theorem dX11_again_31 : decode cX11_again 31 = .ok (.if_icmp .ge 27, 3) := by decide +kernel
theorem dX11_again_34 : decode cX11_again 34 = .ok (.aload_n 0, 1) := by decide +kernel
theorem dX11_again_35 : decode cX11_again 35 = .ok (.getfield 9, 3) := by decide +kernel
theorem dX11_again_38 : decode cX11_again 38 = .ok (.iload_n 2, 1) := by decide +kernel
theorem dX11_again_39 : decode cX11_again 39 = .ok (.aload_n 0, 1) := by decide +kernel
theorem dX11_again_40 : decode cX11_again 40 = .ok (.getfield 87, 3) := by decide +kernel
theorem dX11_again_43 : decode cX11_again 43 = .ok (.sipush 711, 3) := by decide +kernel
theorem dX11_again_46 : decode cX11_again 46 = .ok (.iload_n 1, 1) := by decide +kernel
theorem dX11_again_47 : decode cX11_again 47 = .ok (.imul, 1) := by decide +kernel
theorem dX11_again_48 : decode cX11_again 48 = .ok (.iload_n 2, 1) := by decide +kernel
theorem dX11_again_49 : decode cX11_again 49 = .ok (.iadd, 1) := by decide +kernel
theorem dX11_again_50 : decode cX11_again 50 = .ok (.iaload, 1) := by decide +kernel
theorem dX11_again_51 : decode cX11_again 51 = .ok (.iastore, 1) := by decide +kernel
theorem dX11_again_52 : decode cX11_again 52 = .ok (.iinc 2 1, 3) := by decide +kernel
theorem dX11_again_55 : decode cX11_again 55 = .ok (.goto (-28), 3) := by decide +kernel
theorem dX11_again_58 : decode cX11_again 58 = .ok (.aload_n 0, 1) := by decide +kernel
theorem dX11_again_59 : decode cX11_again 59 = .ok (.iconst 0, 1) := by decide +kernel
theorem dX11_again_60 : decode cX11_again 60 = .ok (.putfield 416, 3) := by decide +kernel
theorem dX11_again_63 : decode cX11_again 63 = .ok (.iconst 1, 1) := by decide +kernel
theorem dX11_again_64 : decode cX11_again 64 = .ok (.ireturn, 1) := by decide +kernel
theorem dX11_count_0 : decode cX11_count 0 = .ok (.aload_n 0, 1) := by decide +kernel
theorem dX11_count_1 : decode cX11_count 1 = .ok (.iconst 0, 1) := by decide +kernel
theorem dX11_count_2 : decode cX11_count 2 = .ok (.putfield 105, 3) := by decide +kernel
theorem dX11_count_5 : decode cX11_count 5 = .ok (.iload_n 1, 1) := by decide +kernel
theorem dX11_count_6 : decode cX11_count 6 = .ok (.tableswitch 180 0 14 #[74, 79, 88, 97, 106, 115, 124, 133, 142, 151, 156, 161, 166, 166, 166], 74) := by decide +kernel
theorem dX11_count_80 : decode cX11_count 80 = .ok (.aload_n 0, 1) := by decide +kernel
theorem dX11_count_81 : decode cX11_count 81 = .ok (.invokevirtual 419, 3) := by decide +kernel
theorem dX11_count_84 : decode cX11_count 84 = .ok (.ireturn, 1) := by decide +kernel
theorem dX11_count_85 : decode cX11_count 85 = .ok (.aload_n 0, 1) := by decide +kernel
theorem dX11_count_86 : decode cX11_count 86 = .ok (.getfield 9, 3) := by decide +kernel
theorem dX11_count_89 : decode cX11_count 89 = .ok (.sipush 704, 3) := by decide +kernel
theorem dX11_count_92 : decode cX11_count 92 = .ok (.iaload, 1) := by decide +kernel
theorem dX11_count_93 : decode cX11_count 93 = .ok (.ireturn, 1) := by decide +kernel
theorem dX11_count_94 : decode cX11_count 94 = .ok (.aload_n 0, 1) := by decide +kernel
theorem dX11_count_95 : decode cX11_count 95 = .ok (.getfield 9, 3) := by decide +kernel
theorem dX11_count_98 : decode cX11_count 98 = .ok (.sipush 705, 3) := by decide +kernel
theorem dX11_count_101 : decode cX11_count 101 = .ok (.iaload, 1) := by decide +kernel
theorem dX11_count_102 : decode cX11_count 102 = .ok (.ireturn, 1) := by decide +kernel
theorem dX11_count_103 : decode cX11_count 103 = .ok (.aload_n 0, 1) := by decide +kernel
theorem dX11_count_104 : decode cX11_count 104 = .ok (.getfield 9, 3) := by decide +kernel
theorem dX11_count_107 : decode cX11_count 107 = .ok (.sipush 706, 3) := by decide +kernel
theorem dX11_count_110 : decode cX11_count 110 = .ok (.iaload, 1) := by decide +kernel
theorem dX11_count_111 : decode cX11_count 111 = .ok (.ireturn, 1) := by decide +kernel
theorem dX11_count_112 : decode cX11_count 112 = .ok (.aload_n 0, 1) := by decide +kernel
theorem dX11_count_113 : decode cX11_count 113 = .ok (.getfield 9, 3) := by decide +kernel
theorem dX11_count_116 : decode cX11_count 116 = .ok (.sipush 707, 3) := by decide +kernel
theorem dX11_count_119 : decode cX11_count 119 = .ok (.iaload, 1) := by decide +kernel
theorem dX11_count_120 : decode cX11_count 120 = .ok (.ireturn, 1) := by decide +kernel
theorem dX11_count_121 : decode cX11_count 121 = .ok (.aload_n 0, 1) := by decide +kernel
theorem dX11_count_122 : decode cX11_count 122 = .ok (.getfield 9, 3) := by decide +kernel
theorem dX11_count_125 : decode cX11_count 125 = .ok (.sipush 613, 3) := by decide +kernel
theorem dX11_count_128 : decode cX11_count 128 = .ok (.iaload, 1) := by decide +kernel
theorem dX11_count_129 : decode cX11_count 129 = .ok (.ireturn, 1) := by decide +kernel
theorem dX11_count_130 : decode cX11_count 130 = .ok (.aload_n 0, 1) := by decide +kernel
theorem dX11_count_131 : decode cX11_count 131 = .ok (.getfield 9, 3) := by decide +kernel
theorem dX11_count_134 : decode cX11_count 134 = .ok (.sipush 612, 3) := by decide +kernel
theorem dX11_count_137 : decode cX11_count 137 = .ok (.iaload, 1) := by decide +kernel
theorem dX11_count_138 : decode cX11_count 138 = .ok (.ireturn, 1) := by decide +kernel
theorem dX11_count_139 : decode cX11_count 139 = .ok (.aload_n 0, 1) := by decide +kernel
theorem dX11_count_140 : decode cX11_count 140 = .ok (.getfield 9, 3) := by decide +kernel
theorem dX11_count_143 : decode cX11_count 143 = .ok (.sipush 702, 3) := by decide +kernel
theorem dX11_count_146 : decode cX11_count 146 = .ok (.iaload, 1) := by decide +kernel
theorem dX11_count_147 : decode cX11_count 147 = .ok (.ireturn, 1) := by decide +kernel
theorem dX11_count_148 : decode cX11_count 148 = .ok (.aload_n 0, 1) := by decide +kernel
theorem dX11_count_149 : decode cX11_count 149 = .ok (.getfield 9, 3) := by decide +kernel
theorem dX11_count_152 : decode cX11_count 152 = .ok (.sipush 703, 3) := by decide +kernel
theorem dX11_count_155 : decode cX11_count 155 = .ok (.iaload, 1) := by decide +kernel
theorem dX11_count_156 : decode cX11_count 156 = .ok (.ireturn, 1) := by decide +kernel
theorem dX11_count_157 : decode cX11_count 157 = .ok (.aload_n 0, 1) := by decide +kernel
theorem dX11_count_158 : decode cX11_count 158 = .ok (.getfield 416, 3) := by decide +kernel
theorem dX11_count_161 : decode cX11_count 161 = .ok (.ireturn, 1) := by decide +kernel
theorem dX11_count_162 : decode cX11_count 162 = .ok (.aload_n 0, 1) := by decide +kernel
theorem dX11_count_163 : decode cX11_count 163 = .ok (.getfield 109, 3) := by decide +kernel
theorem dX11_count_166 : decode cX11_count 166 = .ok (.ireturn, 1) := by decide +kernel
theorem dX11_count_167 : decode cX11_count 167 = .ok (.aload_n 0, 1) := by decide +kernel
theorem dX11_count_168 : decode cX11_count 168 = .ok (.getfield 126, 3) := by decide +kernel
theorem dX11_count_171 : decode cX11_count 171 = .ok (.ireturn, 1) := by decide +kernel
theorem dX11_count_172 : decode cX11_count 172 = .ok (.aload_n 0, 1) := by decide +kernel
theorem dX11_count_173 : decode cX11_count 173 = .ok (.getfield 9, 3) := by decide +kernel
theorem dX11_count_176 : decode cX11_count 176 = .ok (.sipush 708, 3) := by decide +kernel
theorem dX11_count_179 : decode cX11_count 179 = .ok (.iload_n 1, 1) := by decide +kernel
theorem dX11_count_180 : decode cX11_count 180 = .ok (.iadd, 1) := by decide +kernel
theorem dX11_count_181 : decode cX11_count 181 = .ok (.bipush 12, 2) := by decide +kernel
theorem dX11_count_183 : decode cX11_count 183 = .ok (.isub, 1) := by decide +kernel
theorem dX11_count_184 : decode cX11_count 184 = .ok (.iaload, 1) := by decide +kernel
theorem dX11_count_185 : decode cX11_count 185 = .ok (.ireturn, 1) := by decide +kernel
theorem dX11_count_186 : decode cX11_count 186 = .ok (.iconst (-1), 1) := by decide +kernel
theorem dX11_count_187 : decode cX11_count 187 = .ok (.ireturn, 1) := by decide +kernel
theorem dX11_row_0 : decode cX11_row 0 = .ok (.aload_n 0, 1) := by decide +kernel
theorem dX11_row_1 : decode cX11_row 1 = .ok (.iconst 0, 1) := by decide +kernel
theorem dX11_row_2 : decode cX11_row 2 = .ok (.putfield 105, 3) := by decide +kernel
theorem dX11_row_5 : decode cX11_row 5 = .ok (.iload_n 1, 1) := by decide +kernel
theorem dX11_row_6 : decode cX11_row 6 = .ok (.iconst 0, 1) := by decide +kernel
theorem dX11_row_7 : decode cX11_row 7 = .ok (.aload_n 0, 1) := by decide +kernel
theorem dX11_row_8 : decode cX11_row 8 = .ok (.getfield 109, 3) := by decide +kernel
theorem dX11_row_11 : decode cX11_row 11 = .ok (.iconst 1, 1) := by decide +kernel
theorem dX11_row_12 : decode cX11_row 12 = .ok (.isub, 1) := by decide +kernel
theorem dX11_row_13 : decode cX11_row 13 = .ok (.invokestatic 112, 3) := by decide +kernel
theorem dX11_row_16 : decode cX11_row 16 = .ok (.ifCond .eq 12, 3) := by decide +kernel
theorem dX11_row_19 : decode cX11_row 19 = .ok (.aload_n 0, 1) := by decide +kernel
theorem dX11_row_20 : decode cX11_row 20 = .ok (.getfield 17, 3) := by decide +kernel
theorem dX11_row_23 : decode cX11_row 23 = .ok (.iload_n 1, 1) := by decide +kernel
theorem dX11_row_24 : decode cX11_row 24 = .ok (.laload, 1) := by decide +kernel
theorem dX11_row_25 : decode cX11_row 25 = .ok (.goto 8, 3) := by decide +kernel
theorem dX11_row_28 : decode cX11_row 28 = .ok (.aload_n 0, 1) := by decide +kernel
theorem dX11_row_29 : decode cX11_row 29 = .ok (.invokevirtual 233, 3) := by decide +kernel
theorem dX11_row_32 : decode cX11_row 32 = .ok (.i2l, 1) := by decide +kernel
theorem dX11_row_33 : decode cX11_row 33 = .ok (.lreturn, 1) := by decide +kernel
theorem dJ11_isValidCodePoint_9a6ad_0 : decode cJ11_isValidCodePoint_9a6ad 0 = .ok (.iload_n 0, 1) := by decide +kernel
theorem dJ11_isValidCodePoint_9a6ad_1 : decode cJ11_isValidCodePoint_9a6ad 1 = .ok (.bipush 16, 2) := by decide +kernel
theorem dJ11_isValidCodePoint_9a6ad_3 : decode cJ11_isValidCodePoint_9a6ad 3 = .ok (.iushr, 1) := by decide +kernel
theorem dJ11_isValidCodePoint_9a6ad_4 : decode cJ11_isValidCodePoint_9a6ad 4 = .ok (.istore_n 1, 1) := by decide +kernel
theorem dJ11_isValidCodePoint_9a6ad_5 : decode cJ11_isValidCodePoint_9a6ad 5 = .ok (.iload_n 1, 1) := by decide +kernel
theorem dJ11_isValidCodePoint_9a6ad_6 : decode cJ11_isValidCodePoint_9a6ad 6 = .ok (.bipush 17, 2) := by decide +kernel
theorem dJ11_isValidCodePoint_9a6ad_8 : decode cJ11_isValidCodePoint_9a6ad 8 = .ok (.if_icmp .ge 7, 3) := by decide +kernel
theorem dJ11_isValidCodePoint_9a6ad_11 : decode cJ11_isValidCodePoint_9a6ad 11 = .ok (.iconst 1, 1) := by decide +kernel
theorem dJ11_isValidCodePoint_9a6ad_12 : decode cJ11_isValidCodePoint_9a6ad 12 = .ok (.goto 4, 3) := by decide +kernel
theorem dJ11_isValidCodePoint_9a6ad_15 : decode cJ11_isValidCodePoint_9a6ad 15 = .ok (.iconst 0, 1) := by decide +kernel
theorem dJ11_isValidCodePoint_9a6ad_16 : decode cJ11_isValidCodePoint_9a6ad 16 = .ok (.ireturn, 1) := by decide +kernel
theorem dJ11_highSurrogate_5068e_0 : decode cJ11_highSurrogate_5068e 0 = .ok (.iload_n 0, 1) := by decide +kernel
theorem dJ11_highSurrogate_5068e_1 : decode cJ11_highSurrogate_5068e 1 = .ok (.bipush 10, 2) := by decide +kernel
theorem dJ11_highSurrogate_5068e_3 : decode cJ11_highSurrogate_5068e 3 = .ok (.iushr, 1) := by decide +kernel
theorem dJ11_highSurrogate_5068e_4 : decode cJ11_highSurrogate_5068e 4 = .ok (.ldc 110, 2) := by decide +kernel
theorem dJ11_highSurrogate_5068e_6 : decode cJ11_highSurrogate_5068e 6 = .ok (.iadd, 1) := by decide +kernel
theorem dJ11_highSurrogate_5068e_7 : decode cJ11_highSurrogate_5068e 7 = .ok (.i2c, 1) := by decide +kernel
theorem dJ11_highSurrogate_5068e_8 : decode cJ11_highSurrogate_5068e 8 = .ok (.ireturn, 1) := by decide +kernel
theorem dJ11_lowSurrogate_5068e_0 : decode cJ11_lowSurrogate_5068e 0 = .ok (.iload_n 0, 1) := by decide +kernel
theorem dJ11_lowSurrogate_5068e_1 : decode cJ11_lowSurrogate_5068e 1 = .ok (.sipush 1023, 3) := by decide +kernel
theorem dJ11_lowSurrogate_5068e_4 : decode cJ11_lowSurrogate_5068e 4 = .ok (.iand, 1) := by decide +kernel
theorem dJ11_lowSurrogate_5068e_5 : decode cJ11_lowSurrogate_5068e 5 = .ok (.ldc 76, 2) := by decide +kernel
theorem dJ11_lowSurrogate_5068e_7 : decode cJ11_lowSurrogate_5068e 7 = .ok (.iadd, 1) := by decide +kernel
theorem dJ11_lowSurrogate_5068e_8 : decode cJ11_lowSurrogate_5068e 8 = .ok (.i2c, 1) := by decide +kernel
theorem dJ11_lowSurrogate_5068e_9 : decode cJ11_lowSurrogate_5068e 9 = .ok (.ireturn, 1) := by decide +kernel
theorem dJ9_abs_0f7a4_0 : decode cJ9_abs_0f7a4 0 = .ok (.iload_n 0, 1) := by decide +kernel
theorem dJ9_abs_0f7a4_1 : decode cJ9_abs_0f7a4 1 = .ok (.ifCond .ge 8, 3) := by decide +kernel
theorem dJ9_abs_0f7a4_4 : decode cJ9_abs_0f7a4 4 = .ok (.iload_n 0, 1) := by decide +kernel
theorem dJ9_abs_0f7a4_5 : decode cJ9_abs_0f7a4 5 = .ok (.ineg, 1) := by decide +kernel
theorem dJ9_abs_0f7a4_6 : decode cJ9_abs_0f7a4 6 = .ok (.goto 4, 3) := by decide +kernel
theorem dJ9_abs_0f7a4_9 : decode cJ9_abs_0f7a4 9 = .ok (.iload_n 0, 1) := by decide +kernel
theorem dJ9_abs_0f7a4_10 : decode cJ9_abs_0f7a4 10 = .ok (.ireturn, 1) := by decide +kernel
theorem dJ9_max_7cf53_0 : decode cJ9_max_7cf53 0 = .ok (.iload_n 0, 1) := by decide +kernel
theorem dJ9_max_7cf53_1 : decode cJ9_max_7cf53 1 = .ok (.iload_n 1, 1) := by decide +kernel
theorem dJ9_max_7cf53_2 : decode cJ9_max_7cf53 2 = .ok (.if_icmp .lt 7, 3) := by decide +kernel
theorem dJ9_max_7cf53_5 : decode cJ9_max_7cf53 5 = .ok (.iload_n 0, 1) := by decide +kernel
theorem dJ9_max_7cf53_6 : decode cJ9_max_7cf53 6 = .ok (.goto 4, 3) := by decide +kernel
theorem dJ9_max_7cf53_9 : decode cJ9_max_7cf53 9 = .ok (.iload_n 1, 1) := by decide +kernel
theorem dJ9_max_7cf53_10 : decode cJ9_max_7cf53 10 = .ok (.ireturn, 1) := by decide +kernel
theorem dJ9_min_7cf53_0 : decode cJ9_min_7cf53 0 = .ok (.iload_n 0, 1) := by decide +kernel
theorem dJ9_min_7cf53_1 : decode cJ9_min_7cf53 1 = .ok (.iload_n 1, 1) := by decide +kernel
theorem dJ9_min_7cf53_2 : decode cJ9_min_7cf53 2 = .ok (.if_icmp .gt 7, 3) := by decide +kernel
theorem dJ9_min_7cf53_5 : decode cJ9_min_7cf53 5 = .ok (.iload_n 0, 1) := by decide +kernel
theorem dJ9_min_7cf53_6 : decode cJ9_min_7cf53 6 = .ok (.goto 4, 3) := by decide +kernel
theorem dJ9_min_7cf53_9 : decode cJ9_min_7cf53 9 = .ok (.iload_n 1, 1) := by decide +kernel
theorem dJ9_min_7cf53_10 : decode cJ9_min_7cf53 10 = .ok (.ireturn, 1) := by decide +kernel
theorem dJ0_length_8abf5_0 : decode cJ0_length_8abf5 0 = .ok (.aload_n 0, 1) := by decide +kernel
theorem dJ0_length_8abf5_1 : decode cJ0_length_8abf5 1 = .ok (.getfield 9, 3) := by decide +kernel
theorem dJ0_length_8abf5_4 : decode cJ0_length_8abf5 4 = .ok (.arraylength, 1) := by decide +kernel
theorem dJ0_length_8abf5_5 : decode cJ0_length_8abf5 5 = .ok (.aload_n 0, 1) := by decide +kernel
theorem dJ0_length_8abf5_6 : decode cJ0_length_8abf5 6 = .ok (.invokevirtual 335, 3) := by decide +kernel
theorem dJ0_length_8abf5_9 : decode cJ0_length_8abf5 9 = .ok (.ishr, 1) := by decide +kernel
theorem dJ0_length_8abf5_10 : decode cJ0_length_8abf5 10 = .ok (.ireturn, 1) := by decide +kernel
theorem dJ0_isEmpty_aae02_0 : decode cJ0_isEmpty_aae02 0 = .ok (.aload_n 0, 1) := by decide +kernel
theorem dJ0_isEmpty_aae02_1 : decode cJ0_isEmpty_aae02 1 = .ok (.getfield 9, 3) := by decide +kernel
theorem dJ0_isEmpty_aae02_4 : decode cJ0_isEmpty_aae02 4 = .ok (.arraylength, 1) := by decide +kernel
theorem dJ0_isEmpty_aae02_5 : decode cJ0_isEmpty_aae02 5 = .ok (.ifCond .ne 7, 3) := by decide +kernel
theorem dJ0_isEmpty_aae02_8 : decode cJ0_isEmpty_aae02 8 = .ok (.iconst 1, 1) := by decide +kernel
theorem dJ0_isEmpty_aae02_9 : decode cJ0_isEmpty_aae02 9 = .ok (.goto 4, 3) := by decide +kernel
theorem dJ0_isEmpty_aae02_12 : decode cJ0_isEmpty_aae02 12 = .ok (.iconst 0, 1) := by decide +kernel
theorem dJ0_isEmpty_aae02_13 : decode cJ0_isEmpty_aae02 13 = .ok (.ireturn, 1) := by decide +kernel
theorem dJ0_charAt_5068e_0 : decode cJ0_charAt_5068e 0 = .ok (.aload_n 0, 1) := by decide +kernel
theorem dJ0_charAt_5068e_1 : decode cJ0_charAt_5068e 1 = .ok (.invokevirtual 492, 3) := by decide +kernel
theorem dJ0_charAt_5068e_4 : decode cJ0_charAt_5068e 4 = .ok (.ifCond .eq 12, 3) := by decide +kernel
theorem dJ0_charAt_5068e_7 : decode cJ0_charAt_5068e 7 = .ok (.aload_n 0, 1) := by decide +kernel
theorem dJ0_charAt_5068e_8 : decode cJ0_charAt_5068e 8 = .ok (.getfield 9, 3) := by decide +kernel
theorem dJ0_charAt_5068e_11 : decode cJ0_charAt_5068e 11 = .ok (.iload_n 1, 1) := by decide +kernel
theorem dJ0_charAt_5068e_12 : decode cJ0_charAt_5068e 12 = .ok (.invokestatic 495, 3) := by decide +kernel
theorem dJ0_charAt_5068e_15 : decode cJ0_charAt_5068e 15 = .ok (.ireturn, 1) := by decide +kernel
theorem dJ0_charAt_5068e_16 : decode cJ0_charAt_5068e 16 = .ok (.aload_n 0, 1) := by decide +kernel
theorem dJ0_charAt_5068e_17 : decode cJ0_charAt_5068e 17 = .ok (.getfield 9, 3) := by decide +kernel
theorem dJ0_charAt_5068e_20 : decode cJ0_charAt_5068e 20 = .ok (.iload_n 1, 1) := by decide +kernel
theorem dJ0_charAt_5068e_21 : decode cJ0_charAt_5068e 21 = .ok (.invokestatic 498, 3) := by decide +kernel
theorem dJ0_charAt_5068e_24 : decode cJ0_charAt_5068e 24 = .ok (.ireturn, 1) := by decide +kernel
theorem dJ0_indexOf_0f7a4_0 : decode cJ0_indexOf_0f7a4 0 = .ok (.aload_n 0, 1) := by decide +kernel
theorem dJ0_indexOf_0f7a4_1 : decode cJ0_indexOf_0f7a4 1 = .ok (.iload_n 1, 1) := by decide +kernel
theorem dJ0_indexOf_0f7a4_2 : decode cJ0_indexOf_0f7a4 2 = .ok (.iconst 0, 1) := by decide +kernel
theorem dJ0_indexOf_0f7a4_3 : decode cJ0_indexOf_0f7a4 3 = .ok (.invokevirtual 633, 3) := by decide +kernel
theorem dJ0_indexOf_0f7a4_6 : decode cJ0_indexOf_0f7a4 6 = .ok (.ireturn, 1) := by decide +kernel
theorem dJ0_indexOf_7cf53_0 : decode cJ0_indexOf_7cf53 0 = .ok (.aload_n 0, 1) := by decide +kernel
theorem dJ0_indexOf_7cf53_1 : decode cJ0_indexOf_7cf53 1 = .ok (.invokevirtual 492, 3) := by decide +kernel
theorem dJ0_indexOf_7cf53_4 : decode cJ0_indexOf_7cf53 4 = .ok (.ifCond .eq 19, 3) := by decide +kernel
theorem dJ0_indexOf_7cf53_7 : decode cJ0_indexOf_7cf53 7 = .ok (.aload_n 0, 1) := by decide +kernel
theorem dJ0_indexOf_7cf53_8 : decode cJ0_indexOf_7cf53 8 = .ok (.getfield 9, 3) := by decide +kernel
theorem dJ0_indexOf_7cf53_11 : decode cJ0_indexOf_7cf53 11 = .ok (.iload_n 1, 1) := by decide +kernel
theorem dJ0_indexOf_7cf53_12 : decode cJ0_indexOf_7cf53 12 = .ok (.iload_n 2, 1) := by decide +kernel
theorem dJ0_indexOf_7cf53_13 : decode cJ0_indexOf_7cf53 13 = .ok (.aload_n 0, 1) := by decide +kernel
theorem dJ0_indexOf_7cf53_14 : decode cJ0_indexOf_7cf53 14 = .ok (.invokevirtual 505, 3) := by decide +kernel
theorem dJ0_indexOf_7cf53_17 : decode cJ0_indexOf_7cf53 17 = .ok (.invokestatic 637, 3) := by decide +kernel
theorem dJ0_indexOf_7cf53_20 : decode cJ0_indexOf_7cf53 20 = .ok (.goto 16, 3) := by decide +kernel
theorem dJ0_indexOf_7cf53_23 : decode cJ0_indexOf_7cf53 23 = .ok (.aload_n 0, 1) := by decide +kernel
theorem dJ0_indexOf_7cf53_24 : decode cJ0_indexOf_7cf53 24 = .ok (.getfield 9, 3) := by decide +kernel
theorem dJ0_indexOf_7cf53_27 : decode cJ0_indexOf_7cf53 27 = .ok (.iload_n 1, 1) := by decide +kernel
theorem dJ0_indexOf_7cf53_28 : decode cJ0_indexOf_7cf53 28 = .ok (.iload_n 2, 1) := by decide +kernel
theorem dJ0_indexOf_7cf53_29 : decode cJ0_indexOf_7cf53 29 = .ok (.aload_n 0, 1) := by decide +kernel
theorem dJ0_indexOf_7cf53_30 : decode cJ0_indexOf_7cf53 30 = .ok (.invokevirtual 505, 3) := by decide +kernel
theorem dJ0_indexOf_7cf53_33 : decode cJ0_indexOf_7cf53 33 = .ok (.invokestatic 640, 3) := by decide +kernel
theorem dJ0_indexOf_7cf53_36 : decode cJ0_indexOf_7cf53 36 = .ok (.ireturn, 1) := by decide +kernel
theorem dJ0_coder_7d493_0 : decode cJ0_coder_7d493 0 = .ok (.getstatic 38, 3) := by decide +kernel
theorem dJ0_coder_7d493_3 : decode cJ0_coder_7d493 3 = .ok (.ifCond .eq 10, 3) := by decide +kernel
theorem dJ0_coder_7d493_6 : decode cJ0_coder_7d493 6 = .ok (.aload_n 0, 1) := by decide +kernel
theorem dJ0_coder_7d493_7 : decode cJ0_coder_7d493 7 = .ok (.getfield 15, 3) := by decide +kernel
theorem dJ0_coder_7d493_10 : decode cJ0_coder_7d493 10 = .ok (.goto 4, 3) := by decide +kernel
theorem dJ0_coder_7d493_13 : decode cJ0_coder_7d493 13 = .ok (.iconst 1, 1) := by decide +kernel
theorem dJ0_coder_7d493_14 : decode cJ0_coder_7d493 14 = .ok (.ireturn, 1) := by decide +kernel
theorem dJ0_isLatin1_aae02_0 : decode cJ0_isLatin1_aae02 0 = .ok (.getstatic 38, 3) := by decide +kernel
theorem dJ0_isLatin1_aae02_3 : decode cJ0_isLatin1_aae02 3 = .ok (.ifCond .eq 14, 3) := by decide +kernel
theorem dJ0_isLatin1_aae02_6 : decode cJ0_isLatin1_aae02 6 = .ok (.aload_n 0, 1) := by decide +kernel
theorem dJ0_isLatin1_aae02_7 : decode cJ0_isLatin1_aae02 7 = .ok (.getfield 15, 3) := by decide +kernel
theorem dJ0_isLatin1_aae02_10 : decode cJ0_isLatin1_aae02 10 = .ok (.ifCond .ne 7, 3) := by decide +kernel
theorem dJ0_isLatin1_aae02_13 : decode cJ0_isLatin1_aae02 13 = .ok (.iconst 1, 1) := by decide +kernel
theorem dJ0_isLatin1_aae02_14 : decode cJ0_isLatin1_aae02 14 = .ok (.goto 4, 3) := by decide +kernel
theorem dJ0_isLatin1_aae02_17 : decode cJ0_isLatin1_aae02 17 = .ok (.iconst 0, 1) := by decide +kernel
theorem dJ0_isLatin1_aae02_18 : decode cJ0_isLatin1_aae02 18 = .ok (.ireturn, 1) := by decide +kernel
theorem dJ0_checkIndex_df160_0 : decode cJ0_checkIndex_df160 0 = .ok (.iload_n 0, 1) := by decide +kernel
theorem dJ0_checkIndex_df160_1 : decode cJ0_checkIndex_df160 1 = .ok (.iload_n 1, 1) := by decide +kernel
theorem dJ0_checkIndex_df160_2 : decode cJ0_checkIndex_df160 2 = .ok (.getstatic 1053, 3) := by decide +kernel
theorem dJ0_checkIndex_df160_5 : decode cJ0_checkIndex_df160 5 = .ok (.invokestatic 1059, 3) := by decide +kernel
theorem dJ0_checkIndex_df160_8 : decode cJ0_checkIndex_df160 8 = .ok (.pop, 1) := by decide +kernel
theorem dJ0_checkIndex_df160_9 : decode cJ0_checkIndex_df160 9 = .ok (.return_, 1) := by decide +kernel
theorem dJ0_checkBoundsBeginEnd_23922_0 : decode cJ0_checkBoundsBeginEnd_23922 0 = .ok (.iload_n 0, 1) := by decide +kernel
theorem dJ0_checkBoundsBeginEnd_23922_1 : decode cJ0_checkBoundsBeginEnd_23922 1 = .ok (.iload_n 1, 1) := by decide +kernel
theorem dJ0_checkBoundsBeginEnd_23922_2 : decode cJ0_checkBoundsBeginEnd_23922 2 = .ok (.iload_n 2, 1) := by decide +kernel
theorem dJ0_checkBoundsBeginEnd_23922_3 : decode cJ0_checkBoundsBeginEnd_23922 3 = .ok (.getstatic 1053, 3) := by decide +kernel
theorem dJ0_checkBoundsBeginEnd_23922_6 : decode cJ0_checkBoundsBeginEnd_23922 6 = .ok (.invokestatic 1062, 3) := by decide +kernel
theorem dJ0_checkBoundsBeginEnd_23922_9 : decode cJ0_checkBoundsBeginEnd_23922 9 = .ok (.pop, 1) := by decide +kernel
theorem dJ0_checkBoundsBeginEnd_23922_10 : decode cJ0_checkBoundsBeginEnd_23922 10 = .ok (.return_, 1) := by decide +kernel
theorem dJ1_charAt_3b067_0 : decode cJ1_charAt_3b067 0 = .ok (.iload_n 1, 1) := by decide +kernel
theorem dJ1_charAt_3b067_1 : decode cJ1_charAt_3b067 1 = .ok (.aload_n 0, 1) := by decide +kernel
theorem dJ1_charAt_3b067_2 : decode cJ1_charAt_3b067 2 = .ok (.arraylength, 1) := by decide +kernel
theorem dJ1_charAt_3b067_3 : decode cJ1_charAt_3b067 3 = .ok (.invokestatic 9, 3) := by decide +kernel
theorem dJ1_charAt_3b067_6 : decode cJ1_charAt_3b067 6 = .ok (.aload_n 0, 1) := by decide +kernel
theorem dJ1_charAt_3b067_7 : decode cJ1_charAt_3b067 7 = .ok (.iload_n 1, 1) := by decide +kernel
theorem dJ1_charAt_3b067_8 : decode cJ1_charAt_3b067 8 = .ok (.baload, 1) := by decide +kernel
theorem dJ1_charAt_3b067_9 : decode cJ1_charAt_3b067 9 = .ok (.sipush 255, 3) := by decide +kernel
theorem dJ1_charAt_3b067_12 : decode cJ1_charAt_3b067 12 = .ok (.iand, 1) := by decide +kernel
theorem dJ1_charAt_3b067_13 : decode cJ1_charAt_3b067 13 = .ok (.i2c, 1) := by decide +kernel
theorem dJ1_charAt_3b067_14 : decode cJ1_charAt_3b067 14 = .ok (.ireturn, 1) := by decide +kernel
theorem dJ1_canEncode_9a6ad_0 : decode cJ1_canEncode_9a6ad 0 = .ok (.iload_n 0, 1) := by decide +kernel
theorem dJ1_canEncode_9a6ad_1 : decode cJ1_canEncode_9a6ad 1 = .ok (.ifCond .lt 14, 3) := by decide +kernel
theorem dJ1_canEncode_9a6ad_4 : decode cJ1_canEncode_9a6ad 4 = .ok (.iload_n 0, 1) := by decide +kernel
theorem dJ1_canEncode_9a6ad_5 : decode cJ1_canEncode_9a6ad 5 = .ok (.sipush 255, 3) := by decide +kernel
theorem dJ1_canEncode_9a6ad_8 : decode cJ1_canEncode_9a6ad 8 = .ok (.if_icmp .gt 7, 3) := by decide +kernel
theorem dJ1_canEncode_9a6ad_11 : decode cJ1_canEncode_9a6ad 11 = .ok (.iconst 1, 1) := by decide +kernel
theorem dJ1_canEncode_9a6ad_12 : decode cJ1_canEncode_9a6ad 12 = .ok (.goto 4, 3) := by decide +kernel
theorem dJ1_canEncode_9a6ad_15 : decode cJ1_canEncode_9a6ad 15 = .ok (.iconst 0, 1) := by decide +kernel
theorem dJ1_canEncode_9a6ad_16 : decode cJ1_canEncode_9a6ad 16 = .ok (.ireturn, 1) := by decide +kernel
theorem dJ1_indexOf_4cfef_0 : decode cJ1_indexOf_4cfef 0 = .ok (.iload_n 1, 1) := by decide +kernel
theorem dJ1_indexOf_4cfef_1 : decode cJ1_indexOf_4cfef 1 = .ok (.invokestatic 88, 3) := by decide +kernel
theorem dJ1_indexOf_4cfef_4 : decode cJ1_indexOf_4cfef 4 = .ok (.ifCond .ne 5, 3) := by decide +kernel
theorem dJ1_indexOf_4cfef_7 : decode cJ1_indexOf_4cfef 7 = .ok (.iconst (-1), 1) := by decide +kernel
theorem dJ1_indexOf_4cfef_8 : decode cJ1_indexOf_4cfef 8 = .ok (.ireturn, 1) := by decide +kernel
theorem dJ1_indexOf_4cfef_9 : decode cJ1_indexOf_4cfef 9 = .ok (.iload_n 2, 1) := by decide +kernel
theorem dJ1_indexOf_4cfef_10 : decode cJ1_indexOf_4cfef 10 = .ok (.iconst 0, 1) := by decide +kernel
theorem dJ1_indexOf_4cfef_11 : decode cJ1_indexOf_4cfef 11 = .ok (.invokestatic 92, 3) := by decide +kernel
theorem dJ1_indexOf_4cfef_14 : decode cJ1_indexOf_4cfef 14 = .ok (.istore_n 2, 1) := by decide +kernel
theorem dJ1_indexOf_4cfef_15 : decode cJ1_indexOf_4cfef 15 = .ok (.iload_n 3, 1) := by decide +kernel
theorem dJ1_indexOf_4cfef_16 : decode cJ1_indexOf_4cfef 16 = .ok (.aload_n 0, 1) := by decide +kernel
theorem dJ1_indexOf_4cfef_17 : decode cJ1_indexOf_4cfef 17 = .ok (.arraylength, 1) := by decide +kernel
theorem dJ1_indexOf_4cfef_18 : decode cJ1_indexOf_4cfef 18 = .ok (.invokestatic 38, 3) := by decide +kernel
theorem dJ1_indexOf_4cfef_21 : decode cJ1_indexOf_4cfef 21 = .ok (.istore_n 3, 1) := by decide +kernel
theorem dJ1_indexOf_4cfef_22 : decode cJ1_indexOf_4cfef 22 = .ok (.iload_n 2, 1) := by decide +kernel
theorem dJ1_indexOf_4cfef_23 : decode cJ1_indexOf_4cfef 23 = .ok (.iload_n 3, 1) := by decide +kernel
theorem dJ1_indexOf_4cfef_24 : decode cJ1_indexOf_4cfef 24 = .ok (.if_icmp .lt 5, 3) := by decide +kernel
theorem dJ1_indexOf_4cfef_27 : decode cJ1_indexOf_4cfef 27 = .ok (.iconst (-1), 1) := by decide +kernel
theorem dJ1_indexOf_4cfef_28 : decode cJ1_indexOf_4cfef 28 = .ok (.ireturn, 1) := by decide +kernel
theorem dJ1_indexOf_4cfef_29 : decode cJ1_indexOf_4cfef 29 = .ok (.aload_n 0, 1) := by decide +kernel
theorem dJ1_indexOf_4cfef_30 : decode cJ1_indexOf_4cfef 30 = .ok (.iload_n 1, 1) := by decide +kernel
theorem dJ1_indexOf_4cfef_31 : decode cJ1_indexOf_4cfef 31 = .ok (.iload_n 2, 1) := by decide +kernel
theorem dJ1_indexOf_4cfef_32 : decode cJ1_indexOf_4cfef 32 = .ok (.iload_n 3, 1) := by decide +kernel
theorem dJ1_indexOf_4cfef_33 : decode cJ1_indexOf_4cfef 33 = .ok (.invokestatic 95, 3) := by decide +kernel
theorem dJ1_indexOf_4cfef_36 : decode cJ1_indexOf_4cfef 36 = .ok (.ireturn, 1) := by decide +kernel
theorem dJ1_indexOfChar_4cfef_0 : decode cJ1_indexOfChar_4cfef 0 = .ok (.iload_n 1, 1) := by decide +kernel
theorem dJ1_indexOfChar_4cfef_1 : decode cJ1_indexOfChar_4cfef 1 = .ok (.i2b, 1) := by decide +kernel
theorem dJ1_indexOfChar_4cfef_2 : decode cJ1_indexOfChar_4cfef 2 = .ok (.istore 4, 2) := by decide +kernel
theorem dJ1_indexOfChar_4cfef_4 : decode cJ1_indexOfChar_4cfef 4 = .ok (.iload_n 2, 1) := by decide +kernel
theorem dJ1_indexOfChar_4cfef_5 : decode cJ1_indexOfChar_4cfef 5 = .ok (.istore 5, 2) := by decide +kernel
theorem dJ1_indexOfChar_4cfef_7 : decode cJ1_indexOfChar_4cfef 7 = .ok (.iload 5, 2) := by decide +kernel
theorem dJ1_indexOfChar_4cfef_9 : decode cJ1_indexOfChar_4cfef 9 = .ok (.iload_n 3, 1) := by decide +kernel
theorem dJ1_indexOfChar_4cfef_10 : decode cJ1_indexOfChar_4cfef 10 = .ok (.if_icmp .ge 21, 3) := by decide +kernel
theorem dJ1_indexOfChar_4cfef_13 : decode cJ1_indexOfChar_4cfef 13 = .ok (.aload_n 0, 1) := by decide +kernel
theorem dJ1_indexOfChar_4cfef_14 : decode cJ1_indexOfChar_4cfef 14 = .ok (.iload 5, 2) := by decide +kernel
theorem dJ1_indexOfChar_4cfef_16 : decode cJ1_indexOfChar_4cfef 16 = .ok (.baload, 1) := by decide +kernel
theorem dJ1_indexOfChar_4cfef_17 : decode cJ1_indexOfChar_4cfef 17 = .ok (.iload 4, 2) := by decide +kernel
theorem dJ1_indexOfChar_4cfef_19 : decode cJ1_indexOfChar_4cfef 19 = .ok (.if_icmp .ne 6, 3) := by decide +kernel
theorem dJ1_indexOfChar_4cfef_22 : decode cJ1_indexOfChar_4cfef 22 = .ok (.iload 5, 2) := by decide +kernel
theorem dJ1_indexOfChar_4cfef_24 : decode cJ1_indexOfChar_4cfef 24 = .ok (.ireturn, 1) := by decide +kernel
theorem dJ1_indexOfChar_4cfef_25 : decode cJ1_indexOfChar_4cfef 25 = .ok (.iinc 5 1, 3) := by decide +kernel
theorem dJ1_indexOfChar_4cfef_28 : decode cJ1_indexOfChar_4cfef 28 = .ok (.goto (-21), 3) := by decide +kernel
theorem dJ1_indexOfChar_4cfef_31 : decode cJ1_indexOfChar_4cfef 31 = .ok (.iconst (-1), 1) := by decide +kernel
theorem dJ1_indexOfChar_4cfef_32 : decode cJ1_indexOfChar_4cfef 32 = .ok (.ireturn, 1) := by decide +kernel
theorem dJ2_getChar_3b067_0 : decode cJ2_getChar_3b067 0 = .ok (.getstatic 44, 3) := by decide +kernel
theorem dJ2_getChar_3b067_3 : decode cJ2_getChar_3b067 3 = .ok (.ifCond .ne 25, 3) := by decide +kernel
theorem dJ2_getChar_3b067_6 : decode cJ2_getChar_3b067 6 = .ok (.iload_n 1, 1) := by decide +kernel
theorem dJ2_getChar_3b067_7 : decode cJ2_getChar_3b067 7 = .ok (.ifCond .lt 11, 3) := by decide +kernel
theorem dJ2_getChar_3b067_10 : decode cJ2_getChar_3b067 10 = .ok (.iload_n 1, 1) := by decide +kernel
theorem dJ2_getChar_3b067_11 : decode cJ2_getChar_3b067 11 = .ok (.aload_n 0, 1) := by decide +kernel
theorem dJ2_getChar_3b067_12 : decode cJ2_getChar_3b067 12 = .ok (.invokestatic 48, 3) := by decide +kernel
theorem dJ2_getChar_3b067_15 : decode cJ2_getChar_3b067 15 = .ok (.if_icmp .lt 13, 3) := by decide +kernel
theorem dJ2_getChar_3b067_18 : decode cJ2_getChar_3b067 18 = .ok (.new 52, 3) := by decide +kernel
theorem dJ2_getChar_3b067_21 : decode cJ2_getChar_3b067 21 = .ok (.dup, 1) := by decide +kernel
theorem dJ2_getChar_3b067_22 : decode cJ2_getChar_3b067 22 = .ok (.ldc 54, 2) := by decide +kernel
theorem dJ2_getChar_3b067_24 : decode cJ2_getChar_3b067 24 = .ok (.invokespecial 56, 3) := by decide +kernel
theorem dJ2_getChar_3b067_27 : decode cJ2_getChar_3b067 27 = .ok (.athrow, 1) := by decide +kernel
theorem dJ2_getChar_3b067_28 : decode cJ2_getChar_3b067 28 = .ok (.iload_n 1, 1) := by decide +kernel
theorem dJ2_getChar_3b067_29 : decode cJ2_getChar_3b067 29 = .ok (.iconst 1, 1) := by decide +kernel
theorem dJ2_getChar_3b067_30 : decode cJ2_getChar_3b067 30 = .ok (.ishl, 1) := by decide +kernel
theorem dJ2_getChar_3b067_31 : decode cJ2_getChar_3b067 31 = .ok (.istore_n 1, 1) := by decide +kernel
theorem dJ2_getChar_3b067_32 : decode cJ2_getChar_3b067 32 = .ok (.aload_n 0, 1) := by decide +kernel
theorem dJ2_getChar_3b067_33 : decode cJ2_getChar_3b067 33 = .ok (.iload_n 1, 1) := by decide +kernel
theorem dJ2_getChar_3b067_34 : decode cJ2_getChar_3b067 34 = .ok (.iinc 1 1, 3) := by decide +kernel
theorem dJ2_getChar_3b067_37 : decode cJ2_getChar_3b067 37 = .ok (.baload, 1) := by decide +kernel
theorem dJ2_getChar_3b067_38 : decode cJ2_getChar_3b067 38 = .ok (.sipush 255, 3) := by decide +kernel
theorem dJ2_getChar_3b067_41 : decode cJ2_getChar_3b067 41 = .ok (.iand, 1) := by decide +kernel
theorem dJ2_getChar_3b067_42 : decode cJ2_getChar_3b067 42 = .ok (.getstatic 59, 3) := by decide +kernel
theorem dJ2_getChar_3b067_45 : decode cJ2_getChar_3b067 45 = .ok (.ishl, 1) := by decide +kernel
theorem dJ2_getChar_3b067_46 : decode cJ2_getChar_3b067 46 = .ok (.aload_n 0, 1) := by decide +kernel
theorem dJ2_getChar_3b067_47 : decode cJ2_getChar_3b067 47 = .ok (.iload_n 1, 1) := by decide +kernel
theorem dJ2_getChar_3b067_48 : decode cJ2_getChar_3b067 48 = .ok (.baload, 1) := by decide +kernel
theorem dJ2_getChar_3b067_49 : decode cJ2_getChar_3b067 49 = .ok (.sipush 255, 3) := by decide +kernel
theorem dJ2_getChar_3b067_52 : decode cJ2_getChar_3b067 52 = .ok (.iand, 1) := by decide +kernel
theorem dJ2_getChar_3b067_53 : decode cJ2_getChar_3b067 53 = .ok (.getstatic 63, 3) := by decide +kernel
theorem dJ2_getChar_3b067_56 : decode cJ2_getChar_3b067 56 = .ok (.ishl, 1) := by decide +kernel
theorem dJ2_getChar_3b067_57 : decode cJ2_getChar_3b067 57 = .ok (.ior, 1) := by decide +kernel
theorem dJ2_getChar_3b067_58 : decode cJ2_getChar_3b067 58 = .ok (.i2c, 1) := by decide +kernel
theorem dJ2_getChar_3b067_59 : decode cJ2_getChar_3b067 59 = .ok (.ireturn, 1) := by decide +kernel
theorem dJ2_length_9d52b_0 : decode cJ2_length_9d52b 0 = .ok (.aload_n 0, 1) := by decide +kernel
theorem dJ2_length_9d52b_1 : decode cJ2_length_9d52b 1 = .ok (.arraylength, 1) := by decide +kernel
theorem dJ2_length_9d52b_2 : decode cJ2_length_9d52b 2 = .ok (.iconst 1, 1) := by decide +kernel
theorem dJ2_length_9d52b_3 : decode cJ2_length_9d52b 3 = .ok (.ishr, 1) := by decide +kernel
theorem dJ2_length_9d52b_4 : decode cJ2_length_9d52b 4 = .ok (.ireturn, 1) := by decide +kernel
theorem dJ2_indexOf_4cfef_0 : decode cJ2_indexOf_4cfef 0 = .ok (.iload_n 2, 1) := by decide +kernel
theorem dJ2_indexOf_4cfef_1 : decode cJ2_indexOf_4cfef 1 = .ok (.iconst 0, 1) := by decide +kernel
theorem dJ2_indexOf_4cfef_2 : decode cJ2_indexOf_4cfef 2 = .ok (.invokestatic 224, 3) := by decide +kernel
theorem dJ2_indexOf_4cfef_5 : decode cJ2_indexOf_4cfef 5 = .ok (.istore_n 2, 1) := by decide +kernel
theorem dJ2_indexOf_4cfef_6 : decode cJ2_indexOf_4cfef 6 = .ok (.iload_n 3, 1) := by decide +kernel
theorem dJ2_indexOf_4cfef_7 : decode cJ2_indexOf_4cfef 7 = .ok (.aload_n 0, 1) := by decide +kernel
theorem dJ2_indexOf_4cfef_8 : decode cJ2_indexOf_4cfef 8 = .ok (.arraylength, 1) := by decide +kernel
theorem dJ2_indexOf_4cfef_9 : decode cJ2_indexOf_4cfef 9 = .ok (.iconst 1, 1) := by decide +kernel
theorem dJ2_indexOf_4cfef_10 : decode cJ2_indexOf_4cfef 10 = .ok (.ishr, 1) := by decide +kernel
theorem dJ2_indexOf_4cfef_11 : decode cJ2_indexOf_4cfef 11 = .ok (.invokestatic 183, 3) := by decide +kernel
theorem dJ2_indexOf_4cfef_14 : decode cJ2_indexOf_4cfef 14 = .ok (.istore_n 3, 1) := by decide +kernel
theorem dJ2_indexOf_4cfef_15 : decode cJ2_indexOf_4cfef 15 = .ok (.iload_n 2, 1) := by decide +kernel
theorem dJ2_indexOf_4cfef_16 : decode cJ2_indexOf_4cfef 16 = .ok (.iload_n 3, 1) := by decide +kernel
theorem dJ2_indexOf_4cfef_17 : decode cJ2_indexOf_4cfef 17 = .ok (.if_icmp .lt 5, 3) := by decide +kernel
theorem dJ2_indexOf_4cfef_20 : decode cJ2_indexOf_4cfef 20 = .ok (.iconst (-1), 1) := by decide +kernel
theorem dJ2_indexOf_4cfef_21 : decode cJ2_indexOf_4cfef 21 = .ok (.ireturn, 1) := by decide +kernel
theorem dJ2_indexOf_4cfef_22 : decode cJ2_indexOf_4cfef 22 = .ok (.iload_n 1, 1) := by decide +kernel
theorem dJ2_indexOf_4cfef_23 : decode cJ2_indexOf_4cfef 23 = .ok (.ldc 227, 2) := by decide +kernel
theorem dJ2_indexOf_4cfef_25 : decode cJ2_indexOf_4cfef 25 = .ok (.if_icmp .ge 11, 3) := by decide +kernel
theorem dJ2_indexOf_4cfef_28 : decode cJ2_indexOf_4cfef 28 = .ok (.aload_n 0, 1) := by decide +kernel
theorem dJ2_indexOf_4cfef_29 : decode cJ2_indexOf_4cfef 29 = .ok (.iload_n 1, 1) := by decide +kernel
theorem dJ2_indexOf_4cfef_30 : decode cJ2_indexOf_4cfef 30 = .ok (.iload_n 2, 1) := by decide +kernel
theorem dJ2_indexOf_4cfef_31 : decode cJ2_indexOf_4cfef 31 = .ok (.iload_n 3, 1) := by decide +kernel
theorem dJ2_indexOf_4cfef_32 : decode cJ2_indexOf_4cfef 32 = .ok (.invokestatic 228, 3) := by decide +kernel
theorem dJ2_indexOf_4cfef_35 : decode cJ2_indexOf_4cfef 35 = .ok (.ireturn, 1) := by decide +kernel
theorem dJ2_indexOf_4cfef_36 : decode cJ2_indexOf_4cfef 36 = .ok (.aload_n 0, 1) := by decide +kernel
theorem dJ2_indexOf_4cfef_37 : decode cJ2_indexOf_4cfef 37 = .ok (.iload_n 1, 1) := by decide +kernel
theorem dJ2_indexOf_4cfef_38 : decode cJ2_indexOf_4cfef 38 = .ok (.iload_n 2, 1) := by decide +kernel
theorem dJ2_indexOf_4cfef_39 : decode cJ2_indexOf_4cfef 39 = .ok (.iload_n 3, 1) := by decide +kernel
theorem dJ2_indexOf_4cfef_40 : decode cJ2_indexOf_4cfef 40 = .ok (.invokestatic 232, 3) := by decide +kernel
theorem dJ2_indexOf_4cfef_43 : decode cJ2_indexOf_4cfef 43 = .ok (.ireturn, 1) := by decide +kernel
theorem dJ2_indexOfChar_4cfef_0 : decode cJ2_indexOfChar_4cfef 0 = .ok (.iload_n 2, 1) := by decide +kernel
theorem dJ2_indexOfChar_4cfef_1 : decode cJ2_indexOfChar_4cfef 1 = .ok (.iload_n 3, 1) := by decide +kernel
theorem dJ2_indexOfChar_4cfef_2 : decode cJ2_indexOfChar_4cfef 2 = .ok (.aload_n 0, 1) := by decide +kernel
theorem dJ2_indexOfChar_4cfef_3 : decode cJ2_indexOfChar_4cfef 3 = .ok (.invokestatic 96, 3) := by decide +kernel
theorem dJ2_indexOfChar_4cfef_6 : decode cJ2_indexOfChar_4cfef 6 = .ok (.aload_n 0, 1) := by decide +kernel
theorem dJ2_indexOfChar_4cfef_7 : decode cJ2_indexOfChar_4cfef 7 = .ok (.iload_n 1, 1) := by decide +kernel
theorem dJ2_indexOfChar_4cfef_8 : decode cJ2_indexOfChar_4cfef 8 = .ok (.iload_n 2, 1) := by decide +kernel
theorem dJ2_indexOfChar_4cfef_9 : decode cJ2_indexOfChar_4cfef 9 = .ok (.iload_n 3, 1) := by decide +kernel
theorem dJ2_indexOfChar_4cfef_10 : decode cJ2_indexOfChar_4cfef 10 = .ok (.invokestatic 244, 3) := by decide +kernel
theorem dJ2_indexOfChar_4cfef_13 : decode cJ2_indexOfChar_4cfef 13 = .ok (.ireturn, 1) := by decide +kernel
theorem dJ2_indexOfCharUnsafe_4cfef_0 : decode cJ2_indexOfCharUnsafe_4cfef 0 = .ok (.iload_n 2, 1) := by decide +kernel
theorem dJ2_indexOfCharUnsafe_4cfef_1 : decode cJ2_indexOfCharUnsafe_4cfef 1 = .ok (.istore 4, 2) := by decide +kernel
theorem dJ2_indexOfCharUnsafe_4cfef_3 : decode cJ2_indexOfCharUnsafe_4cfef 3 = .ok (.iload 4, 2) := by decide +kernel
theorem dJ2_indexOfCharUnsafe_4cfef_5 : decode cJ2_indexOfCharUnsafe_4cfef 5 = .ok (.iload_n 3, 1) := by decide +kernel
theorem dJ2_indexOfCharUnsafe_4cfef_6 : decode cJ2_indexOfCharUnsafe_4cfef 6 = .ok (.if_icmp .ge 22, 3) := by decide +kernel
theorem dJ2_indexOfCharUnsafe_4cfef_9 : decode cJ2_indexOfCharUnsafe_4cfef 9 = .ok (.aload_n 0, 1) := by decide +kernel
theorem dJ2_indexOfCharUnsafe_4cfef_10 : decode cJ2_indexOfCharUnsafe_4cfef 10 = .ok (.iload 4, 2) := by decide +kernel
theorem dJ2_indexOfCharUnsafe_4cfef_12 : decode cJ2_indexOfCharUnsafe_4cfef 12 = .ok (.invokestatic 71, 3) := by decide +kernel
theorem dJ2_indexOfCharUnsafe_4cfef_15 : decode cJ2_indexOfCharUnsafe_4cfef 15 = .ok (.iload_n 1, 1) := by decide +kernel
theorem dJ2_indexOfCharUnsafe_4cfef_16 : decode cJ2_indexOfCharUnsafe_4cfef 16 = .ok (.if_icmp .ne 6, 3) := by decide +kernel
theorem dJ2_indexOfCharUnsafe_4cfef_19 : decode cJ2_indexOfCharUnsafe_4cfef 19 = .ok (.iload 4, 2) := by decide +kernel
theorem dJ2_indexOfCharUnsafe_4cfef_21 : decode cJ2_indexOfCharUnsafe_4cfef 21 = .ok (.ireturn, 1) := by decide +kernel
theorem dJ2_indexOfCharUnsafe_4cfef_22 : decode cJ2_indexOfCharUnsafe_4cfef 22 = .ok (.iinc 4 1, 3) := by decide +kernel
theorem dJ2_indexOfCharUnsafe_4cfef_25 : decode cJ2_indexOfCharUnsafe_4cfef 25 = .ok (.goto (-22), 3) := by decide +kernel
theorem dJ2_indexOfCharUnsafe_4cfef_28 : decode cJ2_indexOfCharUnsafe_4cfef 28 = .ok (.iconst (-1), 1) := by decide +kernel
theorem dJ2_indexOfCharUnsafe_4cfef_29 : decode cJ2_indexOfCharUnsafe_4cfef 29 = .ok (.ireturn, 1) := by decide +kernel
theorem dJ2_indexOfSupplementary_4cfef_0 : decode cJ2_indexOfSupplementary_4cfef 0 = .ok (.iload_n 1, 1) := by decide +kernel
theorem dJ2_indexOfSupplementary_4cfef_1 : decode cJ2_indexOfSupplementary_4cfef 1 = .ok (.invokestatic 164, 3) := by decide +kernel
theorem dJ2_indexOfSupplementary_4cfef_4 : decode cJ2_indexOfSupplementary_4cfef 4 = .ok (.ifCond .eq 65, 3) := by decide +kernel
theorem dJ2_indexOfSupplementary_4cfef_7 : decode cJ2_indexOfSupplementary_4cfef 7 = .ok (.iload_n 1, 1) := by decide +kernel
theorem dJ2_indexOfSupplementary_4cfef_8 : decode cJ2_indexOfSupplementary_4cfef 8 = .ok (.invokestatic 157, 3) := by decide +kernel
theorem dJ2_indexOfSupplementary_4cfef_11 : decode cJ2_indexOfSupplementary_4cfef 11 = .ok (.istore 4, 2) := by decide +kernel
theorem dJ2_indexOfSupplementary_4cfef_13 : decode cJ2_indexOfSupplementary_4cfef 13 = .ok (.iload_n 1, 1) := by decide +kernel
theorem dJ2_indexOfSupplementary_4cfef_14 : decode cJ2_indexOfSupplementary_4cfef 14 = .ok (.invokestatic 161, 3) := by decide +kernel
theorem dJ2_indexOfSupplementary_4cfef_17 : decode cJ2_indexOfSupplementary_4cfef 17 = .ok (.istore 5, 2) := by decide +kernel
theorem dJ2_indexOfSupplementary_4cfef_19 : decode cJ2_indexOfSupplementary_4cfef 19 = .ok (.iload_n 2, 1) := by decide +kernel
theorem dJ2_indexOfSupplementary_4cfef_20 : decode cJ2_indexOfSupplementary_4cfef 20 = .ok (.iload_n 3, 1) := by decide +kernel
theorem dJ2_indexOfSupplementary_4cfef_21 : decode cJ2_indexOfSupplementary_4cfef 21 = .ok (.aload_n 0, 1) := by decide +kernel
theorem dJ2_indexOfSupplementary_4cfef_22 : decode cJ2_indexOfSupplementary_4cfef 22 = .ok (.invokestatic 96, 3) := by decide +kernel
theorem dJ2_indexOfSupplementary_4cfef_25 : decode cJ2_indexOfSupplementary_4cfef 25 = .ok (.iload_n 2, 1) := by decide +kernel
theorem dJ2_indexOfSupplementary_4cfef_26 : decode cJ2_indexOfSupplementary_4cfef 26 = .ok (.istore 6, 2) := by decide +kernel
theorem dJ2_indexOfSupplementary_4cfef_28 : decode cJ2_indexOfSupplementary_4cfef 28 = .ok (.iload 6, 2) := by decide +kernel
theorem dJ2_indexOfSupplementary_4cfef_30 : decode cJ2_indexOfSupplementary_4cfef 30 = .ok (.iload_n 3, 1) := by decide +kernel
theorem dJ2_indexOfSupplementary_4cfef_31 : decode cJ2_indexOfSupplementary_4cfef 31 = .ok (.iconst 1, 1) := by decide +kernel
theorem dJ2_indexOfSupplementary_4cfef_32 : decode cJ2_indexOfSupplementary_4cfef 32 = .ok (.isub, 1) := by decide +kernel
theorem dJ2_indexOfSupplementary_4cfef_33 : decode cJ2_indexOfSupplementary_4cfef 33 = .ok (.if_icmp .ge 36, 3) := by decide +kernel
theorem dJ2_indexOfSupplementary_4cfef_36 : decode cJ2_indexOfSupplementary_4cfef 36 = .ok (.aload_n 0, 1) := by decide +kernel
theorem dJ2_indexOfSupplementary_4cfef_37 : decode cJ2_indexOfSupplementary_4cfef 37 = .ok (.iload 6, 2) := by decide +kernel
theorem dJ2_indexOfSupplementary_4cfef_39 : decode cJ2_indexOfSupplementary_4cfef 39 = .ok (.invokestatic 71, 3) := by decide +kernel
theorem dJ2_indexOfSupplementary_4cfef_42 : decode cJ2_indexOfSupplementary_4cfef 42 = .ok (.iload 4, 2) := by decide +kernel
theorem dJ2_indexOfSupplementary_4cfef_44 : decode cJ2_indexOfSupplementary_4cfef 44 = .ok (.if_icmp .ne 19, 3) := by decide +kernel
theorem dJ2_indexOfSupplementary_4cfef_47 : decode cJ2_indexOfSupplementary_4cfef 47 = .ok (.aload_n 0, 1) := by decide +kernel
theorem dJ2_indexOfSupplementary_4cfef_48 : decode cJ2_indexOfSupplementary_4cfef 48 = .ok (.iload 6, 2) := by decide +kernel
theorem dJ2_indexOfSupplementary_4cfef_50 : decode cJ2_indexOfSupplementary_4cfef 50 = .ok (.iconst 1, 1) := by decide +kernel
theorem dJ2_indexOfSupplementary_4cfef_51 : decode cJ2_indexOfSupplementary_4cfef 51 = .ok (.iadd, 1) := by decide +kernel
theorem dJ2_indexOfSupplementary_4cfef_52 : decode cJ2_indexOfSupplementary_4cfef 52 = .ok (.invokestatic 71, 3) := by decide +kernel
theorem dJ2_indexOfSupplementary_4cfef_55 : decode cJ2_indexOfSupplementary_4cfef 55 = .ok (.iload 5, 2) := by decide +kernel
theorem dJ2_indexOfSupplementary_4cfef_57 : decode cJ2_indexOfSupplementary_4cfef 57 = .ok (.if_icmp .ne 6, 3) := by decide +kernel
theorem dJ2_indexOfSupplementary_4cfef_60 : decode cJ2_indexOfSupplementary_4cfef 60 = .ok (.iload 6, 2) := by decide +kernel
theorem dJ2_indexOfSupplementary_4cfef_62 : decode cJ2_indexOfSupplementary_4cfef 62 = .ok (.ireturn, 1) := by decide +kernel
theorem dJ2_indexOfSupplementary_4cfef_63 : decode cJ2_indexOfSupplementary_4cfef 63 = .ok (.iinc 6 1, 3) := by decide +kernel
theorem dJ2_indexOfSupplementary_4cfef_66 : decode cJ2_indexOfSupplementary_4cfef 66 = .ok (.goto (-38), 3) := by decide +kernel
theorem dJ2_indexOfSupplementary_4cfef_69 : decode cJ2_indexOfSupplementary_4cfef 69 = .ok (.iconst (-1), 1) := by decide +kernel
theorem dJ2_indexOfSupplementary_4cfef_70 : decode cJ2_indexOfSupplementary_4cfef 70 = .ok (.ireturn, 1) := by decide +kernel
theorem dJ2_charAt_3b067_0 : decode cJ2_charAt_3b067 0 = .ok (.iload_n 1, 1) := by decide +kernel
theorem dJ2_charAt_3b067_1 : decode cJ2_charAt_3b067 1 = .ok (.aload_n 0, 1) := by decide +kernel
theorem dJ2_charAt_3b067_2 : decode cJ2_charAt_3b067 2 = .ok (.invokestatic 67, 3) := by decide +kernel
theorem dJ2_charAt_3b067_5 : decode cJ2_charAt_3b067 5 = .ok (.aload_n 0, 1) := by decide +kernel
theorem dJ2_charAt_3b067_6 : decode cJ2_charAt_3b067 6 = .ok (.iload_n 1, 1) := by decide +kernel
theorem dJ2_charAt_3b067_7 : decode cJ2_charAt_3b067 7 = .ok (.invokestatic 71, 3) := by decide +kernel
theorem dJ2_charAt_3b067_10 : decode cJ2_charAt_3b067 10 = .ok (.ireturn, 1) := by decide +kernel
theorem dJ2_checkIndex_2214a_0 : decode cJ2_checkIndex_2214a 0 = .ok (.iload_n 0, 1) := by decide +kernel
theorem dJ2_checkIndex_2214a_1 : decode cJ2_checkIndex_2214a 1 = .ok (.aload_n 1, 1) := by decide +kernel
theorem dJ2_checkIndex_2214a_2 : decode cJ2_checkIndex_2214a 2 = .ok (.invokestatic 48, 3) := by decide +kernel
theorem dJ2_checkIndex_2214a_5 : decode cJ2_checkIndex_2214a 5 = .ok (.invokestatic 414, 3) := by decide +kernel
theorem dJ2_checkIndex_2214a_8 : decode cJ2_checkIndex_2214a 8 = .ok (.return_, 1) := by decide +kernel
theorem dJ2_checkBoundsBeginEnd_d044e_0 : decode cJ2_checkBoundsBeginEnd_d044e 0 = .ok (.iload_n 0, 1) := by decide +kernel
theorem dJ2_checkBoundsBeginEnd_d044e_1 : decode cJ2_checkBoundsBeginEnd_d044e 1 = .ok (.iload_n 1, 1) := by decide +kernel
theorem dJ2_checkBoundsBeginEnd_d044e_2 : decode cJ2_checkBoundsBeginEnd_d044e 2 = .ok (.aload_n 2, 1) := by decide +kernel
theorem dJ2_checkBoundsBeginEnd_d044e_3 : decode cJ2_checkBoundsBeginEnd_d044e 3 = .ok (.invokestatic 48, 3) := by decide +kernel
theorem dJ2_checkBoundsBeginEnd_d044e_6 : decode cJ2_checkBoundsBeginEnd_d044e 6 = .ok (.invokestatic 241, 3) := by decide +kernel
theorem dJ2_checkBoundsBeginEnd_d044e_9 : decode cJ2_checkBoundsBeginEnd_d044e 9 = .ok (.return_, 1) := by decide +kernel
theorem dJ7_fill_53178_0 : decode cJ7_fill_53178 0 = .ok (.iconst 0, 1) := by decide +kernel
theorem dJ7_fill_53178_1 : decode cJ7_fill_53178 1 = .ok (.istore_n 2, 1) := by decide +kernel
theorem dJ7_fill_53178_2 : decode cJ7_fill_53178 2 = .ok (.aload_n 0, 1) := by decide +kernel
theorem dJ7_fill_53178_3 : decode cJ7_fill_53178 3 = .ok (.arraylength, 1) := by decide +kernel
theorem dJ7_fill_53178_4 : decode cJ7_fill_53178 4 = .ok (.istore_n 3, 1) := by decide +kernel
theorem dJ7_fill_53178_5 : decode cJ7_fill_53178 5 = .ok (.iload_n 2, 1) := by decide +kernel
theorem dJ7_fill_53178_6 : decode cJ7_fill_53178 6 = .ok (.iload_n 3, 1) := by decide +kernel
theorem dJ7_fill_53178_7 : decode cJ7_fill_53178 7 = .ok (.if_icmp .ge 13, 3) := by decide +kernel
theorem dJ7_fill_53178_10 : decode cJ7_fill_53178 10 = .ok (.aload_n 0, 1) := by decide +kernel
theorem dJ7_fill_53178_11 : decode cJ7_fill_53178 11 = .ok (.iload_n 2, 1) := by decide +kernel
theorem dJ7_fill_53178_12 : decode cJ7_fill_53178 12 = .ok (.iload_n 1, 1) := by decide +kernel
theorem dJ7_fill_53178_13 : decode cJ7_fill_53178 13 = .ok (.iastore, 1) := by decide +kernel
theorem dJ7_fill_53178_14 : decode cJ7_fill_53178 14 = .ok (.iinc 2 1, 3) := by decide +kernel
theorem dJ7_fill_53178_17 : decode cJ7_fill_53178 17 = .ok (.goto (-12), 3) := by decide +kernel
theorem dJ7_fill_53178_20 : decode cJ7_fill_53178 20 = .ok (.return_, 1) := by decide +kernel
theorem dJ3_checkIndex_8e157_0 : decode cJ3_checkIndex_8e157 0 = .ok (.iload_n 0, 1) := by decide +kernel
theorem dJ3_checkIndex_8e157_1 : decode cJ3_checkIndex_8e157 1 = .ok (.ifCond .lt 8, 3) := by decide +kernel
theorem dJ3_checkIndex_8e157_4 : decode cJ3_checkIndex_8e157 4 = .ok (.iload_n 0, 1) := by decide +kernel
theorem dJ3_checkIndex_8e157_5 : decode cJ3_checkIndex_8e157 5 = .ok (.iload_n 1, 1) := by decide +kernel
theorem dJ3_checkIndex_8e157_6 : decode cJ3_checkIndex_8e157 6 = .ok (.if_icmp .lt 10, 3) := by decide +kernel
theorem dJ3_checkIndex_8e157_9 : decode cJ3_checkIndex_8e157 9 = .ok (.aload_n 2, 1) := by decide +kernel
theorem dJ3_checkIndex_8e157_10 : decode cJ3_checkIndex_8e157 10 = .ok (.iload_n 0, 1) := by decide +kernel
theorem dJ3_checkIndex_8e157_11 : decode cJ3_checkIndex_8e157 11 = .ok (.iload_n 1, 1) := by decide +kernel
theorem dJ3_checkIndex_8e157_12 : decode cJ3_checkIndex_8e157 12 = .ok (.invokestatic 95, 3) := by decide +kernel
theorem dJ3_checkIndex_8e157_15 : decode cJ3_checkIndex_8e157 15 = .ok (.athrow, 1) := by decide +kernel
theorem dJ3_checkIndex_8e157_16 : decode cJ3_checkIndex_8e157 16 = .ok (.iload_n 0, 1) := by decide +kernel
theorem dJ3_checkIndex_8e157_17 : decode cJ3_checkIndex_8e157 17 = .ok (.ireturn, 1) := by decide +kernel
theorem dJ3_checkFromToIndex_8c36e_0 : decode cJ3_checkFromToIndex_8c36e 0 = .ok (.iload_n 0, 1) := by decide +kernel
theorem dJ3_checkFromToIndex_8c36e_1 : decode cJ3_checkFromToIndex_8c36e 1 = .ok (.ifCond .lt 13, 3) := by decide +kernel
theorem dJ3_checkFromToIndex_8c36e_4 : decode cJ3_checkFromToIndex_8c36e 4 = .ok (.iload_n 0, 1) := by decide +kernel
theorem dJ3_checkFromToIndex_8c36e_5 : decode cJ3_checkFromToIndex_8c36e 5 = .ok (.iload_n 1, 1) := by decide +kernel
theorem dJ3_checkFromToIndex_8c36e_6 : decode cJ3_checkFromToIndex_8c36e 6 = .ok (.if_icmp .gt 8, 3) := by decide +kernel
theorem dJ3_checkFromToIndex_8c36e_9 : decode cJ3_checkFromToIndex_8c36e 9 = .ok (.iload_n 1, 1) := by decide +kernel
theorem dJ3_checkFromToIndex_8c36e_10 : decode cJ3_checkFromToIndex_8c36e 10 = .ok (.iload_n 2, 1) := by decide +kernel
theorem dJ3_checkFromToIndex_8c36e_11 : decode cJ3_checkFromToIndex_8c36e 11 = .ok (.if_icmp .le 11, 3) := by decide +kernel
theorem dJ3_checkFromToIndex_8c36e_14 : decode cJ3_checkFromToIndex_8c36e 14 = .ok (.aload_n 3, 1) := by decide +kernel
theorem dJ3_checkFromToIndex_8c36e_15 : decode cJ3_checkFromToIndex_8c36e 15 = .ok (.iload_n 0, 1) := by decide +kernel
theorem dJ3_checkFromToIndex_8c36e_16 : decode cJ3_checkFromToIndex_8c36e 16 = .ok (.iload_n 1, 1) := by decide +kernel
theorem dJ3_checkFromToIndex_8c36e_17 : decode cJ3_checkFromToIndex_8c36e 17 = .ok (.iload_n 2, 1) := by decide +kernel
theorem dJ3_checkFromToIndex_8c36e_18 : decode cJ3_checkFromToIndex_8c36e 18 = .ok (.invokestatic 99, 3) := by decide +kernel
theorem dJ3_checkFromToIndex_8c36e_21 : decode cJ3_checkFromToIndex_8c36e 21 = .ok (.athrow, 1) := by decide +kernel
theorem dJ3_checkFromToIndex_8c36e_22 : decode cJ3_checkFromToIndex_8c36e 22 = .ok (.iload_n 0, 1) := by decide +kernel
theorem dJ3_checkFromToIndex_8c36e_23 : decode cJ3_checkFromToIndex_8c36e 23 = .ok (.ireturn, 1) := by decide +kernel
theorem dL_light_0 : decode cL_light 0 = .ok (.aload_n 3, 1) := by decide +kernel
theorem dL_light_1 : decode cL_light 1 = .ok (.iconst 0, 1) := by decide +kernel
theorem dL_light_2 : decode cL_light 2 = .ok (.aload_n 0, 1) := by decide +kernel
theorem dL_light_3 : decode cL_light 3 = .ok (.iload_n 1, 1) := by decide +kernel
theorem dL_light_4 : decode cL_light 4 = .ok (.iload_n 2, 1) := by decide +kernel
theorem dL_light_5 : decode cL_light 5 = .ok (.invokevirtual 7, 3) := by decide +kernel
theorem dL_light_8 : decode cL_light 8 = .ok (.i2l, 1) := by decide +kernel
theorem dL_light_9 : decode cL_light 9 = .ok (.lastore, 1) := by decide +kernel
theorem dL_light_10 : decode cL_light 10 = .ok (.goto 7, 3) := by decide +kernel
theorem dL_light_13 : decode cL_light 13 = .ok (.astore 4, 2) := by decide +kernel
theorem dL_light_15 : decode cL_light 15 = .ok (.iconst 1, 1) := by decide +kernel
theorem dL_light_16 : decode cL_light 16 = .ok (.ireturn, 1) := by decide +kernel
theorem dL_light_17 : decode cL_light 17 = .ok (.iconst 0, 1) := by decide +kernel
theorem dL_light_18 : decode cL_light 18 = .ok (.ireturn, 1) := by decide +kernel
theorem dL_bent_0 : decode cL_bent 0 = .ok (.aload_n 3, 1) := by decide +kernel
theorem dL_bent_1 : decode cL_bent 1 = .ok (.iconst 0, 1) := by decide +kernel
theorem dL_bent_2 : decode cL_bent 2 = .ok (.aload_n 0, 1) := by decide +kernel
theorem dL_bent_3 : decode cL_bent 3 = .ok (.iload_n 1, 1) := by decide +kernel
theorem dL_bent_4 : decode cL_bent 4 = .ok (.iload_n 2, 1) := by decide +kernel
theorem dL_bent_5 : decode cL_bent 5 = .ok (.invokevirtual 15, 3) := by decide +kernel
theorem dL_bent_8 : decode cL_bent 8 = .ok (.i2l, 1) := by decide +kernel
theorem dL_bent_9 : decode cL_bent 9 = .ok (.lastore, 1) := by decide +kernel
theorem dL_bent_10 : decode cL_bent 10 = .ok (.goto 7, 3) := by decide +kernel
theorem dL_bent_13 : decode cL_bent 13 = .ok (.astore 4, 2) := by decide +kernel
theorem dL_bent_15 : decode cL_bent 15 = .ok (.iconst 1, 1) := by decide +kernel
theorem dL_bent_16 : decode cL_bent 16 = .ok (.ireturn, 1) := by decide +kernel
theorem dL_bent_17 : decode cL_bent 17 = .ok (.iconst 0, 1) := by decide +kernel
theorem dL_bent_18 : decode cL_bent 18 = .ok (.ireturn, 1) := by decide +kernel
theorem dL_row_0 : decode cL_row 0 = .ok (.aload_n 2, 1) := by decide +kernel
theorem dL_row_1 : decode cL_row 1 = .ok (.iconst 0, 1) := by decide +kernel
theorem dL_row_2 : decode cL_row 2 = .ok (.aload_n 0, 1) := by decide +kernel
theorem dL_row_3 : decode cL_row 3 = .ok (.iload_n 1, 1) := by decide +kernel
theorem dL_row_4 : decode cL_row 4 = .ok (.invokevirtual 18, 3) := by decide +kernel
theorem dL_row_7 : decode cL_row 7 = .ok (.lastore, 1) := by decide +kernel
theorem dL_row_8 : decode cL_row 8 = .ok (.goto 6, 3) := by decide +kernel
theorem dL_row_11 : decode cL_row 11 = .ok (.astore_n 3, 1) := by decide +kernel
theorem dL_row_12 : decode cL_row 12 = .ok (.iconst 1, 1) := by decide +kernel
theorem dL_row_13 : decode cL_row 13 = .ok (.ireturn, 1) := by decide +kernel
theorem dL_row_14 : decode cL_row 14 = .ok (.iconst 0, 1) := by decide +kernel
theorem dL_row_15 : decode cL_row 15 = .ok (.ireturn, 1) := by decide +kernel
theorem dL_law_0 : decode cL_law 0 = .ok (.new 8, 3) := by decide +kernel
theorem dL_law_3 : decode cL_law 3 = .ok (.dup, 1) := by decide +kernel
theorem dL_law_4 : decode cL_law 4 = .ok (.invokespecial 22, 3) := by decide +kernel
theorem dL_law_7 : decode cL_law 7 = .ok (.astore_n 1, 1) := by decide +kernel
theorem dL_law_8 : decode cL_law 8 = .ok (.new 23, 3) := by decide +kernel
theorem dL_law_11 : decode cL_law 11 = .ok (.dup, 1) := by decide +kernel
theorem dL_law_12 : decode cL_law 12 = .ok (.invokespecial 25, 3) := by decide +kernel
theorem dL_law_15 : decode cL_law 15 = .ok (.astore_n 2, 1) := by decide +kernel
theorem dL_law_16 : decode cL_law 16 = .ok (.iconst 1, 1) := by decide +kernel
theorem dL_law_17 : decode cL_law 17 = .ok (.newarray .long, 2) := by decide +kernel
theorem dL_law_19 : decode cL_law 19 = .ok (.astore_n 3, 1) := by decide +kernel
theorem dL_law_20 : decode cL_law 20 = .ok (.iconst 0, 1) := by decide +kernel
theorem dL_law_21 : decode cL_law 21 = .ok (.istore 4, 2) := by decide +kernel
theorem dL_law_23 : decode cL_law 23 = .ok (.iload 4, 2) := by decide +kernel
theorem dL_law_25 : decode cL_law 25 = .ok (.aload_n 0, 1) := by decide +kernel
theorem dL_law_26 : decode cL_law 26 = .ok (.arraylength, 1) := by decide +kernel
theorem dL_law_27 : decode cL_law 27 = .ok (.iconst 5, 1) := by decide +kernel
theorem dL_law_28 : decode cL_law 28 = .ok (.isub, 1) := by decide +kernel
theorem dL_law_29 : decode cL_law 29 = .ok (.if_icmp .gt 1668, 3) := by decide +kernel
theorem dL_law_32 : decode cL_law 32 = .ok (.aload_n 0, 1) := by decide +kernel
theorem dL_law_33 : decode cL_law 33 = .ok (.iload 4, 2) := by decide +kernel
theorem dL_law_35 : decode cL_law 35 = .ok (.iaload, 1) := by decide +kernel
theorem dL_law_36 : decode cL_law 36 = .ok (.bipush 63, 2) := by decide +kernel
theorem dL_law_38 : decode cL_law 38 = .ok (.iand, 1) := by decide +kernel
theorem dL_law_39 : decode cL_law 39 = .ok (.tableswitch 1652 0 42 #[185, 210, 235, 248, 273, 286, 299, 367, 435, 496, 557, 582, 619, 680, 693, 706, 731, 768, 817, 866, 915, 952, 1001, 1026, 1051, 1064, 1125, 1150, 1175, 1200, 1225, 1262, 1311, 1348, 1397, 1410, 1423, 1448, 1485, 1522, 1547, 1572, 1597], 185) := by decide +kernel
theorem dL_law_224 : decode cL_law 224 = .ok (.aload_n 1, 1) := by decide +kernel
theorem dL_law_225 : decode cL_law 225 = .ok (.aload_n 0, 1) := by decide +kernel
theorem dL_law_226 : decode cL_law 226 = .ok (.iload 4, 2) := by decide +kernel
theorem dL_law_228 : decode cL_law 228 = .ok (.iconst 1, 1) := by decide +kernel
theorem dL_law_229 : decode cL_law 229 = .ok (.iadd, 1) := by decide +kernel
theorem dL_law_230 : decode cL_law 230 = .ok (.iaload, 1) := by decide +kernel
theorem dL_law_231 : decode cL_law 231 = .ok (.invokevirtual 26, 3) := by decide +kernel
theorem dL_law_234 : decode cL_law 234 = .ok (.aload_n 2, 1) := by decide +kernel
theorem dL_law_235 : decode cL_law 235 = .ok (.aload_n 0, 1) := by decide +kernel
theorem dL_law_236 : decode cL_law 236 = .ok (.iload 4, 2) := by decide +kernel
theorem dL_law_238 : decode cL_law 238 = .ok (.iconst 1, 1) := by decide +kernel
theorem dL_law_239 : decode cL_law 239 = .ok (.iadd, 1) := by decide +kernel
theorem dL_law_240 : decode cL_law 240 = .ok (.iaload, 1) := by decide +kernel
theorem dL_law_241 : decode cL_law 241 = .ok (.invokevirtual 30, 3) := by decide +kernel
theorem dL_law_244 : decode cL_law 244 = .ok (.if_icmp .eq 1447, 3) := by decide +kernel
theorem dL_law_247 : decode cL_law 247 = .ok (.iconst 0, 1) := by decide +kernel
theorem dL_law_248 : decode cL_law 248 = .ok (.ireturn, 1) := by decide +kernel
theorem dL_law_249 : decode cL_law 249 = .ok (.aload_n 1, 1) := by decide +kernel
theorem dL_law_250 : decode cL_law 250 = .ok (.aload_n 0, 1) := by decide +kernel
theorem dL_law_251 : decode cL_law 251 = .ok (.iload 4, 2) := by decide +kernel
theorem dL_law_253 : decode cL_law 253 = .ok (.iconst 1, 1) := by decide +kernel
theorem dL_law_254 : decode cL_law 254 = .ok (.iadd, 1) := by decide +kernel
theorem dL_law_255 : decode cL_law 255 = .ok (.iaload, 1) := by decide +kernel
theorem dL_law_256 : decode cL_law 256 = .ok (.invokevirtual 31, 3) := by decide +kernel
theorem dL_law_259 : decode cL_law 259 = .ok (.aload_n 2, 1) := by decide +kernel
theorem dL_law_260 : decode cL_law 260 = .ok (.aload_n 0, 1) := by decide +kernel
theorem dL_law_261 : decode cL_law 261 = .ok (.iload 4, 2) := by decide +kernel
theorem dL_law_263 : decode cL_law 263 = .ok (.iconst 1, 1) := by decide +kernel
theorem dL_law_264 : decode cL_law 264 = .ok (.iadd, 1) := by decide +kernel
theorem dL_law_265 : decode cL_law 265 = .ok (.iaload, 1) := by decide +kernel
theorem dL_law_266 : decode cL_law 266 = .ok (.invokevirtual 35, 3) := by decide +kernel
theorem dL_law_269 : decode cL_law 269 = .ok (.if_icmp .eq 1422, 3) := by decide +kernel
theorem dL_law_272 : decode cL_law 272 = .ok (.iconst 0, 1) := by decide +kernel
theorem dL_law_273 : decode cL_law 273 = .ok (.ireturn, 1) := by decide +kernel
theorem dL_law_274 : decode cL_law 274 = .ok (.aload_n 1, 1) := by decide +kernel
theorem dL_law_275 : decode cL_law 275 = .ok (.invokevirtual 36, 3) := by decide +kernel
theorem dL_law_278 : decode cL_law 278 = .ok (.aload_n 2, 1) := by decide +kernel
theorem dL_law_279 : decode cL_law 279 = .ok (.invokevirtual 40, 3) := by decide +kernel
theorem dL_law_282 : decode cL_law 282 = .ok (.if_icmp .eq 1409, 3) := by decide +kernel
theorem dL_law_285 : decode cL_law 285 = .ok (.iconst 0, 1) := by decide +kernel
theorem dL_law_286 : decode cL_law 286 = .ok (.ireturn, 1) := by decide +kernel
theorem dL_law_287 : decode cL_law 287 = .ok (.aload_n 1, 1) := by decide +kernel
theorem dL_law_288 : decode cL_law 288 = .ok (.aload_n 0, 1) := by decide +kernel
theorem dL_law_289 : decode cL_law 289 = .ok (.iload 4, 2) := by decide +kernel
theorem dL_law_291 : decode cL_law 291 = .ok (.iconst 1, 1) := by decide +kernel
theorem dL_law_292 : decode cL_law 292 = .ok (.iadd, 1) := by decide +kernel
theorem dL_law_293 : decode cL_law 293 = .ok (.iaload, 1) := by decide +kernel
theorem dL_law_294 : decode cL_law 294 = .ok (.invokevirtual 41, 3) := by decide +kernel
theorem dL_law_297 : decode cL_law 297 = .ok (.aload_n 2, 1) := by decide +kernel
theorem dL_law_298 : decode cL_law 298 = .ok (.aload_n 0, 1) := by decide +kernel
theorem dL_law_299 : decode cL_law 299 = .ok (.iload 4, 2) := by decide +kernel
theorem dL_law_301 : decode cL_law 301 = .ok (.iconst 1, 1) := by decide +kernel
theorem dL_law_302 : decode cL_law 302 = .ok (.iadd, 1) := by decide +kernel
theorem dL_law_303 : decode cL_law 303 = .ok (.iaload, 1) := by decide +kernel
theorem dL_law_304 : decode cL_law 304 = .ok (.invokevirtual 44, 3) := by decide +kernel
theorem dL_law_307 : decode cL_law 307 = .ok (.if_icmp .eq 1384, 3) := by decide +kernel
theorem dL_law_310 : decode cL_law 310 = .ok (.iconst 0, 1) := by decide +kernel
theorem dL_law_311 : decode cL_law 311 = .ok (.ireturn, 1) := by decide +kernel
theorem dL_law_312 : decode cL_law 312 = .ok (.aload_n 1, 1) := by decide +kernel
theorem dL_law_313 : decode cL_law 313 = .ok (.invokevirtual 45, 3) := by decide +kernel
theorem dL_law_316 : decode cL_law 316 = .ok (.aload_n 2, 1) := by decide +kernel
theorem dL_law_317 : decode cL_law 317 = .ok (.invokevirtual 48, 3) := by decide +kernel
theorem dL_law_320 : decode cL_law 320 = .ok (.if_icmp .eq 1371, 3) := by decide +kernel
theorem dL_law_323 : decode cL_law 323 = .ok (.iconst 0, 1) := by decide +kernel
theorem dL_law_324 : decode cL_law 324 = .ok (.ireturn, 1) := by decide +kernel
theorem dL_law_325 : decode cL_law 325 = .ok (.aload_n 1, 1) := by decide +kernel
theorem dL_law_326 : decode cL_law 326 = .ok (.invokevirtual 49, 3) := by decide +kernel
theorem dL_law_329 : decode cL_law 329 = .ok (.aload_n 2, 1) := by decide +kernel
theorem dL_law_330 : decode cL_law 330 = .ok (.invokevirtual 52, 3) := by decide +kernel
theorem dL_law_333 : decode cL_law 333 = .ok (.if_icmp .eq 1358, 3) := by decide +kernel
theorem dL_law_336 : decode cL_law 336 = .ok (.iconst 0, 1) := by decide +kernel
theorem dL_law_337 : decode cL_law 337 = .ok (.ireturn, 1) := by decide +kernel
theorem dL_law_338 : decode cL_law 338 = .ok (.aload_n 1, 1) := by decide +kernel
theorem dL_law_339 : decode cL_law 339 = .ok (.aload_n 0, 1) := by decide +kernel
theorem dL_law_340 : decode cL_law 340 = .ok (.iload 4, 2) := by decide +kernel
theorem dL_law_342 : decode cL_law 342 = .ok (.iconst 1, 1) := by decide +kernel
theorem dL_law_343 : decode cL_law 343 = .ok (.iadd, 1) := by decide +kernel
theorem dL_law_344 : decode cL_law 344 = .ok (.iaload, 1) := by decide +kernel
theorem dL_law_345 : decode cL_law 345 = .ok (.aload_n 0, 1) := by decide +kernel
theorem dL_law_346 : decode cL_law 346 = .ok (.iload 4, 2) := by decide +kernel
theorem dL_law_348 : decode cL_law 348 = .ok (.iconst 2, 1) := by decide +kernel
theorem dL_law_349 : decode cL_law 349 = .ok (.iadd, 1) := by decide +kernel
theorem dL_law_350 : decode cL_law 350 = .ok (.iaload, 1) := by decide +kernel
theorem dL_law_351 : decode cL_law 351 = .ok (.aload_n 3, 1) := by decide +kernel
theorem dL_law_352 : decode cL_law 352 = .ok (.invokestatic 53, 3) := by decide +kernel
theorem dL_law_355 : decode cL_law 355 = .ok (.istore 5, 2) := by decide +kernel
theorem dL_law_357 : decode cL_law 357 = .ok (.aload_n 2, 1) := by decide +kernel
theorem dL_law_358 : decode cL_law 358 = .ok (.aload_n 0, 1) := by decide +kernel
theorem dL_law_359 : decode cL_law 359 = .ok (.iload 4, 2) := by decide +kernel
theorem dL_law_361 : decode cL_law 361 = .ok (.iconst 1, 1) := by decide +kernel
theorem dL_law_362 : decode cL_law 362 = .ok (.iadd, 1) := by decide +kernel
theorem dL_law_363 : decode cL_law 363 = .ok (.iaload, 1) := by decide +kernel
theorem dL_law_364 : decode cL_law 364 = .ok (.aload_n 0, 1) := by decide +kernel
theorem dL_law_365 : decode cL_law 365 = .ok (.iload 4, 2) := by decide +kernel
theorem dL_law_367 : decode cL_law 367 = .ok (.iconst 2, 1) := by decide +kernel
theorem dL_law_368 : decode cL_law 368 = .ok (.iadd, 1) := by decide +kernel
theorem dL_law_369 : decode cL_law 369 = .ok (.iaload, 1) := by decide +kernel
theorem dL_law_370 : decode cL_law 370 = .ok (.invokevirtual 58, 3) := by decide +kernel
theorem dL_law_373 : decode cL_law 373 = .ok (.istore 6, 2) := by decide +kernel
theorem dL_law_375 : decode cL_law 375 = .ok (.aload_n 2, 1) := by decide +kernel
theorem dL_law_376 : decode cL_law 376 = .ok (.invokevirtual 59, 3) := by decide +kernel
theorem dL_law_379 : decode cL_law 379 = .ok (.iload 5, 2) := by decide +kernel
theorem dL_law_381 : decode cL_law 381 = .ok (.if_icmp .eq 5, 3) := by decide +kernel
theorem dL_law_384 : decode cL_law 384 = .ok (.iconst 0, 1) := by decide +kernel
theorem dL_law_385 : decode cL_law 385 = .ok (.ireturn, 1) := by decide +kernel
theorem dL_law_386 : decode cL_law 386 = .ok (.iload 5, 2) := by decide +kernel
theorem dL_law_388 : decode cL_law 388 = .ok (.ifCond .ne 15, 3) := by decide +kernel
theorem dL_law_391 : decode cL_law 391 = .ok (.aload_n 3, 1) := by decide +kernel
theorem dL_law_392 : decode cL_law 392 = .ok (.iconst 0, 1) := by decide +kernel
theorem dL_law_393 : decode cL_law 393 = .ok (.laload, 1) := by decide +kernel
theorem dL_law_394 : decode cL_law 394 = .ok (.iload 6, 2) := by decide +kernel
theorem dL_law_396 : decode cL_law 396 = .ok (.i2l, 1) := by decide +kernel
theorem dL_law_397 : decode cL_law 397 = .ok (.lcmp, 1) := by decide +kernel
theorem dL_law_398 : decode cL_law 398 = .ok (.ifCond .eq 5, 3) := by decide +kernel
theorem dL_law_401 : decode cL_law 401 = .ok (.iconst 0, 1) := by decide +kernel
theorem dL_law_402 : decode cL_law 402 = .ok (.ireturn, 1) := by decide +kernel
theorem dL_law_403 : decode cL_law 403 = .ok (.goto 1288, 3) := by decide +kernel
theorem dL_law_406 : decode cL_law 406 = .ok (.aload_n 1, 1) := by decide +kernel
theorem dL_law_407 : decode cL_law 407 = .ok (.aload_n 0, 1) := by decide +kernel
theorem dL_law_408 : decode cL_law 408 = .ok (.iload 4, 2) := by decide +kernel
theorem dL_law_410 : decode cL_law 410 = .ok (.iconst 1, 1) := by decide +kernel
theorem dL_law_411 : decode cL_law 411 = .ok (.iadd, 1) := by decide +kernel
theorem dL_law_412 : decode cL_law 412 = .ok (.iaload, 1) := by decide +kernel
theorem dL_law_413 : decode cL_law 413 = .ok (.aload_n 0, 1) := by decide +kernel
theorem dL_law_414 : decode cL_law 414 = .ok (.iload 4, 2) := by decide +kernel
theorem dL_law_416 : decode cL_law 416 = .ok (.iconst 2, 1) := by decide +kernel
theorem dL_law_417 : decode cL_law 417 = .ok (.iadd, 1) := by decide +kernel
theorem dL_law_418 : decode cL_law 418 = .ok (.iaload, 1) := by decide +kernel
theorem dL_law_419 : decode cL_law 419 = .ok (.aload_n 3, 1) := by decide +kernel
theorem dL_law_420 : decode cL_law 420 = .ok (.invokestatic 62, 3) := by decide +kernel
theorem dL_law_423 : decode cL_law 423 = .ok (.istore 5, 2) := by decide +kernel
theorem dL_law_425 : decode cL_law 425 = .ok (.aload_n 2, 1) := by decide +kernel
theorem dL_law_426 : decode cL_law 426 = .ok (.aload_n 0, 1) := by decide +kernel
theorem dL_law_427 : decode cL_law 427 = .ok (.iload 4, 2) := by decide +kernel
theorem dL_law_429 : decode cL_law 429 = .ok (.iconst 1, 1) := by decide +kernel
theorem dL_law_430 : decode cL_law 430 = .ok (.iadd, 1) := by decide +kernel
theorem dL_law_431 : decode cL_law 431 = .ok (.iaload, 1) := by decide +kernel
theorem dL_law_432 : decode cL_law 432 = .ok (.aload_n 0, 1) := by decide +kernel
theorem dL_law_433 : decode cL_law 433 = .ok (.iload 4, 2) := by decide +kernel
theorem dL_law_435 : decode cL_law 435 = .ok (.iconst 2, 1) := by decide +kernel
theorem dL_law_436 : decode cL_law 436 = .ok (.iadd, 1) := by decide +kernel
theorem dL_law_437 : decode cL_law 437 = .ok (.iaload, 1) := by decide +kernel
theorem dL_law_438 : decode cL_law 438 = .ok (.invokevirtual 64, 3) := by decide +kernel
theorem dL_law_441 : decode cL_law 441 = .ok (.istore 6, 2) := by decide +kernel
theorem dL_law_443 : decode cL_law 443 = .ok (.aload_n 2, 1) := by decide +kernel
theorem dL_law_444 : decode cL_law 444 = .ok (.invokevirtual 59, 3) := by decide +kernel
theorem dL_law_447 : decode cL_law 447 = .ok (.iload 5, 2) := by decide +kernel
theorem dL_law_449 : decode cL_law 449 = .ok (.if_icmp .eq 5, 3) := by decide +kernel
theorem dL_law_452 : decode cL_law 452 = .ok (.iconst 0, 1) := by decide +kernel
theorem dL_law_453 : decode cL_law 453 = .ok (.ireturn, 1) := by decide +kernel
theorem dL_law_454 : decode cL_law 454 = .ok (.iload 5, 2) := by decide +kernel
theorem dL_law_456 : decode cL_law 456 = .ok (.ifCond .ne 15, 3) := by decide +kernel
theorem dL_law_459 : decode cL_law 459 = .ok (.aload_n 3, 1) := by decide +kernel
theorem dL_law_460 : decode cL_law 460 = .ok (.iconst 0, 1) := by decide +kernel
theorem dL_law_461 : decode cL_law 461 = .ok (.laload, 1) := by decide +kernel
theorem dL_law_462 : decode cL_law 462 = .ok (.iload 6, 2) := by decide +kernel
theorem dL_law_464 : decode cL_law 464 = .ok (.i2l, 1) := by decide +kernel
theorem dL_law_465 : decode cL_law 465 = .ok (.lcmp, 1) := by decide +kernel
theorem dL_law_466 : decode cL_law 466 = .ok (.ifCond .eq 5, 3) := by decide +kernel
theorem dL_law_469 : decode cL_law 469 = .ok (.iconst 0, 1) := by decide +kernel
theorem dL_law_470 : decode cL_law 470 = .ok (.ireturn, 1) := by decide +kernel
theorem dL_law_471 : decode cL_law 471 = .ok (.goto 1220, 3) := by decide +kernel
theorem dL_law_474 : decode cL_law 474 = .ok (.aload_n 1, 1) := by decide +kernel
theorem dL_law_475 : decode cL_law 475 = .ok (.aload_n 0, 1) := by decide +kernel
theorem dL_law_476 : decode cL_law 476 = .ok (.iload 4, 2) := by decide +kernel
theorem dL_law_478 : decode cL_law 478 = .ok (.iconst 1, 1) := by decide +kernel
theorem dL_law_479 : decode cL_law 479 = .ok (.iadd, 1) := by decide +kernel
theorem dL_law_480 : decode cL_law 480 = .ok (.iaload, 1) := by decide +kernel
theorem dL_law_481 : decode cL_law 481 = .ok (.aload_n 0, 1) := by decide +kernel
theorem dL_law_482 : decode cL_law 482 = .ok (.iload 4, 2) := by decide +kernel
theorem dL_law_484 : decode cL_law 484 = .ok (.iconst 2, 1) := by decide +kernel
theorem dL_law_485 : decode cL_law 485 = .ok (.iadd, 1) := by decide +kernel
theorem dL_law_486 : decode cL_law 486 = .ok (.iaload, 1) := by decide +kernel
theorem dL_law_487 : decode cL_law 487 = .ok (.aload_n 0, 1) := by decide +kernel
theorem dL_law_488 : decode cL_law 488 = .ok (.iload 4, 2) := by decide +kernel
theorem dL_law_490 : decode cL_law 490 = .ok (.iconst 3, 1) := by decide +kernel
theorem dL_law_491 : decode cL_law 491 = .ok (.iadd, 1) := by decide +kernel
theorem dL_law_492 : decode cL_law 492 = .ok (.iaload, 1) := by decide +kernel
theorem dL_law_493 : decode cL_law 493 = .ok (.aload_n 0, 1) := by decide +kernel
theorem dL_law_494 : decode cL_law 494 = .ok (.iload 4, 2) := by decide +kernel
theorem dL_law_496 : decode cL_law 496 = .ok (.iconst 4, 1) := by decide +kernel
theorem dL_law_497 : decode cL_law 497 = .ok (.iadd, 1) := by decide +kernel
theorem dL_law_498 : decode cL_law 498 = .ok (.iaload, 1) := by decide +kernel
theorem dL_law_499 : decode cL_law 499 = .ok (.invokevirtual 65, 3) := by decide +kernel
theorem dL_law_502 : decode cL_law 502 = .ok (.aload_n 2, 1) := by decide +kernel
theorem dL_law_503 : decode cL_law 503 = .ok (.aload_n 0, 1) := by decide +kernel
theorem dL_law_504 : decode cL_law 504 = .ok (.iload 4, 2) := by decide +kernel
theorem dL_law_506 : decode cL_law 506 = .ok (.iconst 1, 1) := by decide +kernel
theorem dL_law_507 : decode cL_law 507 = .ok (.iadd, 1) := by decide +kernel
theorem dL_law_508 : decode cL_law 508 = .ok (.iaload, 1) := by decide +kernel
theorem dL_law_509 : decode cL_law 509 = .ok (.aload_n 0, 1) := by decide +kernel
theorem dL_law_510 : decode cL_law 510 = .ok (.iload 4, 2) := by decide +kernel
theorem dL_law_512 : decode cL_law 512 = .ok (.iconst 2, 1) := by decide +kernel
theorem dL_law_513 : decode cL_law 513 = .ok (.iadd, 1) := by decide +kernel
theorem dL_law_514 : decode cL_law 514 = .ok (.iaload, 1) := by decide +kernel
theorem dL_law_515 : decode cL_law 515 = .ok (.aload_n 0, 1) := by decide +kernel
theorem dL_law_516 : decode cL_law 516 = .ok (.iload 4, 2) := by decide +kernel
theorem dL_law_518 : decode cL_law 518 = .ok (.iconst 3, 1) := by decide +kernel
theorem dL_law_519 : decode cL_law 519 = .ok (.iadd, 1) := by decide +kernel
theorem dL_law_520 : decode cL_law 520 = .ok (.iaload, 1) := by decide +kernel
theorem dL_law_521 : decode cL_law 521 = .ok (.aload_n 0, 1) := by decide +kernel
theorem dL_law_522 : decode cL_law 522 = .ok (.iload 4, 2) := by decide +kernel
theorem dL_law_524 : decode cL_law 524 = .ok (.iconst 4, 1) := by decide +kernel
theorem dL_law_525 : decode cL_law 525 = .ok (.iadd, 1) := by decide +kernel
theorem dL_law_526 : decode cL_law 526 = .ok (.iaload, 1) := by decide +kernel
theorem dL_law_527 : decode cL_law 527 = .ok (.invokevirtual 69, 3) := by decide +kernel
theorem dL_law_530 : decode cL_law 530 = .ok (.if_icmp .eq 1161, 3) := by decide +kernel
theorem dL_law_533 : decode cL_law 533 = .ok (.iconst 0, 1) := by decide +kernel
theorem dL_law_534 : decode cL_law 534 = .ok (.ireturn, 1) := by decide +kernel
theorem dL_law_535 : decode cL_law 535 = .ok (.aload_n 1, 1) := by decide +kernel
theorem dL_law_536 : decode cL_law 536 = .ok (.aload_n 0, 1) := by decide +kernel
theorem dL_law_537 : decode cL_law 537 = .ok (.iload 4, 2) := by decide +kernel
theorem dL_law_539 : decode cL_law 539 = .ok (.iconst 1, 1) := by decide +kernel
theorem dL_law_540 : decode cL_law 540 = .ok (.iadd, 1) := by decide +kernel
theorem dL_law_541 : decode cL_law 541 = .ok (.iaload, 1) := by decide +kernel
theorem dL_law_542 : decode cL_law 542 = .ok (.aload_n 0, 1) := by decide +kernel
theorem dL_law_543 : decode cL_law 543 = .ok (.iload 4, 2) := by decide +kernel
theorem dL_law_545 : decode cL_law 545 = .ok (.iconst 2, 1) := by decide +kernel
theorem dL_law_546 : decode cL_law 546 = .ok (.iadd, 1) := by decide +kernel
theorem dL_law_547 : decode cL_law 547 = .ok (.iaload, 1) := by decide +kernel
theorem dL_law_548 : decode cL_law 548 = .ok (.aload_n 0, 1) := by decide +kernel
theorem dL_law_549 : decode cL_law 549 = .ok (.iload 4, 2) := by decide +kernel
theorem dL_law_551 : decode cL_law 551 = .ok (.iconst 3, 1) := by decide +kernel
theorem dL_law_552 : decode cL_law 552 = .ok (.iadd, 1) := by decide +kernel
theorem dL_law_553 : decode cL_law 553 = .ok (.iaload, 1) := by decide +kernel
theorem dL_law_554 : decode cL_law 554 = .ok (.aload_n 0, 1) := by decide +kernel
theorem dL_law_555 : decode cL_law 555 = .ok (.iload 4, 2) := by decide +kernel
theorem dL_law_557 : decode cL_law 557 = .ok (.iconst 4, 1) := by decide +kernel
theorem dL_law_558 : decode cL_law 558 = .ok (.iadd, 1) := by decide +kernel
theorem dL_law_559 : decode cL_law 559 = .ok (.iaload, 1) := by decide +kernel
theorem dL_law_560 : decode cL_law 560 = .ok (.invokevirtual 70, 3) := by decide +kernel
theorem dL_law_563 : decode cL_law 563 = .ok (.aload_n 2, 1) := by decide +kernel
theorem dL_law_564 : decode cL_law 564 = .ok (.aload_n 0, 1) := by decide +kernel
theorem dL_law_565 : decode cL_law 565 = .ok (.iload 4, 2) := by decide +kernel
theorem dL_law_567 : decode cL_law 567 = .ok (.iconst 1, 1) := by decide +kernel
theorem dL_law_568 : decode cL_law 568 = .ok (.iadd, 1) := by decide +kernel
theorem dL_law_569 : decode cL_law 569 = .ok (.iaload, 1) := by decide +kernel
theorem dL_law_570 : decode cL_law 570 = .ok (.aload_n 0, 1) := by decide +kernel
theorem dL_law_571 : decode cL_law 571 = .ok (.iload 4, 2) := by decide +kernel
theorem dL_law_573 : decode cL_law 573 = .ok (.iconst 2, 1) := by decide +kernel
theorem dL_law_574 : decode cL_law 574 = .ok (.iadd, 1) := by decide +kernel
theorem dL_law_575 : decode cL_law 575 = .ok (.iaload, 1) := by decide +kernel
theorem dL_law_576 : decode cL_law 576 = .ok (.aload_n 0, 1) := by decide +kernel
theorem dL_law_577 : decode cL_law 577 = .ok (.iload 4, 2) := by decide +kernel
theorem dL_law_579 : decode cL_law 579 = .ok (.iconst 3, 1) := by decide +kernel
theorem dL_law_580 : decode cL_law 580 = .ok (.iadd, 1) := by decide +kernel
theorem dL_law_581 : decode cL_law 581 = .ok (.iaload, 1) := by decide +kernel
theorem dL_law_582 : decode cL_law 582 = .ok (.aload_n 0, 1) := by decide +kernel
theorem dL_law_583 : decode cL_law 583 = .ok (.iload 4, 2) := by decide +kernel
theorem dL_law_585 : decode cL_law 585 = .ok (.iconst 4, 1) := by decide +kernel
theorem dL_law_586 : decode cL_law 586 = .ok (.iadd, 1) := by decide +kernel
theorem dL_law_587 : decode cL_law 587 = .ok (.iaload, 1) := by decide +kernel
theorem dL_law_588 : decode cL_law 588 = .ok (.invokevirtual 73, 3) := by decide +kernel
theorem dL_law_591 : decode cL_law 591 = .ok (.if_icmp .eq 1100, 3) := by decide +kernel
theorem dL_law_594 : decode cL_law 594 = .ok (.iconst 0, 1) := by decide +kernel
theorem dL_law_595 : decode cL_law 595 = .ok (.ireturn, 1) := by decide +kernel
theorem dL_law_596 : decode cL_law 596 = .ok (.aload_n 1, 1) := by decide +kernel
theorem dL_law_597 : decode cL_law 597 = .ok (.aload_n 0, 1) := by decide +kernel
theorem dL_law_598 : decode cL_law 598 = .ok (.iload 4, 2) := by decide +kernel
theorem dL_law_600 : decode cL_law 600 = .ok (.iconst 1, 1) := by decide +kernel
theorem dL_law_601 : decode cL_law 601 = .ok (.iadd, 1) := by decide +kernel
theorem dL_law_602 : decode cL_law 602 = .ok (.iaload, 1) := by decide +kernel
theorem dL_law_603 : decode cL_law 603 = .ok (.invokevirtual 74, 3) := by decide +kernel
theorem dL_law_606 : decode cL_law 606 = .ok (.aload_n 2, 1) := by decide +kernel
theorem dL_law_607 : decode cL_law 607 = .ok (.aload_n 0, 1) := by decide +kernel
theorem dL_law_608 : decode cL_law 608 = .ok (.iload 4, 2) := by decide +kernel
theorem dL_law_610 : decode cL_law 610 = .ok (.iconst 1, 1) := by decide +kernel
theorem dL_law_611 : decode cL_law 611 = .ok (.iadd, 1) := by decide +kernel
theorem dL_law_612 : decode cL_law 612 = .ok (.iaload, 1) := by decide +kernel
theorem dL_law_613 : decode cL_law 613 = .ok (.invokevirtual 77, 3) := by decide +kernel
theorem dL_law_616 : decode cL_law 616 = .ok (.if_icmp .eq 1075, 3) := by decide +kernel
theorem dL_law_619 : decode cL_law 619 = .ok (.iconst 0, 1) := by decide +kernel
theorem dL_law_620 : decode cL_law 620 = .ok (.ireturn, 1) := by decide +kernel
theorem dL_law_621 : decode cL_law 621 = .ok (.aload_n 1, 1) := by decide +kernel
theorem dL_law_622 : decode cL_law 622 = .ok (.aload_n 0, 1) := by decide +kernel
theorem dL_law_623 : decode cL_law 623 = .ok (.iload 4, 2) := by decide +kernel
theorem dL_law_625 : decode cL_law 625 = .ok (.iconst 1, 1) := by decide +kernel
theorem dL_law_626 : decode cL_law 626 = .ok (.iadd, 1) := by decide +kernel
theorem dL_law_627 : decode cL_law 627 = .ok (.iaload, 1) := by decide +kernel
theorem dL_law_628 : decode cL_law 628 = .ok (.aload_n 0, 1) := by decide +kernel
theorem dL_law_629 : decode cL_law 629 = .ok (.iload 4, 2) := by decide +kernel
theorem dL_law_631 : decode cL_law 631 = .ok (.iconst 2, 1) := by decide +kernel
theorem dL_law_632 : decode cL_law 632 = .ok (.iadd, 1) := by decide +kernel
theorem dL_law_633 : decode cL_law 633 = .ok (.iaload, 1) := by decide +kernel
theorem dL_law_634 : decode cL_law 634 = .ok (.invokevirtual 78, 3) := by decide +kernel
theorem dL_law_637 : decode cL_law 637 = .ok (.aload_n 2, 1) := by decide +kernel
theorem dL_law_638 : decode cL_law 638 = .ok (.aload_n 0, 1) := by decide +kernel
theorem dL_law_639 : decode cL_law 639 = .ok (.iload 4, 2) := by decide +kernel
theorem dL_law_641 : decode cL_law 641 = .ok (.iconst 1, 1) := by decide +kernel
theorem dL_law_642 : decode cL_law 642 = .ok (.iadd, 1) := by decide +kernel
theorem dL_law_643 : decode cL_law 643 = .ok (.iaload, 1) := by decide +kernel
theorem dL_law_644 : decode cL_law 644 = .ok (.aload_n 0, 1) := by decide +kernel
theorem dL_law_645 : decode cL_law 645 = .ok (.iload 4, 2) := by decide +kernel
theorem dL_law_647 : decode cL_law 647 = .ok (.iconst 2, 1) := by decide +kernel
theorem dL_law_648 : decode cL_law 648 = .ok (.iadd, 1) := by decide +kernel
theorem dL_law_649 : decode cL_law 649 = .ok (.iaload, 1) := by decide +kernel
theorem dL_law_650 : decode cL_law 650 = .ok (.invokevirtual 81, 3) := by decide +kernel
theorem dL_law_653 : decode cL_law 653 = .ok (.if_icmp .eq 1038, 3) := by decide +kernel
theorem dL_law_656 : decode cL_law 656 = .ok (.iconst 0, 1) := by decide +kernel
theorem dL_law_657 : decode cL_law 657 = .ok (.ireturn, 1) := by decide +kernel
theorem dL_law_658 : decode cL_law 658 = .ok (.aload_n 1, 1) := by decide +kernel
theorem dL_law_659 : decode cL_law 659 = .ok (.aload_n 0, 1) := by decide +kernel
theorem dL_law_660 : decode cL_law 660 = .ok (.iload 4, 2) := by decide +kernel
theorem dL_law_662 : decode cL_law 662 = .ok (.iconst 1, 1) := by decide +kernel
theorem dL_law_663 : decode cL_law 663 = .ok (.iadd, 1) := by decide +kernel
theorem dL_law_664 : decode cL_law 664 = .ok (.iaload, 1) := by decide +kernel
theorem dL_law_665 : decode cL_law 665 = .ok (.aload_n 0, 1) := by decide +kernel
theorem dL_law_666 : decode cL_law 666 = .ok (.iload 4, 2) := by decide +kernel
theorem dL_law_668 : decode cL_law 668 = .ok (.iconst 2, 1) := by decide +kernel
theorem dL_law_669 : decode cL_law 669 = .ok (.iadd, 1) := by decide +kernel
theorem dL_law_670 : decode cL_law 670 = .ok (.iaload, 1) := by decide +kernel
theorem dL_law_671 : decode cL_law 671 = .ok (.aload_n 0, 1) := by decide +kernel
theorem dL_law_672 : decode cL_law 672 = .ok (.iload 4, 2) := by decide +kernel
theorem dL_law_674 : decode cL_law 674 = .ok (.iconst 3, 1) := by decide +kernel
theorem dL_law_675 : decode cL_law 675 = .ok (.iadd, 1) := by decide +kernel
theorem dL_law_676 : decode cL_law 676 = .ok (.iaload, 1) := by decide +kernel
theorem dL_law_677 : decode cL_law 677 = .ok (.aload_n 0, 1) := by decide +kernel
theorem dL_law_678 : decode cL_law 678 = .ok (.iload 4, 2) := by decide +kernel
theorem dL_law_680 : decode cL_law 680 = .ok (.iconst 4, 1) := by decide +kernel
theorem dL_law_681 : decode cL_law 681 = .ok (.iadd, 1) := by decide +kernel
theorem dL_law_682 : decode cL_law 682 = .ok (.iaload, 1) := by decide +kernel
theorem dL_law_683 : decode cL_law 683 = .ok (.invokevirtual 82, 3) := by decide +kernel
theorem dL_law_686 : decode cL_law 686 = .ok (.aload_n 2, 1) := by decide +kernel
theorem dL_law_687 : decode cL_law 687 = .ok (.aload_n 0, 1) := by decide +kernel
theorem dL_law_688 : decode cL_law 688 = .ok (.iload 4, 2) := by decide +kernel
theorem dL_law_690 : decode cL_law 690 = .ok (.iconst 1, 1) := by decide +kernel
theorem dL_law_691 : decode cL_law 691 = .ok (.iadd, 1) := by decide +kernel
theorem dL_law_692 : decode cL_law 692 = .ok (.iaload, 1) := by decide +kernel
theorem dL_law_693 : decode cL_law 693 = .ok (.aload_n 0, 1) := by decide +kernel
theorem dL_law_694 : decode cL_law 694 = .ok (.iload 4, 2) := by decide +kernel
theorem dL_law_696 : decode cL_law 696 = .ok (.iconst 2, 1) := by decide +kernel
theorem dL_law_697 : decode cL_law 697 = .ok (.iadd, 1) := by decide +kernel
theorem dL_law_698 : decode cL_law 698 = .ok (.iaload, 1) := by decide +kernel
theorem dL_law_699 : decode cL_law 699 = .ok (.aload_n 0, 1) := by decide +kernel
theorem dL_law_700 : decode cL_law 700 = .ok (.iload 4, 2) := by decide +kernel
theorem dL_law_702 : decode cL_law 702 = .ok (.iconst 3, 1) := by decide +kernel
theorem dL_law_703 : decode cL_law 703 = .ok (.iadd, 1) := by decide +kernel
theorem dL_law_704 : decode cL_law 704 = .ok (.iaload, 1) := by decide +kernel
theorem dL_law_705 : decode cL_law 705 = .ok (.aload_n 0, 1) := by decide +kernel
theorem dL_law_706 : decode cL_law 706 = .ok (.iload 4, 2) := by decide +kernel
theorem dL_law_708 : decode cL_law 708 = .ok (.iconst 4, 1) := by decide +kernel
theorem dL_law_709 : decode cL_law 709 = .ok (.iadd, 1) := by decide +kernel
theorem dL_law_710 : decode cL_law 710 = .ok (.iaload, 1) := by decide +kernel
theorem dL_law_711 : decode cL_law 711 = .ok (.invokevirtual 85, 3) := by decide +kernel
theorem dL_law_714 : decode cL_law 714 = .ok (.if_icmp .eq 977, 3) := by decide +kernel
theorem dL_law_717 : decode cL_law 717 = .ok (.iconst 0, 1) := by decide +kernel
theorem dL_law_718 : decode cL_law 718 = .ok (.ireturn, 1) := by decide +kernel
theorem dL_law_719 : decode cL_law 719 = .ok (.aload_n 1, 1) := by decide +kernel
theorem dL_law_720 : decode cL_law 720 = .ok (.invokevirtual 86, 3) := by decide +kernel
theorem dL_law_723 : decode cL_law 723 = .ok (.aload_n 2, 1) := by decide +kernel
theorem dL_law_724 : decode cL_law 724 = .ok (.invokevirtual 89, 3) := by decide +kernel
theorem dL_law_727 : decode cL_law 727 = .ok (.if_icmp .eq 964, 3) := by decide +kernel
theorem dL_law_730 : decode cL_law 730 = .ok (.iconst 0, 1) := by decide +kernel
theorem dL_law_731 : decode cL_law 731 = .ok (.ireturn, 1) := by decide +kernel
theorem dL_law_732 : decode cL_law 732 = .ok (.aload_n 1, 1) := by decide +kernel
theorem dL_law_733 : decode cL_law 733 = .ok (.invokevirtual 90, 3) := by decide +kernel
theorem dL_law_736 : decode cL_law 736 = .ok (.aload_n 2, 1) := by decide +kernel
theorem dL_law_737 : decode cL_law 737 = .ok (.invokevirtual 93, 3) := by decide +kernel
theorem dL_law_740 : decode cL_law 740 = .ok (.if_icmp .eq 951, 3) := by decide +kernel
theorem dL_law_743 : decode cL_law 743 = .ok (.iconst 0, 1) := by decide +kernel
theorem dL_law_744 : decode cL_law 744 = .ok (.ireturn, 1) := by decide +kernel
theorem dL_law_745 : decode cL_law 745 = .ok (.aload_n 1, 1) := by decide +kernel
theorem dL_law_746 : decode cL_law 746 = .ok (.aload_n 0, 1) := by decide +kernel
theorem dL_law_747 : decode cL_law 747 = .ok (.iload 4, 2) := by decide +kernel
theorem dL_law_749 : decode cL_law 749 = .ok (.iconst 1, 1) := by decide +kernel
theorem dL_law_750 : decode cL_law 750 = .ok (.iadd, 1) := by decide +kernel
theorem dL_law_751 : decode cL_law 751 = .ok (.iaload, 1) := by decide +kernel
theorem dL_law_752 : decode cL_law 752 = .ok (.invokevirtual 94, 3) := by decide +kernel
theorem dL_law_755 : decode cL_law 755 = .ok (.aload_n 2, 1) := by decide +kernel
theorem dL_law_756 : decode cL_law 756 = .ok (.aload_n 0, 1) := by decide +kernel
theorem dL_law_757 : decode cL_law 757 = .ok (.iload 4, 2) := by decide +kernel
theorem dL_law_759 : decode cL_law 759 = .ok (.iconst 1, 1) := by decide +kernel
theorem dL_law_760 : decode cL_law 760 = .ok (.iadd, 1) := by decide +kernel
theorem dL_law_761 : decode cL_law 761 = .ok (.iaload, 1) := by decide +kernel
theorem dL_law_762 : decode cL_law 762 = .ok (.invokevirtual 97, 3) := by decide +kernel
theorem dL_law_765 : decode cL_law 765 = .ok (.if_icmp .eq 926, 3) := by decide +kernel
theorem dL_law_768 : decode cL_law 768 = .ok (.iconst 0, 1) := by decide +kernel
theorem dL_law_769 : decode cL_law 769 = .ok (.ireturn, 1) := by decide +kernel
theorem dL_law_770 : decode cL_law 770 = .ok (.aload_n 1, 1) := by decide +kernel
theorem dL_law_771 : decode cL_law 771 = .ok (.aload_n 0, 1) := by decide +kernel
theorem dL_law_772 : decode cL_law 772 = .ok (.iload 4, 2) := by decide +kernel
theorem dL_law_774 : decode cL_law 774 = .ok (.iconst 1, 1) := by decide +kernel
theorem dL_law_775 : decode cL_law 775 = .ok (.iadd, 1) := by decide +kernel
theorem dL_law_776 : decode cL_law 776 = .ok (.iaload, 1) := by decide +kernel
theorem dL_law_777 : decode cL_law 777 = .ok (.aload_n 0, 1) := by decide +kernel
theorem dL_law_778 : decode cL_law 778 = .ok (.iload 4, 2) := by decide +kernel
theorem dL_law_780 : decode cL_law 780 = .ok (.iconst 2, 1) := by decide +kernel
theorem dL_law_781 : decode cL_law 781 = .ok (.iadd, 1) := by decide +kernel
theorem dL_law_782 : decode cL_law 782 = .ok (.iaload, 1) := by decide +kernel
theorem dL_law_783 : decode cL_law 783 = .ok (.invokevirtual 98, 3) := by decide +kernel
theorem dL_law_786 : decode cL_law 786 = .ok (.aload_n 2, 1) := by decide +kernel
theorem dL_law_787 : decode cL_law 787 = .ok (.aload_n 0, 1) := by decide +kernel
theorem dL_law_788 : decode cL_law 788 = .ok (.iload 4, 2) := by decide +kernel
theorem dL_law_790 : decode cL_law 790 = .ok (.iconst 1, 1) := by decide +kernel
theorem dL_law_791 : decode cL_law 791 = .ok (.iadd, 1) := by decide +kernel
theorem dL_law_792 : decode cL_law 792 = .ok (.iaload, 1) := by decide +kernel
theorem dL_law_793 : decode cL_law 793 = .ok (.aload_n 0, 1) := by decide +kernel
theorem dL_law_794 : decode cL_law 794 = .ok (.iload 4, 2) := by decide +kernel
theorem dL_law_796 : decode cL_law 796 = .ok (.iconst 2, 1) := by decide +kernel
theorem dL_law_797 : decode cL_law 797 = .ok (.iadd, 1) := by decide +kernel
theorem dL_law_798 : decode cL_law 798 = .ok (.iaload, 1) := by decide +kernel
theorem dL_law_799 : decode cL_law 799 = .ok (.invokevirtual 101, 3) := by decide +kernel
theorem dL_law_802 : decode cL_law 802 = .ok (.if_icmp .eq 889, 3) := by decide +kernel
theorem dL_law_805 : decode cL_law 805 = .ok (.iconst 0, 1) := by decide +kernel
theorem dL_law_806 : decode cL_law 806 = .ok (.ireturn, 1) := by decide +kernel
theorem dL_law_807 : decode cL_law 807 = .ok (.aload_n 1, 1) := by decide +kernel
theorem dL_law_808 : decode cL_law 808 = .ok (.aload_n 0, 1) := by decide +kernel
theorem dL_law_809 : decode cL_law 809 = .ok (.iload 4, 2) := by decide +kernel
theorem dL_law_811 : decode cL_law 811 = .ok (.iconst 1, 1) := by decide +kernel
theorem dL_law_812 : decode cL_law 812 = .ok (.iadd, 1) := by decide +kernel
theorem dL_law_813 : decode cL_law 813 = .ok (.iaload, 1) := by decide +kernel
theorem dL_law_814 : decode cL_law 814 = .ok (.aload_n 0, 1) := by decide +kernel
theorem dL_law_815 : decode cL_law 815 = .ok (.iload 4, 2) := by decide +kernel
theorem dL_law_817 : decode cL_law 817 = .ok (.iconst 2, 1) := by decide +kernel
theorem dL_law_818 : decode cL_law 818 = .ok (.iadd, 1) := by decide +kernel
theorem dL_law_819 : decode cL_law 819 = .ok (.iaload, 1) := by decide +kernel
theorem dL_law_820 : decode cL_law 820 = .ok (.aload_n 0, 1) := by decide +kernel
theorem dL_law_821 : decode cL_law 821 = .ok (.iload 4, 2) := by decide +kernel
theorem dL_law_823 : decode cL_law 823 = .ok (.iconst 3, 1) := by decide +kernel
theorem dL_law_824 : decode cL_law 824 = .ok (.iadd, 1) := by decide +kernel
theorem dL_law_825 : decode cL_law 825 = .ok (.iaload, 1) := by decide +kernel
theorem dL_law_826 : decode cL_law 826 = .ok (.invokevirtual 102, 3) := by decide +kernel
theorem dL_law_829 : decode cL_law 829 = .ok (.aload_n 2, 1) := by decide +kernel
theorem dL_law_830 : decode cL_law 830 = .ok (.aload_n 0, 1) := by decide +kernel
theorem dL_law_831 : decode cL_law 831 = .ok (.iload 4, 2) := by decide +kernel
theorem dL_law_833 : decode cL_law 833 = .ok (.iconst 1, 1) := by decide +kernel
theorem dL_law_834 : decode cL_law 834 = .ok (.iadd, 1) := by decide +kernel
theorem dL_law_835 : decode cL_law 835 = .ok (.iaload, 1) := by decide +kernel
theorem dL_law_836 : decode cL_law 836 = .ok (.aload_n 0, 1) := by decide +kernel
theorem dL_law_837 : decode cL_law 837 = .ok (.iload 4, 2) := by decide +kernel
theorem dL_law_839 : decode cL_law 839 = .ok (.iconst 2, 1) := by decide +kernel
theorem dL_law_840 : decode cL_law 840 = .ok (.iadd, 1) := by decide +kernel
theorem dL_law_841 : decode cL_law 841 = .ok (.iaload, 1) := by decide +kernel
theorem dL_law_842 : decode cL_law 842 = .ok (.aload_n 0, 1) := by decide +kernel
theorem dL_law_843 : decode cL_law 843 = .ok (.iload 4, 2) := by decide +kernel
theorem dL_law_845 : decode cL_law 845 = .ok (.iconst 3, 1) := by decide +kernel
theorem dL_law_846 : decode cL_law 846 = .ok (.iadd, 1) := by decide +kernel
theorem dL_law_847 : decode cL_law 847 = .ok (.iaload, 1) := by decide +kernel
theorem dL_law_848 : decode cL_law 848 = .ok (.invokevirtual 106, 3) := by decide +kernel
theorem dL_law_851 : decode cL_law 851 = .ok (.if_icmp .eq 840, 3) := by decide +kernel
theorem dL_law_854 : decode cL_law 854 = .ok (.iconst 0, 1) := by decide +kernel
theorem dL_law_855 : decode cL_law 855 = .ok (.ireturn, 1) := by decide +kernel
theorem dL_law_856 : decode cL_law 856 = .ok (.aload_n 1, 1) := by decide +kernel
theorem dL_law_857 : decode cL_law 857 = .ok (.aload_n 0, 1) := by decide +kernel
theorem dL_law_858 : decode cL_law 858 = .ok (.iload 4, 2) := by decide +kernel
theorem dL_law_860 : decode cL_law 860 = .ok (.iconst 1, 1) := by decide +kernel
theorem dL_law_861 : decode cL_law 861 = .ok (.iadd, 1) := by decide +kernel
theorem dL_law_862 : decode cL_law 862 = .ok (.iaload, 1) := by decide +kernel
theorem dL_law_863 : decode cL_law 863 = .ok (.aload_n 0, 1) := by decide +kernel
theorem dL_law_864 : decode cL_law 864 = .ok (.iload 4, 2) := by decide +kernel
theorem dL_law_866 : decode cL_law 866 = .ok (.iconst 2, 1) := by decide +kernel
theorem dL_law_867 : decode cL_law 867 = .ok (.iadd, 1) := by decide +kernel
theorem dL_law_868 : decode cL_law 868 = .ok (.iaload, 1) := by decide +kernel
theorem dL_law_869 : decode cL_law 869 = .ok (.aload_n 0, 1) := by decide +kernel
theorem dL_law_870 : decode cL_law 870 = .ok (.iload 4, 2) := by decide +kernel
theorem dL_law_872 : decode cL_law 872 = .ok (.iconst 3, 1) := by decide +kernel
theorem dL_law_873 : decode cL_law 873 = .ok (.iadd, 1) := by decide +kernel
theorem dL_law_874 : decode cL_law 874 = .ok (.iaload, 1) := by decide +kernel
theorem dL_law_875 : decode cL_law 875 = .ok (.invokevirtual 107, 3) := by decide +kernel
theorem dL_law_878 : decode cL_law 878 = .ok (.aload_n 2, 1) := by decide +kernel
theorem dL_law_879 : decode cL_law 879 = .ok (.aload_n 0, 1) := by decide +kernel
theorem dL_law_880 : decode cL_law 880 = .ok (.iload 4, 2) := by decide +kernel
theorem dL_law_882 : decode cL_law 882 = .ok (.iconst 1, 1) := by decide +kernel
theorem dL_law_883 : decode cL_law 883 = .ok (.iadd, 1) := by decide +kernel
theorem dL_law_884 : decode cL_law 884 = .ok (.iaload, 1) := by decide +kernel
theorem dL_law_885 : decode cL_law 885 = .ok (.aload_n 0, 1) := by decide +kernel
theorem dL_law_886 : decode cL_law 886 = .ok (.iload 4, 2) := by decide +kernel
theorem dL_law_888 : decode cL_law 888 = .ok (.iconst 2, 1) := by decide +kernel
theorem dL_law_889 : decode cL_law 889 = .ok (.iadd, 1) := by decide +kernel
theorem dL_law_890 : decode cL_law 890 = .ok (.iaload, 1) := by decide +kernel
theorem dL_law_891 : decode cL_law 891 = .ok (.aload_n 0, 1) := by decide +kernel
theorem dL_law_892 : decode cL_law 892 = .ok (.iload 4, 2) := by decide +kernel
theorem dL_law_894 : decode cL_law 894 = .ok (.iconst 3, 1) := by decide +kernel
theorem dL_law_895 : decode cL_law 895 = .ok (.iadd, 1) := by decide +kernel
theorem dL_law_896 : decode cL_law 896 = .ok (.iaload, 1) := by decide +kernel
theorem dL_law_897 : decode cL_law 897 = .ok (.invokevirtual 110, 3) := by decide +kernel
theorem dL_law_900 : decode cL_law 900 = .ok (.if_icmp .eq 791, 3) := by decide +kernel
theorem dL_law_903 : decode cL_law 903 = .ok (.iconst 0, 1) := by decide +kernel
theorem dL_law_904 : decode cL_law 904 = .ok (.ireturn, 1) := by decide +kernel
theorem dL_law_905 : decode cL_law 905 = .ok (.aload_n 1, 1) := by decide +kernel
theorem dL_law_906 : decode cL_law 906 = .ok (.aload_n 0, 1) := by decide +kernel
theorem dL_law_907 : decode cL_law 907 = .ok (.iload 4, 2) := by decide +kernel
theorem dL_law_909 : decode cL_law 909 = .ok (.iconst 1, 1) := by decide +kernel
theorem dL_law_910 : decode cL_law 910 = .ok (.iadd, 1) := by decide +kernel
theorem dL_law_911 : decode cL_law 911 = .ok (.iaload, 1) := by decide +kernel
theorem dL_law_912 : decode cL_law 912 = .ok (.aload_n 0, 1) := by decide +kernel
theorem dL_law_913 : decode cL_law 913 = .ok (.iload 4, 2) := by decide +kernel
theorem dL_law_915 : decode cL_law 915 = .ok (.iconst 2, 1) := by decide +kernel
theorem dL_law_916 : decode cL_law 916 = .ok (.iadd, 1) := by decide +kernel
theorem dL_law_917 : decode cL_law 917 = .ok (.iaload, 1) := by decide +kernel
theorem dL_law_918 : decode cL_law 918 = .ok (.aload_n 0, 1) := by decide +kernel
theorem dL_law_919 : decode cL_law 919 = .ok (.iload 4, 2) := by decide +kernel
theorem dL_law_921 : decode cL_law 921 = .ok (.iconst 3, 1) := by decide +kernel
theorem dL_law_922 : decode cL_law 922 = .ok (.iadd, 1) := by decide +kernel
theorem dL_law_923 : decode cL_law 923 = .ok (.iaload, 1) := by decide +kernel
theorem dL_law_924 : decode cL_law 924 = .ok (.invokevirtual 111, 3) := by decide +kernel
theorem dL_law_927 : decode cL_law 927 = .ok (.aload_n 2, 1) := by decide +kernel
theorem dL_law_928 : decode cL_law 928 = .ok (.aload_n 0, 1) := by decide +kernel
theorem dL_law_929 : decode cL_law 929 = .ok (.iload 4, 2) := by decide +kernel
theorem dL_law_931 : decode cL_law 931 = .ok (.iconst 1, 1) := by decide +kernel
theorem dL_law_932 : decode cL_law 932 = .ok (.iadd, 1) := by decide +kernel
theorem dL_law_933 : decode cL_law 933 = .ok (.iaload, 1) := by decide +kernel
theorem dL_law_934 : decode cL_law 934 = .ok (.aload_n 0, 1) := by decide +kernel
theorem dL_law_935 : decode cL_law 935 = .ok (.iload 4, 2) := by decide +kernel
theorem dL_law_937 : decode cL_law 937 = .ok (.iconst 2, 1) := by decide +kernel
theorem dL_law_938 : decode cL_law 938 = .ok (.iadd, 1) := by decide +kernel
theorem dL_law_939 : decode cL_law 939 = .ok (.iaload, 1) := by decide +kernel
theorem dL_law_940 : decode cL_law 940 = .ok (.aload_n 0, 1) := by decide +kernel
theorem dL_law_941 : decode cL_law 941 = .ok (.iload 4, 2) := by decide +kernel
theorem dL_law_943 : decode cL_law 943 = .ok (.iconst 3, 1) := by decide +kernel
theorem dL_law_944 : decode cL_law 944 = .ok (.iadd, 1) := by decide +kernel
theorem dL_law_945 : decode cL_law 945 = .ok (.iaload, 1) := by decide +kernel
theorem dL_law_946 : decode cL_law 946 = .ok (.invokevirtual 114, 3) := by decide +kernel
theorem dL_law_949 : decode cL_law 949 = .ok (.if_icmp .eq 742, 3) := by decide +kernel
theorem dL_law_952 : decode cL_law 952 = .ok (.iconst 0, 1) := by decide +kernel
theorem dL_law_953 : decode cL_law 953 = .ok (.ireturn, 1) := by decide +kernel
theorem dL_law_954 : decode cL_law 954 = .ok (.aload_n 1, 1) := by decide +kernel
theorem dL_law_955 : decode cL_law 955 = .ok (.aload_n 0, 1) := by decide +kernel
theorem dL_law_956 : decode cL_law 956 = .ok (.iload 4, 2) := by decide +kernel
theorem dL_law_958 : decode cL_law 958 = .ok (.iconst 1, 1) := by decide +kernel
theorem dL_law_959 : decode cL_law 959 = .ok (.iadd, 1) := by decide +kernel
theorem dL_law_960 : decode cL_law 960 = .ok (.iaload, 1) := by decide +kernel
theorem dL_law_961 : decode cL_law 961 = .ok (.aload_n 0, 1) := by decide +kernel
theorem dL_law_962 : decode cL_law 962 = .ok (.iload 4, 2) := by decide +kernel
theorem dL_law_964 : decode cL_law 964 = .ok (.iconst 2, 1) := by decide +kernel
theorem dL_law_965 : decode cL_law 965 = .ok (.iadd, 1) := by decide +kernel
theorem dL_law_966 : decode cL_law 966 = .ok (.iaload, 1) := by decide +kernel
theorem dL_law_967 : decode cL_law 967 = .ok (.invokevirtual 115, 3) := by decide +kernel
theorem dL_law_970 : decode cL_law 970 = .ok (.aload_n 2, 1) := by decide +kernel
theorem dL_law_971 : decode cL_law 971 = .ok (.aload_n 0, 1) := by decide +kernel
theorem dL_law_972 : decode cL_law 972 = .ok (.iload 4, 2) := by decide +kernel
theorem dL_law_974 : decode cL_law 974 = .ok (.iconst 1, 1) := by decide +kernel
theorem dL_law_975 : decode cL_law 975 = .ok (.iadd, 1) := by decide +kernel
theorem dL_law_976 : decode cL_law 976 = .ok (.iaload, 1) := by decide +kernel
theorem dL_law_977 : decode cL_law 977 = .ok (.aload_n 0, 1) := by decide +kernel
theorem dL_law_978 : decode cL_law 978 = .ok (.iload 4, 2) := by decide +kernel
theorem dL_law_980 : decode cL_law 980 = .ok (.iconst 2, 1) := by decide +kernel
theorem dL_law_981 : decode cL_law 981 = .ok (.iadd, 1) := by decide +kernel
theorem dL_law_982 : decode cL_law 982 = .ok (.iaload, 1) := by decide +kernel
theorem dL_law_983 : decode cL_law 983 = .ok (.invokevirtual 118, 3) := by decide +kernel
theorem dL_law_986 : decode cL_law 986 = .ok (.if_icmp .eq 705, 3) := by decide +kernel
theorem dL_law_989 : decode cL_law 989 = .ok (.iconst 0, 1) := by decide +kernel
theorem dL_law_990 : decode cL_law 990 = .ok (.ireturn, 1) := by decide +kernel
theorem dL_law_991 : decode cL_law 991 = .ok (.aload_n 1, 1) := by decide +kernel
theorem dL_law_992 : decode cL_law 992 = .ok (.aload_n 0, 1) := by decide +kernel
theorem dL_law_993 : decode cL_law 993 = .ok (.iload 4, 2) := by decide +kernel
theorem dL_law_995 : decode cL_law 995 = .ok (.iconst 1, 1) := by decide +kernel
theorem dL_law_996 : decode cL_law 996 = .ok (.iadd, 1) := by decide +kernel
theorem dL_law_997 : decode cL_law 997 = .ok (.iaload, 1) := by decide +kernel
theorem dL_law_998 : decode cL_law 998 = .ok (.aload_n 0, 1) := by decide +kernel
theorem dL_law_999 : decode cL_law 999 = .ok (.iload 4, 2) := by decide +kernel
theorem dL_law_1001 : decode cL_law 1001 = .ok (.iconst 2, 1) := by decide +kernel
theorem dL_law_1002 : decode cL_law 1002 = .ok (.iadd, 1) := by decide +kernel
theorem dL_law_1003 : decode cL_law 1003 = .ok (.iaload, 1) := by decide +kernel
theorem dL_law_1004 : decode cL_law 1004 = .ok (.aload_n 0, 1) := by decide +kernel
theorem dL_law_1005 : decode cL_law 1005 = .ok (.iload 4, 2) := by decide +kernel
theorem dL_law_1007 : decode cL_law 1007 = .ok (.iconst 3, 1) := by decide +kernel
theorem dL_law_1008 : decode cL_law 1008 = .ok (.iadd, 1) := by decide +kernel
theorem dL_law_1009 : decode cL_law 1009 = .ok (.iaload, 1) := by decide +kernel
theorem dL_law_1010 : decode cL_law 1010 = .ok (.invokevirtual 119, 3) := by decide +kernel
theorem dL_law_1013 : decode cL_law 1013 = .ok (.aload_n 2, 1) := by decide +kernel
theorem dL_law_1014 : decode cL_law 1014 = .ok (.aload_n 0, 1) := by decide +kernel
theorem dL_law_1015 : decode cL_law 1015 = .ok (.iload 4, 2) := by decide +kernel
theorem dL_law_1017 : decode cL_law 1017 = .ok (.iconst 1, 1) := by decide +kernel
theorem dL_law_1018 : decode cL_law 1018 = .ok (.iadd, 1) := by decide +kernel
theorem dL_law_1019 : decode cL_law 1019 = .ok (.iaload, 1) := by decide +kernel
theorem dL_law_1020 : decode cL_law 1020 = .ok (.aload_n 0, 1) := by decide +kernel
theorem dL_law_1021 : decode cL_law 1021 = .ok (.iload 4, 2) := by decide +kernel
theorem dL_law_1023 : decode cL_law 1023 = .ok (.iconst 2, 1) := by decide +kernel
theorem dL_law_1024 : decode cL_law 1024 = .ok (.iadd, 1) := by decide +kernel
theorem dL_law_1025 : decode cL_law 1025 = .ok (.iaload, 1) := by decide +kernel
theorem dL_law_1026 : decode cL_law 1026 = .ok (.aload_n 0, 1) := by decide +kernel
theorem dL_law_1027 : decode cL_law 1027 = .ok (.iload 4, 2) := by decide +kernel
theorem dL_law_1029 : decode cL_law 1029 = .ok (.iconst 3, 1) := by decide +kernel
theorem dL_law_1030 : decode cL_law 1030 = .ok (.iadd, 1) := by decide +kernel
theorem dL_law_1031 : decode cL_law 1031 = .ok (.iaload, 1) := by decide +kernel
theorem dL_law_1032 : decode cL_law 1032 = .ok (.invokevirtual 122, 3) := by decide +kernel
theorem dL_law_1035 : decode cL_law 1035 = .ok (.if_icmp .eq 656, 3) := by decide +kernel
theorem dL_law_1038 : decode cL_law 1038 = .ok (.iconst 0, 1) := by decide +kernel
theorem dL_law_1039 : decode cL_law 1039 = .ok (.ireturn, 1) := by decide +kernel
theorem dL_law_1040 : decode cL_law 1040 = .ok (.aload_n 1, 1) := by decide +kernel
theorem dL_law_1041 : decode cL_law 1041 = .ok (.aload_n 0, 1) := by decide +kernel
theorem dL_law_1042 : decode cL_law 1042 = .ok (.iload 4, 2) := by decide +kernel
theorem dL_law_1044 : decode cL_law 1044 = .ok (.iconst 1, 1) := by decide +kernel
theorem dL_law_1045 : decode cL_law 1045 = .ok (.iadd, 1) := by decide +kernel
theorem dL_law_1046 : decode cL_law 1046 = .ok (.iaload, 1) := by decide +kernel
theorem dL_law_1047 : decode cL_law 1047 = .ok (.invokevirtual 123, 3) := by decide +kernel
theorem dL_law_1050 : decode cL_law 1050 = .ok (.aload_n 2, 1) := by decide +kernel
theorem dL_law_1051 : decode cL_law 1051 = .ok (.aload_n 0, 1) := by decide +kernel
theorem dL_law_1052 : decode cL_law 1052 = .ok (.iload 4, 2) := by decide +kernel
theorem dL_law_1054 : decode cL_law 1054 = .ok (.iconst 1, 1) := by decide +kernel
theorem dL_law_1055 : decode cL_law 1055 = .ok (.iadd, 1) := by decide +kernel
theorem dL_law_1056 : decode cL_law 1056 = .ok (.iaload, 1) := by decide +kernel
theorem dL_law_1057 : decode cL_law 1057 = .ok (.invokevirtual 126, 3) := by decide +kernel
theorem dL_law_1060 : decode cL_law 1060 = .ok (.if_icmp .eq 631, 3) := by decide +kernel
theorem dL_law_1063 : decode cL_law 1063 = .ok (.iconst 0, 1) := by decide +kernel
theorem dL_law_1064 : decode cL_law 1064 = .ok (.ireturn, 1) := by decide +kernel
theorem dL_law_1065 : decode cL_law 1065 = .ok (.aload_n 1, 1) := by decide +kernel
theorem dL_law_1066 : decode cL_law 1066 = .ok (.aload_n 0, 1) := by decide +kernel
theorem dL_law_1067 : decode cL_law 1067 = .ok (.iload 4, 2) := by decide +kernel
theorem dL_law_1069 : decode cL_law 1069 = .ok (.iconst 1, 1) := by decide +kernel
theorem dL_law_1070 : decode cL_law 1070 = .ok (.iadd, 1) := by decide +kernel
theorem dL_law_1071 : decode cL_law 1071 = .ok (.iaload, 1) := by decide +kernel
theorem dL_law_1072 : decode cL_law 1072 = .ok (.invokevirtual 127, 3) := by decide +kernel
theorem dL_law_1075 : decode cL_law 1075 = .ok (.aload_n 2, 1) := by decide +kernel
theorem dL_law_1076 : decode cL_law 1076 = .ok (.aload_n 0, 1) := by decide +kernel
theorem dL_law_1077 : decode cL_law 1077 = .ok (.iload 4, 2) := by decide +kernel
theorem dL_law_1079 : decode cL_law 1079 = .ok (.iconst 1, 1) := by decide +kernel
theorem dL_law_1080 : decode cL_law 1080 = .ok (.iadd, 1) := by decide +kernel
theorem dL_law_1081 : decode cL_law 1081 = .ok (.iaload, 1) := by decide +kernel
theorem dL_law_1082 : decode cL_law 1082 = .ok (.invokevirtual 130, 3) := by decide +kernel
theorem dL_law_1085 : decode cL_law 1085 = .ok (.if_icmp .eq 606, 3) := by decide +kernel
theorem dL_law_1088 : decode cL_law 1088 = .ok (.iconst 0, 1) := by decide +kernel
theorem dL_law_1089 : decode cL_law 1089 = .ok (.ireturn, 1) := by decide +kernel
theorem dL_law_1090 : decode cL_law 1090 = .ok (.aload_n 1, 1) := by decide +kernel
theorem dL_law_1091 : decode cL_law 1091 = .ok (.invokevirtual 131, 3) := by decide +kernel
theorem dL_law_1094 : decode cL_law 1094 = .ok (.aload_n 2, 1) := by decide +kernel
theorem dL_law_1095 : decode cL_law 1095 = .ok (.invokevirtual 134, 3) := by decide +kernel
theorem dL_law_1098 : decode cL_law 1098 = .ok (.if_icmp .eq 593, 3) := by decide +kernel
theorem dL_law_1101 : decode cL_law 1101 = .ok (.iconst 0, 1) := by decide +kernel
theorem dL_law_1102 : decode cL_law 1102 = .ok (.ireturn, 1) := by decide +kernel
theorem dL_law_1103 : decode cL_law 1103 = .ok (.aload_n 1, 1) := by decide +kernel
theorem dL_law_1104 : decode cL_law 1104 = .ok (.aload_n 0, 1) := by decide +kernel
theorem dL_law_1105 : decode cL_law 1105 = .ok (.iload 4, 2) := by decide +kernel
theorem dL_law_1107 : decode cL_law 1107 = .ok (.iconst 1, 1) := by decide +kernel
theorem dL_law_1108 : decode cL_law 1108 = .ok (.iadd, 1) := by decide +kernel
theorem dL_law_1109 : decode cL_law 1109 = .ok (.iaload, 1) := by decide +kernel
theorem dL_law_1110 : decode cL_law 1110 = .ok (.aload_n 0, 1) := by decide +kernel
theorem dL_law_1111 : decode cL_law 1111 = .ok (.iload 4, 2) := by decide +kernel
theorem dL_law_1113 : decode cL_law 1113 = .ok (.iconst 2, 1) := by decide +kernel
theorem dL_law_1114 : decode cL_law 1114 = .ok (.iadd, 1) := by decide +kernel
theorem dL_law_1115 : decode cL_law 1115 = .ok (.iaload, 1) := by decide +kernel
theorem dL_law_1116 : decode cL_law 1116 = .ok (.aload_n 0, 1) := by decide +kernel
theorem dL_law_1117 : decode cL_law 1117 = .ok (.iload 4, 2) := by decide +kernel
theorem dL_law_1119 : decode cL_law 1119 = .ok (.iconst 3, 1) := by decide +kernel
theorem dL_law_1120 : decode cL_law 1120 = .ok (.iadd, 1) := by decide +kernel
theorem dL_law_1121 : decode cL_law 1121 = .ok (.iaload, 1) := by decide +kernel
theorem dL_law_1122 : decode cL_law 1122 = .ok (.aload_n 0, 1) := by decide +kernel
theorem dL_law_1123 : decode cL_law 1123 = .ok (.iload 4, 2) := by decide +kernel
theorem dL_law_1125 : decode cL_law 1125 = .ok (.iconst 4, 1) := by decide +kernel
theorem dL_law_1126 : decode cL_law 1126 = .ok (.iadd, 1) := by decide +kernel
theorem dL_law_1127 : decode cL_law 1127 = .ok (.iaload, 1) := by decide +kernel
theorem dL_law_1128 : decode cL_law 1128 = .ok (.invokevirtual 135, 3) := by decide +kernel
theorem dL_law_1131 : decode cL_law 1131 = .ok (.aload_n 2, 1) := by decide +kernel
theorem dL_law_1132 : decode cL_law 1132 = .ok (.aload_n 0, 1) := by decide +kernel
theorem dL_law_1133 : decode cL_law 1133 = .ok (.iload 4, 2) := by decide +kernel
theorem dL_law_1135 : decode cL_law 1135 = .ok (.iconst 1, 1) := by decide +kernel
theorem dL_law_1136 : decode cL_law 1136 = .ok (.iadd, 1) := by decide +kernel
theorem dL_law_1137 : decode cL_law 1137 = .ok (.iaload, 1) := by decide +kernel
theorem dL_law_1138 : decode cL_law 1138 = .ok (.aload_n 0, 1) := by decide +kernel
theorem dL_law_1139 : decode cL_law 1139 = .ok (.iload 4, 2) := by decide +kernel
theorem dL_law_1141 : decode cL_law 1141 = .ok (.iconst 2, 1) := by decide +kernel
theorem dL_law_1142 : decode cL_law 1142 = .ok (.iadd, 1) := by decide +kernel
theorem dL_law_1143 : decode cL_law 1143 = .ok (.iaload, 1) := by decide +kernel
theorem dL_law_1144 : decode cL_law 1144 = .ok (.aload_n 0, 1) := by decide +kernel
theorem dL_law_1145 : decode cL_law 1145 = .ok (.iload 4, 2) := by decide +kernel
theorem dL_law_1147 : decode cL_law 1147 = .ok (.iconst 3, 1) := by decide +kernel
theorem dL_law_1148 : decode cL_law 1148 = .ok (.iadd, 1) := by decide +kernel
theorem dL_law_1149 : decode cL_law 1149 = .ok (.iaload, 1) := by decide +kernel
theorem dL_law_1150 : decode cL_law 1150 = .ok (.aload_n 0, 1) := by decide +kernel
theorem dL_law_1151 : decode cL_law 1151 = .ok (.iload 4, 2) := by decide +kernel
theorem dL_law_1153 : decode cL_law 1153 = .ok (.iconst 4, 1) := by decide +kernel
theorem dL_law_1154 : decode cL_law 1154 = .ok (.iadd, 1) := by decide +kernel
theorem dL_law_1155 : decode cL_law 1155 = .ok (.iaload, 1) := by decide +kernel
theorem dL_law_1156 : decode cL_law 1156 = .ok (.invokevirtual 138, 3) := by decide +kernel
theorem dL_law_1159 : decode cL_law 1159 = .ok (.if_icmp .eq 532, 3) := by decide +kernel
theorem dL_law_1162 : decode cL_law 1162 = .ok (.iconst 0, 1) := by decide +kernel
theorem dL_law_1163 : decode cL_law 1163 = .ok (.ireturn, 1) := by decide +kernel
theorem dL_law_1164 : decode cL_law 1164 = .ok (.aload_n 1, 1) := by decide +kernel
theorem dL_law_1165 : decode cL_law 1165 = .ok (.aload_n 0, 1) := by decide +kernel
theorem dL_law_1166 : decode cL_law 1166 = .ok (.iload 4, 2) := by decide +kernel
theorem dL_law_1168 : decode cL_law 1168 = .ok (.iconst 1, 1) := by decide +kernel
theorem dL_law_1169 : decode cL_law 1169 = .ok (.iadd, 1) := by decide +kernel
theorem dL_law_1170 : decode cL_law 1170 = .ok (.iaload, 1) := by decide +kernel
theorem dL_law_1171 : decode cL_law 1171 = .ok (.invokevirtual 139, 3) := by decide +kernel
theorem dL_law_1174 : decode cL_law 1174 = .ok (.aload_n 2, 1) := by decide +kernel
theorem dL_law_1175 : decode cL_law 1175 = .ok (.aload_n 0, 1) := by decide +kernel
theorem dL_law_1176 : decode cL_law 1176 = .ok (.iload 4, 2) := by decide +kernel
theorem dL_law_1178 : decode cL_law 1178 = .ok (.iconst 1, 1) := by decide +kernel
theorem dL_law_1179 : decode cL_law 1179 = .ok (.iadd, 1) := by decide +kernel
theorem dL_law_1180 : decode cL_law 1180 = .ok (.iaload, 1) := by decide +kernel
theorem dL_law_1181 : decode cL_law 1181 = .ok (.invokevirtual 142, 3) := by decide +kernel
theorem dL_law_1184 : decode cL_law 1184 = .ok (.if_icmp .eq 507, 3) := by decide +kernel
theorem dL_law_1187 : decode cL_law 1187 = .ok (.iconst 0, 1) := by decide +kernel
theorem dL_law_1188 : decode cL_law 1188 = .ok (.ireturn, 1) := by decide +kernel
theorem dL_law_1189 : decode cL_law 1189 = .ok (.aload_n 1, 1) := by decide +kernel
theorem dL_law_1190 : decode cL_law 1190 = .ok (.aload_n 0, 1) := by decide +kernel
theorem dL_law_1191 : decode cL_law 1191 = .ok (.iload 4, 2) := by decide +kernel
theorem dL_law_1193 : decode cL_law 1193 = .ok (.iconst 1, 1) := by decide +kernel
theorem dL_law_1194 : decode cL_law 1194 = .ok (.iadd, 1) := by decide +kernel
theorem dL_law_1195 : decode cL_law 1195 = .ok (.iaload, 1) := by decide +kernel
theorem dL_law_1196 : decode cL_law 1196 = .ok (.invokevirtual 143, 3) := by decide +kernel
theorem dL_law_1199 : decode cL_law 1199 = .ok (.aload_n 2, 1) := by decide +kernel
theorem dL_law_1200 : decode cL_law 1200 = .ok (.aload_n 0, 1) := by decide +kernel
theorem dL_law_1201 : decode cL_law 1201 = .ok (.iload 4, 2) := by decide +kernel
theorem dL_law_1203 : decode cL_law 1203 = .ok (.iconst 1, 1) := by decide +kernel
theorem dL_law_1204 : decode cL_law 1204 = .ok (.iadd, 1) := by decide +kernel
theorem dL_law_1205 : decode cL_law 1205 = .ok (.iaload, 1) := by decide +kernel
theorem dL_law_1206 : decode cL_law 1206 = .ok (.invokevirtual 146, 3) := by decide +kernel
theorem dL_law_1209 : decode cL_law 1209 = .ok (.if_icmp .eq 482, 3) := by decide +kernel
theorem dL_law_1212 : decode cL_law 1212 = .ok (.iconst 0, 1) := by decide +kernel
theorem dL_law_1213 : decode cL_law 1213 = .ok (.ireturn, 1) := by decide +kernel
theorem dL_law_1214 : decode cL_law 1214 = .ok (.aload_n 1, 1) := by decide +kernel
theorem dL_law_1215 : decode cL_law 1215 = .ok (.aload_n 0, 1) := by decide +kernel
theorem dL_law_1216 : decode cL_law 1216 = .ok (.iload 4, 2) := by decide +kernel
theorem dL_law_1218 : decode cL_law 1218 = .ok (.iconst 1, 1) := by decide +kernel
theorem dL_law_1219 : decode cL_law 1219 = .ok (.iadd, 1) := by decide +kernel
theorem dL_law_1220 : decode cL_law 1220 = .ok (.iaload, 1) := by decide +kernel
theorem dL_law_1221 : decode cL_law 1221 = .ok (.invokevirtual 147, 3) := by decide +kernel
theorem dL_law_1224 : decode cL_law 1224 = .ok (.aload_n 2, 1) := by decide +kernel
theorem dL_law_1225 : decode cL_law 1225 = .ok (.aload_n 0, 1) := by decide +kernel
theorem dL_law_1226 : decode cL_law 1226 = .ok (.iload 4, 2) := by decide +kernel
theorem dL_law_1228 : decode cL_law 1228 = .ok (.iconst 1, 1) := by decide +kernel
theorem dL_law_1229 : decode cL_law 1229 = .ok (.iadd, 1) := by decide +kernel
theorem dL_law_1230 : decode cL_law 1230 = .ok (.iaload, 1) := by decide +kernel
theorem dL_law_1231 : decode cL_law 1231 = .ok (.invokevirtual 150, 3) := by decide +kernel
theorem dL_law_1234 : decode cL_law 1234 = .ok (.if_icmp .eq 457, 3) := by decide +kernel
theorem dL_law_1237 : decode cL_law 1237 = .ok (.iconst 0, 1) := by decide +kernel
theorem dL_law_1238 : decode cL_law 1238 = .ok (.ireturn, 1) := by decide +kernel
theorem dL_law_1239 : decode cL_law 1239 = .ok (.aload_n 1, 1) := by decide +kernel
theorem dL_law_1240 : decode cL_law 1240 = .ok (.aload_n 0, 1) := by decide +kernel
theorem dL_law_1241 : decode cL_law 1241 = .ok (.iload 4, 2) := by decide +kernel
theorem dL_law_1243 : decode cL_law 1243 = .ok (.iconst 1, 1) := by decide +kernel
theorem dL_law_1244 : decode cL_law 1244 = .ok (.iadd, 1) := by decide +kernel
theorem dL_law_1245 : decode cL_law 1245 = .ok (.iaload, 1) := by decide +kernel
theorem dL_law_1246 : decode cL_law 1246 = .ok (.invokevirtual 151, 3) := by decide +kernel
theorem dL_law_1249 : decode cL_law 1249 = .ok (.aload_n 2, 1) := by decide +kernel
theorem dL_law_1250 : decode cL_law 1250 = .ok (.aload_n 0, 1) := by decide +kernel
theorem dL_law_1251 : decode cL_law 1251 = .ok (.iload 4, 2) := by decide +kernel
theorem dL_law_1253 : decode cL_law 1253 = .ok (.iconst 1, 1) := by decide +kernel
theorem dL_law_1254 : decode cL_law 1254 = .ok (.iadd, 1) := by decide +kernel
theorem dL_law_1255 : decode cL_law 1255 = .ok (.iaload, 1) := by decide +kernel
theorem dL_law_1256 : decode cL_law 1256 = .ok (.invokevirtual 154, 3) := by decide +kernel
theorem dL_law_1259 : decode cL_law 1259 = .ok (.if_icmp .eq 432, 3) := by decide +kernel
theorem dL_law_1262 : decode cL_law 1262 = .ok (.iconst 0, 1) := by decide +kernel
theorem dL_law_1263 : decode cL_law 1263 = .ok (.ireturn, 1) := by decide +kernel
theorem dL_law_1264 : decode cL_law 1264 = .ok (.aload_n 1, 1) := by decide +kernel
theorem dL_law_1265 : decode cL_law 1265 = .ok (.aload_n 0, 1) := by decide +kernel
theorem dL_law_1266 : decode cL_law 1266 = .ok (.iload 4, 2) := by decide +kernel
theorem dL_law_1268 : decode cL_law 1268 = .ok (.iconst 1, 1) := by decide +kernel
theorem dL_law_1269 : decode cL_law 1269 = .ok (.iadd, 1) := by decide +kernel
theorem dL_law_1270 : decode cL_law 1270 = .ok (.iaload, 1) := by decide +kernel
theorem dL_law_1271 : decode cL_law 1271 = .ok (.aload_n 0, 1) := by decide +kernel
theorem dL_law_1272 : decode cL_law 1272 = .ok (.iload 4, 2) := by decide +kernel
theorem dL_law_1274 : decode cL_law 1274 = .ok (.iconst 2, 1) := by decide +kernel
theorem dL_law_1275 : decode cL_law 1275 = .ok (.iadd, 1) := by decide +kernel
theorem dL_law_1276 : decode cL_law 1276 = .ok (.iaload, 1) := by decide +kernel
theorem dL_law_1277 : decode cL_law 1277 = .ok (.invokevirtual 155, 3) := by decide +kernel
theorem dL_law_1280 : decode cL_law 1280 = .ok (.aload_n 2, 1) := by decide +kernel
theorem dL_law_1281 : decode cL_law 1281 = .ok (.aload_n 0, 1) := by decide +kernel
theorem dL_law_1282 : decode cL_law 1282 = .ok (.iload 4, 2) := by decide +kernel
theorem dL_law_1284 : decode cL_law 1284 = .ok (.iconst 1, 1) := by decide +kernel
theorem dL_law_1285 : decode cL_law 1285 = .ok (.iadd, 1) := by decide +kernel
theorem dL_law_1286 : decode cL_law 1286 = .ok (.iaload, 1) := by decide +kernel
theorem dL_law_1287 : decode cL_law 1287 = .ok (.aload_n 0, 1) := by decide +kernel
theorem dL_law_1288 : decode cL_law 1288 = .ok (.iload 4, 2) := by decide +kernel
theorem dL_law_1290 : decode cL_law 1290 = .ok (.iconst 2, 1) := by decide +kernel
theorem dL_law_1291 : decode cL_law 1291 = .ok (.iadd, 1) := by decide +kernel
theorem dL_law_1292 : decode cL_law 1292 = .ok (.iaload, 1) := by decide +kernel
theorem dL_law_1293 : decode cL_law 1293 = .ok (.invokevirtual 158, 3) := by decide +kernel
theorem dL_law_1296 : decode cL_law 1296 = .ok (.if_icmp .eq 395, 3) := by decide +kernel
theorem dL_law_1299 : decode cL_law 1299 = .ok (.iconst 0, 1) := by decide +kernel
theorem dL_law_1300 : decode cL_law 1300 = .ok (.ireturn, 1) := by decide +kernel
theorem dL_law_1301 : decode cL_law 1301 = .ok (.aload_n 1, 1) := by decide +kernel
theorem dL_law_1302 : decode cL_law 1302 = .ok (.aload_n 0, 1) := by decide +kernel
theorem dL_law_1303 : decode cL_law 1303 = .ok (.iload 4, 2) := by decide +kernel
theorem dL_law_1305 : decode cL_law 1305 = .ok (.iconst 1, 1) := by decide +kernel
theorem dL_law_1306 : decode cL_law 1306 = .ok (.iadd, 1) := by decide +kernel
theorem dL_law_1307 : decode cL_law 1307 = .ok (.iaload, 1) := by decide +kernel
theorem dL_law_1308 : decode cL_law 1308 = .ok (.aload_n 0, 1) := by decide +kernel
theorem dL_law_1309 : decode cL_law 1309 = .ok (.iload 4, 2) := by decide +kernel
theorem dL_law_1311 : decode cL_law 1311 = .ok (.iconst 2, 1) := by decide +kernel
theorem dL_law_1312 : decode cL_law 1312 = .ok (.iadd, 1) := by decide +kernel
theorem dL_law_1313 : decode cL_law 1313 = .ok (.iaload, 1) := by decide +kernel
theorem dL_law_1314 : decode cL_law 1314 = .ok (.aload_n 0, 1) := by decide +kernel
theorem dL_law_1315 : decode cL_law 1315 = .ok (.iload 4, 2) := by decide +kernel
theorem dL_law_1317 : decode cL_law 1317 = .ok (.iconst 3, 1) := by decide +kernel
theorem dL_law_1318 : decode cL_law 1318 = .ok (.iadd, 1) := by decide +kernel
theorem dL_law_1319 : decode cL_law 1319 = .ok (.iaload, 1) := by decide +kernel
theorem dL_law_1320 : decode cL_law 1320 = .ok (.invokevirtual 159, 3) := by decide +kernel
theorem dL_law_1323 : decode cL_law 1323 = .ok (.aload_n 2, 1) := by decide +kernel
theorem dL_law_1324 : decode cL_law 1324 = .ok (.aload_n 0, 1) := by decide +kernel
theorem dL_law_1325 : decode cL_law 1325 = .ok (.iload 4, 2) := by decide +kernel
theorem dL_law_1327 : decode cL_law 1327 = .ok (.iconst 1, 1) := by decide +kernel
theorem dL_law_1328 : decode cL_law 1328 = .ok (.iadd, 1) := by decide +kernel
theorem dL_law_1329 : decode cL_law 1329 = .ok (.iaload, 1) := by decide +kernel
theorem dL_law_1330 : decode cL_law 1330 = .ok (.aload_n 0, 1) := by decide +kernel
theorem dL_law_1331 : decode cL_law 1331 = .ok (.iload 4, 2) := by decide +kernel
theorem dL_law_1333 : decode cL_law 1333 = .ok (.iconst 2, 1) := by decide +kernel
theorem dL_law_1334 : decode cL_law 1334 = .ok (.iadd, 1) := by decide +kernel
theorem dL_law_1335 : decode cL_law 1335 = .ok (.iaload, 1) := by decide +kernel
theorem dL_law_1336 : decode cL_law 1336 = .ok (.aload_n 0, 1) := by decide +kernel
theorem dL_law_1337 : decode cL_law 1337 = .ok (.iload 4, 2) := by decide +kernel
theorem dL_law_1339 : decode cL_law 1339 = .ok (.iconst 3, 1) := by decide +kernel
theorem dL_law_1340 : decode cL_law 1340 = .ok (.iadd, 1) := by decide +kernel
theorem dL_law_1341 : decode cL_law 1341 = .ok (.iaload, 1) := by decide +kernel
theorem dL_law_1342 : decode cL_law 1342 = .ok (.invokevirtual 162, 3) := by decide +kernel
theorem dL_law_1345 : decode cL_law 1345 = .ok (.if_icmp .eq 346, 3) := by decide +kernel
theorem dL_law_1348 : decode cL_law 1348 = .ok (.iconst 0, 1) := by decide +kernel
theorem dL_law_1349 : decode cL_law 1349 = .ok (.ireturn, 1) := by decide +kernel
theorem dL_law_1350 : decode cL_law 1350 = .ok (.aload_n 1, 1) := by decide +kernel
theorem dL_law_1351 : decode cL_law 1351 = .ok (.aload_n 0, 1) := by decide +kernel
theorem dL_law_1352 : decode cL_law 1352 = .ok (.iload 4, 2) := by decide +kernel
theorem dL_law_1354 : decode cL_law 1354 = .ok (.iconst 1, 1) := by decide +kernel
theorem dL_law_1355 : decode cL_law 1355 = .ok (.iadd, 1) := by decide +kernel
theorem dL_law_1356 : decode cL_law 1356 = .ok (.iaload, 1) := by decide +kernel
theorem dL_law_1357 : decode cL_law 1357 = .ok (.aload_n 0, 1) := by decide +kernel
theorem dL_law_1358 : decode cL_law 1358 = .ok (.iload 4, 2) := by decide +kernel
theorem dL_law_1360 : decode cL_law 1360 = .ok (.iconst 2, 1) := by decide +kernel
theorem dL_law_1361 : decode cL_law 1361 = .ok (.iadd, 1) := by decide +kernel
theorem dL_law_1362 : decode cL_law 1362 = .ok (.iaload, 1) := by decide +kernel
theorem dL_law_1363 : decode cL_law 1363 = .ok (.invokevirtual 163, 3) := by decide +kernel
theorem dL_law_1366 : decode cL_law 1366 = .ok (.aload_n 2, 1) := by decide +kernel
theorem dL_law_1367 : decode cL_law 1367 = .ok (.aload_n 0, 1) := by decide +kernel
theorem dL_law_1368 : decode cL_law 1368 = .ok (.iload 4, 2) := by decide +kernel
theorem dL_law_1370 : decode cL_law 1370 = .ok (.iconst 1, 1) := by decide +kernel
theorem dL_law_1371 : decode cL_law 1371 = .ok (.iadd, 1) := by decide +kernel
theorem dL_law_1372 : decode cL_law 1372 = .ok (.iaload, 1) := by decide +kernel
theorem dL_law_1373 : decode cL_law 1373 = .ok (.aload_n 0, 1) := by decide +kernel
theorem dL_law_1374 : decode cL_law 1374 = .ok (.iload 4, 2) := by decide +kernel
theorem dL_law_1376 : decode cL_law 1376 = .ok (.iconst 2, 1) := by decide +kernel
theorem dL_law_1377 : decode cL_law 1377 = .ok (.iadd, 1) := by decide +kernel
theorem dL_law_1378 : decode cL_law 1378 = .ok (.iaload, 1) := by decide +kernel
theorem dL_law_1379 : decode cL_law 1379 = .ok (.invokevirtual 166, 3) := by decide +kernel
theorem dL_law_1382 : decode cL_law 1382 = .ok (.if_icmp .eq 309, 3) := by decide +kernel
theorem dL_law_1385 : decode cL_law 1385 = .ok (.iconst 0, 1) := by decide +kernel
theorem dL_law_1386 : decode cL_law 1386 = .ok (.ireturn, 1) := by decide +kernel
theorem dL_law_1387 : decode cL_law 1387 = .ok (.aload_n 1, 1) := by decide +kernel
theorem dL_law_1388 : decode cL_law 1388 = .ok (.aload_n 0, 1) := by decide +kernel
theorem dL_law_1389 : decode cL_law 1389 = .ok (.iload 4, 2) := by decide +kernel
theorem dL_law_1391 : decode cL_law 1391 = .ok (.iconst 1, 1) := by decide +kernel
theorem dL_law_1392 : decode cL_law 1392 = .ok (.iadd, 1) := by decide +kernel
theorem dL_law_1393 : decode cL_law 1393 = .ok (.iaload, 1) := by decide +kernel
theorem dL_law_1394 : decode cL_law 1394 = .ok (.aload_n 0, 1) := by decide +kernel
theorem dL_law_1395 : decode cL_law 1395 = .ok (.iload 4, 2) := by decide +kernel
theorem dL_law_1397 : decode cL_law 1397 = .ok (.iconst 2, 1) := by decide +kernel
theorem dL_law_1398 : decode cL_law 1398 = .ok (.iadd, 1) := by decide +kernel
theorem dL_law_1399 : decode cL_law 1399 = .ok (.iaload, 1) := by decide +kernel
theorem dL_law_1400 : decode cL_law 1400 = .ok (.aload_n 0, 1) := by decide +kernel
theorem dL_law_1401 : decode cL_law 1401 = .ok (.iload 4, 2) := by decide +kernel
theorem dL_law_1403 : decode cL_law 1403 = .ok (.iconst 3, 1) := by decide +kernel
theorem dL_law_1404 : decode cL_law 1404 = .ok (.iadd, 1) := by decide +kernel
theorem dL_law_1405 : decode cL_law 1405 = .ok (.iaload, 1) := by decide +kernel
theorem dL_law_1406 : decode cL_law 1406 = .ok (.invokevirtual 167, 3) := by decide +kernel
theorem dL_law_1409 : decode cL_law 1409 = .ok (.aload_n 2, 1) := by decide +kernel
theorem dL_law_1410 : decode cL_law 1410 = .ok (.aload_n 0, 1) := by decide +kernel
theorem dL_law_1411 : decode cL_law 1411 = .ok (.iload 4, 2) := by decide +kernel
theorem dL_law_1413 : decode cL_law 1413 = .ok (.iconst 1, 1) := by decide +kernel
theorem dL_law_1414 : decode cL_law 1414 = .ok (.iadd, 1) := by decide +kernel
theorem dL_law_1415 : decode cL_law 1415 = .ok (.iaload, 1) := by decide +kernel
theorem dL_law_1416 : decode cL_law 1416 = .ok (.aload_n 0, 1) := by decide +kernel
theorem dL_law_1417 : decode cL_law 1417 = .ok (.iload 4, 2) := by decide +kernel
theorem dL_law_1419 : decode cL_law 1419 = .ok (.iconst 2, 1) := by decide +kernel
theorem dL_law_1420 : decode cL_law 1420 = .ok (.iadd, 1) := by decide +kernel
theorem dL_law_1421 : decode cL_law 1421 = .ok (.iaload, 1) := by decide +kernel
theorem dL_law_1422 : decode cL_law 1422 = .ok (.aload_n 0, 1) := by decide +kernel
theorem dL_law_1423 : decode cL_law 1423 = .ok (.iload 4, 2) := by decide +kernel
theorem dL_law_1425 : decode cL_law 1425 = .ok (.iconst 3, 1) := by decide +kernel
theorem dL_law_1426 : decode cL_law 1426 = .ok (.iadd, 1) := by decide +kernel
theorem dL_law_1427 : decode cL_law 1427 = .ok (.iaload, 1) := by decide +kernel
theorem dL_law_1428 : decode cL_law 1428 = .ok (.invokevirtual 170, 3) := by decide +kernel
theorem dL_law_1431 : decode cL_law 1431 = .ok (.if_icmp .eq 260, 3) := by decide +kernel
theorem dL_law_1434 : decode cL_law 1434 = .ok (.iconst 0, 1) := by decide +kernel
theorem dL_law_1435 : decode cL_law 1435 = .ok (.ireturn, 1) := by decide +kernel
theorem dL_law_1436 : decode cL_law 1436 = .ok (.aload_n 1, 1) := by decide +kernel
theorem dL_law_1437 : decode cL_law 1437 = .ok (.invokevirtual 171, 3) := by decide +kernel
theorem dL_law_1440 : decode cL_law 1440 = .ok (.aload_n 2, 1) := by decide +kernel
theorem dL_law_1441 : decode cL_law 1441 = .ok (.invokevirtual 174, 3) := by decide +kernel
theorem dL_law_1444 : decode cL_law 1444 = .ok (.if_icmp .eq 247, 3) := by decide +kernel
theorem dL_law_1447 : decode cL_law 1447 = .ok (.iconst 0, 1) := by decide +kernel
theorem dL_law_1448 : decode cL_law 1448 = .ok (.ireturn, 1) := by decide +kernel
theorem dL_law_1449 : decode cL_law 1449 = .ok (.aload_n 1, 1) := by decide +kernel
theorem dL_law_1450 : decode cL_law 1450 = .ok (.invokevirtual 175, 3) := by decide +kernel
theorem dL_law_1453 : decode cL_law 1453 = .ok (.aload_n 2, 1) := by decide +kernel
theorem dL_law_1454 : decode cL_law 1454 = .ok (.invokevirtual 178, 3) := by decide +kernel
theorem dL_law_1457 : decode cL_law 1457 = .ok (.if_icmp .eq 234, 3) := by decide +kernel
theorem dL_law_1460 : decode cL_law 1460 = .ok (.iconst 0, 1) := by decide +kernel
theorem dL_law_1461 : decode cL_law 1461 = .ok (.ireturn, 1) := by decide +kernel
theorem dL_law_1462 : decode cL_law 1462 = .ok (.aload_n 1, 1) := by decide +kernel
theorem dL_law_1463 : decode cL_law 1463 = .ok (.aload_n 0, 1) := by decide +kernel
theorem dL_law_1464 : decode cL_law 1464 = .ok (.iload 4, 2) := by decide +kernel
theorem dL_law_1466 : decode cL_law 1466 = .ok (.iconst 1, 1) := by decide +kernel
theorem dL_law_1467 : decode cL_law 1467 = .ok (.iadd, 1) := by decide +kernel
theorem dL_law_1468 : decode cL_law 1468 = .ok (.iaload, 1) := by decide +kernel
theorem dL_law_1469 : decode cL_law 1469 = .ok (.invokevirtual 179, 3) := by decide +kernel
theorem dL_law_1472 : decode cL_law 1472 = .ok (.aload_n 2, 1) := by decide +kernel
theorem dL_law_1473 : decode cL_law 1473 = .ok (.aload_n 0, 1) := by decide +kernel
theorem dL_law_1474 : decode cL_law 1474 = .ok (.iload 4, 2) := by decide +kernel
theorem dL_law_1476 : decode cL_law 1476 = .ok (.iconst 1, 1) := by decide +kernel
theorem dL_law_1477 : decode cL_law 1477 = .ok (.iadd, 1) := by decide +kernel
theorem dL_law_1478 : decode cL_law 1478 = .ok (.iaload, 1) := by decide +kernel
theorem dL_law_1479 : decode cL_law 1479 = .ok (.invokevirtual 182, 3) := by decide +kernel
theorem dL_law_1482 : decode cL_law 1482 = .ok (.if_icmp .eq 209, 3) := by decide +kernel
theorem dL_law_1485 : decode cL_law 1485 = .ok (.iconst 0, 1) := by decide +kernel
theorem dL_law_1486 : decode cL_law 1486 = .ok (.ireturn, 1) := by decide +kernel
theorem dL_law_1487 : decode cL_law 1487 = .ok (.aload_n 1, 1) := by decide +kernel
theorem dL_law_1488 : decode cL_law 1488 = .ok (.aload_n 0, 1) := by decide +kernel
theorem dL_law_1489 : decode cL_law 1489 = .ok (.iload 4, 2) := by decide +kernel
theorem dL_law_1491 : decode cL_law 1491 = .ok (.iconst 1, 1) := by decide +kernel
theorem dL_law_1492 : decode cL_law 1492 = .ok (.iadd, 1) := by decide +kernel
theorem dL_law_1493 : decode cL_law 1493 = .ok (.iaload, 1) := by decide +kernel
theorem dL_law_1494 : decode cL_law 1494 = .ok (.aload_n 0, 1) := by decide +kernel
theorem dL_law_1495 : decode cL_law 1495 = .ok (.iload 4, 2) := by decide +kernel
theorem dL_law_1497 : decode cL_law 1497 = .ok (.iconst 2, 1) := by decide +kernel
theorem dL_law_1498 : decode cL_law 1498 = .ok (.iadd, 1) := by decide +kernel
theorem dL_law_1499 : decode cL_law 1499 = .ok (.iaload, 1) := by decide +kernel
theorem dL_law_1500 : decode cL_law 1500 = .ok (.invokevirtual 183, 3) := by decide +kernel
theorem dL_law_1503 : decode cL_law 1503 = .ok (.aload_n 2, 1) := by decide +kernel
theorem dL_law_1504 : decode cL_law 1504 = .ok (.aload_n 0, 1) := by decide +kernel
theorem dL_law_1505 : decode cL_law 1505 = .ok (.iload 4, 2) := by decide +kernel
theorem dL_law_1507 : decode cL_law 1507 = .ok (.iconst 1, 1) := by decide +kernel
theorem dL_law_1508 : decode cL_law 1508 = .ok (.iadd, 1) := by decide +kernel
theorem dL_law_1509 : decode cL_law 1509 = .ok (.iaload, 1) := by decide +kernel
theorem dL_law_1510 : decode cL_law 1510 = .ok (.aload_n 0, 1) := by decide +kernel
theorem dL_law_1511 : decode cL_law 1511 = .ok (.iload 4, 2) := by decide +kernel
theorem dL_law_1513 : decode cL_law 1513 = .ok (.iconst 2, 1) := by decide +kernel
theorem dL_law_1514 : decode cL_law 1514 = .ok (.iadd, 1) := by decide +kernel
theorem dL_law_1515 : decode cL_law 1515 = .ok (.iaload, 1) := by decide +kernel
theorem dL_law_1516 : decode cL_law 1516 = .ok (.invokevirtual 186, 3) := by decide +kernel
theorem dL_law_1519 : decode cL_law 1519 = .ok (.if_icmp .eq 172, 3) := by decide +kernel
theorem dL_law_1522 : decode cL_law 1522 = .ok (.iconst 0, 1) := by decide +kernel
theorem dL_law_1523 : decode cL_law 1523 = .ok (.ireturn, 1) := by decide +kernel
theorem dL_law_1524 : decode cL_law 1524 = .ok (.aload_n 1, 1) := by decide +kernel
theorem dL_law_1525 : decode cL_law 1525 = .ok (.aload_n 0, 1) := by decide +kernel
theorem dL_law_1526 : decode cL_law 1526 = .ok (.iload 4, 2) := by decide +kernel
theorem dL_law_1528 : decode cL_law 1528 = .ok (.iconst 1, 1) := by decide +kernel
theorem dL_law_1529 : decode cL_law 1529 = .ok (.iadd, 1) := by decide +kernel
theorem dL_law_1530 : decode cL_law 1530 = .ok (.iaload, 1) := by decide +kernel
theorem dL_law_1531 : decode cL_law 1531 = .ok (.aload_n 0, 1) := by decide +kernel
theorem dL_law_1532 : decode cL_law 1532 = .ok (.iload 4, 2) := by decide +kernel
theorem dL_law_1534 : decode cL_law 1534 = .ok (.iconst 2, 1) := by decide +kernel
theorem dL_law_1535 : decode cL_law 1535 = .ok (.iadd, 1) := by decide +kernel
theorem dL_law_1536 : decode cL_law 1536 = .ok (.iaload, 1) := by decide +kernel
theorem dL_law_1537 : decode cL_law 1537 = .ok (.invokevirtual 187, 3) := by decide +kernel
theorem dL_law_1540 : decode cL_law 1540 = .ok (.aload_n 2, 1) := by decide +kernel
theorem dL_law_1541 : decode cL_law 1541 = .ok (.aload_n 0, 1) := by decide +kernel
theorem dL_law_1542 : decode cL_law 1542 = .ok (.iload 4, 2) := by decide +kernel
theorem dL_law_1544 : decode cL_law 1544 = .ok (.iconst 1, 1) := by decide +kernel
theorem dL_law_1545 : decode cL_law 1545 = .ok (.iadd, 1) := by decide +kernel
theorem dL_law_1546 : decode cL_law 1546 = .ok (.iaload, 1) := by decide +kernel
theorem dL_law_1547 : decode cL_law 1547 = .ok (.aload_n 0, 1) := by decide +kernel
theorem dL_law_1548 : decode cL_law 1548 = .ok (.iload 4, 2) := by decide +kernel
theorem dL_law_1550 : decode cL_law 1550 = .ok (.iconst 2, 1) := by decide +kernel
theorem dL_law_1551 : decode cL_law 1551 = .ok (.iadd, 1) := by decide +kernel
theorem dL_law_1552 : decode cL_law 1552 = .ok (.iaload, 1) := by decide +kernel
theorem dL_law_1553 : decode cL_law 1553 = .ok (.invokevirtual 190, 3) := by decide +kernel
theorem dL_law_1556 : decode cL_law 1556 = .ok (.if_icmp .eq 135, 3) := by decide +kernel
theorem dL_law_1559 : decode cL_law 1559 = .ok (.iconst 0, 1) := by decide +kernel
theorem dL_law_1560 : decode cL_law 1560 = .ok (.ireturn, 1) := by decide +kernel
theorem dL_law_1561 : decode cL_law 1561 = .ok (.aload_n 1, 1) := by decide +kernel
theorem dL_law_1562 : decode cL_law 1562 = .ok (.aload_n 0, 1) := by decide +kernel
theorem dL_law_1563 : decode cL_law 1563 = .ok (.iload 4, 2) := by decide +kernel
theorem dL_law_1565 : decode cL_law 1565 = .ok (.iconst 1, 1) := by decide +kernel
theorem dL_law_1566 : decode cL_law 1566 = .ok (.iadd, 1) := by decide +kernel
theorem dL_law_1567 : decode cL_law 1567 = .ok (.iaload, 1) := by decide +kernel
theorem dL_law_1568 : decode cL_law 1568 = .ok (.invokevirtual 191, 3) := by decide +kernel
theorem dL_law_1571 : decode cL_law 1571 = .ok (.aload_n 2, 1) := by decide +kernel
theorem dL_law_1572 : decode cL_law 1572 = .ok (.aload_n 0, 1) := by decide +kernel
theorem dL_law_1573 : decode cL_law 1573 = .ok (.iload 4, 2) := by decide +kernel
theorem dL_law_1575 : decode cL_law 1575 = .ok (.iconst 1, 1) := by decide +kernel
theorem dL_law_1576 : decode cL_law 1576 = .ok (.iadd, 1) := by decide +kernel
theorem dL_law_1577 : decode cL_law 1577 = .ok (.iaload, 1) := by decide +kernel
theorem dL_law_1578 : decode cL_law 1578 = .ok (.invokevirtual 194, 3) := by decide +kernel
theorem dL_law_1581 : decode cL_law 1581 = .ok (.if_icmp .eq 110, 3) := by decide +kernel
theorem dL_law_1584 : decode cL_law 1584 = .ok (.iconst 0, 1) := by decide +kernel
theorem dL_law_1585 : decode cL_law 1585 = .ok (.ireturn, 1) := by decide +kernel
theorem dL_law_1586 : decode cL_law 1586 = .ok (.aload_n 1, 1) := by decide +kernel
theorem dL_law_1587 : decode cL_law 1587 = .ok (.aload_n 0, 1) := by decide +kernel
theorem dL_law_1588 : decode cL_law 1588 = .ok (.iload 4, 2) := by decide +kernel
theorem dL_law_1590 : decode cL_law 1590 = .ok (.iconst 1, 1) := by decide +kernel
theorem dL_law_1591 : decode cL_law 1591 = .ok (.iadd, 1) := by decide +kernel
theorem dL_law_1592 : decode cL_law 1592 = .ok (.iaload, 1) := by decide +kernel
theorem dL_law_1593 : decode cL_law 1593 = .ok (.invokevirtual 195, 3) := by decide +kernel
theorem dL_law_1596 : decode cL_law 1596 = .ok (.aload_n 2, 1) := by decide +kernel
theorem dL_law_1597 : decode cL_law 1597 = .ok (.aload_n 0, 1) := by decide +kernel
theorem dL_law_1598 : decode cL_law 1598 = .ok (.iload 4, 2) := by decide +kernel
theorem dL_law_1600 : decode cL_law 1600 = .ok (.iconst 1, 1) := by decide +kernel
theorem dL_law_1601 : decode cL_law 1601 = .ok (.iadd, 1) := by decide +kernel
theorem dL_law_1602 : decode cL_law 1602 = .ok (.iaload, 1) := by decide +kernel
theorem dL_law_1603 : decode cL_law 1603 = .ok (.invokevirtual 198, 3) := by decide +kernel
theorem dL_law_1606 : decode cL_law 1606 = .ok (.if_icmp .eq 85, 3) := by decide +kernel
theorem dL_law_1609 : decode cL_law 1609 = .ok (.iconst 0, 1) := by decide +kernel
theorem dL_law_1610 : decode cL_law 1610 = .ok (.ireturn, 1) := by decide +kernel
theorem dL_law_1611 : decode cL_law 1611 = .ok (.aload_n 1, 1) := by decide +kernel
theorem dL_law_1612 : decode cL_law 1612 = .ok (.aload_n 0, 1) := by decide +kernel
theorem dL_law_1613 : decode cL_law 1613 = .ok (.iload 4, 2) := by decide +kernel
theorem dL_law_1615 : decode cL_law 1615 = .ok (.iconst 1, 1) := by decide +kernel
theorem dL_law_1616 : decode cL_law 1616 = .ok (.iadd, 1) := by decide +kernel
theorem dL_law_1617 : decode cL_law 1617 = .ok (.iaload, 1) := by decide +kernel
theorem dL_law_1618 : decode cL_law 1618 = .ok (.invokevirtual 199, 3) := by decide +kernel
theorem dL_law_1621 : decode cL_law 1621 = .ok (.aload_n 2, 1) := by decide +kernel
theorem dL_law_1622 : decode cL_law 1622 = .ok (.aload_n 0, 1) := by decide +kernel
theorem dL_law_1623 : decode cL_law 1623 = .ok (.iload 4, 2) := by decide +kernel
theorem dL_law_1625 : decode cL_law 1625 = .ok (.iconst 1, 1) := by decide +kernel
theorem dL_law_1626 : decode cL_law 1626 = .ok (.iadd, 1) := by decide +kernel
theorem dL_law_1627 : decode cL_law 1627 = .ok (.iaload, 1) := by decide +kernel
theorem dL_law_1628 : decode cL_law 1628 = .ok (.invokevirtual 202, 3) := by decide +kernel
theorem dL_law_1631 : decode cL_law 1631 = .ok (.if_icmp .eq 60, 3) := by decide +kernel
theorem dL_law_1634 : decode cL_law 1634 = .ok (.iconst 0, 1) := by decide +kernel
theorem dL_law_1635 : decode cL_law 1635 = .ok (.ireturn, 1) := by decide +kernel
theorem dL_law_1636 : decode cL_law 1636 = .ok (.aload_n 1, 1) := by decide +kernel
theorem dL_law_1637 : decode cL_law 1637 = .ok (.aload_n 0, 1) := by decide +kernel
theorem dL_law_1638 : decode cL_law 1638 = .ok (.iload 4, 2) := by decide +kernel
theorem dL_law_1640 : decode cL_law 1640 = .ok (.iconst 1, 1) := by decide +kernel
theorem dL_law_1641 : decode cL_law 1641 = .ok (.iadd, 1) := by decide +kernel
theorem dL_law_1642 : decode cL_law 1642 = .ok (.iaload, 1) := by decide +kernel
theorem dL_law_1643 : decode cL_law 1643 = .ok (.aload_n 3, 1) := by decide +kernel
theorem dL_law_1644 : decode cL_law 1644 = .ok (.invokestatic 203, 3) := by decide +kernel
theorem dL_law_1647 : decode cL_law 1647 = .ok (.istore 5, 2) := by decide +kernel
theorem dL_law_1649 : decode cL_law 1649 = .ok (.aload_n 2, 1) := by decide +kernel
theorem dL_law_1650 : decode cL_law 1650 = .ok (.aload_n 0, 1) := by decide +kernel
theorem dL_law_1651 : decode cL_law 1651 = .ok (.iload 4, 2) := by decide +kernel
theorem dL_law_1653 : decode cL_law 1653 = .ok (.iconst 1, 1) := by decide +kernel
theorem dL_law_1654 : decode cL_law 1654 = .ok (.iadd, 1) := by decide +kernel
theorem dL_law_1655 : decode cL_law 1655 = .ok (.iaload, 1) := by decide +kernel
theorem dL_law_1656 : decode cL_law 1656 = .ok (.invokevirtual 206, 3) := by decide +kernel
theorem dL_law_1659 : decode cL_law 1659 = .ok (.lstore 6, 2) := by decide +kernel
theorem dL_law_1661 : decode cL_law 1661 = .ok (.aload_n 2, 1) := by decide +kernel
theorem dL_law_1662 : decode cL_law 1662 = .ok (.invokevirtual 59, 3) := by decide +kernel
theorem dL_law_1665 : decode cL_law 1665 = .ok (.iload 5, 2) := by decide +kernel
theorem dL_law_1667 : decode cL_law 1667 = .ok (.if_icmp .eq 5, 3) := by decide +kernel
theorem dL_law_1670 : decode cL_law 1670 = .ok (.iconst 0, 1) := by decide +kernel
theorem dL_law_1671 : decode cL_law 1671 = .ok (.ireturn, 1) := by decide +kernel
theorem dL_law_1672 : decode cL_law 1672 = .ok (.iload 5, 2) := by decide +kernel
theorem dL_law_1674 : decode cL_law 1674 = .ok (.ifCond .ne 14, 3) := by decide +kernel
theorem dL_law_1677 : decode cL_law 1677 = .ok (.aload_n 3, 1) := by decide +kernel
theorem dL_law_1678 : decode cL_law 1678 = .ok (.iconst 0, 1) := by decide +kernel
theorem dL_law_1679 : decode cL_law 1679 = .ok (.laload, 1) := by decide +kernel
theorem dL_law_1680 : decode cL_law 1680 = .ok (.lload 6, 2) := by decide +kernel
theorem dL_law_1682 : decode cL_law 1682 = .ok (.lcmp, 1) := by decide +kernel
theorem dL_law_1683 : decode cL_law 1683 = .ok (.ifCond .eq 5, 3) := by decide +kernel
theorem dL_law_1686 : decode cL_law 1686 = .ok (.iconst 0, 1) := by decide +kernel
theorem dL_law_1687 : decode cL_law 1687 = .ok (.ireturn, 1) := by decide +kernel
theorem dL_law_1688 : decode cL_law 1688 = .ok (.goto 3, 3) := by decide +kernel
theorem dL_law_1691 : decode cL_law 1691 = .ok (.iinc 4 5, 3) := by decide +kernel
theorem dL_law_1694 : decode cL_law 1694 = .ok (.goto (-1671), 3) := by decide +kernel
theorem dL_law_1697 : decode cL_law 1697 = .ok (.iconst 1, 1) := by decide +kernel
theorem dL_law_1698 : decode cL_law 1698 = .ok (.ireturn, 1) := by decide +kernel

theorem dX11_readStep_254 : decode cX11_readStep 254 = .ok (.invokevirtual 209, 3) := by decide +kernel
theorem dX11_readStep_257 : decode cX11_readStep 257 = .ok (.iadd, 1) := by decide +kernel
theorem dX11_readStep_258 : decode cX11_readStep 258 = .ok (.ireturn, 1) := by decide +kernel
theorem dX11_readWithin_0 : decode cX11_readWithin 0 = .ok (.iload_n 1, 1) := by decide +kernel
theorem dX11_readWithin_1 : decode cX11_readWithin 1 = .ok (.iconst 3, 1) := by decide +kernel
theorem dX11_readWithin_2 : decode cX11_readWithin 2 = .ok (.if_icmp .ne 11, 3) := by decide +kernel
theorem dX11_readWithin_5 : decode cX11_readWithin 5 = .ok (.aload_n 0, 1) := by decide +kernel
theorem dX11_readWithin_6 : decode cX11_readWithin 6 = .ok (.aload_n 0, 1) := by decide +kernel
theorem dX11_readWithin_7 : decode cX11_readWithin 7 = .ok (.getfield 135, 3) := by decide +kernel
theorem dX11_readWithin_10 : decode cX11_readWithin 10 = .ok (.invokevirtual 149, 3) := by decide +kernel
theorem dX11_readWithin_13 : decode cX11_readWithin 13 = .ok (.aload_n 0, 1) := by decide +kernel
theorem dX11_readWithin_14 : decode cX11_readWithin 14 = .ok (.bipush 40, 2) := by decide +kernel
theorem dX11_readWithin_16 : decode cX11_readWithin 16 = .ok (.invokevirtual 212, 3) := by decide +kernel
theorem dX11_readWithin_19 : decode cX11_readWithin 19 = .ok (.aload_n 0, 1) := by decide +kernel
theorem dX11_readWithin_20 : decode cX11_readWithin 20 = .ok (.iload_n 1, 1) := by decide +kernel
theorem dX11_readWithin_21 : decode cX11_readWithin 21 = .ok (.iconst 1, 1) := by decide +kernel
theorem dX11_readWithin_22 : decode cX11_readWithin 22 = .ok (.iadd, 1) := by decide +kernel
theorem dX11_readWithin_23 : decode cX11_readWithin 23 = .ok (.invokevirtual 216, 3) := by decide +kernel
theorem dX11_readWithin_26 : decode cX11_readWithin 26 = .ok (.istore_n 2, 1) := by decide +kernel
theorem dX11_readWithin_27 : decode cX11_readWithin 27 = .ok (.aload_n 0, 1) := by decide +kernel
theorem dX11_readWithin_28 : decode cX11_readWithin 28 = .ok (.bipush 41, 2) := by decide +kernel
theorem dX11_readWithin_30 : decode cX11_readWithin 30 = .ok (.invokevirtual 212, 3) := by decide +kernel
theorem dX11_readWithin_33 : decode cX11_readWithin 33 = .ok (.iload_n 2, 1) := by decide +kernel
theorem dX11_readWithin_34 : decode cX11_readWithin 34 = .ok (.ireturn, 1) := by decide +kernel
theorem dX11_link_0 : decode cX11_link 0 = .ok (.aload_n 0, 1) := by decide +kernel
theorem dX11_link_1 : decode cX11_link 1 = .ok (.iconst 0, 1) := by decide +kernel
theorem dX11_link_2 : decode cX11_link 2 = .ok (.putfield 105, 3) := by decide +kernel
theorem dX11_link_5 : decode cX11_link 5 = .ok (.aload_n 0, 1) := by decide +kernel
theorem dX11_link_6 : decode cX11_link 6 = .ok (.bipush 40, 2) := by decide +kernel
theorem dX11_link_8 : decode cX11_link 8 = .ok (.invokevirtual 169, 3) := by decide +kernel
theorem dX11_link_11 : decode cX11_link 11 = .ok (.aload_n 0, 1) := by decide +kernel
theorem dX11_link_12 : decode cX11_link 12 = .ok (.iconst 0, 1) := by decide +kernel
theorem dX11_link_13 : decode cX11_link 13 = .ok (.putfield 205, 3) := by decide +kernel
theorem dX11_link_16 : decode cX11_link 16 = .ok (.aload_n 0, 1) := by decide +kernel
theorem dX11_link_17 : decode cX11_link 17 = .ok (.iconst 0, 1) := by decide +kernel
theorem dX11_link_18 : decode cX11_link 18 = .ok (.invokevirtual 216, 3) := by decide +kernel
theorem dX11_link_21 : decode cX11_link 21 = .ok (.istore_n 1, 1) := by decide +kernel
theorem dX11_link_22 : decode cX11_link 22 = .ok (.aload_n 0, 1) := by decide +kernel
theorem dX11_link_23 : decode cX11_link 23 = .ok (.invokevirtual 175, 3) := by decide +kernel
theorem dX11_link_26 : decode cX11_link 26 = .ok (.ifCond .ne 10, 3) := by decide +kernel
theorem dX11_link_29 : decode cX11_link 29 = .ok (.iconst (-1), 1) := by decide +kernel
theorem dX11_link_30 : decode cX11_link 30 = .ok (.aload_n 0, 1) := by decide +kernel
theorem dX11_link_31 : decode cX11_link 31 = .ok (.getfield 138, 3) := by decide +kernel
theorem dX11_link_34 : decode cX11_link 34 = .ok (.isub, 1) := by decide +kernel
theorem dX11_link_35 : decode cX11_link 35 = .ok (.ireturn, 1) := by decide +kernel
theorem dX11_link_36 : decode cX11_link 36 = .ok (.aload_n 0, 1) := by decide +kernel
theorem dX11_link_37 : decode cX11_link 37 = .ok (.getfield 129, 3) := by decide +kernel
theorem dX11_link_40 : decode cX11_link 40 = .ok (.ifCond .ne 7, 3) := by decide +kernel
theorem dX11_link_43 : decode cX11_link 43 = .ok (.iconst 0, 1) := by decide +kernel
theorem dX11_link_44 : decode cX11_link 44 = .ok (.goto 24, 3) := by decide +kernel
theorem dX11_link_47 : decode cX11_link 47 = .ok (.aload_n 0, 1) := by decide +kernel
theorem dX11_link_48 : decode cX11_link 48 = .ok (.getfield 205, 3) := by decide +kernel
theorem dX11_link_51 : decode cX11_link 51 = .ok (.ifCond .eq 16, 3) := by decide +kernel
theorem dX11_link_54 : decode cX11_link 54 = .ok (.aload_n 0, 1) := by decide +kernel
theorem dX11_link_55 : decode cX11_link 55 = .ok (.getfield 9, 3) := by decide +kernel
theorem dX11_link_58 : decode cX11_link 58 = .ok (.sipush 612, 3) := by decide +kernel
theorem dX11_link_61 : decode cX11_link 61 = .ok (.iaload, 1) := by decide +kernel
theorem dX11_link_62 : decode cX11_link 62 = .ok (.iconst 1, 1) := by decide +kernel
theorem dX11_link_63 : decode cX11_link 63 = .ok (.iadd, 1) := by decide +kernel
theorem dX11_link_64 : decode cX11_link 64 = .ok (.goto 4, 3) := by decide +kernel
theorem dX11_link_67 : decode cX11_link 67 = .ok (.iconst 1, 1) := by decide +kernel
theorem dX11_link_68 : decode cX11_link 68 = .ok (.istore_n 2, 1) := by decide +kernel
theorem dX11_link_69 : decode cX11_link 69 = .ok (.iload_n 1, 1) := by decide +kernel
theorem dX11_link_70 : decode cX11_link 70 = .ok (.sipush 500, 3) := by decide +kernel
theorem dX11_link_73 : decode cX11_link 73 = .ok (.if_icmp .le 7, 3) := by decide +kernel
theorem dX11_link_76 : decode cX11_link 76 = .ok (.sipush (-200), 3) := by decide +kernel
theorem dX11_link_79 : decode cX11_link 79 = .ok (.ireturn, 1) := by decide +kernel
theorem dX11_link_80 : decode cX11_link 80 = .ok (.iload_n 2, 1) := by decide +kernel
theorem dX11_link_81 : decode cX11_link 81 = .ok (.bipush 6, 2) := by decide +kernel
theorem dX11_link_83 : decode cX11_link 83 = .ok (.if_icmp .le 7, 3) := by decide +kernel
theorem dX11_link_86 : decode cX11_link 86 = .ok (.sipush (-201), 3) := by decide +kernel
theorem dX11_link_89 : decode cX11_link 89 = .ok (.ireturn, 1) := by decide +kernel
theorem dX11_link_90 : decode cX11_link 90 = .ok (.aload_n 0, 1) := by decide +kernel
theorem dX11_link_91 : decode cX11_link 91 = .ok (.invokevirtual 178, 3) := by decide +kernel
theorem dX11_link_94 : decode cX11_link 94 = .ok (.aload_n 0, 1) := by decide +kernel
theorem dX11_link_95 : decode cX11_link 95 = .ok (.getfield 9, 3) := by decide +kernel
theorem dX11_link_98 : decode cX11_link 98 = .ok (.sipush 612, 3) := by decide +kernel
theorem dX11_link_101 : decode cX11_link 101 = .ok (.iload_n 2, 1) := by decide +kernel
theorem dX11_link_102 : decode cX11_link 102 = .ok (.iastore, 1) := by decide +kernel
theorem dX11_link_103 : decode cX11_link 103 = .ok (.aload_n 0, 1) := by decide +kernel
theorem dX11_link_104 : decode cX11_link 104 = .ok (.getfield 9, 3) := by decide +kernel
theorem dX11_link_107 : decode cX11_link 107 = .ok (.sipush 613, 3) := by decide +kernel
theorem dX11_link_110 : decode cX11_link 110 = .ok (.iload_n 1, 1) := by decide +kernel
theorem dX11_link_111 : decode cX11_link 111 = .ok (.iastore, 1) := by decide +kernel
theorem dX11_link_112 : decode cX11_link 112 = .ok (.iload_n 2, 1) := by decide +kernel
theorem dX11_link_113 : decode cX11_link 113 = .ok (.ifCond .ne 5, 3) := by decide +kernel
theorem dX11_link_116 : decode cX11_link 116 = .ok (.iload_n 1, 1) := by decide +kernel
theorem dX11_link_117 : decode cX11_link 117 = .ok (.ireturn, 1) := by decide +kernel
theorem dX11_link_118 : decode cX11_link 118 = .ok (.iconst 0, 1) := by decide +kernel
theorem dX11_link_119 : decode cX11_link 119 = .ok (.istore_n 3, 1) := by decide +kernel
theorem dX11_link_120 : decode cX11_link 120 = .ok (.iload_n 3, 1) := by decide +kernel
theorem dX11_link_121 : decode cX11_link 121 = .ok (.aload_n 0, 1) := by decide +kernel
theorem dX11_link_122 : decode cX11_link 122 = .ok (.getfield 129, 3) := by decide +kernel
theorem dX11_link_125 : decode cX11_link 125 = .ok (.if_icmp .ge 32, 3) := by decide +kernel
theorem dX11_link_128 : decode cX11_link 128 = .ok (.aload_n 0, 1) := by decide +kernel
theorem dX11_link_129 : decode cX11_link 129 = .ok (.getfield 9, 3) := by decide +kernel
theorem dX11_link_132 : decode cX11_link 132 = .ok (.sipush 360, 3) := by decide +kernel
theorem dX11_link_135 : decode cX11_link 135 = .ok (.bipush 40, 2) := by decide +kernel
theorem dX11_link_137 : decode cX11_link 137 = .ok (.iload_n 2, 1) := by decide +kernel
theorem dX11_link_138 : decode cX11_link 138 = .ok (.iconst 1, 1) := by decide +kernel
theorem dX11_link_139 : decode cX11_link 139 = .ok (.isub, 1) := by decide +kernel
theorem dX11_link_140 : decode cX11_link 140 = .ok (.imul, 1) := by decide +kernel
theorem dX11_link_141 : decode cX11_link 141 = .ok (.iadd, 1) := by decide +kernel
theorem dX11_link_142 : decode cX11_link 142 = .ok (.iload_n 3, 1) := by decide +kernel
theorem dX11_link_143 : decode cX11_link 143 = .ok (.iadd, 1) := by decide +kernel
theorem dX11_link_144 : decode cX11_link 144 = .ok (.aload_n 0, 1) := by decide +kernel
theorem dX11_link_145 : decode cX11_link 145 = .ok (.getfield 13, 3) := by decide +kernel
theorem dX11_link_148 : decode cX11_link 148 = .ok (.iload_n 3, 1) := by decide +kernel
theorem dX11_link_149 : decode cX11_link 149 = .ok (.baload, 1) := by decide +kernel
theorem dX11_link_150 : decode cX11_link 150 = .ok (.iastore, 1) := by decide +kernel
theorem dX11_link_151 : decode cX11_link 151 = .ok (.iinc 3 1, 3) := by decide +kernel
theorem dX11_link_154 : decode cX11_link 154 = .ok (.goto (-34), 3) := by decide +kernel
theorem dX11_link_157 : decode cX11_link 157 = .ok (.aload_n 0, 1) := by decide +kernel
theorem dX11_link_158 : decode cX11_link 158 = .ok (.getfield 9, 3) := by decide +kernel
theorem dX11_link_161 : decode cX11_link 161 = .ok (.sipush 600, 3) := by decide +kernel
theorem dX11_link_164 : decode cX11_link 164 = .ok (.iload_n 2, 1) := by decide +kernel
theorem dX11_link_165 : decode cX11_link 165 = .ok (.iadd, 1) := by decide +kernel
theorem dX11_link_166 : decode cX11_link 166 = .ok (.iconst 1, 1) := by decide +kernel
theorem dX11_link_167 : decode cX11_link 167 = .ok (.isub, 1) := by decide +kernel
theorem dX11_link_168 : decode cX11_link 168 = .ok (.aload_n 0, 1) := by decide +kernel
theorem dX11_link_169 : decode cX11_link 169 = .ok (.getfield 129, 3) := by decide +kernel
theorem dX11_link_172 : decode cX11_link 172 = .ok (.iastore, 1) := by decide +kernel
theorem dX11_link_173 : decode cX11_link 173 = .ok (.aload_n 0, 1) := by decide +kernel
theorem dX11_link_174 : decode cX11_link 174 = .ok (.getfield 9, 3) := by decide +kernel
theorem dX11_link_177 : decode cX11_link 177 = .ok (.sipush 606, 3) := by decide +kernel
theorem dX11_link_180 : decode cX11_link 180 = .ok (.iload_n 2, 1) := by decide +kernel
theorem dX11_link_181 : decode cX11_link 181 = .ok (.iadd, 1) := by decide +kernel
theorem dX11_link_182 : decode cX11_link 182 = .ok (.iconst 1, 1) := by decide +kernel
theorem dX11_link_183 : decode cX11_link 183 = .ok (.isub, 1) := by decide +kernel
theorem dX11_link_184 : decode cX11_link 184 = .ok (.aload_n 0, 1) := by decide +kernel
theorem dX11_link_185 : decode cX11_link 185 = .ok (.getfield 9, 3) := by decide +kernel
theorem dX11_link_188 : decode cX11_link 188 = .ok (.sipush 704, 3) := by decide +kernel
theorem dX11_link_191 : decode cX11_link 191 = .ok (.iaload, 1) := by decide +kernel
theorem dX11_link_192 : decode cX11_link 192 = .ok (.iastore, 1) := by decide +kernel
theorem dX11_link_193 : decode cX11_link 193 = .ok (.iload_n 1, 1) := by decide +kernel
theorem dX11_link_194 : decode cX11_link 194 = .ok (.ireturn, 1) := by decide +kernel
theorem dX11_picture_0 : decode cX11_picture 0 = .ok (.aload_n 0, 1) := by decide +kernel
theorem dX11_picture_1 : decode cX11_picture 1 = .ok (.iconst 0, 1) := by decide +kernel
theorem dX11_picture_2 : decode cX11_picture 2 = .ok (.putfield 105, 3) := by decide +kernel
theorem dX11_picture_5 : decode cX11_picture 5 = .ok (.aload_n 0, 1) := by decide +kernel
theorem dX11_picture_6 : decode cX11_picture 6 = .ok (.bipush 80, 2) := by decide +kernel
theorem dX11_picture_8 : decode cX11_picture 8 = .ok (.invokevirtual 169, 3) := by decide +kernel
theorem dX11_picture_11 : decode cX11_picture 11 = .ok (.iconst 0, 1) := by decide +kernel
theorem dX11_picture_12 : decode cX11_picture 12 = .ok (.istore_n 1, 1) := by decide +kernel
theorem dX11_picture_13 : decode cX11_picture 13 = .ok (.iconst 0, 1) := by decide +kernel
theorem dX11_picture_14 : decode cX11_picture 14 = .ok (.istore_n 2, 1) := by decide +kernel
theorem dX11_picture_15 : decode cX11_picture 15 = .ok (.iconst 0, 1) := by decide +kernel
theorem dX11_picture_16 : decode cX11_picture 16 = .ok (.istore_n 3, 1) := by decide +kernel
theorem dX11_picture_17 : decode cX11_picture 17 = .ok (.aload_n 0, 1) := by decide +kernel
theorem dX11_picture_18 : decode cX11_picture 18 = .ok (.getfield 129, 3) := by decide +kernel
theorem dX11_picture_21 : decode cX11_picture 21 = .ok (.ifCond .le 7, 3) := by decide +kernel
theorem dX11_picture_24 : decode cX11_picture 24 = .ok (.iconst 1, 1) := by decide +kernel
theorem dX11_picture_25 : decode cX11_picture 25 = .ok (.goto 4, 3) := by decide +kernel
theorem dX11_picture_28 : decode cX11_picture 28 = .ok (.iconst 0, 1) := by decide +kernel
theorem dX11_picture_29 : decode cX11_picture 29 = .ok (.istore 4, 2) := by decide +kernel
theorem dX11_picture_31 : decode cX11_picture 31 = .ok (.iload 4, 2) := by decide +kernel
theorem dX11_picture_33 : decode cX11_picture 33 = .ok (.ifCond .eq 190, 3) := by decide +kernel
theorem dX11_picture_36 : decode cX11_picture 36 = .ok (.aload_n 0, 1) := by decide +kernel
theorem dX11_picture_37 : decode cX11_picture 37 = .ok (.invokevirtual 141, 3) := by decide +kernel
theorem dX11_picture_40 : decode cX11_picture 40 = .ok (.ifCond .eq 183, 3) := by decide +kernel
theorem dX11_picture_43 : decode cX11_picture 43 = .ok (.iconst 0, 1) := by decide +kernel
theorem dX11_picture_44 : decode cX11_picture 44 = .ok (.istore 5, 2) := by decide +kernel
theorem dX11_picture_46 : decode cX11_picture 46 = .ok (.aload_n 0, 1) := by decide +kernel
theorem dX11_picture_47 : decode cX11_picture 47 = .ok (.invokevirtual 141, 3) := by decide +kernel
theorem dX11_picture_50 : decode cX11_picture 50 = .ok (.ifCond .eq 87, 3) := by decide +kernel
theorem dX11_picture_53 : decode cX11_picture 53 = .ok (.iload 5, 2) := by decide +kernel
theorem dX11_picture_55 : decode cX11_picture 55 = .ok (.ifCond .eq 23, 3) := by decide +kernel
theorem dX11_picture_58 : decode cX11_picture 58 = .ok (.aload_n 0, 1) := by decide +kernel
theorem dX11_picture_59 : decode cX11_picture 59 = .ok (.getfield 135, 3) := by decide +kernel
theorem dX11_picture_62 : decode cX11_picture 62 = .ok (.aload_n 0, 1) := by decide +kernel
theorem dX11_picture_63 : decode cX11_picture 63 = .ok (.getfield 129, 3) := by decide +kernel
theorem dX11_picture_66 : decode cX11_picture 66 = .ok (.if_icmp .ge 71, 3) := by decide +kernel
theorem dX11_picture_69 : decode cX11_picture 69 = .ok (.aload_n 0, 1) := by decide +kernel
theorem dX11_picture_70 : decode cX11_picture 70 = .ok (.invokevirtual 145, 3) := by decide +kernel
theorem dX11_picture_73 : decode cX11_picture 73 = .ok (.bipush 47, 2) := by decide +kernel
theorem dX11_picture_75 : decode cX11_picture 75 = .ok (.if_icmp .eq 62, 3) := by decide +kernel
theorem dX11_picture_78 : decode cX11_picture 78 = .ok (.iload 5, 2) := by decide +kernel
theorem dX11_picture_80 : decode cX11_picture 80 = .ok (.bipush 8, 2) := by decide +kernel
theorem dX11_picture_82 : decode cX11_picture 82 = .ok (.if_icmp .eq 13, 3) := by decide +kernel
theorem dX11_picture_85 : decode cX11_picture 85 = .ok (.iload_n 3, 1) := by decide +kernel
theorem dX11_picture_86 : decode cX11_picture 86 = .ok (.ifCond .le 17, 3) := by decide +kernel
theorem dX11_picture_89 : decode cX11_picture 89 = .ok (.iload 5, 2) := by decide +kernel
theorem dX11_picture_91 : decode cX11_picture 91 = .ok (.iload_n 2, 1) := by decide +kernel
theorem dX11_picture_92 : decode cX11_picture 92 = .ok (.if_icmp .ne 11, 3) := by decide +kernel
theorem dX11_picture_95 : decode cX11_picture 95 = .ok (.aload_n 0, 1) := by decide +kernel
theorem dX11_picture_96 : decode cX11_picture 96 = .ok (.aload_n 0, 1) := by decide +kernel
theorem dX11_picture_97 : decode cX11_picture 97 = .ok (.getfield 135, 3) := by decide +kernel
theorem dX11_picture_100 : decode cX11_picture 100 = .ok (.invokevirtual 149, 3) := by decide +kernel
theorem dX11_picture_103 : decode cX11_picture 103 = .ok (.aload_n 0, 1) := by decide +kernel
theorem dX11_picture_104 : decode cX11_picture 104 = .ok (.bipush 97, 2) := by decide +kernel
theorem dX11_picture_106 : decode cX11_picture 106 = .ok (.bipush 8, 2) := by decide +kernel
theorem dX11_picture_108 : decode cX11_picture 108 = .ok (.invokevirtual 152, 3) := by decide +kernel
theorem dX11_picture_111 : decode cX11_picture 111 = .ok (.istore 6, 2) := by decide +kernel
theorem dX11_picture_113 : decode cX11_picture 113 = .ok (.aload_n 0, 1) := by decide +kernel
theorem dX11_picture_114 : decode cX11_picture 114 = .ok (.invokevirtual 141, 3) := by decide +kernel
theorem dX11_picture_117 : decode cX11_picture 117 = .ok (.ifCond .eq 14, 3) := by decide +kernel
theorem dX11_picture_120 : decode cX11_picture 120 = .ok (.aload_n 0, 1) := by decide +kernel
theorem dX11_picture_121 : decode cX11_picture 121 = .ok (.getfield 21, 3) := by decide +kernel
theorem dX11_picture_124 : decode cX11_picture 124 = .ok (.iload_n 1, 1) := by decide +kernel
theorem dX11_picture_125 : decode cX11_picture 125 = .ok (.iinc 1 1, 3) := by decide +kernel
theorem dX11_picture_128 : decode cX11_picture 128 = .ok (.iload 6, 2) := by decide +kernel
theorem dX11_picture_130 : decode cX11_picture 130 = .ok (.iastore, 1) := by decide +kernel
theorem dX11_picture_131 : decode cX11_picture 131 = .ok (.iinc 5 1, 3) := by decide +kernel
theorem dX11_picture_134 : decode cX11_picture 134 = .ok (.goto (-88), 3) := by decide +kernel
theorem dX11_picture_137 : decode cX11_picture 137 = .ok (.iload_n 3, 1) := by decide +kernel
theorem dX11_picture_138 : decode cX11_picture 138 = .ok (.ifCond .le 17, 3) := by decide +kernel
theorem dX11_picture_141 : decode cX11_picture 141 = .ok (.iload 5, 2) := by decide +kernel
theorem dX11_picture_143 : decode cX11_picture 143 = .ok (.iload_n 2, 1) := by decide +kernel
theorem dX11_picture_144 : decode cX11_picture 144 = .ok (.if_icmp .ge 11, 3) := by decide +kernel
theorem dX11_picture_147 : decode cX11_picture 147 = .ok (.aload_n 0, 1) := by decide +kernel
theorem dX11_picture_148 : decode cX11_picture 148 = .ok (.aload_n 0, 1) := by decide +kernel
theorem dX11_picture_149 : decode cX11_picture 149 = .ok (.getfield 135, 3) := by decide +kernel
theorem dX11_picture_152 : decode cX11_picture 152 = .ok (.invokevirtual 149, 3) := by decide +kernel
theorem dX11_picture_155 : decode cX11_picture 155 = .ok (.iload_n 3, 1) := by decide +kernel
theorem dX11_picture_156 : decode cX11_picture 156 = .ok (.ifCond .ne 6, 3) := by decide +kernel
theorem dX11_picture_159 : decode cX11_picture 159 = .ok (.iload 5, 2) := by decide +kernel
theorem dX11_picture_161 : decode cX11_picture 161 = .ok (.istore_n 2, 1) := by decide +kernel
theorem dX11_picture_162 : decode cX11_picture 162 = .ok (.iinc 3 1, 3) := by decide +kernel
theorem dX11_picture_165 : decode cX11_picture 165 = .ok (.aload_n 0, 1) := by decide +kernel
theorem dX11_picture_166 : decode cX11_picture 166 = .ok (.invokevirtual 141, 3) := by decide +kernel
theorem dX11_picture_169 : decode cX11_picture 169 = .ok (.ifCond .eq 16, 3) := by decide +kernel
theorem dX11_picture_172 : decode cX11_picture 172 = .ok (.aload_n 0, 1) := by decide +kernel
theorem dX11_picture_173 : decode cX11_picture 173 = .ok (.invokevirtual 145, 3) := by decide +kernel
theorem dX11_picture_176 : decode cX11_picture 176 = .ok (.bipush 47, 2) := by decide +kernel
theorem dX11_picture_178 : decode cX11_picture 178 = .ok (.if_icmp .ne 7, 3) := by decide +kernel
theorem dX11_picture_181 : decode cX11_picture 181 = .ok (.iconst 1, 1) := by decide +kernel
theorem dX11_picture_182 : decode cX11_picture 182 = .ok (.goto 4, 3) := by decide +kernel
theorem dX11_picture_185 : decode cX11_picture 185 = .ok (.iconst 0, 1) := by decide +kernel
theorem dX11_picture_186 : decode cX11_picture 186 = .ok (.istore 4, 2) := by decide +kernel
theorem dX11_picture_188 : decode cX11_picture 188 = .ok (.iload 4, 2) := by decide +kernel
theorem dX11_picture_190 : decode cX11_picture 190 = .ok (.ifCond .ne 6, 3) := by decide +kernel
theorem dX11_picture_193 : decode cX11_picture 193 = .ok (.goto (-162), 3) := by decide +kernel
theorem dX11_picture_196 : decode cX11_picture 196 = .ok (.iload_n 3, 1) := by decide +kernel
theorem dX11_picture_197 : decode cX11_picture 197 = .ok (.bipush 8, 2) := by decide +kernel
theorem dX11_picture_199 : decode cX11_picture 199 = .ok (.if_icmp .ne 11, 3) := by decide +kernel
theorem dX11_picture_202 : decode cX11_picture 202 = .ok (.aload_n 0, 1) := by decide +kernel
theorem dX11_picture_203 : decode cX11_picture 203 = .ok (.aload_n 0, 1) := by decide +kernel
theorem dX11_picture_204 : decode cX11_picture 204 = .ok (.getfield 135, 3) := by decide +kernel
theorem dX11_picture_207 : decode cX11_picture 207 = .ok (.invokevirtual 149, 3) := by decide +kernel
theorem dX11_picture_210 : decode cX11_picture 210 = .ok (.aload_n 0, 1) := by decide +kernel
theorem dX11_picture_211 : decode cX11_picture 211 = .ok (.dup, 1) := by decide +kernel
theorem dX11_picture_212 : decode cX11_picture 212 = .ok (.getfield 135, 3) := by decide +kernel
theorem dX11_picture_215 : decode cX11_picture 215 = .ok (.iconst 1, 1) := by decide +kernel
theorem dX11_picture_216 : decode cX11_picture 216 = .ok (.iadd, 1) := by decide +kernel
theorem dX11_picture_217 : decode cX11_picture 217 = .ok (.putfield 135, 3) := by decide +kernel
theorem dX11_picture_220 : decode cX11_picture 220 = .ok (.goto (-189), 3) := by decide +kernel
theorem dX11_picture_223 : decode cX11_picture 223 = .ok (.aload_n 0, 1) := by decide +kernel
theorem dX11_picture_224 : decode cX11_picture 224 = .ok (.invokevirtual 175, 3) := by decide +kernel
theorem dX11_picture_227 : decode cX11_picture 227 = .ok (.ifCond .ne 10, 3) := by decide +kernel
theorem dX11_picture_230 : decode cX11_picture 230 = .ok (.iconst (-1), 1) := by decide +kernel
theorem dX11_picture_231 : decode cX11_picture 231 = .ok (.aload_n 0, 1) := by decide +kernel
theorem dX11_picture_232 : decode cX11_picture 232 = .ok (.getfield 138, 3) := by decide +kernel
theorem dX11_picture_235 : decode cX11_picture 235 = .ok (.isub, 1) := by decide +kernel
theorem dX11_picture_236 : decode cX11_picture 236 = .ok (.ireturn, 1) := by decide +kernel
theorem dX11_picture_237 : decode cX11_picture 237 = .ok (.aload_n 0, 1) := by decide +kernel
theorem dX11_picture_238 : decode cX11_picture 238 = .ok (.invokevirtual 178, 3) := by decide +kernel
theorem dX11_picture_241 : decode cX11_picture 241 = .ok (.iconst 0, 1) := by decide +kernel
theorem dX11_picture_242 : decode cX11_picture 242 = .ok (.istore 5, 2) := by decide +kernel
theorem dX11_picture_244 : decode cX11_picture 244 = .ok (.iload 5, 2) := by decide +kernel
theorem dX11_picture_246 : decode cX11_picture 246 = .ok (.bipush 64, 2) := by decide +kernel
theorem dX11_picture_248 : decode cX11_picture 248 = .ok (.if_icmp .ge 37, 3) := by decide +kernel
theorem dX11_picture_251 : decode cX11_picture 251 = .ok (.aload_n 0, 1) := by decide +kernel
theorem dX11_picture_252 : decode cX11_picture 252 = .ok (.getfield 9, 3) := by decide +kernel
theorem dX11_picture_255 : decode cX11_picture 255 = .ok (.sipush 638, 3) := by decide +kernel
theorem dX11_picture_258 : decode cX11_picture 258 = .ok (.iload 5, 2) := by decide +kernel
theorem dX11_picture_260 : decode cX11_picture 260 = .ok (.iadd, 1) := by decide +kernel
theorem dX11_picture_261 : decode cX11_picture 261 = .ok (.iload 5, 2) := by decide +kernel
theorem dX11_picture_263 : decode cX11_picture 263 = .ok (.iload_n 1, 1) := by decide +kernel
theorem dX11_picture_264 : decode cX11_picture 264 = .ok (.if_icmp .ge 13, 3) := by decide +kernel
theorem dX11_picture_267 : decode cX11_picture 267 = .ok (.aload_n 0, 1) := by decide +kernel
theorem dX11_picture_268 : decode cX11_picture 268 = .ok (.getfield 21, 3) := by decide +kernel
theorem dX11_picture_271 : decode cX11_picture 271 = .ok (.iload 5, 2) := by decide +kernel
theorem dX11_picture_273 : decode cX11_picture 273 = .ok (.iaload, 1) := by decide +kernel
theorem dX11_picture_274 : decode cX11_picture 274 = .ok (.goto 4, 3) := by decide +kernel
theorem dX11_picture_277 : decode cX11_picture 277 = .ok (.iconst 0, 1) := by decide +kernel
theorem dX11_picture_278 : decode cX11_picture 278 = .ok (.iastore, 1) := by decide +kernel
theorem dX11_picture_279 : decode cX11_picture 279 = .ok (.iinc 5 1, 3) := by decide +kernel
theorem dX11_picture_282 : decode cX11_picture 282 = .ok (.goto (-38), 3) := by decide +kernel
theorem dX11_picture_285 : decode cX11_picture 285 = .ok (.aload_n 0, 1) := by decide +kernel
theorem dX11_picture_286 : decode cX11_picture 286 = .ok (.getfield 9, 3) := by decide +kernel
theorem dX11_picture_289 : decode cX11_picture 289 = .ok (.sipush 702, 3) := by decide +kernel
theorem dX11_picture_292 : decode cX11_picture 292 = .ok (.iload_n 2, 1) := by decide +kernel
theorem dX11_picture_293 : decode cX11_picture 293 = .ok (.iastore, 1) := by decide +kernel
theorem dX11_picture_294 : decode cX11_picture 294 = .ok (.aload_n 0, 1) := by decide +kernel
theorem dX11_picture_295 : decode cX11_picture 295 = .ok (.getfield 9, 3) := by decide +kernel
theorem dX11_picture_298 : decode cX11_picture 298 = .ok (.sipush 703, 3) := by decide +kernel
theorem dX11_picture_301 : decode cX11_picture 301 = .ok (.iload_n 3, 1) := by decide +kernel
theorem dX11_picture_302 : decode cX11_picture 302 = .ok (.iastore, 1) := by decide +kernel
theorem dX11_picture_303 : decode cX11_picture 303 = .ok (.iload_n 1, 1) := by decide +kernel
theorem dX11_picture_304 : decode cX11_picture 304 = .ok (.ireturn, 1) := by decide +kernel
theorem dX11_plainLight_0 : decode cX11_plainLight 0 = .ok (.aload_n 0, 1) := by decide +kernel
theorem dX11_plainLight_1 : decode cX11_plainLight 1 = .ok (.iconst 3, 1) := by decide +kernel
theorem dX11_plainLight_2 : decode cX11_plainLight 2 = .ok (.iload_n 2, 1) := by decide +kernel
theorem dX11_plainLight_3 : decode cX11_plainLight 3 = .ok (.imul, 1) := by decide +kernel
theorem dX11_plainLight_4 : decode cX11_plainLight 4 = .ok (.getstatic 94, 3) := by decide +kernel
theorem dX11_plainLight_7 : decode cX11_plainLight 7 = .ok (.iload_n 1, 1) := by decide +kernel
theorem dX11_plainLight_8 : decode cX11_plainLight 8 = .ok (.iaload, 1) := by decide +kernel
theorem dX11_plainLight_9 : decode cX11_plainLight 9 = .ok (.imul, 1) := by decide +kernel
theorem dX11_plainLight_10 : decode cX11_plainLight 10 = .ok (.iload_n 3, 1) := by decide +kernel
theorem dX11_plainLight_11 : decode cX11_plainLight 11 = .ok (.iadd, 1) := by decide +kernel
theorem dX11_plainLight_12 : decode cX11_plainLight 12 = .ok (.iaload, 1) := by decide +kernel
theorem dX11_plainLight_13 : decode cX11_plainLight 13 = .ok (.ireturn, 1) := by decide +kernel
theorem dX11_reckoned_0 : decode cX11_reckoned 0 = .ok (.aload_n 0, 1) := by decide +kernel
theorem dX11_reckoned_1 : decode cX11_reckoned 1 = .ok (.iload_n 2, 1) := by decide +kernel
theorem dX11_reckoned_2 : decode cX11_reckoned 2 = .ok (.iaload, 1) := by decide +kernel
theorem dX11_reckoned_3 : decode cX11_reckoned 3 = .ok (.istore_n 3, 1) := by decide +kernel
theorem dX11_reckoned_4 : decode cX11_reckoned 4 = .ok (.iload_n 3, 1) := by decide +kernel
theorem dX11_reckoned_5 : decode cX11_reckoned 5 = .ok (.istore 4, 2) := by decide +kernel
theorem dX11_reckoned_7 : decode cX11_reckoned 7 = .ok (.iconst 0, 1) := by decide +kernel
theorem dX11_reckoned_8 : decode cX11_reckoned 8 = .ok (.istore 5, 2) := by decide +kernel
theorem dX11_reckoned_10 : decode cX11_reckoned 10 = .ok (.iload 5, 2) := by decide +kernel
theorem dX11_reckoned_12 : decode cX11_reckoned 12 = .ok (.iconst 4, 1) := by decide +kernel
theorem dX11_reckoned_13 : decode cX11_reckoned 13 = .ok (.if_icmp .ge 51, 3) := by decide +kernel
theorem dX11_reckoned_16 : decode cX11_reckoned 16 = .ok (.iload_n 1, 1) := by decide +kernel
theorem dX11_reckoned_17 : decode cX11_reckoned 17 = .ok (.iload 5, 2) := by decide +kernel
theorem dX11_reckoned_19 : decode cX11_reckoned 19 = .ok (.invokestatic 123, 3) := by decide +kernel
theorem dX11_reckoned_22 : decode cX11_reckoned 22 = .ok (.istore 6, 2) := by decide +kernel
theorem dX11_reckoned_24 : decode cX11_reckoned 24 = .ok (.iload 6, 2) := by decide +kernel
theorem dX11_reckoned_26 : decode cX11_reckoned 26 = .ok (.ifCond .le 32, 3) := by decide +kernel
theorem dX11_reckoned_29 : decode cX11_reckoned 29 = .ok (.iload_n 3, 1) := by decide +kernel
theorem dX11_reckoned_30 : decode cX11_reckoned 30 = .ok (.ifCond .ne 7, 3) := by decide +kernel
theorem dX11_reckoned_33 : decode cX11_reckoned 33 = .ok (.iconst 0, 1) := by decide +kernel
theorem dX11_reckoned_34 : decode cX11_reckoned 34 = .ok (.goto 22, 3) := by decide +kernel
theorem dX11_reckoned_37 : decode cX11_reckoned 37 = .ok (.bipush 100, 2) := by decide +kernel
theorem dX11_reckoned_39 : decode cX11_reckoned 39 = .ok (.iload 4, 2) := by decide +kernel
theorem dX11_reckoned_41 : decode cX11_reckoned 41 = .ok (.aload_n 0, 1) := by decide +kernel
theorem dX11_reckoned_42 : decode cX11_reckoned 42 = .ok (.iload 5, 2) := by decide +kernel
theorem dX11_reckoned_44 : decode cX11_reckoned 44 = .ok (.iload 6, 2) := by decide +kernel
theorem dX11_reckoned_46 : decode cX11_reckoned 46 = .ok (.iload_n 2, 1) := by decide +kernel
theorem dX11_reckoned_47 : decode cX11_reckoned 47 = .ok (.invokestatic 219, 3) := by decide +kernel
theorem dX11_reckoned_50 : decode cX11_reckoned 50 = .ok (.imul, 1) := by decide +kernel
theorem dX11_reckoned_51 : decode cX11_reckoned 51 = .ok (.iload_n 3, 1) := by decide +kernel
theorem dX11_reckoned_52 : decode cX11_reckoned 52 = .ok (.idiv, 1) := by decide +kernel
theorem dX11_reckoned_53 : decode cX11_reckoned 53 = .ok (.invokestatic 223, 3) := by decide +kernel
theorem dX11_reckoned_56 : decode cX11_reckoned 56 = .ok (.istore 4, 2) := by decide +kernel
theorem dX11_reckoned_58 : decode cX11_reckoned 58 = .ok (.iinc 5 1, 3) := by decide +kernel
theorem dX11_reckoned_61 : decode cX11_reckoned 61 = .ok (.goto (-51), 3) := by decide +kernel
theorem dX11_reckoned_64 : decode cX11_reckoned 64 = .ok (.iload 4, 2) := by decide +kernel
theorem dX11_reckoned_66 : decode cX11_reckoned 66 = .ok (.ireturn, 1) := by decide +kernel
theorem dX11_lightOf_0 : decode cX11_lightOf 0 = .ok (.iload_n 1, 1) := by decide +kernel
theorem dX11_lightOf_1 : decode cX11_lightOf 1 = .ok (.invokestatic 165, 3) := by decide +kernel
theorem dX11_lightOf_4 : decode cX11_lightOf 4 = .ok (.ifCond .ne 14, 3) := by decide +kernel
theorem dX11_lightOf_7 : decode cX11_lightOf 7 = .ok (.aload_n 0, 1) := by decide +kernel
theorem dX11_lightOf_8 : decode cX11_lightOf 8 = .ok (.sipush 243, 3) := by decide +kernel
theorem dX11_lightOf_11 : decode cX11_lightOf 11 = .ok (.iload_n 1, 1) := by decide +kernel
theorem dX11_lightOf_12 : decode cX11_lightOf 12 = .ok (.iadd, 1) := by decide +kernel
theorem dX11_lightOf_13 : decode cX11_lightOf 13 = .ok (.iaload, 1) := by decide +kernel
theorem dX11_lightOf_14 : decode cX11_lightOf 14 = .ok (.iconst 1, 1) := by decide +kernel
theorem dX11_lightOf_15 : decode cX11_lightOf 15 = .ok (.if_icmp .ne 13, 3) := by decide +kernel
theorem dX11_lightOf_18 : decode cX11_lightOf 18 = .ok (.aload_n 0, 1) := by decide +kernel
theorem dX11_lightOf_19 : decode cX11_lightOf 19 = .ok (.iconst 3, 1) := by decide +kernel
theorem dX11_lightOf_20 : decode cX11_lightOf 20 = .ok (.iload_n 1, 1) := by decide +kernel
theorem dX11_lightOf_21 : decode cX11_lightOf 21 = .ok (.imul, 1) := by decide +kernel
theorem dX11_lightOf_22 : decode cX11_lightOf 22 = .ok (.iload_n 2, 1) := by decide +kernel
theorem dX11_lightOf_23 : decode cX11_lightOf 23 = .ok (.iadd, 1) := by decide +kernel
theorem dX11_lightOf_24 : decode cX11_lightOf 24 = .ok (.iaload, 1) := by decide +kernel
theorem dX11_lightOf_25 : decode cX11_lightOf 25 = .ok (.goto 9, 3) := by decide +kernel
theorem dX11_lightOf_28 : decode cX11_lightOf 28 = .ok (.aload_n 0, 1) := by decide +kernel
theorem dX11_lightOf_29 : decode cX11_lightOf 29 = .ok (.iload_n 1, 1) := by decide +kernel
theorem dX11_lightOf_30 : decode cX11_lightOf 30 = .ok (.iload_n 2, 1) := by decide +kernel
theorem dX11_lightOf_31 : decode cX11_lightOf 31 = .ok (.invokestatic 226, 3) := by decide +kernel
theorem dX11_lightOf_34 : decode cX11_lightOf 34 = .ok (.ireturn, 1) := by decide +kernel
theorem dX11_light_0 : decode cX11_light 0 = .ok (.aload_n 0, 1) := by decide +kernel
theorem dX11_light_1 : decode cX11_light 1 = .ok (.iconst 0, 1) := by decide +kernel
theorem dX11_light_2 : decode cX11_light 2 = .ok (.putfield 105, 3) := by decide +kernel
theorem dX11_light_5 : decode cX11_light 5 = .ok (.iload_n 1, 1) := by decide +kernel
theorem dX11_light_6 : decode cX11_light 6 = .ok (.iconst 0, 1) := by decide +kernel
theorem dX11_light_7 : decode cX11_light 7 = .ok (.bipush 80, 2) := by decide +kernel
theorem dX11_light_9 : decode cX11_light 9 = .ok (.invokestatic 112, 3) := by decide +kernel
theorem dX11_light_12 : decode cX11_light 12 = .ok (.ifCond .eq 24, 3) := by decide +kernel
theorem dX11_light_15 : decode cX11_light 15 = .ok (.iload_n 2, 1) := by decide +kernel
theorem dX11_light_16 : decode cX11_light 16 = .ok (.iconst 0, 1) := by decide +kernel
theorem dX11_light_17 : decode cX11_light 17 = .ok (.iconst 2, 1) := by decide +kernel
theorem dX11_light_18 : decode cX11_light 18 = .ok (.invokestatic 112, 3) := by decide +kernel
theorem dX11_light_21 : decode cX11_light 21 = .ok (.ifCond .eq 15, 3) := by decide +kernel
theorem dX11_light_24 : decode cX11_light 24 = .ok (.aload_n 0, 1) := by decide +kernel
theorem dX11_light_25 : decode cX11_light 25 = .ok (.getfield 9, 3) := by decide +kernel
theorem dX11_light_28 : decode cX11_light 28 = .ok (.iload_n 1, 1) := by decide +kernel
theorem dX11_light_29 : decode cX11_light 29 = .ok (.iload_n 2, 1) := by decide +kernel
theorem dX11_light_30 : decode cX11_light 30 = .ok (.invokestatic 230, 3) := by decide +kernel
theorem dX11_light_33 : decode cX11_light 33 = .ok (.goto 7, 3) := by decide +kernel
theorem dX11_light_36 : decode cX11_light 36 = .ok (.aload_n 0, 1) := by decide +kernel
theorem dX11_light_37 : decode cX11_light 37 = .ok (.invokevirtual 233, 3) := by decide +kernel
theorem dX11_light_40 : decode cX11_light 40 = .ok (.ireturn, 1) := by decide +kernel
theorem dX11_bent_0 : decode cX11_bent 0 = .ok (.aload_n 0, 1) := by decide +kernel
theorem dX11_bent_1 : decode cX11_bent 1 = .ok (.iconst 0, 1) := by decide +kernel
theorem dX11_bent_2 : decode cX11_bent 2 = .ok (.putfield 105, 3) := by decide +kernel
theorem dX11_bent_5 : decode cX11_bent 5 = .ok (.iload_n 1, 1) := by decide +kernel
theorem dX11_bent_6 : decode cX11_bent 6 = .ok (.invokestatic 185, 3) := by decide +kernel
theorem dX11_bent_9 : decode cX11_bent 9 = .ok (.ifCond .eq 31, 3) := by decide +kernel
theorem dX11_bent_12 : decode cX11_bent 12 = .ok (.iload_n 2, 1) := by decide +kernel
theorem dX11_bent_13 : decode cX11_bent 13 = .ok (.iconst 0, 1) := by decide +kernel
theorem dX11_bent_14 : decode cX11_bent 14 = .ok (.bipush 8, 2) := by decide +kernel
theorem dX11_bent_16 : decode cX11_bent 16 = .ok (.invokestatic 112, 3) := by decide +kernel
theorem dX11_bent_19 : decode cX11_bent 19 = .ok (.ifCond .eq 21, 3) := by decide +kernel
theorem dX11_bent_22 : decode cX11_bent 22 = .ok (.aload_n 0, 1) := by decide +kernel
theorem dX11_bent_23 : decode cX11_bent 23 = .ok (.getfield 9, 3) := by decide +kernel
theorem dX11_bent_26 : decode cX11_bent 26 = .ok (.sipush 324, 3) := by decide +kernel
theorem dX11_bent_29 : decode cX11_bent 29 = .ok (.bipush 9, 2) := by decide +kernel
theorem dX11_bent_31 : decode cX11_bent 31 = .ok (.iload_n 1, 1) := by decide +kernel
theorem dX11_bent_32 : decode cX11_bent 32 = .ok (.imul, 1) := by decide +kernel
theorem dX11_bent_33 : decode cX11_bent 33 = .ok (.iadd, 1) := by decide +kernel
theorem dX11_bent_34 : decode cX11_bent 34 = .ok (.iload_n 2, 1) := by decide +kernel
theorem dX11_bent_35 : decode cX11_bent 35 = .ok (.iadd, 1) := by decide +kernel
theorem dX11_bent_36 : decode cX11_bent 36 = .ok (.iaload, 1) := by decide +kernel
theorem dX11_bent_37 : decode cX11_bent 37 = .ok (.goto 7, 3) := by decide +kernel
theorem dX11_bent_40 : decode cX11_bent 40 = .ok (.aload_n 0, 1) := by decide +kernel
theorem dX11_bent_41 : decode cX11_bent 41 = .ok (.invokevirtual 233, 3) := by decide +kernel
theorem dX11_bent_44 : decode cX11_bent 44 = .ok (.ireturn, 1) := by decide +kernel
theorem dX11_sheet_0 : decode cX11_sheet 0 = .ok (.aload_n 0, 1) := by decide +kernel
theorem dX11_sheet_1 : decode cX11_sheet 1 = .ok (.iconst 0, 1) := by decide +kernel
theorem dX11_sheet_2 : decode cX11_sheet 2 = .ok (.putfield 105, 3) := by decide +kernel
theorem dX11_sheet_5 : decode cX11_sheet 5 = .ok (.iload_n 1, 1) := by decide +kernel
theorem dX11_sheet_6 : decode cX11_sheet 6 = .ok (.iconst 0, 1) := by decide +kernel
theorem dX11_sheet_7 : decode cX11_sheet 7 = .ok (.iconst 3, 1) := by decide +kernel
theorem dX11_sheet_8 : decode cX11_sheet 8 = .ok (.invokestatic 112, 3) := by decide +kernel
theorem dX11_sheet_11 : decode cX11_sheet 11 = .ok (.ifCond .eq 13, 3) := by decide +kernel
theorem dX11_sheet_14 : decode cX11_sheet 14 = .ok (.iload_n 2, 1) := by decide +kernel
theorem dX11_sheet_15 : decode cX11_sheet 15 = .ok (.getstatic 236, 3) := by decide +kernel
theorem dX11_sheet_18 : decode cX11_sheet 18 = .ok (.arraylength, 1) := by decide +kernel
theorem dX11_sheet_19 : decode cX11_sheet 19 = .ok (.iconst 3, 1) := by decide +kernel
theorem dX11_sheet_20 : decode cX11_sheet 20 = .ok (.imul, 1) := by decide +kernel
theorem dX11_sheet_21 : decode cX11_sheet 21 = .ok (.if_icmp .le 5, 3) := by decide +kernel
theorem dX11_sheet_24 : decode cX11_sheet 24 = .ok (.iconst (-1), 1) := by decide +kernel
theorem dX11_sheet_25 : decode cX11_sheet 25 = .ok (.ireturn, 1) := by decide +kernel
theorem dX11_sheet_26 : decode cX11_sheet 26 = .ok (.iload_n 1, 1) := by decide +kernel
theorem dX11_sheet_27 : decode cX11_sheet 27 = .ok (.iconst 3, 1) := by decide +kernel
theorem dX11_sheet_28 : decode cX11_sheet 28 = .ok (.if_icmp .ge 10, 3) := by decide +kernel
theorem dX11_sheet_31 : decode cX11_sheet 31 = .ok (.iload_n 2, 1) := by decide +kernel
theorem dX11_sheet_32 : decode cX11_sheet 32 = .ok (.ifCond .ge 6, 3) := by decide +kernel
theorem dX11_sheet_35 : decode cX11_sheet 35 = .ok (.bipush (-2), 2) := by decide +kernel
theorem dX11_sheet_37 : decode cX11_sheet 37 = .ok (.ireturn, 1) := by decide +kernel
theorem dX11_sheet_38 : decode cX11_sheet 38 = .ok (.iload_n 3, 1) := by decide +kernel
theorem dX11_sheet_39 : decode cX11_sheet 39 = .ok (.istore 5, 2) := by decide +kernel
theorem dX11_sheet_41 : decode cX11_sheet 41 = .ok (.iconst 0, 1) := by decide +kernel
theorem dX11_sheet_42 : decode cX11_sheet 42 = .ok (.istore 6, 2) := by decide +kernel
theorem dX11_sheet_44 : decode cX11_sheet 44 = .ok (.iconst 0, 1) := by decide +kernel
theorem dX11_sheet_45 : decode cX11_sheet 45 = .ok (.istore 7, 2) := by decide +kernel
theorem dX11_sheet_47 : decode cX11_sheet 47 = .ok (.iload 7, 2) := by decide +kernel
theorem dX11_sheet_49 : decode cX11_sheet 49 = .ok (.getstatic 236, 3) := by decide +kernel
theorem dX11_sheet_52 : decode cX11_sheet 52 = .ok (.arraylength, 1) := by decide +kernel
theorem dX11_sheet_53 : decode cX11_sheet 53 = .ok (.iconst 3, 1) := by decide +kernel
theorem dX11_sheet_54 : decode cX11_sheet 54 = .ok (.imul, 1) := by decide +kernel
theorem dX11_sheet_55 : decode cX11_sheet 55 = .ok (.if_icmp .ge 99, 3) := by decide +kernel
theorem dX11_sheet_58 : decode cX11_sheet 58 = .ok (.iload_n 1, 1) := by decide +kernel
theorem dX11_sheet_59 : decode cX11_sheet 59 = .ok (.ifCond .ne 9, 3) := by decide +kernel
theorem dX11_sheet_62 : decode cX11_sheet 62 = .ok (.iload 5, 2) := by decide +kernel
theorem dX11_sheet_64 : decode cX11_sheet 64 = .ok (.i2b, 1) := by decide +kernel
theorem dX11_sheet_65 : decode cX11_sheet 65 = .ok (.goto 16, 3) := by decide +kernel
theorem dX11_sheet_68 : decode cX11_sheet 68 = .ok (.iload_n 1, 1) := by decide +kernel
theorem dX11_sheet_69 : decode cX11_sheet 69 = .ok (.iconst 1, 1) := by decide +kernel
theorem dX11_sheet_70 : decode cX11_sheet 70 = .ok (.if_icmp .ne 9, 3) := by decide +kernel
theorem dX11_sheet_73 : decode cX11_sheet 73 = .ok (.iload 5, 2) := by decide +kernel
theorem dX11_sheet_75 : decode cX11_sheet 75 = .ok (.i2s, 1) := by decide +kernel
theorem dX11_sheet_76 : decode cX11_sheet 76 = .ok (.goto 5, 3) := by decide +kernel
theorem dX11_sheet_79 : decode cX11_sheet 79 = .ok (.iload 5, 2) := by decide +kernel
theorem dX11_sheet_81 : decode cX11_sheet 81 = .ok (.istore 8, 2) := by decide +kernel
theorem dX11_sheet_83 : decode cX11_sheet 83 = .ok (.iload_n 1, 1) := by decide +kernel
theorem dX11_sheet_84 : decode cX11_sheet 84 = .ok (.iconst 3, 1) := by decide +kernel
theorem dX11_sheet_85 : decode cX11_sheet 85 = .ok (.if_icmp .eq 9, 3) := by decide +kernel
theorem dX11_sheet_88 : decode cX11_sheet 88 = .ok (.iload 7, 2) := by decide +kernel
theorem dX11_sheet_90 : decode cX11_sheet 90 = .ok (.iload_n 2, 1) := by decide +kernel
theorem dX11_sheet_91 : decode cX11_sheet 91 = .ok (.if_icmp .lt 8, 3) := by decide +kernel
theorem dX11_sheet_94 : decode cX11_sheet 94 = .ok (.bipush 100, 2) := by decide +kernel
theorem dX11_sheet_96 : decode cX11_sheet 96 = .ok (.goto 14, 3) := by decide +kernel
theorem dX11_sheet_99 : decode cX11_sheet 99 = .ok (.iconst 0, 1) := by decide +kernel
theorem dX11_sheet_100 : decode cX11_sheet 100 = .ok (.bipush 100, 2) := by decide +kernel
theorem dX11_sheet_102 : decode cX11_sheet 102 = .ok (.iload 8, 2) := by decide +kernel
theorem dX11_sheet_104 : decode cX11_sheet 104 = .ok (.invokestatic 223, 3) := by decide +kernel
theorem dX11_sheet_107 : decode cX11_sheet 107 = .ok (.invokestatic 239, 3) := by decide +kernel
theorem dX11_sheet_110 : decode cX11_sheet 110 = .ok (.istore 9, 2) := by decide +kernel
theorem dX11_sheet_112 : decode cX11_sheet 112 = .ok (.aload_n 0, 1) := by decide +kernel
theorem dX11_sheet_113 : decode cX11_sheet 113 = .ok (.getfield 9, 3) := by decide +kernel
theorem dX11_sheet_116 : decode cX11_sheet 116 = .ok (.iconst 3, 1) := by decide +kernel
theorem dX11_sheet_117 : decode cX11_sheet 117 = .ok (.getstatic 236, 3) := by decide +kernel
theorem dX11_sheet_120 : decode cX11_sheet 120 = .ok (.iload 7, 2) := by decide +kernel
theorem dX11_sheet_122 : decode cX11_sheet 122 = .ok (.iconst 3, 1) := by decide +kernel
theorem dX11_sheet_123 : decode cX11_sheet 123 = .ok (.idiv, 1) := by decide +kernel
theorem dX11_sheet_124 : decode cX11_sheet 124 = .ok (.iaload, 1) := by decide +kernel
theorem dX11_sheet_125 : decode cX11_sheet 125 = .ok (.imul, 1) := by decide +kernel
theorem dX11_sheet_126 : decode cX11_sheet 126 = .ok (.iload 7, 2) := by decide +kernel
theorem dX11_sheet_128 : decode cX11_sheet 128 = .ok (.iconst 3, 1) := by decide +kernel
theorem dX11_sheet_129 : decode cX11_sheet 129 = .ok (.irem, 1) := by decide +kernel
theorem dX11_sheet_130 : decode cX11_sheet 130 = .ok (.iadd, 1) := by decide +kernel
theorem dX11_sheet_131 : decode cX11_sheet 131 = .ok (.iload 9, 2) := by decide +kernel
theorem dX11_sheet_133 : decode cX11_sheet 133 = .ok (.iastore, 1) := by decide +kernel
theorem dX11_sheet_134 : decode cX11_sheet 134 = .ok (.iload 6, 2) := by decide +kernel
theorem dX11_sheet_136 : decode cX11_sheet 136 = .ok (.iload 9, 2) := by decide +kernel
theorem dX11_sheet_138 : decode cX11_sheet 138 = .ok (.iadd, 1) := by decide +kernel
theorem dX11_sheet_139 : decode cX11_sheet 139 = .ok (.istore 6, 2) := by decide +kernel
theorem dX11_sheet_141 : decode cX11_sheet 141 = .ok (.iload 5, 2) := by decide +kernel
theorem dX11_sheet_143 : decode cX11_sheet 143 = .ok (.iload 4, 2) := by decide +kernel
theorem dX11_sheet_145 : decode cX11_sheet 145 = .ok (.iadd, 1) := by decide +kernel
theorem dX11_sheet_146 : decode cX11_sheet 146 = .ok (.istore 5, 2) := by decide +kernel
theorem dX11_sheet_148 : decode cX11_sheet 148 = .ok (.iinc 7 1, 3) := by decide +kernel
theorem dX11_sheet_151 : decode cX11_sheet 151 = .ok (.goto (-104), 3) := by decide +kernel
theorem dX11_sheet_154 : decode cX11_sheet 154 = .ok (.iload_n 1, 1) := by decide +kernel
theorem dX11_sheet_155 : decode cX11_sheet 155 = .ok (.iconst 3, 1) := by decide +kernel
theorem dX11_sheet_156 : decode cX11_sheet 156 = .ok (.if_icmp .ne 8, 3) := by decide +kernel
theorem dX11_sheet_159 : decode cX11_sheet 159 = .ok (.bipush (-3), 2) := by decide +kernel
theorem dX11_sheet_161 : decode cX11_sheet 161 = .ok (.goto 5, 3) := by decide +kernel
theorem dX11_sheet_164 : decode cX11_sheet 164 = .ok (.iload 6, 2) := by decide +kernel
theorem dX11_sheet_166 : decode cX11_sheet 166 = .ok (.ireturn, 1) := by decide +kernel
theorem dX11_layWay_0 : decode cX11_layWay 0 = .ok (.iconst 0, 1) := by decide +kernel
theorem dX11_layWay_1 : decode cX11_layWay 1 = .ok (.istore_n 2, 1) := by decide +kernel
theorem dX11_layWay_2 : decode cX11_layWay 2 = .ok (.iconst 0, 1) := by decide +kernel
theorem dX11_layWay_3 : decode cX11_layWay 3 = .ok (.istore_n 3, 1) := by decide +kernel
theorem dX11_layWay_4 : decode cX11_layWay 4 = .ok (.iload_n 3, 1) := by decide +kernel
theorem dX11_layWay_5 : decode cX11_layWay 5 = .ok (.iconst 4, 1) := by decide +kernel
theorem dX11_layWay_6 : decode cX11_layWay 6 = .ok (.if_icmp .ge 30, 3) := by decide +kernel
theorem dX11_layWay_9 : decode cX11_layWay 9 = .ok (.iload_n 2, 1) := by decide +kernel
theorem dX11_layWay_10 : decode cX11_layWay 10 = .ok (.iload_n 1, 1) := by decide +kernel
theorem dX11_layWay_11 : decode cX11_layWay 11 = .ok (.iload_n 3, 1) := by decide +kernel
theorem dX11_layWay_12 : decode cX11_layWay 12 = .ok (.invokestatic 119, 3) := by decide +kernel
theorem dX11_layWay_15 : decode cX11_layWay 15 = .ok (.iconst 3, 1) := by decide +kernel
theorem dX11_layWay_16 : decode cX11_layWay 16 = .ok (.if_icmp .le 11, 3) := by decide +kernel
theorem dX11_layWay_19 : decode cX11_layWay 19 = .ok (.getstatic 94, 3) := by decide +kernel
theorem dX11_layWay_22 : decode cX11_layWay 22 = .ok (.iload_n 3, 1) := by decide +kernel
theorem dX11_layWay_23 : decode cX11_layWay 23 = .ok (.iaload, 1) := by decide +kernel
theorem dX11_layWay_24 : decode cX11_layWay 24 = .ok (.goto 4, 3) := by decide +kernel
theorem dX11_layWay_27 : decode cX11_layWay 27 = .ok (.iconst 0, 1) := by decide +kernel
theorem dX11_layWay_28 : decode cX11_layWay 28 = .ok (.iadd, 1) := by decide +kernel
theorem dX11_layWay_29 : decode cX11_layWay 29 = .ok (.istore_n 2, 1) := by decide +kernel
theorem dX11_layWay_30 : decode cX11_layWay 30 = .ok (.iinc 3 1, 3) := by decide +kernel
theorem dX11_layWay_33 : decode cX11_layWay 33 = .ok (.goto (-29), 3) := by decide +kernel
theorem dX11_layWay_36 : decode cX11_layWay 36 = .ok (.iconst 0, 1) := by decide +kernel
theorem dX11_layWay_37 : decode cX11_layWay 37 = .ok (.istore_n 3, 1) := by decide +kernel
theorem dX11_layWay_38 : decode cX11_layWay 38 = .ok (.iconst 4, 1) := by decide +kernel
theorem dX11_layWay_39 : decode cX11_layWay 39 = .ok (.istore 4, 2) := by decide +kernel
theorem dX11_layWay_41 : decode cX11_layWay 41 = .ok (.iconst 0, 1) := by decide +kernel
theorem dX11_layWay_42 : decode cX11_layWay 42 = .ok (.istore 5, 2) := by decide +kernel
theorem dX11_layWay_44 : decode cX11_layWay 44 = .ok (.iload 5, 2) := by decide +kernel
theorem dX11_layWay_46 : decode cX11_layWay 46 = .ok (.iconst 4, 1) := by decide +kernel
theorem dX11_layWay_47 : decode cX11_layWay 47 = .ok (.if_icmp .ge 136, 3) := by decide +kernel
theorem dX11_layWay_50 : decode cX11_layWay 50 = .ok (.iconst (-1), 1) := by decide +kernel
theorem dX11_layWay_51 : decode cX11_layWay 51 = .ok (.istore 6, 2) := by decide +kernel
theorem dX11_layWay_53 : decode cX11_layWay 53 = .ok (.iconst 0, 1) := by decide +kernel
theorem dX11_layWay_54 : decode cX11_layWay 54 = .ok (.istore 7, 2) := by decide +kernel
theorem dX11_layWay_56 : decode cX11_layWay 56 = .ok (.iconst 0, 1) := by decide +kernel
theorem dX11_layWay_57 : decode cX11_layWay 57 = .ok (.istore 8, 2) := by decide +kernel
theorem dX11_layWay_59 : decode cX11_layWay 59 = .ok (.iload 8, 2) := by decide +kernel
theorem dX11_layWay_61 : decode cX11_layWay 61 = .ok (.iconst 4, 1) := by decide +kernel
theorem dX11_layWay_62 : decode cX11_layWay 62 = .ok (.if_icmp .ge 75, 3) := by decide +kernel
theorem dX11_layWay_65 : decode cX11_layWay 65 = .ok (.iload_n 3, 1) := by decide +kernel
theorem dX11_layWay_66 : decode cX11_layWay 66 = .ok (.iload 8, 2) := by decide +kernel
theorem dX11_layWay_68 : decode cX11_layWay 68 = .ok (.ishr, 1) := by decide +kernel
theorem dX11_layWay_69 : decode cX11_layWay 69 = .ok (.iconst 1, 1) := by decide +kernel
theorem dX11_layWay_70 : decode cX11_layWay 70 = .ok (.iand, 1) := by decide +kernel
theorem dX11_layWay_71 : decode cX11_layWay 71 = .ok (.iconst 1, 1) := by decide +kernel
theorem dX11_layWay_72 : decode cX11_layWay 72 = .ok (.if_icmp .ne 6, 3) := by decide +kernel
theorem dX11_layWay_75 : decode cX11_layWay 75 = .ok (.goto 56, 3) := by decide +kernel
theorem dX11_layWay_78 : decode cX11_layWay 78 = .ok (.iload_n 1, 1) := by decide +kernel
theorem dX11_layWay_79 : decode cX11_layWay 79 = .ok (.iload 8, 2) := by decide +kernel
theorem dX11_layWay_81 : decode cX11_layWay 81 = .ok (.invokestatic 119, 3) := by decide +kernel
theorem dX11_layWay_84 : decode cX11_layWay 84 = .ok (.iconst 3, 1) := by decide +kernel
theorem dX11_layWay_85 : decode cX11_layWay 85 = .ok (.if_icmp .le 14, 3) := by decide +kernel
theorem dX11_layWay_88 : decode cX11_layWay 88 = .ok (.iload_n 1, 1) := by decide +kernel
theorem dX11_layWay_89 : decode cX11_layWay 89 = .ok (.iload 8, 2) := by decide +kernel
theorem dX11_layWay_91 : decode cX11_layWay 91 = .ok (.invokestatic 119, 3) := by decide +kernel
theorem dX11_layWay_94 : decode cX11_layWay 94 = .ok (.iconst 4, 1) := by decide +kernel
theorem dX11_layWay_95 : decode cX11_layWay 95 = .ok (.isub, 1) := by decide +kernel
theorem dX11_layWay_96 : decode cX11_layWay 96 = .ok (.goto 9, 3) := by decide +kernel
theorem dX11_layWay_99 : decode cX11_layWay 99 = .ok (.iload_n 1, 1) := by decide +kernel
theorem dX11_layWay_100 : decode cX11_layWay 100 = .ok (.iload 8, 2) := by decide +kernel
theorem dX11_layWay_102 : decode cX11_layWay 102 = .ok (.invokestatic 119, 3) := by decide +kernel
theorem dX11_layWay_105 : decode cX11_layWay 105 = .ok (.istore 9, 2) := by decide +kernel
theorem dX11_layWay_107 : decode cX11_layWay 107 = .ok (.iload 6, 2) := by decide +kernel
theorem dX11_layWay_109 : decode cX11_layWay 109 = .ok (.iconst (-1), 1) := by decide +kernel
theorem dX11_layWay_110 : decode cX11_layWay 110 = .ok (.if_icmp .eq 13, 3) := by decide +kernel
theorem dX11_layWay_113 : decode cX11_layWay 113 = .ok (.iload 9, 2) := by decide +kernel
theorem dX11_layWay_115 : decode cX11_layWay 115 = .ok (.iload 7, 2) := by decide +kernel
theorem dX11_layWay_117 : decode cX11_layWay 117 = .ok (.if_icmp .gt 6, 3) := by decide +kernel
theorem dX11_layWay_120 : decode cX11_layWay 120 = .ok (.goto 11, 3) := by decide +kernel
theorem dX11_layWay_123 : decode cX11_layWay 123 = .ok (.iload 8, 2) := by decide +kernel
theorem dX11_layWay_125 : decode cX11_layWay 125 = .ok (.istore 6, 2) := by decide +kernel
theorem dX11_layWay_127 : decode cX11_layWay 127 = .ok (.iload 9, 2) := by decide +kernel
theorem dX11_layWay_129 : decode cX11_layWay 129 = .ok (.istore 7, 2) := by decide +kernel
theorem dX11_layWay_131 : decode cX11_layWay 131 = .ok (.iinc 8 1, 3) := by decide +kernel
theorem dX11_layWay_134 : decode cX11_layWay 134 = .ok (.goto (-75), 3) := by decide +kernel
theorem dX11_layWay_137 : decode cX11_layWay 137 = .ok (.aload_n 0, 1) := by decide +kernel
theorem dX11_layWay_138 : decode cX11_layWay 138 = .ok (.getfield 30, 3) := by decide +kernel
theorem dX11_layWay_141 : decode cX11_layWay 141 = .ok (.iload 5, 2) := by decide +kernel
theorem dX11_layWay_143 : decode cX11_layWay 143 = .ok (.iload_n 2, 1) := by decide +kernel
theorem dX11_layWay_144 : decode cX11_layWay 144 = .ok (.iastore, 1) := by decide +kernel
theorem dX11_layWay_145 : decode cX11_layWay 145 = .ok (.aload_n 0, 1) := by decide +kernel
theorem dX11_layWay_146 : decode cX11_layWay 146 = .ok (.getfield 33, 3) := by decide +kernel
theorem dX11_layWay_149 : decode cX11_layWay 149 = .ok (.iload 5, 2) := by decide +kernel
theorem dX11_layWay_151 : decode cX11_layWay 151 = .ok (.iload 4, 2) := by decide +kernel
theorem dX11_layWay_153 : decode cX11_layWay 153 = .ok (.iload 7, 2) := by decide +kernel
theorem dX11_layWay_155 : decode cX11_layWay 155 = .ok (.isub, 1) := by decide +kernel
theorem dX11_layWay_156 : decode cX11_layWay 156 = .ok (.iastore, 1) := by decide +kernel
theorem dX11_layWay_157 : decode cX11_layWay 157 = .ok (.iload 7, 2) := by decide +kernel
theorem dX11_layWay_159 : decode cX11_layWay 159 = .ok (.istore 4, 2) := by decide +kernel
theorem dX11_layWay_161 : decode cX11_layWay 161 = .ok (.iload_n 3, 1) := by decide +kernel
theorem dX11_layWay_162 : decode cX11_layWay 162 = .ok (.iconst 1, 1) := by decide +kernel
theorem dX11_layWay_163 : decode cX11_layWay 163 = .ok (.iload 6, 2) := by decide +kernel
theorem dX11_layWay_165 : decode cX11_layWay 165 = .ok (.ishl, 1) := by decide +kernel
theorem dX11_layWay_166 : decode cX11_layWay 166 = .ok (.ior, 1) := by decide +kernel
theorem dX11_layWay_167 : decode cX11_layWay 167 = .ok (.istore_n 3, 1) := by decide +kernel
theorem dX11_layWay_168 : decode cX11_layWay 168 = .ok (.iload_n 2, 1) := by decide +kernel
theorem dX11_layWay_169 : decode cX11_layWay 169 = .ok (.getstatic 94, 3) := by decide +kernel
theorem dX11_layWay_172 : decode cX11_layWay 172 = .ok (.iload 6, 2) := by decide +kernel
theorem dX11_layWay_174 : decode cX11_layWay 174 = .ok (.iaload, 1) := by decide +kernel
theorem dX11_layWay_175 : decode cX11_layWay 175 = .ok (.iadd, 1) := by decide +kernel
theorem dX11_layWay_176 : decode cX11_layWay 176 = .ok (.istore_n 2, 1) := by decide +kernel
theorem dX11_layWay_177 : decode cX11_layWay 177 = .ok (.iinc 5 1, 3) := by decide +kernel
theorem dX11_layWay_180 : decode cX11_layWay 180 = .ok (.goto (-136), 3) := by decide +kernel
theorem dX11_layWay_183 : decode cX11_layWay 183 = .ok (.aload_n 0, 1) := by decide +kernel
theorem dX11_layWay_184 : decode cX11_layWay 184 = .ok (.getfield 30, 3) := by decide +kernel
theorem dX11_layWay_187 : decode cX11_layWay 187 = .ok (.iconst 4, 1) := by decide +kernel
theorem dX11_layWay_188 : decode cX11_layWay 188 = .ok (.iload_n 2, 1) := by decide +kernel
theorem dX11_layWay_189 : decode cX11_layWay 189 = .ok (.iastore, 1) := by decide +kernel
theorem dX11_layWay_190 : decode cX11_layWay 190 = .ok (.aload_n 0, 1) := by decide +kernel
theorem dX11_layWay_191 : decode cX11_layWay 191 = .ok (.getfield 33, 3) := by decide +kernel
theorem dX11_layWay_194 : decode cX11_layWay 194 = .ok (.iconst 4, 1) := by decide +kernel
theorem dX11_layWay_195 : decode cX11_layWay 195 = .ok (.iload 4, 2) := by decide +kernel
theorem dX11_layWay_197 : decode cX11_layWay 197 = .ok (.iastore, 1) := by decide +kernel
theorem dX11_layWay_198 : decode cX11_layWay 198 = .ok (.return_, 1) := by decide +kernel
theorem dX11_layColour_0 : decode cX11_layColour 0 = .ok (.aload_n 0, 1) := by decide +kernel
theorem dX11_layColour_1 : decode cX11_layColour 1 = .ok (.iload_n 1, 1) := by decide +kernel
theorem dX11_layColour_2 : decode cX11_layColour 2 = .ok (.invokevirtual 242, 3) := by decide +kernel
theorem dX11_layColour_5 : decode cX11_layColour 5 = .ok (.iconst 0, 1) := by decide +kernel
theorem dX11_layColour_6 : decode cX11_layColour 6 = .ok (.istore 4, 2) := by decide +kernel
theorem dX11_layColour_8 : decode cX11_layColour 8 = .ok (.iload 4, 2) := by decide +kernel
theorem dX11_layColour_10 : decode cX11_layColour 10 = .ok (.iconst 3, 1) := by decide +kernel
theorem dX11_layColour_11 : decode cX11_layColour 11 = .ok (.if_icmp .ge 75, 3) := by decide +kernel
theorem dX11_layColour_14 : decode cX11_layColour 14 = .ok (.iconst 0, 1) := by decide +kernel
theorem dX11_layColour_15 : decode cX11_layColour 15 = .ok (.istore 5, 2) := by decide +kernel
theorem dX11_layColour_17 : decode cX11_layColour 17 = .ok (.iconst 0, 1) := by decide +kernel
theorem dX11_layColour_18 : decode cX11_layColour 18 = .ok (.istore 6, 2) := by decide +kernel
theorem dX11_layColour_20 : decode cX11_layColour 20 = .ok (.iload 6, 2) := by decide +kernel
theorem dX11_layColour_22 : decode cX11_layColour 22 = .ok (.iconst 4, 1) := by decide +kernel
theorem dX11_layColour_23 : decode cX11_layColour 23 = .ok (.if_icmp .gt 49, 3) := by decide +kernel
theorem dX11_layColour_26 : decode cX11_layColour 26 = .ok (.aload_n 0, 1) := by decide +kernel
theorem dX11_layColour_27 : decode cX11_layColour 27 = .ok (.getfield 33, 3) := by decide +kernel
theorem dX11_layColour_30 : decode cX11_layColour 30 = .ok (.iload 6, 2) := by decide +kernel
theorem dX11_layColour_32 : decode cX11_layColour 32 = .ok (.iaload, 1) := by decide +kernel
theorem dX11_layColour_33 : decode cX11_layColour 33 = .ok (.ifCond .le 33, 3) := by decide +kernel
theorem dX11_layColour_36 : decode cX11_layColour 36 = .ok (.iload 5, 2) := by decide +kernel
theorem dX11_layColour_38 : decode cX11_layColour 38 = .ok (.aload_n 0, 1) := by decide +kernel
theorem dX11_layColour_39 : decode cX11_layColour 39 = .ok (.getfield 33, 3) := by decide +kernel
theorem dX11_layColour_42 : decode cX11_layColour 42 = .ok (.iload 6, 2) := by decide +kernel
theorem dX11_layColour_44 : decode cX11_layColour 44 = .ok (.iaload, 1) := by decide +kernel
theorem dX11_layColour_45 : decode cX11_layColour 45 = .ok (.aload_n 0, 1) := by decide +kernel
theorem dX11_layColour_46 : decode cX11_layColour 46 = .ok (.getfield 24, 3) := by decide +kernel
theorem dX11_layColour_49 : decode cX11_layColour 49 = .ok (.iconst 3, 1) := by decide +kernel
theorem dX11_layColour_50 : decode cX11_layColour 50 = .ok (.aload_n 0, 1) := by decide +kernel
theorem dX11_layColour_51 : decode cX11_layColour 51 = .ok (.getfield 30, 3) := by decide +kernel
theorem dX11_layColour_54 : decode cX11_layColour 54 = .ok (.iload 6, 2) := by decide +kernel
theorem dX11_layColour_56 : decode cX11_layColour 56 = .ok (.iaload, 1) := by decide +kernel
theorem dX11_layColour_57 : decode cX11_layColour 57 = .ok (.imul, 1) := by decide +kernel
theorem dX11_layColour_58 : decode cX11_layColour 58 = .ok (.iload 4, 2) := by decide +kernel
theorem dX11_layColour_60 : decode cX11_layColour 60 = .ok (.iadd, 1) := by decide +kernel
theorem dX11_layColour_61 : decode cX11_layColour 61 = .ok (.iaload, 1) := by decide +kernel
theorem dX11_layColour_62 : decode cX11_layColour 62 = .ok (.imul, 1) := by decide +kernel
theorem dX11_layColour_63 : decode cX11_layColour 63 = .ok (.iadd, 1) := by decide +kernel
theorem dX11_layColour_64 : decode cX11_layColour 64 = .ok (.istore 5, 2) := by decide +kernel
theorem dX11_layColour_66 : decode cX11_layColour 66 = .ok (.iinc 6 1, 3) := by decide +kernel
theorem dX11_layColour_69 : decode cX11_layColour 69 = .ok (.goto (-49), 3) := by decide +kernel
theorem dX11_layColour_72 : decode cX11_layColour 72 = .ok (.aload_n 2, 1) := by decide +kernel
theorem dX11_layColour_73 : decode cX11_layColour 73 = .ok (.iload_n 3, 1) := by decide +kernel
theorem dX11_layColour_74 : decode cX11_layColour 74 = .ok (.iload 4, 2) := by decide +kernel
theorem dX11_layColour_76 : decode cX11_layColour 76 = .ok (.iadd, 1) := by decide +kernel
theorem dX11_layColour_77 : decode cX11_layColour 77 = .ok (.iload 5, 2) := by decide +kernel
theorem dX11_layColour_79 : decode cX11_layColour 79 = .ok (.iastore, 1) := by decide +kernel
theorem dX11_layColour_80 : decode cX11_layColour 80 = .ok (.iinc 4 1, 3) := by decide +kernel
theorem dX11_layColour_83 : decode cX11_layColour 83 = .ok (.goto (-75), 3) := by decide +kernel
theorem dX11_layColour_86 : decode cX11_layColour 86 = .ok (.return_, 1) := by decide +kernel
theorem dX11_layLights_0 : decode cX11_layLights 0 = .ok (.iconst 0, 1) := by decide +kernel
theorem dX11_layLights_1 : decode cX11_layLights 1 = .ok (.istore_n 2, 1) := by decide +kernel
theorem dX11_layLights_2 : decode cX11_layLights 2 = .ok (.iload_n 2, 1) := by decide +kernel
theorem dX11_layLights_3 : decode cX11_layLights 3 = .ok (.bipush 81, 2) := by decide +kernel
theorem dX11_layLights_5 : decode cX11_layLights 5 = .ok (.if_icmp .ge 38, 3) := by decide +kernel
theorem dX11_layLights_8 : decode cX11_layLights 8 = .ok (.iconst 0, 1) := by decide +kernel
theorem dX11_layLights_9 : decode cX11_layLights 9 = .ok (.istore_n 3, 1) := by decide +kernel
theorem dX11_layLights_10 : decode cX11_layLights 10 = .ok (.iload_n 3, 1) := by decide +kernel
theorem dX11_layLights_11 : decode cX11_layLights 11 = .ok (.iconst 3, 1) := by decide +kernel
theorem dX11_layLights_12 : decode cX11_layLights 12 = .ok (.if_icmp .ge 25, 3) := by decide +kernel
theorem dX11_layLights_15 : decode cX11_layLights 15 = .ok (.aload_n 0, 1) := by decide +kernel
theorem dX11_layLights_16 : decode cX11_layLights 16 = .ok (.getfield 24, 3) := by decide +kernel
theorem dX11_layLights_19 : decode cX11_layLights 19 = .ok (.iconst 3, 1) := by decide +kernel
theorem dX11_layLights_20 : decode cX11_layLights 20 = .ok (.iload_n 2, 1) := by decide +kernel
theorem dX11_layLights_21 : decode cX11_layLights 21 = .ok (.imul, 1) := by decide +kernel
theorem dX11_layLights_22 : decode cX11_layLights 22 = .ok (.iload_n 3, 1) := by decide +kernel
theorem dX11_layLights_23 : decode cX11_layLights 23 = .ok (.iadd, 1) := by decide +kernel
theorem dX11_layLights_24 : decode cX11_layLights 24 = .ok (.aload_n 1, 1) := by decide +kernel
theorem dX11_layLights_25 : decode cX11_layLights 25 = .ok (.iload_n 2, 1) := by decide +kernel
theorem dX11_layLights_26 : decode cX11_layLights 26 = .ok (.iload_n 3, 1) := by decide +kernel
theorem dX11_layLights_27 : decode cX11_layLights 27 = .ok (.invokestatic 230, 3) := by decide +kernel
theorem dX11_layLights_30 : decode cX11_layLights 30 = .ok (.iastore, 1) := by decide +kernel
theorem dX11_layLights_31 : decode cX11_layLights 31 = .ok (.iinc 3 1, 3) := by decide +kernel
theorem dX11_layLights_34 : decode cX11_layLights 34 = .ok (.goto (-24), 3) := by decide +kernel
theorem dX11_layLights_37 : decode cX11_layLights 37 = .ok (.iinc 2 1, 3) := by decide +kernel
theorem dX11_layLights_40 : decode cX11_layLights 40 = .ok (.goto (-38), 3) := by decide +kernel
theorem dX11_layLights_43 : decode cX11_layLights 43 = .ok (.return_, 1) := by decide +kernel
theorem dX11_layColours_0 : decode cX11_layColours 0 = .ok (.aload_n 0, 1) := by decide +kernel
theorem dX11_layColours_1 : decode cX11_layColours 1 = .ok (.aload_n 1, 1) := by decide +kernel
theorem dX11_layColours_2 : decode cX11_layColours 2 = .ok (.invokevirtual 245, 3) := by decide +kernel
theorem dX11_layColours_5 : decode cX11_layColours 5 = .ok (.aload_n 0, 1) := by decide +kernel
theorem dX11_layColours_6 : decode cX11_layColours 6 = .ok (.iconst 0, 1) := by decide +kernel
theorem dX11_layColours_7 : decode cX11_layColours 7 = .ok (.putfield 249, 3) := by decide +kernel
theorem dX11_layColours_10 : decode cX11_layColours 10 = .ok (.iconst 0, 1) := by decide +kernel
theorem dX11_layColours_11 : decode cX11_layColours 11 = .ok (.istore_n 2, 1) := by decide +kernel
theorem dX11_layColours_12 : decode cX11_layColours 12 = .ok (.iload_n 2, 1) := by decide +kernel
theorem dX11_layColours_13 : decode cX11_layColours 13 = .ok (.sipush 6561, 3) := by decide +kernel
theorem dX11_layColours_16 : decode cX11_layColours 16 = .ok (.if_icmp .ge 56, 3) := by decide +kernel
theorem dX11_layColours_19 : decode cX11_layColours 19 = .ok (.aload_n 0, 1) := by decide +kernel
theorem dX11_layColours_20 : decode cX11_layColours 20 = .ok (.aload_n 0, 1) := by decide +kernel
theorem dX11_layColours_21 : decode cX11_layColours 21 = .ok (.getfield 36, 3) := by decide +kernel
theorem dX11_layColours_24 : decode cX11_layColours 24 = .ok (.iload_n 2, 1) := by decide +kernel
theorem dX11_layColours_25 : decode cX11_layColours 25 = .ok (.iaload, 1) := by decide +kernel
theorem dX11_layColours_26 : decode cX11_layColours 26 = .ok (.aload_n 0, 1) := by decide +kernel
theorem dX11_layColours_27 : decode cX11_layColours 27 = .ok (.getfield 27, 3) := by decide +kernel
theorem dX11_layColours_30 : decode cX11_layColours 30 = .ok (.iconst 3, 1) := by decide +kernel
theorem dX11_layColours_31 : decode cX11_layColours 31 = .ok (.iload_n 2, 1) := by decide +kernel
theorem dX11_layColours_32 : decode cX11_layColours 32 = .ok (.imul, 1) := by decide +kernel
theorem dX11_layColours_33 : decode cX11_layColours 33 = .ok (.invokevirtual 252, 3) := by decide +kernel
theorem dX11_layColours_36 : decode cX11_layColours 36 = .ok (.aload_n 0, 1) := by decide +kernel
theorem dX11_layColours_37 : decode cX11_layColours 37 = .ok (.aload_n 0, 1) := by decide +kernel
theorem dX11_layColours_38 : decode cX11_layColours 38 = .ok (.getfield 36, 3) := by decide +kernel
theorem dX11_layColours_41 : decode cX11_layColours 41 = .ok (.iload_n 2, 1) := by decide +kernel
theorem dX11_layColours_42 : decode cX11_layColours 42 = .ok (.iaload, 1) := by decide +kernel
theorem dX11_layColours_43 : decode cX11_layColours 43 = .ok (.invokevirtual 256, 3) := by decide +kernel
theorem dX11_layColours_46 : decode cX11_layColours 46 = .ok (.ifCond .eq 20, 3) := by decide +kernel
theorem dX11_layColours_49 : decode cX11_layColours 49 = .ok (.aload_n 0, 1) := by decide +kernel
theorem dX11_layColours_50 : decode cX11_layColours 50 = .ok (.getfield 39, 3) := by decide +kernel
theorem dX11_layColours_53 : decode cX11_layColours 53 = .ok (.aload_n 0, 1) := by decide +kernel
theorem dX11_layColours_54 : decode cX11_layColours 54 = .ok (.dup, 1) := by decide +kernel
theorem dX11_layColours_55 : decode cX11_layColours 55 = .ok (.getfield 249, 3) := by decide +kernel
theorem dX11_layColours_58 : decode cX11_layColours 58 = .ok (.dup_x1, 1) := by decide +kernel
theorem dX11_layColours_59 : decode cX11_layColours 59 = .ok (.iconst 1, 1) := by decide +kernel
theorem dX11_layColours_60 : decode cX11_layColours 60 = .ok (.iadd, 1) := by decide +kernel
theorem dX11_layColours_61 : decode cX11_layColours 61 = .ok (.putfield 249, 3) := by decide +kernel
theorem dX11_layColours_64 : decode cX11_layColours 64 = .ok (.iload_n 2, 1) := by decide +kernel
theorem dX11_layColours_65 : decode cX11_layColours 65 = .ok (.iastore, 1) := by decide +kernel
theorem dX11_layColours_66 : decode cX11_layColours 66 = .ok (.iinc 2 1, 3) := by decide +kernel
theorem dX11_layColours_69 : decode cX11_layColours 69 = .ok (.goto (-57), 3) := by decide +kernel
theorem dX11_layColours_72 : decode cX11_layColours 72 = .ok (.return_, 1) := by decide +kernel
theorem dX11_open_0 : decode cX11_open 0 = .ok (.iload_n 1, 1) := by decide +kernel
theorem dX11_open_1 : decode cX11_open 1 = .ok (.invokestatic 259, 3) := by decide +kernel
theorem dX11_open_4 : decode cX11_open 4 = .ok (.aload_n 0, 1) := by decide +kernel
theorem dX11_open_5 : decode cX11_open 5 = .ok (.getfield 9, 3) := by decide +kernel
theorem dX11_open_8 : decode cX11_open 8 = .ok (.sipush 704, 3) := by decide +kernel
theorem dX11_open_11 : decode cX11_open 11 = .ok (.iaload, 1) := by decide +kernel
theorem dX11_open_12 : decode cX11_open 12 = .ok (.if_icmp .gt 23, 3) := by decide +kernel
theorem dX11_open_15 : decode cX11_open 15 = .ok (.iload_n 1, 1) := by decide +kernel
theorem dX11_open_16 : decode cX11_open 16 = .ok (.iconst 3, 1) := by decide +kernel
theorem dX11_open_17 : decode cX11_open 17 = .ok (.invokestatic 119, 3) := by decide +kernel
theorem dX11_open_20 : decode cX11_open 20 = .ok (.aload_n 0, 1) := by decide +kernel
theorem dX11_open_21 : decode cX11_open 21 = .ok (.getfield 9, 3) := by decide +kernel
theorem dX11_open_24 : decode cX11_open 24 = .ok (.sipush 707, 3) := by decide +kernel
theorem dX11_open_27 : decode cX11_open 27 = .ok (.iaload, 1) := by decide +kernel
theorem dX11_open_28 : decode cX11_open 28 = .ok (.if_icmp .gt 7, 3) := by decide +kernel
theorem dX11_open_31 : decode cX11_open 31 = .ok (.iconst 1, 1) := by decide +kernel
theorem dX11_open_32 : decode cX11_open 32 = .ok (.goto 4, 3) := by decide +kernel
theorem dX11_open_35 : decode cX11_open 35 = .ok (.iconst 0, 1) := by decide +kernel
theorem dX11_open_36 : decode cX11_open 36 = .ok (.ireturn, 1) := by decide +kernel
theorem dX11_apart_0 : decode cX11_apart 0 = .ok (.aload 4, 2) := by decide +kernel
theorem dX11_apart_2 : decode cX11_apart 2 = .ok (.iload 5, 2) := by decide +kernel
theorem dX11_apart_4 : decode cX11_apart 4 = .ok (.iaload, 1) := by decide +kernel
theorem dX11_apart_5 : decode cX11_apart 5 = .ok (.iload_n 1, 1) := by decide +kernel
theorem dX11_apart_6 : decode cX11_apart 6 = .ok (.isub, 1) := by decide +kernel
theorem dX11_apart_7 : decode cX11_apart 7 = .ok (.istore 6, 2) := by decide +kernel
theorem dX11_apart_9 : decode cX11_apart 9 = .ok (.aload 4, 2) := by decide +kernel
theorem dX11_apart_11 : decode cX11_apart 11 = .ok (.iload 5, 2) := by decide +kernel
theorem dX11_apart_13 : decode cX11_apart 13 = .ok (.iconst 1, 1) := by decide +kernel
theorem dX11_apart_14 : decode cX11_apart 14 = .ok (.iadd, 1) := by decide +kernel
theorem dX11_apart_15 : decode cX11_apart 15 = .ok (.iaload, 1) := by decide +kernel
theorem dX11_apart_16 : decode cX11_apart 16 = .ok (.iload_n 2, 1) := by decide +kernel
theorem dX11_apart_17 : decode cX11_apart 17 = .ok (.isub, 1) := by decide +kernel
theorem dX11_apart_18 : decode cX11_apart 18 = .ok (.istore 7, 2) := by decide +kernel
theorem dX11_apart_20 : decode cX11_apart 20 = .ok (.aload 4, 2) := by decide +kernel
theorem dX11_apart_22 : decode cX11_apart 22 = .ok (.iload 5, 2) := by decide +kernel
theorem dX11_apart_24 : decode cX11_apart 24 = .ok (.iconst 2, 1) := by decide +kernel
theorem dX11_apart_25 : decode cX11_apart 25 = .ok (.iadd, 1) := by decide +kernel
theorem dX11_apart_26 : decode cX11_apart 26 = .ok (.iaload, 1) := by decide +kernel
theorem dX11_apart_27 : decode cX11_apart 27 = .ok (.iload_n 3, 1) := by decide +kernel
theorem dX11_apart_28 : decode cX11_apart 28 = .ok (.isub, 1) := by decide +kernel
theorem dX11_apart_29 : decode cX11_apart 29 = .ok (.istore 8, 2) := by decide +kernel
theorem dX11_apart_31 : decode cX11_apart 31 = .ok (.aload_n 0, 1) := by decide +kernel
theorem dX11_apart_32 : decode cX11_apart 32 = .ok (.getfield 9, 3) := by decide +kernel
theorem dX11_apart_35 : decode cX11_apart 35 = .ok (.sipush 708, 3) := by decide +kernel
theorem dX11_apart_38 : decode cX11_apart 38 = .ok (.iaload, 1) := by decide +kernel
theorem dX11_apart_39 : decode cX11_apart 39 = .ok (.iload 6, 2) := by decide +kernel
theorem dX11_apart_41 : decode cX11_apart 41 = .ok (.imul, 1) := by decide +kernel
theorem dX11_apart_42 : decode cX11_apart 42 = .ok (.iload 6, 2) := by decide +kernel
theorem dX11_apart_44 : decode cX11_apart 44 = .ok (.imul, 1) := by decide +kernel
theorem dX11_apart_45 : decode cX11_apart 45 = .ok (.aload_n 0, 1) := by decide +kernel
theorem dX11_apart_46 : decode cX11_apart 46 = .ok (.getfield 9, 3) := by decide +kernel
theorem dX11_apart_49 : decode cX11_apart 49 = .ok (.sipush 709, 3) := by decide +kernel
theorem dX11_apart_52 : decode cX11_apart 52 = .ok (.iaload, 1) := by decide +kernel
theorem dX11_apart_53 : decode cX11_apart 53 = .ok (.iload 7, 2) := by decide +kernel
theorem dX11_apart_55 : decode cX11_apart 55 = .ok (.imul, 1) := by decide +kernel
theorem dX11_apart_56 : decode cX11_apart 56 = .ok (.iload 7, 2) := by decide +kernel
theorem dX11_apart_58 : decode cX11_apart 58 = .ok (.imul, 1) := by decide +kernel
theorem dX11_apart_59 : decode cX11_apart 59 = .ok (.iadd, 1) := by decide +kernel
theorem dX11_apart_60 : decode cX11_apart 60 = .ok (.aload_n 0, 1) := by decide +kernel
theorem dX11_apart_61 : decode cX11_apart 61 = .ok (.getfield 9, 3) := by decide +kernel
theorem dX11_apart_64 : decode cX11_apart 64 = .ok (.sipush 710, 3) := by decide +kernel
theorem dX11_apart_67 : decode cX11_apart 67 = .ok (.iaload, 1) := by decide +kernel
theorem dX11_apart_68 : decode cX11_apart 68 = .ok (.iload 8, 2) := by decide +kernel
theorem dX11_apart_70 : decode cX11_apart 70 = .ok (.imul, 1) := by decide +kernel
theorem dX11_apart_71 : decode cX11_apart 71 = .ok (.iload 8, 2) := by decide +kernel
theorem dX11_apart_73 : decode cX11_apart 73 = .ok (.imul, 1) := by decide +kernel
theorem dX11_apart_74 : decode cX11_apart 74 = .ok (.iadd, 1) := by decide +kernel
theorem dX11_apart_75 : decode cX11_apart 75 = .ok (.ireturn, 1) := by decide +kernel
theorem dX11_apartOf_0 : decode cX11_apartOf 0 = .ok (.aload_n 0, 1) := by decide +kernel
theorem dX11_apartOf_1 : decode cX11_apartOf 1 = .ok (.iload_n 2, 1) := by decide +kernel
theorem dX11_apartOf_2 : decode cX11_apartOf 2 = .ok (.iload_n 3, 1) := by decide +kernel
theorem dX11_apartOf_3 : decode cX11_apartOf 3 = .ok (.iload 4, 2) := by decide +kernel
theorem dX11_apartOf_5 : decode cX11_apartOf 5 = .ok (.aload_n 0, 1) := by decide +kernel
theorem dX11_apartOf_6 : decode cX11_apartOf 6 = .ok (.getfield 27, 3) := by decide +kernel
theorem dX11_apartOf_9 : decode cX11_apartOf 9 = .ok (.iconst 3, 1) := by decide +kernel
theorem dX11_apartOf_10 : decode cX11_apartOf 10 = .ok (.iload_n 1, 1) := by decide +kernel
theorem dX11_apartOf_11 : decode cX11_apartOf 11 = .ok (.imul, 1) := by decide +kernel
theorem dX11_apartOf_12 : decode cX11_apartOf 12 = .ok (.invokevirtual 262, 3) := by decide +kernel
theorem dX11_apartOf_15 : decode cX11_apartOf 15 = .ok (.ireturn, 1) := by decide +kernel
theorem dX11_between_0 : decode cX11_between 0 = .ok (.aload_n 0, 1) := by decide +kernel
theorem dX11_between_1 : decode cX11_between 1 = .ok (.iload_n 1, 1) := by decide +kernel
theorem dX11_between_2 : decode cX11_between 2 = .ok (.aload_n 0, 1) := by decide +kernel
theorem dX11_between_3 : decode cX11_between 3 = .ok (.getfield 27, 3) := by decide +kernel
theorem dX11_between_6 : decode cX11_between 6 = .ok (.iconst 3, 1) := by decide +kernel
theorem dX11_between_7 : decode cX11_between 7 = .ok (.iload_n 2, 1) := by decide +kernel
theorem dX11_between_8 : decode cX11_between 8 = .ok (.imul, 1) := by decide +kernel
theorem dX11_between_9 : decode cX11_between 9 = .ok (.iaload, 1) := by decide +kernel
theorem dX11_between_10 : decode cX11_between 10 = .ok (.aload_n 0, 1) := by decide +kernel
theorem dX11_between_11 : decode cX11_between 11 = .ok (.getfield 27, 3) := by decide +kernel
theorem dX11_between_14 : decode cX11_between 14 = .ok (.iconst 3, 1) := by decide +kernel
theorem dX11_between_15 : decode cX11_between 15 = .ok (.iload_n 2, 1) := by decide +kernel
theorem dX11_between_16 : decode cX11_between 16 = .ok (.imul, 1) := by decide +kernel
theorem dX11_between_17 : decode cX11_between 17 = .ok (.iconst 1, 1) := by decide +kernel
theorem dX11_between_18 : decode cX11_between 18 = .ok (.iadd, 1) := by decide +kernel
theorem dX11_between_19 : decode cX11_between 19 = .ok (.iaload, 1) := by decide +kernel
theorem dX11_between_20 : decode cX11_between 20 = .ok (.aload_n 0, 1) := by decide +kernel
theorem dX11_between_21 : decode cX11_between 21 = .ok (.getfield 27, 3) := by decide +kernel
theorem dX11_between_24 : decode cX11_between 24 = .ok (.iconst 3, 1) := by decide +kernel
theorem dX11_between_25 : decode cX11_between 25 = .ok (.iload_n 2, 1) := by decide +kernel
theorem dX11_between_26 : decode cX11_between 26 = .ok (.imul, 1) := by decide +kernel
theorem dX11_between_27 : decode cX11_between 27 = .ok (.iconst 2, 1) := by decide +kernel
theorem dX11_between_28 : decode cX11_between 28 = .ok (.iadd, 1) := by decide +kernel
theorem dX11_between_29 : decode cX11_between 29 = .ok (.iaload, 1) := by decide +kernel
theorem dX11_between_30 : decode cX11_between 30 = .ok (.invokevirtual 266, 3) := by decide +kernel
theorem dX11_between_33 : decode cX11_between 33 = .ok (.ireturn, 1) := by decide +kernel
theorem dX11_isWanted_0 : decode cX11_isWanted 0 = .ok (.iload_n 0, 1) := by decide +kernel
theorem dX11_isWanted_1 : decode cX11_isWanted 1 = .ok (.iconst 0, 1) := by decide +kernel
theorem dX11_isWanted_2 : decode cX11_isWanted 2 = .ok (.sipush 400, 3) := by decide +kernel
theorem dX11_isWanted_5 : decode cX11_isWanted 5 = .ok (.invokestatic 112, 3) := by decide +kernel
theorem dX11_isWanted_8 : decode cX11_isWanted 8 = .ok (.ifCond .eq 29, 3) := by decide +kernel
theorem dX11_isWanted_11 : decode cX11_isWanted 11 = .ok (.iload_n 1, 1) := by decide +kernel
theorem dX11_isWanted_12 : decode cX11_isWanted 12 = .ok (.iconst 0, 1) := by decide +kernel
theorem dX11_isWanted_13 : decode cX11_isWanted 13 = .ok (.sipush 400, 3) := by decide +kernel
theorem dX11_isWanted_16 : decode cX11_isWanted 16 = .ok (.invokestatic 112, 3) := by decide +kernel
theorem dX11_isWanted_19 : decode cX11_isWanted 19 = .ok (.ifCond .eq 18, 3) := by decide +kernel
theorem dX11_isWanted_22 : decode cX11_isWanted 22 = .ok (.iload_n 2, 1) := by decide +kernel
theorem dX11_isWanted_23 : decode cX11_isWanted 23 = .ok (.iconst 0, 1) := by decide +kernel
theorem dX11_isWanted_24 : decode cX11_isWanted 24 = .ok (.sipush 400, 3) := by decide +kernel
theorem dX11_isWanted_27 : decode cX11_isWanted 27 = .ok (.invokestatic 112, 3) := by decide +kernel
theorem dX11_isWanted_30 : decode cX11_isWanted 30 = .ok (.ifCond .eq 7, 3) := by decide +kernel
theorem dX11_isWanted_33 : decode cX11_isWanted 33 = .ok (.iconst 1, 1) := by decide +kernel
theorem dX11_isWanted_34 : decode cX11_isWanted 34 = .ok (.goto 4, 3) := by decide +kernel
theorem dX11_isWanted_37 : decode cX11_isWanted 37 = .ok (.iconst 0, 1) := by decide +kernel
theorem dX11_isWanted_38 : decode cX11_isWanted 38 = .ok (.ireturn, 1) := by decide +kernel
theorem dX11_colour_0 : decode cX11_colour 0 = .ok (.aload_n 0, 1) := by decide +kernel
theorem dX11_colour_1 : decode cX11_colour 1 = .ok (.iconst 0, 1) := by decide +kernel
theorem dX11_colour_2 : decode cX11_colour 2 = .ok (.putfield 105, 3) := by decide +kernel
theorem dX11_colour_5 : decode cX11_colour 5 = .ok (.iload_n 1, 1) := by decide +kernel
theorem dX11_colour_6 : decode cX11_colour 6 = .ok (.invokestatic 270, 3) := by decide +kernel
theorem dX11_colour_9 : decode cX11_colour 9 = .ok (.ifCond .ne 5, 3) := by decide +kernel
theorem dX11_colour_12 : decode cX11_colour 12 = .ok (.iconst (-1), 1) := by decide +kernel
theorem dX11_colour_13 : decode cX11_colour 13 = .ok (.ireturn, 1) := by decide +kernel
theorem dX11_colour_14 : decode cX11_colour 14 = .ok (.aload_n 0, 1) := by decide +kernel
theorem dX11_colour_15 : decode cX11_colour 15 = .ok (.aload_n 0, 1) := by decide +kernel
theorem dX11_colour_16 : decode cX11_colour 16 = .ok (.getfield 9, 3) := by decide +kernel
theorem dX11_colour_19 : decode cX11_colour 19 = .ok (.invokevirtual 245, 3) := by decide +kernel
theorem dX11_colour_22 : decode cX11_colour 22 = .ok (.aload_n 0, 1) := by decide +kernel
theorem dX11_colour_23 : decode cX11_colour 23 = .ok (.iload_n 1, 1) := by decide +kernel
theorem dX11_colour_24 : decode cX11_colour 24 = .ok (.aload_n 0, 1) := by decide +kernel
theorem dX11_colour_25 : decode cX11_colour 25 = .ok (.getfield 27, 3) := by decide +kernel
theorem dX11_colour_28 : decode cX11_colour 28 = .ok (.iconst 0, 1) := by decide +kernel
theorem dX11_colour_29 : decode cX11_colour 29 = .ok (.invokevirtual 252, 3) := by decide +kernel
theorem dX11_colour_32 : decode cX11_colour 32 = .ok (.aload_n 0, 1) := by decide +kernel
theorem dX11_colour_33 : decode cX11_colour 33 = .ok (.iconst 0, 1) := by decide +kernel
theorem dX11_colour_34 : decode cX11_colour 34 = .ok (.putfield 109, 3) := by decide +kernel
theorem dX11_colour_37 : decode cX11_colour 37 = .ok (.iconst 0, 1) := by decide +kernel
theorem dX11_colour_38 : decode cX11_colour 38 = .ok (.istore_n 2, 1) := by decide +kernel
theorem dX11_colour_39 : decode cX11_colour 39 = .ok (.iload_n 2, 1) := by decide +kernel
theorem dX11_colour_40 : decode cX11_colour 40 = .ok (.iconst 3, 1) := by decide +kernel
theorem dX11_colour_41 : decode cX11_colour 41 = .ok (.if_icmp .ge 20, 3) := by decide +kernel
theorem dX11_colour_44 : decode cX11_colour 44 = .ok (.aload_n 0, 1) := by decide +kernel
theorem dX11_colour_45 : decode cX11_colour 45 = .ok (.aload_n 0, 1) := by decide +kernel
theorem dX11_colour_46 : decode cX11_colour 46 = .ok (.getfield 27, 3) := by decide +kernel
theorem dX11_colour_49 : decode cX11_colour 49 = .ok (.iload_n 2, 1) := by decide +kernel
theorem dX11_colour_50 : decode cX11_colour 50 = .ok (.iaload, 1) := by decide +kernel
theorem dX11_colour_51 : decode cX11_colour 51 = .ok (.i2l, 1) := by decide +kernel
theorem dX11_colour_52 : decode cX11_colour 52 = .ok (.invokevirtual 273, 3) := by decide +kernel
theorem dX11_colour_55 : decode cX11_colour 55 = .ok (.iinc 2 1, 3) := by decide +kernel
theorem dX11_colour_58 : decode cX11_colour 58 = .ok (.goto (-19), 3) := by decide +kernel
theorem dX11_colour_61 : decode cX11_colour 61 = .ok (.iload_n 1, 1) := by decide +kernel
theorem dX11_colour_62 : decode cX11_colour 62 = .ok (.invokestatic 259, 3) := by decide +kernel
theorem dX11_colour_65 : decode cX11_colour 65 = .ok (.ireturn, 1) := by decide +kernel
theorem dX11_take_0 : decode cX11_take 0 = .ok (.iconst 0, 1) := by decide +kernel
theorem dX11_take_1 : decode cX11_take 1 = .ok (.istore_n 2, 1) := by decide +kernel
theorem dX11_take_2 : decode cX11_take 2 = .ok (.iload_n 2, 1) := by decide +kernel
theorem dX11_take_3 : decode cX11_take 3 = .ok (.iconst 4, 1) := by decide +kernel
theorem dX11_take_4 : decode cX11_take 4 = .ok (.if_icmp .ge 20, 3) := by decide +kernel
theorem dX11_take_7 : decode cX11_take 7 = .ok (.aload_n 0, 1) := by decide +kernel
theorem dX11_take_8 : decode cX11_take 8 = .ok (.getfield 42, 3) := by decide +kernel
theorem dX11_take_11 : decode cX11_take 11 = .ok (.iload_n 2, 1) := by decide +kernel
theorem dX11_take_12 : decode cX11_take 12 = .ok (.iload_n 1, 1) := by decide +kernel
theorem dX11_take_13 : decode cX11_take 13 = .ok (.iload_n 2, 1) := by decide +kernel
theorem dX11_take_14 : decode cX11_take 14 = .ok (.invokestatic 119, 3) := by decide +kernel
theorem dX11_take_17 : decode cX11_take 17 = .ok (.iastore, 1) := by decide +kernel
theorem dX11_take_18 : decode cX11_take 18 = .ok (.iinc 2 1, 3) := by decide +kernel
theorem dX11_take_21 : decode cX11_take 21 = .ok (.goto (-19), 3) := by decide +kernel
theorem dX11_take_24 : decode cX11_take 24 = .ok (.return_, 1) := by decide +kernel
theorem dX11_codeNow_0 : decode cX11_codeNow 0 = .ok (.sipush 1000, 3) := by decide +kernel
theorem dX11_codeNow_3 : decode cX11_codeNow 3 = .ok (.aload_n 0, 1) := by decide +kernel
theorem dX11_codeNow_4 : decode cX11_codeNow 4 = .ok (.getfield 42, 3) := by decide +kernel
theorem dX11_codeNow_7 : decode cX11_codeNow 7 = .ok (.iconst 0, 1) := by decide +kernel
theorem dX11_codeNow_8 : decode cX11_codeNow 8 = .ok (.iaload, 1) := by decide +kernel
theorem dX11_codeNow_9 : decode cX11_codeNow 9 = .ok (.imul, 1) := by decide +kernel
theorem dX11_codeNow_10 : decode cX11_codeNow 10 = .ok (.bipush 100, 2) := by decide +kernel
theorem dX11_codeNow_12 : decode cX11_codeNow 12 = .ok (.aload_n 0, 1) := by decide +kernel
theorem dX11_codeNow_13 : decode cX11_codeNow 13 = .ok (.getfield 42, 3) := by decide +kernel
theorem dX11_codeNow_16 : decode cX11_codeNow 16 = .ok (.iconst 1, 1) := by decide +kernel
theorem dX11_codeNow_17 : decode cX11_codeNow 17 = .ok (.iaload, 1) := by decide +kernel
theorem dX11_codeNow_18 : decode cX11_codeNow 18 = .ok (.imul, 1) := by decide +kernel
theorem dX11_codeNow_19 : decode cX11_codeNow 19 = .ok (.iadd, 1) := by decide +kernel
theorem dX11_codeNow_20 : decode cX11_codeNow 20 = .ok (.bipush 10, 2) := by decide +kernel
theorem dX11_codeNow_22 : decode cX11_codeNow 22 = .ok (.aload_n 0, 1) := by decide +kernel
theorem dX11_codeNow_23 : decode cX11_codeNow 23 = .ok (.getfield 42, 3) := by decide +kernel
theorem dX11_codeNow_26 : decode cX11_codeNow 26 = .ok (.iconst 2, 1) := by decide +kernel
theorem dX11_codeNow_27 : decode cX11_codeNow 27 = .ok (.iaload, 1) := by decide +kernel
theorem dX11_codeNow_28 : decode cX11_codeNow 28 = .ok (.imul, 1) := by decide +kernel
theorem dX11_codeNow_29 : decode cX11_codeNow 29 = .ok (.iadd, 1) := by decide +kernel
theorem dX11_codeNow_30 : decode cX11_codeNow 30 = .ok (.aload_n 0, 1) := by decide +kernel
theorem dX11_codeNow_31 : decode cX11_codeNow 31 = .ok (.getfield 42, 3) := by decide +kernel
theorem dX11_codeNow_34 : decode cX11_codeNow 34 = .ok (.iconst 3, 1) := by decide +kernel
theorem dX11_codeNow_35 : decode cX11_codeNow 35 = .ok (.iaload, 1) := by decide +kernel
theorem dX11_codeNow_36 : decode cX11_codeNow 36 = .ok (.iadd, 1) := by decide +kernel
theorem dX11_codeNow_37 : decode cX11_codeNow 37 = .ok (.ireturn, 1) := by decide +kernel
theorem dX11_limit_0 : decode cX11_limit 0 = .ok (.bipush 8, 2) := by decide +kernel
theorem dX11_limit_2 : decode cX11_limit 2 = .ok (.istore_n 2, 1) := by decide +kernel
theorem dX11_limit_3 : decode cX11_limit 3 = .ok (.iload_n 2, 1) := by decide +kernel
theorem dX11_limit_4 : decode cX11_limit 4 = .ok (.aload_n 0, 1) := by decide +kernel
theorem dX11_limit_5 : decode cX11_limit 5 = .ok (.getfield 42, 3) := by decide +kernel
theorem dX11_limit_8 : decode cX11_limit 8 = .ok (.iconst 0, 1) := by decide +kernel
theorem dX11_limit_9 : decode cX11_limit 9 = .ok (.iaload, 1) := by decide +kernel
theorem dX11_limit_10 : decode cX11_limit 10 = .ok (.invokestatic 223, 3) := by decide +kernel
theorem dX11_limit_13 : decode cX11_limit 13 = .ok (.iload_n 2, 1) := by decide +kernel
theorem dX11_limit_14 : decode cX11_limit 14 = .ok (.aload_n 0, 1) := by decide +kernel
theorem dX11_limit_15 : decode cX11_limit 15 = .ok (.getfield 42, 3) := by decide +kernel
theorem dX11_limit_18 : decode cX11_limit 18 = .ok (.iconst 1, 1) := by decide +kernel
theorem dX11_limit_19 : decode cX11_limit 19 = .ok (.iaload, 1) := by decide +kernel
theorem dX11_limit_20 : decode cX11_limit 20 = .ok (.invokestatic 223, 3) := by decide +kernel
theorem dX11_limit_23 : decode cX11_limit 23 = .ok (.iadd, 1) := by decide +kernel
theorem dX11_limit_24 : decode cX11_limit 24 = .ok (.iload_n 2, 1) := by decide +kernel
theorem dX11_limit_25 : decode cX11_limit 25 = .ok (.aload_n 0, 1) := by decide +kernel
theorem dX11_limit_26 : decode cX11_limit 26 = .ok (.getfield 42, 3) := by decide +kernel
theorem dX11_limit_29 : decode cX11_limit 29 = .ok (.iconst 2, 1) := by decide +kernel
theorem dX11_limit_30 : decode cX11_limit 30 = .ok (.iaload, 1) := by decide +kernel
theorem dX11_limit_31 : decode cX11_limit 31 = .ok (.invokestatic 223, 3) := by decide +kernel
theorem dX11_limit_34 : decode cX11_limit 34 = .ok (.iadd, 1) := by decide +kernel
theorem dX11_limit_35 : decode cX11_limit 35 = .ok (.aload_n 0, 1) := by decide +kernel
theorem dX11_limit_36 : decode cX11_limit 36 = .ok (.getfield 42, 3) := by decide +kernel
theorem dX11_limit_39 : decode cX11_limit 39 = .ok (.iconst 3, 1) := by decide +kernel
theorem dX11_limit_40 : decode cX11_limit 40 = .ok (.iaload, 1) := by decide +kernel
theorem dX11_limit_41 : decode cX11_limit 41 = .ok (.iadd, 1) := by decide +kernel
theorem dX11_limit_42 : decode cX11_limit 42 = .ok (.iload_n 1, 1) := by decide +kernel
theorem dX11_limit_43 : decode cX11_limit 43 = .ok (.if_icmp .le 9, 3) := by decide +kernel
theorem dX11_limit_46 : decode cX11_limit 46 = .ok (.iinc 2 (-1), 3) := by decide +kernel
theorem dX11_limit_49 : decode cX11_limit 49 = .ok (.goto (-46), 3) := by decide +kernel
theorem dX11_limit_52 : decode cX11_limit 52 = .ok (.iconst 0, 1) := by decide +kernel
theorem dX11_limit_53 : decode cX11_limit 53 = .ok (.istore_n 3, 1) := by decide +kernel
theorem dX11_limit_54 : decode cX11_limit 54 = .ok (.iload_n 3, 1) := by decide +kernel
theorem dX11_limit_55 : decode cX11_limit 55 = .ok (.iconst 3, 1) := by decide +kernel
theorem dX11_limit_56 : decode cX11_limit 56 = .ok (.if_icmp .ge 25, 3) := by decide +kernel
theorem dX11_limit_59 : decode cX11_limit 59 = .ok (.aload_n 0, 1) := by decide +kernel
theorem dX11_limit_60 : decode cX11_limit 60 = .ok (.getfield 42, 3) := by decide +kernel
theorem dX11_limit_63 : decode cX11_limit 63 = .ok (.iload_n 3, 1) := by decide +kernel
theorem dX11_limit_64 : decode cX11_limit 64 = .ok (.iload_n 2, 1) := by decide +kernel
theorem dX11_limit_65 : decode cX11_limit 65 = .ok (.aload_n 0, 1) := by decide +kernel
theorem dX11_limit_66 : decode cX11_limit 66 = .ok (.getfield 42, 3) := by decide +kernel
theorem dX11_limit_69 : decode cX11_limit 69 = .ok (.iload_n 3, 1) := by decide +kernel
theorem dX11_limit_70 : decode cX11_limit 70 = .ok (.iaload, 1) := by decide +kernel
theorem dX11_limit_71 : decode cX11_limit 71 = .ok (.invokestatic 223, 3) := by decide +kernel
theorem dX11_limit_74 : decode cX11_limit 74 = .ok (.iastore, 1) := by decide +kernel
theorem dX11_limit_75 : decode cX11_limit 75 = .ok (.iinc 3 1, 3) := by decide +kernel
theorem dX11_limit_78 : decode cX11_limit 78 = .ok (.goto (-24), 3) := by decide +kernel
theorem dX11_limit_81 : decode cX11_limit 81 = .ok (.return_, 1) := by decide +kernel
theorem dX11_limited_0 : decode cX11_limited 0 = .ok (.aload_n 0, 1) := by decide +kernel
theorem dX11_limited_1 : decode cX11_limited 1 = .ok (.iconst 0, 1) := by decide +kernel
theorem dX11_limited_2 : decode cX11_limited 2 = .ok (.putfield 105, 3) := by decide +kernel
theorem dX11_limited_5 : decode cX11_limited 5 = .ok (.iload_n 1, 1) := by decide +kernel
theorem dX11_limited_6 : decode cX11_limited 6 = .ok (.invokestatic 270, 3) := by decide +kernel
theorem dX11_limited_9 : decode cX11_limited 9 = .ok (.ifCond .eq 14, 3) := by decide +kernel
theorem dX11_limited_12 : decode cX11_limited 12 = .ok (.iload_n 2, 1) := by decide +kernel
theorem dX11_limited_13 : decode cX11_limited 13 = .ok (.bipush 8, 2) := by decide +kernel
theorem dX11_limited_15 : decode cX11_limited 15 = .ok (.bipush 32, 2) := by decide +kernel
theorem dX11_limited_17 : decode cX11_limited 17 = .ok (.invokestatic 112, 3) := by decide +kernel
theorem dX11_limited_20 : decode cX11_limited 20 = .ok (.ifCond .ne 5, 3) := by decide +kernel
theorem dX11_limited_23 : decode cX11_limited 23 = .ok (.iconst (-1), 1) := by decide +kernel
theorem dX11_limited_24 : decode cX11_limited 24 = .ok (.ireturn, 1) := by decide +kernel
theorem dX11_limited_25 : decode cX11_limited 25 = .ok (.aload_n 0, 1) := by decide +kernel
theorem dX11_limited_26 : decode cX11_limited 26 = .ok (.iload_n 1, 1) := by decide +kernel
theorem dX11_limited_27 : decode cX11_limited 27 = .ok (.invokevirtual 277, 3) := by decide +kernel
theorem dX11_limited_30 : decode cX11_limited 30 = .ok (.aload_n 0, 1) := by decide +kernel
theorem dX11_limited_31 : decode cX11_limited 31 = .ok (.iload_n 2, 1) := by decide +kernel
theorem dX11_limited_32 : decode cX11_limited 32 = .ok (.invokevirtual 280, 3) := by decide +kernel
theorem dX11_limited_35 : decode cX11_limited 35 = .ok (.aload_n 0, 1) := by decide +kernel
theorem dX11_limited_36 : decode cX11_limited 36 = .ok (.invokevirtual 283, 3) := by decide +kernel
theorem dX11_limited_39 : decode cX11_limited 39 = .ok (.ireturn, 1) := by decide +kernel
theorem dX11_leastOf_0 : decode cX11_leastOf 0 = .ok (.iconst (-1), 1) := by decide +kernel
theorem dX11_leastOf_1 : decode cX11_leastOf 1 = .ok (.istore 4, 2) := by decide +kernel
theorem dX11_leastOf_3 : decode cX11_leastOf 3 = .ok (.iconst 0, 1) := by decide +kernel
theorem dX11_leastOf_4 : decode cX11_leastOf 4 = .ok (.istore 5, 2) := by decide +kernel
theorem dX11_leastOf_6 : decode cX11_leastOf 6 = .ok (.iload 5, 2) := by decide +kernel
theorem dX11_leastOf_8 : decode cX11_leastOf 8 = .ok (.aload_n 0, 1) := by decide +kernel
theorem dX11_leastOf_9 : decode cX11_leastOf 9 = .ok (.getfield 249, 3) := by decide +kernel
theorem dX11_leastOf_12 : decode cX11_leastOf 12 = .ok (.if_icmp .ge 57, 3) := by decide +kernel
theorem dX11_leastOf_15 : decode cX11_leastOf 15 = .ok (.aload_n 0, 1) := by decide +kernel
theorem dX11_leastOf_16 : decode cX11_leastOf 16 = .ok (.getfield 45, 3) := by decide +kernel
theorem dX11_leastOf_19 : decode cX11_leastOf 19 = .ok (.iload 5, 2) := by decide +kernel
theorem dX11_leastOf_21 : decode cX11_leastOf 21 = .ok (.aload_n 0, 1) := by decide +kernel
theorem dX11_leastOf_22 : decode cX11_leastOf 22 = .ok (.aload_n 0, 1) := by decide +kernel
theorem dX11_leastOf_23 : decode cX11_leastOf 23 = .ok (.getfield 39, 3) := by decide +kernel
theorem dX11_leastOf_26 : decode cX11_leastOf 26 = .ok (.iload 5, 2) := by decide +kernel
theorem dX11_leastOf_28 : decode cX11_leastOf 28 = .ok (.iaload, 1) := by decide +kernel
theorem dX11_leastOf_29 : decode cX11_leastOf 29 = .ok (.iload_n 1, 1) := by decide +kernel
theorem dX11_leastOf_30 : decode cX11_leastOf 30 = .ok (.iload_n 2, 1) := by decide +kernel
theorem dX11_leastOf_31 : decode cX11_leastOf 31 = .ok (.iload_n 3, 1) := by decide +kernel
theorem dX11_leastOf_32 : decode cX11_leastOf 32 = .ok (.invokevirtual 266, 3) := by decide +kernel
theorem dX11_leastOf_35 : decode cX11_leastOf 35 = .ok (.iastore, 1) := by decide +kernel
theorem dX11_leastOf_36 : decode cX11_leastOf 36 = .ok (.iload 4, 2) := by decide +kernel
theorem dX11_leastOf_38 : decode cX11_leastOf 38 = .ok (.iconst (-1), 1) := by decide +kernel
theorem dX11_leastOf_39 : decode cX11_leastOf 39 = .ok (.if_icmp .eq 15, 3) := by decide +kernel
theorem dX11_leastOf_42 : decode cX11_leastOf 42 = .ok (.aload_n 0, 1) := by decide +kernel
theorem dX11_leastOf_43 : decode cX11_leastOf 43 = .ok (.getfield 45, 3) := by decide +kernel
theorem dX11_leastOf_46 : decode cX11_leastOf 46 = .ok (.iload 5, 2) := by decide +kernel
theorem dX11_leastOf_48 : decode cX11_leastOf 48 = .ok (.iaload, 1) := by decide +kernel
theorem dX11_leastOf_49 : decode cX11_leastOf 49 = .ok (.iload 4, 2) := by decide +kernel
theorem dX11_leastOf_51 : decode cX11_leastOf 51 = .ok (.if_icmp .ge 12, 3) := by decide +kernel
theorem dX11_leastOf_54 : decode cX11_leastOf 54 = .ok (.aload_n 0, 1) := by decide +kernel
theorem dX11_leastOf_55 : decode cX11_leastOf 55 = .ok (.getfield 45, 3) := by decide +kernel
theorem dX11_leastOf_58 : decode cX11_leastOf 58 = .ok (.iload 5, 2) := by decide +kernel
theorem dX11_leastOf_60 : decode cX11_leastOf 60 = .ok (.iaload, 1) := by decide +kernel
theorem dX11_leastOf_61 : decode cX11_leastOf 61 = .ok (.istore 4, 2) := by decide +kernel
theorem dX11_leastOf_63 : decode cX11_leastOf 63 = .ok (.iinc 5 1, 3) := by decide +kernel
theorem dX11_leastOf_66 : decode cX11_leastOf 66 = .ok (.goto (-60), 3) := by decide +kernel
theorem dX11_leastOf_69 : decode cX11_leastOf 69 = .ok (.iload 4, 2) := by decide +kernel
theorem dX11_leastOf_71 : decode cX11_leastOf 71 = .ok (.ireturn, 1) := by decide +kernel
theorem dX11_matchOf_0 : decode cX11_matchOf 0 = .ok (.aload_n 0, 1) := by decide +kernel
theorem dX11_matchOf_1 : decode cX11_matchOf 1 = .ok (.aload_n 0, 1) := by decide +kernel
theorem dX11_matchOf_2 : decode cX11_matchOf 2 = .ok (.iload_n 1, 1) := by decide +kernel
theorem dX11_matchOf_3 : decode cX11_matchOf 3 = .ok (.iload_n 2, 1) := by decide +kernel
theorem dX11_matchOf_4 : decode cX11_matchOf 4 = .ok (.iload_n 3, 1) := by decide +kernel
theorem dX11_matchOf_5 : decode cX11_matchOf 5 = .ok (.invokevirtual 286, 3) := by decide +kernel
theorem dX11_matchOf_8 : decode cX11_matchOf 8 = .ok (.putfield 290, 3) := by decide +kernel
theorem dX11_matchOf_11 : decode cX11_matchOf 11 = .ok (.aload_n 0, 1) := by decide +kernel
theorem dX11_matchOf_12 : decode cX11_matchOf 12 = .ok (.bipush 8, 2) := by decide +kernel
theorem dX11_matchOf_14 : decode cX11_matchOf 14 = .ok (.putfield 293, 3) := by decide +kernel
theorem dX11_matchOf_17 : decode cX11_matchOf 17 = .ok (.aload_n 0, 1) := by decide +kernel
theorem dX11_matchOf_18 : decode cX11_matchOf 18 = .ok (.iconst 0, 1) := by decide +kernel
theorem dX11_matchOf_19 : decode cX11_matchOf 19 = .ok (.putfield 296, 3) := by decide +kernel
theorem dX11_matchOf_22 : decode cX11_matchOf 22 = .ok (.aload_n 0, 1) := by decide +kernel
theorem dX11_matchOf_23 : decode cX11_matchOf 23 = .ok (.iconst 0, 1) := by decide +kernel
theorem dX11_matchOf_24 : decode cX11_matchOf 24 = .ok (.putfield 299, 3) := by decide +kernel
theorem dX11_matchOf_27 : decode cX11_matchOf 27 = .ok (.iconst 0, 1) := by decide +kernel
theorem dX11_matchOf_28 : decode cX11_matchOf 28 = .ok (.istore 4, 2) := by decide +kernel
theorem dX11_matchOf_30 : decode cX11_matchOf 30 = .ok (.iload 4, 2) := by decide +kernel
theorem dX11_matchOf_32 : decode cX11_matchOf 32 = .ok (.aload_n 0, 1) := by decide +kernel
theorem dX11_matchOf_33 : decode cX11_matchOf 33 = .ok (.getfield 249, 3) := by decide +kernel
theorem dX11_matchOf_36 : decode cX11_matchOf 36 = .ok (.if_icmp .ge 87, 3) := by decide +kernel
theorem dX11_matchOf_39 : decode cX11_matchOf 39 = .ok (.aload_n 0, 1) := by decide +kernel
theorem dX11_matchOf_40 : decode cX11_matchOf 40 = .ok (.getfield 45, 3) := by decide +kernel
theorem dX11_matchOf_43 : decode cX11_matchOf 43 = .ok (.iload 4, 2) := by decide +kernel
theorem dX11_matchOf_45 : decode cX11_matchOf 45 = .ok (.iaload, 1) := by decide +kernel
theorem dX11_matchOf_46 : decode cX11_matchOf 46 = .ok (.aload_n 0, 1) := by decide +kernel
theorem dX11_matchOf_47 : decode cX11_matchOf 47 = .ok (.getfield 290, 3) := by decide +kernel
theorem dX11_matchOf_50 : decode cX11_matchOf 50 = .ok (.aload_n 0, 1) := by decide +kernel
theorem dX11_matchOf_51 : decode cX11_matchOf 51 = .ok (.getfield 9, 3) := by decide +kernel
theorem dX11_matchOf_54 : decode cX11_matchOf 54 = .ok (.sipush 706, 3) := by decide +kernel
theorem dX11_matchOf_57 : decode cX11_matchOf 57 = .ok (.iaload, 1) := by decide +kernel
theorem dX11_matchOf_58 : decode cX11_matchOf 58 = .ok (.iadd, 1) := by decide +kernel
theorem dX11_matchOf_59 : decode cX11_matchOf 59 = .ok (.if_icmp .le 6, 3) := by decide +kernel
theorem dX11_matchOf_62 : decode cX11_matchOf 62 = .ok (.goto 55, 3) := by decide +kernel
theorem dX11_matchOf_65 : decode cX11_matchOf 65 = .ok (.aload_n 0, 1) := by decide +kernel
theorem dX11_matchOf_66 : decode cX11_matchOf 66 = .ok (.dup, 1) := by decide +kernel
theorem dX11_matchOf_67 : decode cX11_matchOf 67 = .ok (.getfield 299, 3) := by decide +kernel
theorem dX11_matchOf_70 : decode cX11_matchOf 70 = .ok (.iconst 1, 1) := by decide +kernel
theorem dX11_matchOf_71 : decode cX11_matchOf 71 = .ok (.iadd, 1) := by decide +kernel
theorem dX11_matchOf_72 : decode cX11_matchOf 72 = .ok (.putfield 299, 3) := by decide +kernel
theorem dX11_matchOf_75 : decode cX11_matchOf 75 = .ok (.aload_n 0, 1) := by decide +kernel
theorem dX11_matchOf_76 : decode cX11_matchOf 76 = .ok (.aload_n 0, 1) := by decide +kernel
theorem dX11_matchOf_77 : decode cX11_matchOf 77 = .ok (.getfield 293, 3) := by decide +kernel
theorem dX11_matchOf_80 : decode cX11_matchOf 80 = .ok (.aload_n 0, 1) := by decide +kernel
theorem dX11_matchOf_81 : decode cX11_matchOf 81 = .ok (.getfield 39, 3) := by decide +kernel
theorem dX11_matchOf_84 : decode cX11_matchOf 84 = .ok (.iload 4, 2) := by decide +kernel
theorem dX11_matchOf_86 : decode cX11_matchOf 86 = .ok (.iaload, 1) := by decide +kernel
theorem dX11_matchOf_87 : decode cX11_matchOf 87 = .ok (.bipush 9, 2) := by decide +kernel
theorem dX11_matchOf_89 : decode cX11_matchOf 89 = .ok (.irem, 1) := by decide +kernel
theorem dX11_matchOf_90 : decode cX11_matchOf 90 = .ok (.invokestatic 223, 3) := by decide +kernel
theorem dX11_matchOf_93 : decode cX11_matchOf 93 = .ok (.putfield 293, 3) := by decide +kernel
theorem dX11_matchOf_96 : decode cX11_matchOf 96 = .ok (.aload_n 0, 1) := by decide +kernel
theorem dX11_matchOf_97 : decode cX11_matchOf 97 = .ok (.aload_n 0, 1) := by decide +kernel
theorem dX11_matchOf_98 : decode cX11_matchOf 98 = .ok (.getfield 296, 3) := by decide +kernel
theorem dX11_matchOf_101 : decode cX11_matchOf 101 = .ok (.aload_n 0, 1) := by decide +kernel
theorem dX11_matchOf_102 : decode cX11_matchOf 102 = .ok (.getfield 39, 3) := by decide +kernel
theorem dX11_matchOf_105 : decode cX11_matchOf 105 = .ok (.iload 4, 2) := by decide +kernel
theorem dX11_matchOf_107 : decode cX11_matchOf 107 = .ok (.iaload, 1) := by decide +kernel
theorem dX11_matchOf_108 : decode cX11_matchOf 108 = .ok (.bipush 9, 2) := by decide +kernel
theorem dX11_matchOf_110 : decode cX11_matchOf 110 = .ok (.irem, 1) := by decide +kernel
theorem dX11_matchOf_111 : decode cX11_matchOf 111 = .ok (.invokestatic 239, 3) := by decide +kernel
theorem dX11_matchOf_114 : decode cX11_matchOf 114 = .ok (.putfield 296, 3) := by decide +kernel
theorem dX11_matchOf_117 : decode cX11_matchOf 117 = .ok (.iinc 4 1, 3) := by decide +kernel
theorem dX11_matchOf_120 : decode cX11_matchOf 120 = .ok (.goto (-90), 3) := by decide +kernel
theorem dX11_matchOf_123 : decode cX11_matchOf 123 = .ok (.aload_n 0, 1) := by decide +kernel
theorem dX11_matchOf_124 : decode cX11_matchOf 124 = .ok (.getfield 293, 3) := by decide +kernel
theorem dX11_matchOf_127 : decode cX11_matchOf 127 = .ok (.aload_n 0, 1) := by decide +kernel
theorem dX11_matchOf_128 : decode cX11_matchOf 128 = .ok (.getfield 296, 3) := by decide +kernel
theorem dX11_matchOf_131 : decode cX11_matchOf 131 = .ok (.aload_n 0, 1) := by decide +kernel
theorem dX11_matchOf_132 : decode cX11_matchOf 132 = .ok (.getfield 293, 3) := by decide +kernel
theorem dX11_matchOf_135 : decode cX11_matchOf 135 = .ok (.isub, 1) := by decide +kernel
theorem dX11_matchOf_136 : decode cX11_matchOf 136 = .ok (.aload_n 0, 1) := by decide +kernel
theorem dX11_matchOf_137 : decode cX11_matchOf 137 = .ok (.getfield 9, 3) := by decide +kernel
theorem dX11_matchOf_140 : decode cX11_matchOf 140 = .ok (.sipush 705, 3) := by decide +kernel
theorem dX11_matchOf_143 : decode cX11_matchOf 143 = .ok (.iaload, 1) := by decide +kernel
theorem dX11_matchOf_144 : decode cX11_matchOf 144 = .ok (.imul, 1) := by decide +kernel
theorem dX11_matchOf_145 : decode cX11_matchOf 145 = .ok (.iconst 4, 1) := by decide +kernel
theorem dX11_matchOf_146 : decode cX11_matchOf 146 = .ok (.idiv, 1) := by decide +kernel
theorem dX11_matchOf_147 : decode cX11_matchOf 147 = .ok (.iadd, 1) := by decide +kernel
theorem dX11_matchOf_148 : decode cX11_matchOf 148 = .ok (.istore 4, 2) := by decide +kernel
theorem dX11_matchOf_150 : decode cX11_matchOf 150 = .ok (.iconst (-1), 1) := by decide +kernel
theorem dX11_matchOf_151 : decode cX11_matchOf 151 = .ok (.istore 5, 2) := by decide +kernel
theorem dX11_matchOf_153 : decode cX11_matchOf 153 = .ok (.iconst 0, 1) := by decide +kernel
theorem dX11_matchOf_154 : decode cX11_matchOf 154 = .ok (.istore 6, 2) := by decide +kernel
theorem dX11_matchOf_156 : decode cX11_matchOf 156 = .ok (.iload 6, 2) := by decide +kernel
theorem dX11_matchOf_158 : decode cX11_matchOf 158 = .ok (.aload_n 0, 1) := by decide +kernel
theorem dX11_matchOf_159 : decode cX11_matchOf 159 = .ok (.getfield 249, 3) := by decide +kernel
theorem dX11_matchOf_162 : decode cX11_matchOf 162 = .ok (.if_icmp .ge 58, 3) := by decide +kernel
theorem dX11_matchOf_165 : decode cX11_matchOf 165 = .ok (.aload_n 0, 1) := by decide +kernel
theorem dX11_matchOf_166 : decode cX11_matchOf 166 = .ok (.getfield 45, 3) := by decide +kernel
theorem dX11_matchOf_169 : decode cX11_matchOf 169 = .ok (.iload 6, 2) := by decide +kernel
theorem dX11_matchOf_171 : decode cX11_matchOf 171 = .ok (.iaload, 1) := by decide +kernel
theorem dX11_matchOf_172 : decode cX11_matchOf 172 = .ok (.aload_n 0, 1) := by decide +kernel
theorem dX11_matchOf_173 : decode cX11_matchOf 173 = .ok (.getfield 290, 3) := by decide +kernel
theorem dX11_matchOf_176 : decode cX11_matchOf 176 = .ok (.aload_n 0, 1) := by decide +kernel
theorem dX11_matchOf_177 : decode cX11_matchOf 177 = .ok (.getfield 9, 3) := by decide +kernel
theorem dX11_matchOf_180 : decode cX11_matchOf 180 = .ok (.sipush 706, 3) := by decide +kernel
theorem dX11_matchOf_183 : decode cX11_matchOf 183 = .ok (.iaload, 1) := by decide +kernel
theorem dX11_matchOf_184 : decode cX11_matchOf 184 = .ok (.iadd, 1) := by decide +kernel
theorem dX11_matchOf_185 : decode cX11_matchOf 185 = .ok (.if_icmp .le 6, 3) := by decide +kernel
theorem dX11_matchOf_188 : decode cX11_matchOf 188 = .ok (.goto 26, 3) := by decide +kernel
theorem dX11_matchOf_191 : decode cX11_matchOf 191 = .ok (.iload 5, 2) := by decide +kernel
theorem dX11_matchOf_193 : decode cX11_matchOf 193 = .ok (.iconst (-1), 1) := by decide +kernel
theorem dX11_matchOf_194 : decode cX11_matchOf 194 = .ok (.if_icmp .eq 16, 3) := by decide +kernel
theorem dX11_matchOf_197 : decode cX11_matchOf 197 = .ok (.aload_n 0, 1) := by decide +kernel
theorem dX11_matchOf_198 : decode cX11_matchOf 198 = .ok (.iload 6, 2) := by decide +kernel
theorem dX11_matchOf_200 : decode cX11_matchOf 200 = .ok (.iload 5, 2) := by decide +kernel
theorem dX11_matchOf_202 : decode cX11_matchOf 202 = .ok (.iload 4, 2) := by decide +kernel
theorem dX11_matchOf_204 : decode cX11_matchOf 204 = .ok (.invokevirtual 302, 3) := by decide +kernel
theorem dX11_matchOf_207 : decode cX11_matchOf 207 = .ok (.ifCond .eq 7, 3) := by decide +kernel
theorem dX11_matchOf_210 : decode cX11_matchOf 210 = .ok (.iload 6, 2) := by decide +kernel
theorem dX11_matchOf_212 : decode cX11_matchOf 212 = .ok (.istore 5, 2) := by decide +kernel
theorem dX11_matchOf_214 : decode cX11_matchOf 214 = .ok (.iinc 6 1, 3) := by decide +kernel
theorem dX11_matchOf_217 : decode cX11_matchOf 217 = .ok (.goto (-61), 3) := by decide +kernel
theorem dX11_matchOf_220 : decode cX11_matchOf 220 = .ok (.aload_n 0, 1) := by decide +kernel
theorem dX11_matchOf_221 : decode cX11_matchOf 221 = .ok (.getfield 36, 3) := by decide +kernel
theorem dX11_matchOf_224 : decode cX11_matchOf 224 = .ok (.aload_n 0, 1) := by decide +kernel
theorem dX11_matchOf_225 : decode cX11_matchOf 225 = .ok (.getfield 39, 3) := by decide +kernel
theorem dX11_matchOf_228 : decode cX11_matchOf 228 = .ok (.iload 5, 2) := by decide +kernel
theorem dX11_matchOf_230 : decode cX11_matchOf 230 = .ok (.iaload, 1) := by decide +kernel
theorem dX11_matchOf_231 : decode cX11_matchOf 231 = .ok (.iaload, 1) := by decide +kernel
theorem dX11_matchOf_232 : decode cX11_matchOf 232 = .ok (.ireturn, 1) := by decide +kernel
theorem dX11_isBetter_0 : decode cX11_isBetter 0 = .ok (.aload_n 0, 1) := by decide +kernel
theorem dX11_isBetter_1 : decode cX11_isBetter 1 = .ok (.getfield 39, 3) := by decide +kernel
theorem dX11_isBetter_4 : decode cX11_isBetter 4 = .ok (.iload_n 1, 1) := by decide +kernel
theorem dX11_isBetter_5 : decode cX11_isBetter 5 = .ok (.iaload, 1) := by decide +kernel
theorem dX11_isBetter_6 : decode cX11_isBetter 6 = .ok (.bipush 9, 2) := by decide +kernel
theorem dX11_isBetter_8 : decode cX11_isBetter 8 = .ok (.irem, 1) := by decide +kernel
theorem dX11_isBetter_9 : decode cX11_isBetter 9 = .ok (.istore 4, 2) := by decide +kernel
theorem dX11_isBetter_11 : decode cX11_isBetter 11 = .ok (.aload_n 0, 1) := by decide +kernel
theorem dX11_isBetter_12 : decode cX11_isBetter 12 = .ok (.getfield 39, 3) := by decide +kernel
theorem dX11_isBetter_15 : decode cX11_isBetter 15 = .ok (.iload_n 2, 1) := by decide +kernel
theorem dX11_isBetter_16 : decode cX11_isBetter 16 = .ok (.iaload, 1) := by decide +kernel
theorem dX11_isBetter_17 : decode cX11_isBetter 17 = .ok (.bipush 9, 2) := by decide +kernel
theorem dX11_isBetter_19 : decode cX11_isBetter 19 = .ok (.irem, 1) := by decide +kernel
theorem dX11_isBetter_20 : decode cX11_isBetter 20 = .ok (.istore 5, 2) := by decide +kernel
theorem dX11_isBetter_22 : decode cX11_isBetter 22 = .ok (.iload 4, 2) := by decide +kernel
theorem dX11_isBetter_24 : decode cX11_isBetter 24 = .ok (.iload_n 3, 1) := by decide +kernel
theorem dX11_isBetter_25 : decode cX11_isBetter 25 = .ok (.isub, 1) := by decide +kernel
theorem dX11_isBetter_26 : decode cX11_isBetter 26 = .ok (.invokestatic 188, 3) := by decide +kernel
theorem dX11_isBetter_29 : decode cX11_isBetter 29 = .ok (.iload 5, 2) := by decide +kernel
theorem dX11_isBetter_31 : decode cX11_isBetter 31 = .ok (.iload_n 3, 1) := by decide +kernel
theorem dX11_isBetter_32 : decode cX11_isBetter 32 = .ok (.isub, 1) := by decide +kernel
theorem dX11_isBetter_33 : decode cX11_isBetter 33 = .ok (.invokestatic 188, 3) := by decide +kernel
theorem dX11_isBetter_36 : decode cX11_isBetter 36 = .ok (.isub, 1) := by decide +kernel
theorem dX11_isBetter_37 : decode cX11_isBetter 37 = .ok (.istore 6, 2) := by decide +kernel
theorem dX11_isBetter_39 : decode cX11_isBetter 39 = .ok (.iload 6, 2) := by decide +kernel
theorem dX11_isBetter_41 : decode cX11_isBetter 41 = .ok (.ifCond .ne 10, 3) := by decide +kernel
theorem dX11_isBetter_44 : decode cX11_isBetter 44 = .ok (.iload 4, 2) := by decide +kernel
theorem dX11_isBetter_46 : decode cX11_isBetter 46 = .ok (.iload 5, 2) := by decide +kernel
theorem dX11_isBetter_48 : decode cX11_isBetter 48 = .ok (.isub, 1) := by decide +kernel
theorem dX11_isBetter_49 : decode cX11_isBetter 49 = .ok (.istore 6, 2) := by decide +kernel
theorem dX11_isBetter_51 : decode cX11_isBetter 51 = .ok (.iload 6, 2) := by decide +kernel
theorem dX11_isBetter_53 : decode cX11_isBetter 53 = .ok (.ifCond .ne 18, 3) := by decide +kernel
theorem dX11_isBetter_56 : decode cX11_isBetter 56 = .ok (.aload_n 0, 1) := by decide +kernel
theorem dX11_isBetter_57 : decode cX11_isBetter 57 = .ok (.getfield 45, 3) := by decide +kernel
theorem dX11_isBetter_60 : decode cX11_isBetter 60 = .ok (.iload_n 1, 1) := by decide +kernel
theorem dX11_isBetter_61 : decode cX11_isBetter 61 = .ok (.iaload, 1) := by decide +kernel
theorem dX11_isBetter_62 : decode cX11_isBetter 62 = .ok (.aload_n 0, 1) := by decide +kernel
theorem dX11_isBetter_63 : decode cX11_isBetter 63 = .ok (.getfield 45, 3) := by decide +kernel
theorem dX11_isBetter_66 : decode cX11_isBetter 66 = .ok (.iload_n 2, 1) := by decide +kernel
theorem dX11_isBetter_67 : decode cX11_isBetter 67 = .ok (.iaload, 1) := by decide +kernel
theorem dX11_isBetter_68 : decode cX11_isBetter 68 = .ok (.isub, 1) := by decide +kernel
theorem dX11_isBetter_69 : decode cX11_isBetter 69 = .ok (.istore 6, 2) := by decide +kernel
theorem dX11_isBetter_71 : decode cX11_isBetter 71 = .ok (.iload 6, 2) := by decide +kernel
theorem dX11_isBetter_73 : decode cX11_isBetter 73 = .ok (.ifCond .ne 34, 3) := by decide +kernel
theorem dX11_isBetter_76 : decode cX11_isBetter 76 = .ok (.aload_n 0, 1) := by decide +kernel
theorem dX11_isBetter_77 : decode cX11_isBetter 77 = .ok (.getfield 36, 3) := by decide +kernel
theorem dX11_isBetter_80 : decode cX11_isBetter 80 = .ok (.aload_n 0, 1) := by decide +kernel
theorem dX11_isBetter_81 : decode cX11_isBetter 81 = .ok (.getfield 39, 3) := by decide +kernel
theorem dX11_isBetter_84 : decode cX11_isBetter 84 = .ok (.iload_n 1, 1) := by decide +kernel
theorem dX11_isBetter_85 : decode cX11_isBetter 85 = .ok (.iaload, 1) := by decide +kernel
theorem dX11_isBetter_86 : decode cX11_isBetter 86 = .ok (.iaload, 1) := by decide +kernel
theorem dX11_isBetter_87 : decode cX11_isBetter 87 = .ok (.invokestatic 259, 3) := by decide +kernel
theorem dX11_isBetter_90 : decode cX11_isBetter 90 = .ok (.aload_n 0, 1) := by decide +kernel
theorem dX11_isBetter_91 : decode cX11_isBetter 91 = .ok (.getfield 36, 3) := by decide +kernel
theorem dX11_isBetter_94 : decode cX11_isBetter 94 = .ok (.aload_n 0, 1) := by decide +kernel
theorem dX11_isBetter_95 : decode cX11_isBetter 95 = .ok (.getfield 39, 3) := by decide +kernel
theorem dX11_isBetter_98 : decode cX11_isBetter 98 = .ok (.iload_n 2, 1) := by decide +kernel
theorem dX11_isBetter_99 : decode cX11_isBetter 99 = .ok (.iaload, 1) := by decide +kernel
theorem dX11_isBetter_100 : decode cX11_isBetter 100 = .ok (.iaload, 1) := by decide +kernel
theorem dX11_isBetter_101 : decode cX11_isBetter 101 = .ok (.invokestatic 259, 3) := by decide +kernel
theorem dX11_isBetter_104 : decode cX11_isBetter 104 = .ok (.isub, 1) := by decide +kernel
theorem dX11_isBetter_105 : decode cX11_isBetter 105 = .ok (.istore 6, 2) := by decide +kernel
theorem dX11_isBetter_107 : decode cX11_isBetter 107 = .ok (.iload 6, 2) := by decide +kernel
theorem dX11_isBetter_109 : decode cX11_isBetter 109 = .ok (.ifCond .ge 7, 3) := by decide +kernel
theorem dX11_isBetter_112 : decode cX11_isBetter 112 = .ok (.iconst 1, 1) := by decide +kernel
theorem dX11_isBetter_113 : decode cX11_isBetter 113 = .ok (.goto 4, 3) := by decide +kernel
theorem dX11_isBetter_116 : decode cX11_isBetter 116 = .ok (.iconst 0, 1) := by decide +kernel
theorem dX11_isBetter_117 : decode cX11_isBetter 117 = .ok (.ireturn, 1) := by decide +kernel
theorem dX11_match_0 : decode cX11_match 0 = .ok (.aload_n 0, 1) := by decide +kernel
theorem dX11_match_1 : decode cX11_match 1 = .ok (.iconst 0, 1) := by decide +kernel
theorem dX11_match_2 : decode cX11_match 2 = .ok (.putfield 105, 3) := by decide +kernel
theorem dX11_match_5 : decode cX11_match 5 = .ok (.iload_n 1, 1) := by decide +kernel
theorem dX11_match_6 : decode cX11_match 6 = .ok (.iload_n 2, 1) := by decide +kernel
theorem dX11_match_7 : decode cX11_match 7 = .ok (.iload_n 3, 1) := by decide +kernel
theorem dX11_match_8 : decode cX11_match 8 = .ok (.invokestatic 305, 3) := by decide +kernel
theorem dX11_match_11 : decode cX11_match 11 = .ok (.ifCond .ne 5, 3) := by decide +kernel
theorem dX11_match_14 : decode cX11_match 14 = .ok (.iconst (-1), 1) := by decide +kernel
theorem dX11_match_15 : decode cX11_match 15 = .ok (.ireturn, 1) := by decide +kernel
theorem dX11_match_16 : decode cX11_match 16 = .ok (.aload_n 0, 1) := by decide +kernel
theorem dX11_match_17 : decode cX11_match 17 = .ok (.aload_n 0, 1) := by decide +kernel
theorem dX11_match_18 : decode cX11_match 18 = .ok (.getfield 9, 3) := by decide +kernel
theorem dX11_match_21 : decode cX11_match 21 = .ok (.invokevirtual 308, 3) := by decide +kernel
theorem dX11_match_24 : decode cX11_match 24 = .ok (.aload_n 0, 1) := by decide +kernel
theorem dX11_match_25 : decode cX11_match 25 = .ok (.iload_n 1, 1) := by decide +kernel
theorem dX11_match_26 : decode cX11_match 26 = .ok (.iload_n 2, 1) := by decide +kernel
theorem dX11_match_27 : decode cX11_match 27 = .ok (.iload_n 3, 1) := by decide +kernel
theorem dX11_match_28 : decode cX11_match 28 = .ok (.invokevirtual 311, 3) := by decide +kernel
theorem dX11_match_31 : decode cX11_match 31 = .ok (.istore 4, 2) := by decide +kernel
theorem dX11_match_33 : decode cX11_match 33 = .ok (.aload_n 0, 1) := by decide +kernel
theorem dX11_match_34 : decode cX11_match 34 = .ok (.iconst 0, 1) := by decide +kernel
theorem dX11_match_35 : decode cX11_match 35 = .ok (.putfield 109, 3) := by decide +kernel
theorem dX11_match_38 : decode cX11_match 38 = .ok (.aload_n 0, 1) := by decide +kernel
theorem dX11_match_39 : decode cX11_match 39 = .ok (.aload_n 0, 1) := by decide +kernel
theorem dX11_match_40 : decode cX11_match 40 = .ok (.iload 4, 2) := by decide +kernel
theorem dX11_match_42 : decode cX11_match 42 = .ok (.invokestatic 314, 3) := by decide +kernel
theorem dX11_match_45 : decode cX11_match 45 = .ok (.iload_n 1, 1) := by decide +kernel
theorem dX11_match_46 : decode cX11_match 46 = .ok (.iload_n 2, 1) := by decide +kernel
theorem dX11_match_47 : decode cX11_match 47 = .ok (.iload_n 3, 1) := by decide +kernel
theorem dX11_match_48 : decode cX11_match 48 = .ok (.invokevirtual 266, 3) := by decide +kernel
theorem dX11_match_51 : decode cX11_match 51 = .ok (.i2l, 1) := by decide +kernel
theorem dX11_match_52 : decode cX11_match 52 = .ok (.invokevirtual 273, 3) := by decide +kernel
theorem dX11_match_55 : decode cX11_match 55 = .ok (.aload_n 0, 1) := by decide +kernel
theorem dX11_match_56 : decode cX11_match 56 = .ok (.aload_n 0, 1) := by decide +kernel
theorem dX11_match_57 : decode cX11_match 57 = .ok (.getfield 293, 3) := by decide +kernel
theorem dX11_match_60 : decode cX11_match 60 = .ok (.i2l, 1) := by decide +kernel
theorem dX11_match_61 : decode cX11_match 61 = .ok (.invokevirtual 273, 3) := by decide +kernel
theorem dX11_match_64 : decode cX11_match 64 = .ok (.aload_n 0, 1) := by decide +kernel
theorem dX11_match_65 : decode cX11_match 65 = .ok (.aload_n 0, 1) := by decide +kernel
theorem dX11_match_66 : decode cX11_match 66 = .ok (.getfield 296, 3) := by decide +kernel
theorem dX11_match_69 : decode cX11_match 69 = .ok (.i2l, 1) := by decide +kernel
theorem dX11_match_70 : decode cX11_match 70 = .ok (.invokevirtual 273, 3) := by decide +kernel
theorem dX11_match_73 : decode cX11_match 73 = .ok (.aload_n 0, 1) := by decide +kernel
theorem dX11_match_74 : decode cX11_match 74 = .ok (.aload_n 0, 1) := by decide +kernel
theorem dX11_match_75 : decode cX11_match 75 = .ok (.getfield 299, 3) := by decide +kernel
theorem dX11_match_78 : decode cX11_match 78 = .ok (.i2l, 1) := by decide +kernel
theorem dX11_match_79 : decode cX11_match 79 = .ok (.invokevirtual 273, 3) := by decide +kernel
theorem dX11_match_82 : decode cX11_match 82 = .ok (.iload 4, 2) := by decide +kernel
theorem dX11_match_84 : decode cX11_match 84 = .ok (.ireturn, 1) := by decide +kernel
theorem dX11_layFold_0 : decode cX11_layFold 0 = .ok (.iload_n 2, 1) := by decide +kernel
theorem dX11_layFold_1 : decode cX11_layFold 1 = .ok (.iload_n 3, 1) := by decide +kernel
theorem dX11_layFold_2 : decode cX11_layFold 2 = .ok (.iadd, 1) := by decide +kernel
theorem dX11_layFold_3 : decode cX11_layFold 3 = .ok (.iload 4, 2) := by decide +kernel
theorem dX11_layFold_5 : decode cX11_layFold 5 = .ok (.iadd, 1) := by decide +kernel
theorem dX11_layFold_6 : decode cX11_layFold 6 = .ok (.iconst 3, 1) := by decide +kernel
theorem dX11_layFold_7 : decode cX11_layFold 7 = .ok (.idiv, 1) := by decide +kernel
theorem dX11_layFold_8 : decode cX11_layFold 8 = .ok (.istore 5, 2) := by decide +kernel
theorem dX11_layFold_10 : decode cX11_layFold 10 = .ok (.aload_n 0, 1) := by decide +kernel
theorem dX11_layFold_11 : decode cX11_layFold 11 = .ok (.getfield 48, 3) := by decide +kernel
theorem dX11_layFold_14 : decode cX11_layFold 14 = .ok (.iconst 0, 1) := by decide +kernel
theorem dX11_layFold_15 : decode cX11_layFold 15 = .ok (.iload 5, 2) := by decide +kernel
theorem dX11_layFold_17 : decode cX11_layFold 17 = .ok (.iload_n 2, 1) := by decide +kernel
theorem dX11_layFold_18 : decode cX11_layFold 18 = .ok (.iload 5, 2) := by decide +kernel
theorem dX11_layFold_20 : decode cX11_layFold 20 = .ok (.isub, 1) := by decide +kernel
theorem dX11_layFold_21 : decode cX11_layFold 21 = .ok (.bipush 8, 2) := by decide +kernel
theorem dX11_layFold_23 : decode cX11_layFold 23 = .ok (.iload_n 1, 1) := by decide +kernel
theorem dX11_layFold_24 : decode cX11_layFold 24 = .ok (.isub, 1) := by decide +kernel
theorem dX11_layFold_25 : decode cX11_layFold 25 = .ok (.imul, 1) := by decide +kernel
theorem dX11_layFold_26 : decode cX11_layFold 26 = .ok (.bipush 8, 2) := by decide +kernel
theorem dX11_layFold_28 : decode cX11_layFold 28 = .ok (.idiv, 1) := by decide +kernel
theorem dX11_layFold_29 : decode cX11_layFold 29 = .ok (.iadd, 1) := by decide +kernel
theorem dX11_layFold_30 : decode cX11_layFold 30 = .ok (.iastore, 1) := by decide +kernel
theorem dX11_layFold_31 : decode cX11_layFold 31 = .ok (.aload_n 0, 1) := by decide +kernel
theorem dX11_layFold_32 : decode cX11_layFold 32 = .ok (.getfield 48, 3) := by decide +kernel
theorem dX11_layFold_35 : decode cX11_layFold 35 = .ok (.iconst 1, 1) := by decide +kernel
theorem dX11_layFold_36 : decode cX11_layFold 36 = .ok (.iload 5, 2) := by decide +kernel
theorem dX11_layFold_38 : decode cX11_layFold 38 = .ok (.iload_n 3, 1) := by decide +kernel
theorem dX11_layFold_39 : decode cX11_layFold 39 = .ok (.iload 5, 2) := by decide +kernel
theorem dX11_layFold_41 : decode cX11_layFold 41 = .ok (.isub, 1) := by decide +kernel
theorem dX11_layFold_42 : decode cX11_layFold 42 = .ok (.bipush 8, 2) := by decide +kernel
theorem dX11_layFold_44 : decode cX11_layFold 44 = .ok (.iload_n 1, 1) := by decide +kernel
theorem dX11_layFold_45 : decode cX11_layFold 45 = .ok (.isub, 1) := by decide +kernel
theorem dX11_layFold_46 : decode cX11_layFold 46 = .ok (.imul, 1) := by decide +kernel
theorem dX11_layFold_47 : decode cX11_layFold 47 = .ok (.bipush 8, 2) := by decide +kernel
theorem dX11_layFold_49 : decode cX11_layFold 49 = .ok (.idiv, 1) := by decide +kernel
theorem dX11_layFold_50 : decode cX11_layFold 50 = .ok (.iadd, 1) := by decide +kernel
theorem dX11_layFold_51 : decode cX11_layFold 51 = .ok (.iastore, 1) := by decide +kernel
theorem dX11_layFold_52 : decode cX11_layFold 52 = .ok (.aload_n 0, 1) := by decide +kernel
theorem dX11_layFold_53 : decode cX11_layFold 53 = .ok (.getfield 48, 3) := by decide +kernel
theorem dX11_layFold_56 : decode cX11_layFold 56 = .ok (.iconst 2, 1) := by decide +kernel
theorem dX11_layFold_57 : decode cX11_layFold 57 = .ok (.iload 5, 2) := by decide +kernel
theorem dX11_layFold_59 : decode cX11_layFold 59 = .ok (.iload 4, 2) := by decide +kernel
theorem dX11_layFold_61 : decode cX11_layFold 61 = .ok (.iload 5, 2) := by decide +kernel
theorem dX11_layFold_63 : decode cX11_layFold 63 = .ok (.isub, 1) := by decide +kernel
theorem dX11_layFold_64 : decode cX11_layFold 64 = .ok (.bipush 8, 2) := by decide +kernel
theorem dX11_layFold_66 : decode cX11_layFold 66 = .ok (.iload_n 1, 1) := by decide +kernel
theorem dX11_layFold_67 : decode cX11_layFold 67 = .ok (.isub, 1) := by decide +kernel
theorem dX11_layFold_68 : decode cX11_layFold 68 = .ok (.imul, 1) := by decide +kernel
theorem dX11_layFold_69 : decode cX11_layFold 69 = .ok (.bipush 8, 2) := by decide +kernel
theorem dX11_layFold_71 : decode cX11_layFold 71 = .ok (.idiv, 1) := by decide +kernel
theorem dX11_layFold_72 : decode cX11_layFold 72 = .ok (.iadd, 1) := by decide +kernel
theorem dX11_layFold_73 : decode cX11_layFold 73 = .ok (.iastore, 1) := by decide +kernel
theorem dX11_layFold_74 : decode cX11_layFold 74 = .ok (.return_, 1) := by decide +kernel
theorem dX11_foldOf_0 : decode cX11_foldOf 0 = .ok (.iconst (-1), 1) := by decide +kernel
theorem dX11_foldOf_1 : decode cX11_foldOf 1 = .ok (.istore 4, 2) := by decide +kernel
theorem dX11_foldOf_3 : decode cX11_foldOf 3 = .ok (.iconst 0, 1) := by decide +kernel
theorem dX11_foldOf_4 : decode cX11_foldOf 4 = .ok (.istore 5, 2) := by decide +kernel
theorem dX11_foldOf_6 : decode cX11_foldOf 6 = .ok (.iconst 0, 1) := by decide +kernel
theorem dX11_foldOf_7 : decode cX11_foldOf 7 = .ok (.istore 6, 2) := by decide +kernel
theorem dX11_foldOf_9 : decode cX11_foldOf 9 = .ok (.iload 6, 2) := by decide +kernel
theorem dX11_foldOf_11 : decode cX11_foldOf 11 = .ok (.bipush 8, 2) := by decide +kernel
theorem dX11_foldOf_13 : decode cX11_foldOf 13 = .ok (.if_icmp .gt 102, 3) := by decide +kernel
theorem dX11_foldOf_16 : decode cX11_foldOf 16 = .ok (.aload_n 0, 1) := by decide +kernel
theorem dX11_foldOf_17 : decode cX11_foldOf 17 = .ok (.iload 6, 2) := by decide +kernel
theorem dX11_foldOf_19 : decode cX11_foldOf 19 = .ok (.iload_n 1, 1) := by decide +kernel
theorem dX11_foldOf_20 : decode cX11_foldOf 20 = .ok (.iload_n 2, 1) := by decide +kernel
theorem dX11_foldOf_21 : decode cX11_foldOf 21 = .ok (.iload_n 3, 1) := by decide +kernel
theorem dX11_foldOf_22 : decode cX11_foldOf 22 = .ok (.invokevirtual 317, 3) := by decide +kernel
theorem dX11_foldOf_25 : decode cX11_foldOf 25 = .ok (.aload_n 0, 1) := by decide +kernel
theorem dX11_foldOf_26 : decode cX11_foldOf 26 = .ok (.aload_n 0, 1) := by decide +kernel
theorem dX11_foldOf_27 : decode cX11_foldOf 27 = .ok (.getfield 48, 3) := by decide +kernel
theorem dX11_foldOf_30 : decode cX11_foldOf 30 = .ok (.iconst 0, 1) := by decide +kernel
theorem dX11_foldOf_31 : decode cX11_foldOf 31 = .ok (.iaload, 1) := by decide +kernel
theorem dX11_foldOf_32 : decode cX11_foldOf 32 = .ok (.aload_n 0, 1) := by decide +kernel
theorem dX11_foldOf_33 : decode cX11_foldOf 33 = .ok (.getfield 48, 3) := by decide +kernel
theorem dX11_foldOf_36 : decode cX11_foldOf 36 = .ok (.iconst 1, 1) := by decide +kernel
theorem dX11_foldOf_37 : decode cX11_foldOf 37 = .ok (.iaload, 1) := by decide +kernel
theorem dX11_foldOf_38 : decode cX11_foldOf 38 = .ok (.aload_n 0, 1) := by decide +kernel
theorem dX11_foldOf_39 : decode cX11_foldOf 39 = .ok (.getfield 48, 3) := by decide +kernel
theorem dX11_foldOf_42 : decode cX11_foldOf 42 = .ok (.iconst 2, 1) := by decide +kernel
theorem dX11_foldOf_43 : decode cX11_foldOf 43 = .ok (.iaload, 1) := by decide +kernel
theorem dX11_foldOf_44 : decode cX11_foldOf 44 = .ok (.invokevirtual 286, 3) := by decide +kernel
theorem dX11_foldOf_47 : decode cX11_foldOf 47 = .ok (.istore 7, 2) := by decide +kernel
theorem dX11_foldOf_49 : decode cX11_foldOf 49 = .ok (.iload 4, 2) := by decide +kernel
theorem dX11_foldOf_51 : decode cX11_foldOf 51 = .ok (.iconst (-1), 1) := by decide +kernel
theorem dX11_foldOf_52 : decode cX11_foldOf 52 = .ok (.if_icmp .eq 10, 3) := by decide +kernel
theorem dX11_foldOf_55 : decode cX11_foldOf 55 = .ok (.iload 7, 2) := by decide +kernel
theorem dX11_foldOf_57 : decode cX11_foldOf 57 = .ok (.iload 5, 2) := by decide +kernel
theorem dX11_foldOf_59 : decode cX11_foldOf 59 = .ok (.if_icmp .ge 7, 3) := by decide +kernel
theorem dX11_foldOf_62 : decode cX11_foldOf 62 = .ok (.iconst 1, 1) := by decide +kernel
theorem dX11_foldOf_63 : decode cX11_foldOf 63 = .ok (.goto 4, 3) := by decide +kernel
theorem dX11_foldOf_66 : decode cX11_foldOf 66 = .ok (.iconst 0, 1) := by decide +kernel
theorem dX11_foldOf_67 : decode cX11_foldOf 67 = .ok (.istore 8, 2) := by decide +kernel
theorem dX11_foldOf_69 : decode cX11_foldOf 69 = .ok (.iload 8, 2) := by decide +kernel
theorem dX11_foldOf_71 : decode cX11_foldOf 71 = .ok (.ifCond .eq 11, 3) := by decide +kernel
theorem dX11_foldOf_74 : decode cX11_foldOf 74 = .ok (.iload 6, 2) := by decide +kernel
theorem dX11_foldOf_76 : decode cX11_foldOf 76 = .ok (.istore 4, 2) := by decide +kernel
theorem dX11_foldOf_78 : decode cX11_foldOf 78 = .ok (.iload 7, 2) := by decide +kernel
theorem dX11_foldOf_80 : decode cX11_foldOf 80 = .ok (.istore 5, 2) := by decide +kernel
theorem dX11_foldOf_82 : decode cX11_foldOf 82 = .ok (.iload 7, 2) := by decide +kernel
theorem dX11_foldOf_84 : decode cX11_foldOf 84 = .ok (.aload_n 0, 1) := by decide +kernel
theorem dX11_foldOf_85 : decode cX11_foldOf 85 = .ok (.getfield 9, 3) := by decide +kernel
theorem dX11_foldOf_88 : decode cX11_foldOf 88 = .ok (.sipush 706, 3) := by decide +kernel
theorem dX11_foldOf_91 : decode cX11_foldOf 91 = .ok (.iaload, 1) := by decide +kernel
theorem dX11_foldOf_92 : decode cX11_foldOf 92 = .ok (.if_icmp .le 6, 3) := by decide +kernel
theorem dX11_foldOf_95 : decode cX11_foldOf 95 = .ok (.goto 14, 3) := by decide +kernel
theorem dX11_foldOf_98 : decode cX11_foldOf 98 = .ok (.iload 6, 2) := by decide +kernel
theorem dX11_foldOf_100 : decode cX11_foldOf 100 = .ok (.istore 4, 2) := by decide +kernel
theorem dX11_foldOf_102 : decode cX11_foldOf 102 = .ok (.iload 7, 2) := by decide +kernel
theorem dX11_foldOf_104 : decode cX11_foldOf 104 = .ok (.istore 5, 2) := by decide +kernel
theorem dX11_foldOf_106 : decode cX11_foldOf 106 = .ok (.goto 9, 3) := by decide +kernel
theorem dX11_foldOf_109 : decode cX11_foldOf 109 = .ok (.iinc 6 1, 3) := by decide +kernel
theorem dX11_foldOf_112 : decode cX11_foldOf 112 = .ok (.goto (-103), 3) := by decide +kernel
theorem dX11_foldOf_115 : decode cX11_foldOf 115 = .ok (.aload_n 0, 1) := by decide +kernel
theorem dX11_foldOf_116 : decode cX11_foldOf 116 = .ok (.iload 4, 2) := by decide +kernel
theorem dX11_foldOf_118 : decode cX11_foldOf 118 = .ok (.iload_n 1, 1) := by decide +kernel
theorem dX11_foldOf_119 : decode cX11_foldOf 119 = .ok (.iload_n 2, 1) := by decide +kernel
theorem dX11_foldOf_120 : decode cX11_foldOf 120 = .ok (.iload_n 3, 1) := by decide +kernel
theorem dX11_foldOf_121 : decode cX11_foldOf 121 = .ok (.invokevirtual 317, 3) := by decide +kernel
theorem dX11_foldOf_124 : decode cX11_foldOf 124 = .ok (.aload_n 0, 1) := by decide +kernel
theorem dX11_foldOf_125 : decode cX11_foldOf 125 = .ok (.iload 5, 2) := by decide +kernel
theorem dX11_foldOf_127 : decode cX11_foldOf 127 = .ok (.putfield 320, 3) := by decide +kernel
theorem dX11_foldOf_130 : decode cX11_foldOf 130 = .ok (.iload 4, 2) := by decide +kernel
theorem dX11_foldOf_132 : decode cX11_foldOf 132 = .ok (.ireturn, 1) := by decide +kernel
theorem dX11_fold_0 : decode cX11_fold 0 = .ok (.aload_n 0, 1) := by decide +kernel
theorem dX11_fold_1 : decode cX11_fold 1 = .ok (.iconst 0, 1) := by decide +kernel
theorem dX11_fold_2 : decode cX11_fold 2 = .ok (.putfield 105, 3) := by decide +kernel
theorem dX11_fold_5 : decode cX11_fold 5 = .ok (.iload_n 1, 1) := by decide +kernel
theorem dX11_fold_6 : decode cX11_fold 6 = .ok (.iload_n 2, 1) := by decide +kernel
theorem dX11_fold_7 : decode cX11_fold 7 = .ok (.iload_n 3, 1) := by decide +kernel
theorem dX11_fold_8 : decode cX11_fold 8 = .ok (.invokestatic 305, 3) := by decide +kernel
theorem dX11_fold_11 : decode cX11_fold 11 = .ok (.ifCond .ne 5, 3) := by decide +kernel
theorem dX11_fold_14 : decode cX11_fold 14 = .ok (.iconst (-1), 1) := by decide +kernel
theorem dX11_fold_15 : decode cX11_fold 15 = .ok (.ireturn, 1) := by decide +kernel
theorem dX11_fold_16 : decode cX11_fold 16 = .ok (.aload_n 0, 1) := by decide +kernel
theorem dX11_fold_17 : decode cX11_fold 17 = .ok (.aload_n 0, 1) := by decide +kernel
theorem dX11_fold_18 : decode cX11_fold 18 = .ok (.getfield 9, 3) := by decide +kernel
theorem dX11_fold_21 : decode cX11_fold 21 = .ok (.invokevirtual 308, 3) := by decide +kernel
theorem dX11_fold_24 : decode cX11_fold 24 = .ok (.aload_n 0, 1) := by decide +kernel
theorem dX11_fold_25 : decode cX11_fold 25 = .ok (.iload_n 1, 1) := by decide +kernel
theorem dX11_fold_26 : decode cX11_fold 26 = .ok (.iload_n 2, 1) := by decide +kernel
theorem dX11_fold_27 : decode cX11_fold 27 = .ok (.iload_n 3, 1) := by decide +kernel
theorem dX11_fold_28 : decode cX11_fold 28 = .ok (.invokevirtual 323, 3) := by decide +kernel
theorem dX11_fold_31 : decode cX11_fold 31 = .ok (.istore 4, 2) := by decide +kernel
theorem dX11_fold_33 : decode cX11_fold 33 = .ok (.aload_n 0, 1) := by decide +kernel
theorem dX11_fold_34 : decode cX11_fold 34 = .ok (.iconst 0, 1) := by decide +kernel
theorem dX11_fold_35 : decode cX11_fold 35 = .ok (.putfield 109, 3) := by decide +kernel
theorem dX11_fold_38 : decode cX11_fold 38 = .ok (.iconst 0, 1) := by decide +kernel
theorem dX11_fold_39 : decode cX11_fold 39 = .ok (.istore 5, 2) := by decide +kernel
theorem dX11_fold_41 : decode cX11_fold 41 = .ok (.iload 5, 2) := by decide +kernel
theorem dX11_fold_43 : decode cX11_fold 43 = .ok (.iconst 3, 1) := by decide +kernel
theorem dX11_fold_44 : decode cX11_fold 44 = .ok (.if_icmp .ge 21, 3) := by decide +kernel
theorem dX11_fold_47 : decode cX11_fold 47 = .ok (.aload_n 0, 1) := by decide +kernel
theorem dX11_fold_48 : decode cX11_fold 48 = .ok (.aload_n 0, 1) := by decide +kernel
theorem dX11_fold_49 : decode cX11_fold 49 = .ok (.getfield 48, 3) := by decide +kernel
theorem dX11_fold_52 : decode cX11_fold 52 = .ok (.iload 5, 2) := by decide +kernel
theorem dX11_fold_54 : decode cX11_fold 54 = .ok (.iaload, 1) := by decide +kernel
theorem dX11_fold_55 : decode cX11_fold 55 = .ok (.i2l, 1) := by decide +kernel
theorem dX11_fold_56 : decode cX11_fold 56 = .ok (.invokevirtual 273, 3) := by decide +kernel
theorem dX11_fold_59 : decode cX11_fold 59 = .ok (.iinc 5 1, 3) := by decide +kernel
theorem dX11_fold_62 : decode cX11_fold 62 = .ok (.goto (-21), 3) := by decide +kernel
theorem dX11_fold_65 : decode cX11_fold 65 = .ok (.aload_n 0, 1) := by decide +kernel
theorem dX11_fold_66 : decode cX11_fold 66 = .ok (.aload_n 0, 1) := by decide +kernel
theorem dX11_fold_67 : decode cX11_fold 67 = .ok (.getfield 320, 3) := by decide +kernel
theorem dX11_fold_70 : decode cX11_fold 70 = .ok (.i2l, 1) := by decide +kernel
theorem dX11_fold_71 : decode cX11_fold 71 = .ok (.invokevirtual 273, 3) := by decide +kernel
theorem dX11_fold_74 : decode cX11_fold 74 = .ok (.iload 4, 2) := by decide +kernel
theorem dX11_fold_76 : decode cX11_fold 76 = .ok (.ireturn, 1) := by decide +kernel
theorem dX11_closing_0 : decode cX11_closing 0 = .ok (.iconst 0, 1) := by decide +kernel
theorem dX11_closing_1 : decode cX11_closing 1 = .ok (.istore_n 3, 1) := by decide +kernel
theorem dX11_closing_2 : decode cX11_closing 2 = .ok (.iload_n 2, 1) := by decide +kernel
theorem dX11_closing_3 : decode cX11_closing 3 = .ok (.istore 4, 2) := by decide +kernel
theorem dX11_closing_5 : decode cX11_closing 5 = .ok (.iload_n 3, 1) := by decide +kernel
theorem dX11_closing_6 : decode cX11_closing 6 = .ok (.ifCond .gt 14, 3) := by decide +kernel
theorem dX11_closing_9 : decode cX11_closing 9 = .ok (.aload_n 0, 1) := by decide +kernel
theorem dX11_closing_10 : decode cX11_closing 10 = .ok (.iload_n 1, 1) := by decide +kernel
theorem dX11_closing_11 : decode cX11_closing 11 = .ok (.iload 4, 2) := by decide +kernel
theorem dX11_closing_13 : decode cX11_closing 13 = .ok (.iadd, 1) := by decide +kernel
theorem dX11_closing_14 : decode cX11_closing 14 = .ok (.iaload, 1) := by decide +kernel
theorem dX11_closing_15 : decode cX11_closing 15 = .ok (.bipush 41, 2) := by decide +kernel
theorem dX11_closing_17 : decode cX11_closing 17 = .ok (.if_icmp .eq 43, 3) := by decide +kernel
theorem dX11_closing_20 : decode cX11_closing 20 = .ok (.iload_n 3, 1) := by decide +kernel
theorem dX11_closing_21 : decode cX11_closing 21 = .ok (.aload_n 0, 1) := by decide +kernel
theorem dX11_closing_22 : decode cX11_closing 22 = .ok (.iload_n 1, 1) := by decide +kernel
theorem dX11_closing_23 : decode cX11_closing 23 = .ok (.iload 4, 2) := by decide +kernel
theorem dX11_closing_25 : decode cX11_closing 25 = .ok (.iadd, 1) := by decide +kernel
theorem dX11_closing_26 : decode cX11_closing 26 = .ok (.iaload, 1) := by decide +kernel
theorem dX11_closing_27 : decode cX11_closing 27 = .ok (.bipush 40, 2) := by decide +kernel
theorem dX11_closing_29 : decode cX11_closing 29 = .ok (.if_icmp .ne 7, 3) := by decide +kernel
theorem dX11_closing_32 : decode cX11_closing 32 = .ok (.iconst 1, 1) := by decide +kernel
theorem dX11_closing_33 : decode cX11_closing 33 = .ok (.goto 19, 3) := by decide +kernel
theorem dX11_closing_36 : decode cX11_closing 36 = .ok (.aload_n 0, 1) := by decide +kernel
theorem dX11_closing_37 : decode cX11_closing 37 = .ok (.iload_n 1, 1) := by decide +kernel
theorem dX11_closing_38 : decode cX11_closing 38 = .ok (.iload 4, 2) := by decide +kernel
theorem dX11_closing_40 : decode cX11_closing 40 = .ok (.iadd, 1) := by decide +kernel
theorem dX11_closing_41 : decode cX11_closing 41 = .ok (.iaload, 1) := by decide +kernel
theorem dX11_closing_42 : decode cX11_closing 42 = .ok (.bipush 41, 2) := by decide +kernel
theorem dX11_closing_44 : decode cX11_closing 44 = .ok (.if_icmp .ne 7, 3) := by decide +kernel
theorem dX11_closing_47 : decode cX11_closing 47 = .ok (.iconst (-1), 1) := by decide +kernel
theorem dX11_closing_48 : decode cX11_closing 48 = .ok (.goto 4, 3) := by decide +kernel
theorem dX11_closing_51 : decode cX11_closing 51 = .ok (.iconst 0, 1) := by decide +kernel
theorem dX11_closing_52 : decode cX11_closing 52 = .ok (.iadd, 1) := by decide +kernel
theorem dX11_closing_53 : decode cX11_closing 53 = .ok (.istore_n 3, 1) := by decide +kernel
theorem dX11_closing_54 : decode cX11_closing 54 = .ok (.iinc 4 1, 3) := by decide +kernel
theorem dX11_closing_57 : decode cX11_closing 57 = .ok (.goto (-52), 3) := by decide +kernel
theorem dX11_closing_60 : decode cX11_closing 60 = .ok (.iload 4, 2) := by decide +kernel
theorem dX11_closing_62 : decode cX11_closing 62 = .ok (.ireturn, 1) := by decide +kernel
theorem dX11_more_0 : decode cX11_more 0 = .ok (.aload_n 0, 1) := by decide +kernel
theorem dX11_more_1 : decode cX11_more 1 = .ok (.getfield 42, 3) := by decide +kernel
theorem dX11_more_4 : decode cX11_more 4 = .ok (.iload_n 1, 1) := by decide +kernel
theorem dX11_more_5 : decode cX11_more 5 = .ok (.iconst 0, 1) := by decide +kernel
theorem dX11_more_6 : decode cX11_more 6 = .ok (.bipush 8, 2) := by decide +kernel
theorem dX11_more_8 : decode cX11_more 8 = .ok (.aload_n 0, 1) := by decide +kernel
theorem dX11_more_9 : decode cX11_more 9 = .ok (.getfield 42, 3) := by decide +kernel
theorem dX11_more_12 : decode cX11_more 12 = .ok (.iload_n 1, 1) := by decide +kernel
theorem dX11_more_13 : decode cX11_more 13 = .ok (.iaload, 1) := by decide +kernel
theorem dX11_more_14 : decode cX11_more 14 = .ok (.iload_n 2, 1) := by decide +kernel
theorem dX11_more_15 : decode cX11_more 15 = .ok (.iadd, 1) := by decide +kernel
theorem dX11_more_16 : decode cX11_more 16 = .ok (.invokestatic 223, 3) := by decide +kernel
theorem dX11_more_19 : decode cX11_more 19 = .ok (.invokestatic 239, 3) := by decide +kernel
theorem dX11_more_22 : decode cX11_more 22 = .ok (.iastore, 1) := by decide +kernel
theorem dX11_more_23 : decode cX11_more 23 = .ok (.return_, 1) := by decide +kernel
theorem dX11_goes_0 : decode cX11_goes 0 = .ok (.sipush 360, 3) := by decide +kernel
theorem dX11_goes_3 : decode cX11_goes 3 = .ok (.bipush 40, 2) := by decide +kernel
theorem dX11_goes_5 : decode cX11_goes 5 = .ok (.iload_n 1, 1) := by decide +kernel
theorem dX11_goes_6 : decode cX11_goes 6 = .ok (.imul, 1) := by decide +kernel
theorem dX11_goes_7 : decode cX11_goes 7 = .ok (.iadd, 1) := by decide +kernel
theorem dX11_goes_8 : decode cX11_goes 8 = .ok (.istore 4, 2) := by decide +kernel
theorem dX11_goes_10 : decode cX11_goes 10 = .ok (.iload_n 2, 1) := by decide +kernel
theorem dX11_goes_11 : decode cX11_goes 11 = .ok (.istore 5, 2) := by decide +kernel
theorem dX11_goes_13 : decode cX11_goes 13 = .ok (.iload 5, 2) := by decide +kernel
theorem dX11_goes_15 : decode cX11_goes 15 = .ok (.iload_n 3, 1) := by decide +kernel
theorem dX11_goes_16 : decode cX11_goes 16 = .ok (.if_icmp .ge 190, 3) := by decide +kernel
theorem dX11_goes_19 : decode cX11_goes 19 = .ok (.aload_n 0, 1) := by decide +kernel
theorem dX11_goes_20 : decode cX11_goes 20 = .ok (.getfield 9, 3) := by decide +kernel
theorem dX11_goes_23 : decode cX11_goes 23 = .ok (.iload 4, 2) := by decide +kernel
theorem dX11_goes_25 : decode cX11_goes 25 = .ok (.iload 5, 2) := by decide +kernel
theorem dX11_goes_27 : decode cX11_goes 27 = .ok (.iadd, 1) := by decide +kernel
theorem dX11_goes_28 : decode cX11_goes 28 = .ok (.iaload, 1) := by decide +kernel
theorem dX11_goes_29 : decode cX11_goes 29 = .ok (.istore 6, 2) := by decide +kernel
theorem dX11_goes_31 : decode cX11_goes 31 = .ok (.iload 6, 2) := by decide +kernel
theorem dX11_goes_33 : decode cX11_goes 33 = .ok (.invokestatic 199, 3) := by decide +kernel
theorem dX11_goes_36 : decode cX11_goes 36 = .ok (.ifCond .eq 92, 3) := by decide +kernel
theorem dX11_goes_39 : decode cX11_goes 39 = .ok (.iload 5, 2) := by decide +kernel
theorem dX11_goes_41 : decode cX11_goes 41 = .ok (.istore 7, 2) := by decide +kernel
theorem dX11_goes_43 : decode cX11_goes 43 = .ok (.aload_n 0, 1) := by decide +kernel
theorem dX11_goes_44 : decode cX11_goes 44 = .ok (.getfield 9, 3) := by decide +kernel
theorem dX11_goes_47 : decode cX11_goes 47 = .ok (.iload 4, 2) := by decide +kernel
theorem dX11_goes_49 : decode cX11_goes 49 = .ok (.iload 7, 2) := by decide +kernel
theorem dX11_goes_51 : decode cX11_goes 51 = .ok (.iadd, 1) := by decide +kernel
theorem dX11_goes_52 : decode cX11_goes 52 = .ok (.iaload, 1) := by decide +kernel
theorem dX11_goes_53 : decode cX11_goes 53 = .ok (.bipush 40, 2) := by decide +kernel
theorem dX11_goes_55 : decode cX11_goes 55 = .ok (.if_icmp .eq 9, 3) := by decide +kernel
theorem dX11_goes_58 : decode cX11_goes 58 = .ok (.iinc 7 1, 3) := by decide +kernel
theorem dX11_goes_61 : decode cX11_goes 61 = .ok (.goto (-18), 3) := by decide +kernel
theorem dX11_goes_64 : decode cX11_goes 64 = .ok (.aload_n 0, 1) := by decide +kernel
theorem dX11_goes_65 : decode cX11_goes 65 = .ok (.getfield 9, 3) := by decide +kernel
theorem dX11_goes_68 : decode cX11_goes 68 = .ok (.iload 4, 2) := by decide +kernel
theorem dX11_goes_70 : decode cX11_goes 70 = .ok (.iload 7, 2) := by decide +kernel
theorem dX11_goes_72 : decode cX11_goes 72 = .ok (.iconst 1, 1) := by decide +kernel
theorem dX11_goes_73 : decode cX11_goes 73 = .ok (.iadd, 1) := by decide +kernel
theorem dX11_goes_74 : decode cX11_goes 74 = .ok (.invokestatic 326, 3) := by decide +kernel
theorem dX11_goes_77 : decode cX11_goes 77 = .ok (.istore 8, 2) := by decide +kernel
theorem dX11_goes_79 : decode cX11_goes 79 = .ok (.aload_n 0, 1) := by decide +kernel
theorem dX11_goes_80 : decode cX11_goes 80 = .ok (.iload 6, 2) := by decide +kernel
theorem dX11_goes_82 : decode cX11_goes 82 = .ok (.iload 4, 2) := by decide +kernel
theorem dX11_goes_84 : decode cX11_goes 84 = .ok (.iload 5, 2) := by decide +kernel
theorem dX11_goes_86 : decode cX11_goes 86 = .ok (.iadd, 1) := by decide +kernel
theorem dX11_goes_87 : decode cX11_goes 87 = .ok (.invokevirtual 329, 3) := by decide +kernel
theorem dX11_goes_90 : decode cX11_goes 90 = .ok (.istore 9, 2) := by decide +kernel
theorem dX11_goes_92 : decode cX11_goes 92 = .ok (.iconst 0, 1) := by decide +kernel
theorem dX11_goes_93 : decode cX11_goes 93 = .ok (.istore 10, 2) := by decide +kernel
theorem dX11_goes_95 : decode cX11_goes 95 = .ok (.iload 10, 2) := by decide +kernel
theorem dX11_goes_97 : decode cX11_goes 97 = .ok (.iload 9, 2) := by decide +kernel
theorem dX11_goes_99 : decode cX11_goes 99 = .ok (.if_icmp .ge 20, 3) := by decide +kernel
theorem dX11_goes_102 : decode cX11_goes 102 = .ok (.aload_n 0, 1) := by decide +kernel
theorem dX11_goes_103 : decode cX11_goes 103 = .ok (.iload_n 1, 1) := by decide +kernel
theorem dX11_goes_104 : decode cX11_goes 104 = .ok (.iload 7, 2) := by decide +kernel
theorem dX11_goes_106 : decode cX11_goes 106 = .ok (.iconst 1, 1) := by decide +kernel
theorem dX11_goes_107 : decode cX11_goes 107 = .ok (.iadd, 1) := by decide +kernel
theorem dX11_goes_108 : decode cX11_goes 108 = .ok (.iload 8, 2) := by decide +kernel
theorem dX11_goes_110 : decode cX11_goes 110 = .ok (.invokevirtual 332, 3) := by decide +kernel
theorem dX11_goes_113 : decode cX11_goes 113 = .ok (.iinc 10 1, 3) := by decide +kernel
theorem dX11_goes_116 : decode cX11_goes 116 = .ok (.goto (-21), 3) := by decide +kernel
theorem dX11_goes_119 : decode cX11_goes 119 = .ok (.iload 8, 2) := by decide +kernel
theorem dX11_goes_121 : decode cX11_goes 121 = .ok (.iconst 1, 1) := by decide +kernel
theorem dX11_goes_122 : decode cX11_goes 122 = .ok (.iadd, 1) := by decide +kernel
theorem dX11_goes_123 : decode cX11_goes 123 = .ok (.istore 5, 2) := by decide +kernel
theorem dX11_goes_125 : decode cX11_goes 125 = .ok (.goto (-112), 3) := by decide +kernel
theorem dX11_goes_128 : decode cX11_goes 128 = .ok (.aload_n 0, 1) := by decide +kernel
theorem dX11_goes_129 : decode cX11_goes 129 = .ok (.iload 6, 2) := by decide +kernel
theorem dX11_goes_131 : decode cX11_goes 131 = .ok (.iload_n 1, 1) := by decide +kernel
theorem dX11_goes_132 : decode cX11_goes 132 = .ok (.iload 4, 2) := by decide +kernel
theorem dX11_goes_134 : decode cX11_goes 134 = .ok (.iload 5, 2) := by decide +kernel
theorem dX11_goes_136 : decode cX11_goes 136 = .ok (.iadd, 1) := by decide +kernel
theorem dX11_goes_137 : decode cX11_goes 137 = .ok (.invokevirtual 336, 3) := by decide +kernel
theorem dX11_goes_140 : decode cX11_goes 140 = .ok (.iload 5, 2) := by decide +kernel
theorem dX11_goes_142 : decode cX11_goes 142 = .ok (.iload 6, 2) := by decide +kernel
theorem dX11_goes_144 : decode cX11_goes 144 = .ok (.bipush 103, 2) := by decide +kernel
theorem dX11_goes_146 : decode cX11_goes 146 = .ok (.if_icmp .eq 17, 3) := by decide +kernel
theorem dX11_goes_149 : decode cX11_goes 149 = .ok (.iload 6, 2) := by decide +kernel
theorem dX11_goes_151 : decode cX11_goes 151 = .ok (.bipush 117, 2) := by decide +kernel
theorem dX11_goes_153 : decode cX11_goes 153 = .ok (.if_icmp .eq 10, 3) := by decide +kernel
theorem dX11_goes_156 : decode cX11_goes 156 = .ok (.iload 6, 2) := by decide +kernel
theorem dX11_goes_158 : decode cX11_goes 158 = .ok (.bipush 104, 2) := by decide +kernel
theorem dX11_goes_160 : decode cX11_goes 160 = .ok (.if_icmp .ne 7, 3) := by decide +kernel
theorem dX11_goes_163 : decode cX11_goes 163 = .ok (.iconst 2, 1) := by decide +kernel
theorem dX11_goes_164 : decode cX11_goes 164 = .ok (.goto 36, 3) := by decide +kernel
theorem dX11_goes_167 : decode cX11_goes 167 = .ok (.iload 6, 2) := by decide +kernel
theorem dX11_goes_169 : decode cX11_goes 169 = .ok (.bipush 97, 2) := by decide +kernel
theorem dX11_goes_171 : decode cX11_goes 171 = .ok (.if_icmp .eq 24, 3) := by decide +kernel
theorem dX11_goes_174 : decode cX11_goes 174 = .ok (.iload 6, 2) := by decide +kernel
theorem dX11_goes_176 : decode cX11_goes 176 = .ok (.bipush 115, 2) := by decide +kernel
theorem dX11_goes_178 : decode cX11_goes 178 = .ok (.if_icmp .eq 17, 3) := by decide +kernel
theorem dX11_goes_181 : decode cX11_goes 181 = .ok (.iload 6, 2) := by decide +kernel
theorem dX11_goes_183 : decode cX11_goes 183 = .ok (.bipush 119, 2) := by decide +kernel
theorem dX11_goes_185 : decode cX11_goes 185 = .ok (.if_icmp .eq 10, 3) := by decide +kernel
theorem dX11_goes_188 : decode cX11_goes 188 = .ok (.iload 6, 2) := by decide +kernel
theorem dX11_goes_190 : decode cX11_goes 190 = .ok (.bipush 120, 2) := by decide +kernel
theorem dX11_goes_192 : decode cX11_goes 192 = .ok (.if_icmp .ne 7, 3) := by decide +kernel
theorem dX11_goes_195 : decode cX11_goes 195 = .ok (.iconst 3, 1) := by decide +kernel
theorem dX11_goes_196 : decode cX11_goes 196 = .ok (.goto 4, 3) := by decide +kernel
theorem dX11_goes_199 : decode cX11_goes 199 = .ok (.iconst 1, 1) := by decide +kernel
theorem dX11_goes_200 : decode cX11_goes 200 = .ok (.iadd, 1) := by decide +kernel
theorem dX11_goes_201 : decode cX11_goes 201 = .ok (.istore 5, 2) := by decide +kernel
theorem dX11_goes_203 : decode cX11_goes 203 = .ok (.goto (-190), 3) := by decide +kernel
theorem dX11_goes_206 : decode cX11_goes 206 = .ok (.return_, 1) := by decide +kernel
theorem dX11_timesOf_0 : decode cX11_timesOf 0 = .ok (.iload_n 1, 1) := by decide +kernel
theorem dX11_timesOf_1 : decode cX11_timesOf 1 = .ok (.bipush 110, 2) := by decide +kernel
theorem dX11_timesOf_3 : decode cX11_timesOf 3 = .ok (.if_icmp .ne 15, 3) := by decide +kernel
theorem dX11_timesOf_6 : decode cX11_timesOf 6 = .ok (.aload_n 0, 1) := by decide +kernel
theorem dX11_timesOf_7 : decode cX11_timesOf 7 = .ok (.getfield 9, 3) := by decide +kernel
theorem dX11_timesOf_10 : decode cX11_timesOf 10 = .ok (.iload_n 2, 1) := by decide +kernel
theorem dX11_timesOf_11 : decode cX11_timesOf 11 = .ok (.iconst 1, 1) := by decide +kernel
theorem dX11_timesOf_12 : decode cX11_timesOf 12 = .ok (.iadd, 1) := by decide +kernel
theorem dX11_timesOf_13 : decode cX11_timesOf 13 = .ok (.iaload, 1) := by decide +kernel
theorem dX11_timesOf_14 : decode cX11_timesOf 14 = .ok (.bipush 48, 2) := by decide +kernel
theorem dX11_timesOf_16 : decode cX11_timesOf 16 = .ok (.isub, 1) := by decide +kernel
theorem dX11_timesOf_17 : decode cX11_timesOf 17 = .ok (.ireturn, 1) := by decide +kernel
theorem dX11_timesOf_18 : decode cX11_timesOf 18 = .ok (.aload_n 0, 1) := by decide +kernel
theorem dX11_timesOf_19 : decode cX11_timesOf 19 = .ok (.getfield 42, 3) := by decide +kernel
theorem dX11_timesOf_22 : decode cX11_timesOf 22 = .ok (.aload_n 0, 1) := by decide +kernel
theorem dX11_timesOf_23 : decode cX11_timesOf 23 = .ok (.getfield 9, 3) := by decide +kernel
theorem dX11_timesOf_26 : decode cX11_timesOf 26 = .ok (.iload_n 2, 1) := by decide +kernel
theorem dX11_timesOf_27 : decode cX11_timesOf 27 = .ok (.iconst 1, 1) := by decide +kernel
theorem dX11_timesOf_28 : decode cX11_timesOf 28 = .ok (.iadd, 1) := by decide +kernel
theorem dX11_timesOf_29 : decode cX11_timesOf 29 = .ok (.iaload, 1) := by decide +kernel
theorem dX11_timesOf_30 : decode cX11_timesOf 30 = .ok (.invokestatic 156, 3) := by decide +kernel
theorem dX11_timesOf_33 : decode cX11_timesOf 33 = .ok (.iaload, 1) := by decide +kernel
theorem dX11_timesOf_34 : decode cX11_timesOf 34 = .ok (.istore_n 3, 1) := by decide +kernel
theorem dX11_timesOf_35 : decode cX11_timesOf 35 = .ok (.iload_n 1, 1) := by decide +kernel
theorem dX11_timesOf_36 : decode cX11_timesOf 36 = .ok (.bipush 111, 2) := by decide +kernel
theorem dX11_timesOf_38 : decode cX11_timesOf 38 = .ok (.if_icmp .ne 5, 3) := by decide +kernel
theorem dX11_timesOf_41 : decode cX11_timesOf 41 = .ok (.iload_n 3, 1) := by decide +kernel
theorem dX11_timesOf_42 : decode cX11_timesOf 42 = .ok (.ireturn, 1) := by decide +kernel
theorem dX11_timesOf_43 : decode cX11_timesOf 43 = .ok (.iload_n 1, 1) := by decide +kernel
theorem dX11_timesOf_44 : decode cX11_timesOf 44 = .ok (.bipush 105, 2) := by decide +kernel
theorem dX11_timesOf_46 : decode cX11_timesOf 46 = .ok (.if_icmp .ne 17, 3) := by decide +kernel
theorem dX11_timesOf_49 : decode cX11_timesOf 49 = .ok (.aload_n 0, 1) := by decide +kernel
theorem dX11_timesOf_50 : decode cX11_timesOf 50 = .ok (.getfield 9, 3) := by decide +kernel
theorem dX11_timesOf_53 : decode cX11_timesOf 53 = .ok (.iload_n 2, 1) := by decide +kernel
theorem dX11_timesOf_54 : decode cX11_timesOf 54 = .ok (.iconst 2, 1) := by decide +kernel
theorem dX11_timesOf_55 : decode cX11_timesOf 55 = .ok (.iadd, 1) := by decide +kernel
theorem dX11_timesOf_56 : decode cX11_timesOf 56 = .ok (.iaload, 1) := by decide +kernel
theorem dX11_timesOf_57 : decode cX11_timesOf 57 = .ok (.bipush 48, 2) := by decide +kernel
theorem dX11_timesOf_59 : decode cX11_timesOf 59 = .ok (.isub, 1) := by decide +kernel
theorem dX11_timesOf_60 : decode cX11_timesOf 60 = .ok (.goto 19, 3) := by decide +kernel
theorem dX11_timesOf_63 : decode cX11_timesOf 63 = .ok (.aload_n 0, 1) := by decide +kernel
theorem dX11_timesOf_64 : decode cX11_timesOf 64 = .ok (.getfield 42, 3) := by decide +kernel
theorem dX11_timesOf_67 : decode cX11_timesOf 67 = .ok (.aload_n 0, 1) := by decide +kernel
theorem dX11_timesOf_68 : decode cX11_timesOf 68 = .ok (.getfield 9, 3) := by decide +kernel
theorem dX11_timesOf_71 : decode cX11_timesOf 71 = .ok (.iload_n 2, 1) := by decide +kernel
theorem dX11_timesOf_72 : decode cX11_timesOf 72 = .ok (.iconst 2, 1) := by decide +kernel
theorem dX11_timesOf_73 : decode cX11_timesOf 73 = .ok (.iadd, 1) := by decide +kernel
theorem dX11_timesOf_74 : decode cX11_timesOf 74 = .ok (.iaload, 1) := by decide +kernel
theorem dX11_timesOf_75 : decode cX11_timesOf 75 = .ok (.invokestatic 156, 3) := by decide +kernel
theorem dX11_timesOf_78 : decode cX11_timesOf 78 = .ok (.iaload, 1) := by decide +kernel
theorem dX11_timesOf_79 : decode cX11_timesOf 79 = .ok (.istore 4, 2) := by decide +kernel
theorem dX11_timesOf_81 : decode cX11_timesOf 81 = .ok (.iload_n 3, 1) := by decide +kernel
theorem dX11_timesOf_82 : decode cX11_timesOf 82 = .ok (.iload 4, 2) := by decide +kernel
theorem dX11_timesOf_84 : decode cX11_timesOf 84 = .ok (.if_icmp .le 7, 3) := by decide +kernel
theorem dX11_timesOf_87 : decode cX11_timesOf 87 = .ok (.iconst 1, 1) := by decide +kernel
theorem dX11_timesOf_88 : decode cX11_timesOf 88 = .ok (.goto 4, 3) := by decide +kernel
theorem dX11_timesOf_91 : decode cX11_timesOf 91 = .ok (.iconst 0, 1) := by decide +kernel
theorem dX11_timesOf_92 : decode cX11_timesOf 92 = .ok (.ireturn, 1) := by decide +kernel
theorem dX11_does_0 : decode cX11_does 0 = .ok (.iload_n 1, 1) := by decide +kernel
theorem dX11_does_1 : decode cX11_does 1 = .ok (.lookupswitch 257 #[(103, 115), (108, 51), (112, 230), (117, 173), (118, 68)], 51) := by decide +kernel
theorem dX11_does_52 : decode cX11_does 52 = .ok (.aload_n 0, 1) := by decide +kernel
theorem dX11_does_53 : decode cX11_does 53 = .ok (.aload_n 0, 1) := by decide +kernel
theorem dX11_does_54 : decode cX11_does 54 = .ok (.getfield 9, 3) := by decide +kernel
theorem dX11_does_57 : decode cX11_does 57 = .ok (.sipush 606, 3) := by decide +kernel
theorem dX11_does_60 : decode cX11_does 60 = .ok (.iload_n 2, 1) := by decide +kernel
theorem dX11_does_61 : decode cX11_does 61 = .ok (.iadd, 1) := by decide +kernel
theorem dX11_does_62 : decode cX11_does 62 = .ok (.iaload, 1) := by decide +kernel
theorem dX11_does_63 : decode cX11_does 63 = .ok (.invokevirtual 280, 3) := by decide +kernel
theorem dX11_does_66 : decode cX11_does 66 = .ok (.goto 209, 3) := by decide +kernel
theorem dX11_does_69 : decode cX11_does 69 = .ok (.iconst 0, 1) := by decide +kernel
theorem dX11_does_70 : decode cX11_does 70 = .ok (.istore 4, 2) := by decide +kernel
theorem dX11_does_72 : decode cX11_does 72 = .ok (.iload 4, 2) := by decide +kernel
theorem dX11_does_74 : decode cX11_does 74 = .ok (.iconst 4, 1) := by decide +kernel
theorem dX11_does_75 : decode cX11_does 75 = .ok (.if_icmp .ge 38, 3) := by decide +kernel
theorem dX11_does_78 : decode cX11_does 78 = .ok (.aload_n 0, 1) := by decide +kernel
theorem dX11_does_79 : decode cX11_does 79 = .ok (.getfield 42, 3) := by decide +kernel
theorem dX11_does_82 : decode cX11_does 82 = .ok (.iload 4, 2) := by decide +kernel
theorem dX11_does_84 : decode cX11_does 84 = .ok (.aload_n 0, 1) := by decide +kernel
theorem dX11_does_85 : decode cX11_does 85 = .ok (.getfield 9, 3) := by decide +kernel
theorem dX11_does_88 : decode cX11_does 88 = .ok (.sipush 324, 3) := by decide +kernel
theorem dX11_does_91 : decode cX11_does 91 = .ok (.bipush 9, 2) := by decide +kernel
theorem dX11_does_93 : decode cX11_does 93 = .ok (.iload 4, 2) := by decide +kernel
theorem dX11_does_95 : decode cX11_does 95 = .ok (.imul, 1) := by decide +kernel
theorem dX11_does_96 : decode cX11_does 96 = .ok (.iadd, 1) := by decide +kernel
theorem dX11_does_97 : decode cX11_does 97 = .ok (.aload_n 0, 1) := by decide +kernel
theorem dX11_does_98 : decode cX11_does 98 = .ok (.getfield 42, 3) := by decide +kernel
theorem dX11_does_101 : decode cX11_does 101 = .ok (.iload 4, 2) := by decide +kernel
theorem dX11_does_103 : decode cX11_does 103 = .ok (.iaload, 1) := by decide +kernel
theorem dX11_does_104 : decode cX11_does 104 = .ok (.iadd, 1) := by decide +kernel
theorem dX11_does_105 : decode cX11_does 105 = .ok (.iaload, 1) := by decide +kernel
theorem dX11_does_106 : decode cX11_does 106 = .ok (.iastore, 1) := by decide +kernel
theorem dX11_does_107 : decode cX11_does 107 = .ok (.iinc 4 1, 3) := by decide +kernel
theorem dX11_does_110 : decode cX11_does 110 = .ok (.goto (-38), 3) := by decide +kernel
theorem dX11_does_113 : decode cX11_does 113 = .ok (.goto 162, 3) := by decide +kernel
theorem dX11_does_116 : decode cX11_does 116 = .ok (.aload_n 0, 1) := by decide +kernel
theorem dX11_does_117 : decode cX11_does 117 = .ok (.aload_n 0, 1) := by decide +kernel
theorem dX11_does_118 : decode cX11_does 118 = .ok (.getfield 42, 3) := by decide +kernel
theorem dX11_does_121 : decode cX11_does 121 = .ok (.iconst 0, 1) := by decide +kernel
theorem dX11_does_122 : decode cX11_does 122 = .ok (.iaload, 1) := by decide +kernel
theorem dX11_does_123 : decode cX11_does 123 = .ok (.aload_n 0, 1) := by decide +kernel
theorem dX11_does_124 : decode cX11_does 124 = .ok (.getfield 42, 3) := by decide +kernel
theorem dX11_does_127 : decode cX11_does 127 = .ok (.iconst 1, 1) := by decide +kernel
theorem dX11_does_128 : decode cX11_does 128 = .ok (.iaload, 1) := by decide +kernel
theorem dX11_does_129 : decode cX11_does 129 = .ok (.aload_n 0, 1) := by decide +kernel
theorem dX11_does_130 : decode cX11_does 130 = .ok (.getfield 42, 3) := by decide +kernel
theorem dX11_does_133 : decode cX11_does 133 = .ok (.iconst 2, 1) := by decide +kernel
theorem dX11_does_134 : decode cX11_does 134 = .ok (.iaload, 1) := by decide +kernel
theorem dX11_does_135 : decode cX11_does 135 = .ok (.invokestatic 223, 3) := by decide +kernel
theorem dX11_does_138 : decode cX11_does 138 = .ok (.invokestatic 223, 3) := by decide +kernel
theorem dX11_does_141 : decode cX11_does 141 = .ok (.aload_n 0, 1) := by decide +kernel
theorem dX11_does_142 : decode cX11_does 142 = .ok (.getfield 9, 3) := by decide +kernel
theorem dX11_does_145 : decode cX11_does 145 = .ok (.iload_n 3, 1) := by decide +kernel
theorem dX11_does_146 : decode cX11_does 146 = .ok (.iconst 1, 1) := by decide +kernel
theorem dX11_does_147 : decode cX11_does 147 = .ok (.iadd, 1) := by decide +kernel
theorem dX11_does_148 : decode cX11_does 148 = .ok (.iaload, 1) := by decide +kernel
theorem dX11_does_149 : decode cX11_does 149 = .ok (.bipush 48, 2) := by decide +kernel
theorem dX11_does_151 : decode cX11_does 151 = .ok (.isub, 1) := by decide +kernel
theorem dX11_does_152 : decode cX11_does 152 = .ok (.imul, 1) := by decide +kernel
theorem dX11_does_153 : decode cX11_does 153 = .ok (.iconst 4, 1) := by decide +kernel
theorem dX11_does_154 : decode cX11_does 154 = .ok (.idiv, 1) := by decide +kernel
theorem dX11_does_155 : decode cX11_does 155 = .ok (.bipush 8, 2) := by decide +kernel
theorem dX11_does_157 : decode cX11_does 157 = .ok (.aload_n 0, 1) := by decide +kernel
theorem dX11_does_158 : decode cX11_does 158 = .ok (.getfield 42, 3) := by decide +kernel
theorem dX11_does_161 : decode cX11_does 161 = .ok (.iconst 3, 1) := by decide +kernel
theorem dX11_does_162 : decode cX11_does 162 = .ok (.iaload, 1) := by decide +kernel
theorem dX11_does_163 : decode cX11_does 163 = .ok (.isub, 1) := by decide +kernel
theorem dX11_does_164 : decode cX11_does 164 = .ok (.invokestatic 223, 3) := by decide +kernel
theorem dX11_does_167 : decode cX11_does 167 = .ok (.ineg, 1) := by decide +kernel
theorem dX11_does_168 : decode cX11_does 168 = .ok (.invokevirtual 339, 3) := by decide +kernel
theorem dX11_does_171 : decode cX11_does 171 = .ok (.goto 104, 3) := by decide +kernel
theorem dX11_does_174 : decode cX11_does 174 = .ok (.aload_n 0, 1) := by decide +kernel
theorem dX11_does_175 : decode cX11_does 175 = .ok (.aload_n 0, 1) := by decide +kernel
theorem dX11_does_176 : decode cX11_does 176 = .ok (.getfield 9, 3) := by decide +kernel
theorem dX11_does_179 : decode cX11_does 179 = .ok (.iload_n 3, 1) := by decide +kernel
theorem dX11_does_180 : decode cX11_does 180 = .ok (.iconst 1, 1) := by decide +kernel
theorem dX11_does_181 : decode cX11_does 181 = .ok (.iadd, 1) := by decide +kernel
theorem dX11_does_182 : decode cX11_does 182 = .ok (.iaload, 1) := by decide +kernel
theorem dX11_does_183 : decode cX11_does 183 = .ok (.bipush 48, 2) := by decide +kernel
theorem dX11_does_185 : decode cX11_does 185 = .ok (.isub, 1) := by decide +kernel
theorem dX11_does_186 : decode cX11_does 186 = .ok (.aload_n 0, 1) := by decide +kernel
theorem dX11_does_187 : decode cX11_does 187 = .ok (.getfield 42, 3) := by decide +kernel
theorem dX11_does_190 : decode cX11_does 190 = .ok (.iconst 3, 1) := by decide +kernel
theorem dX11_does_191 : decode cX11_does 191 = .ok (.iaload, 1) := by decide +kernel
theorem dX11_does_192 : decode cX11_does 192 = .ok (.bipush 8, 2) := by decide +kernel
theorem dX11_does_194 : decode cX11_does 194 = .ok (.aload_n 0, 1) := by decide +kernel
theorem dX11_does_195 : decode cX11_does 195 = .ok (.getfield 42, 3) := by decide +kernel
theorem dX11_does_198 : decode cX11_does 198 = .ok (.iconst 0, 1) := by decide +kernel
theorem dX11_does_199 : decode cX11_does 199 = .ok (.iaload, 1) := by decide +kernel
theorem dX11_does_200 : decode cX11_does 200 = .ok (.aload_n 0, 1) := by decide +kernel
theorem dX11_does_201 : decode cX11_does 201 = .ok (.getfield 42, 3) := by decide +kernel
theorem dX11_does_204 : decode cX11_does 204 = .ok (.iconst 1, 1) := by decide +kernel
theorem dX11_does_205 : decode cX11_does 205 = .ok (.iaload, 1) := by decide +kernel
theorem dX11_does_206 : decode cX11_does 206 = .ok (.aload_n 0, 1) := by decide +kernel
theorem dX11_does_207 : decode cX11_does 207 = .ok (.getfield 42, 3) := by decide +kernel
theorem dX11_does_210 : decode cX11_does 210 = .ok (.iconst 2, 1) := by decide +kernel
theorem dX11_does_211 : decode cX11_does 211 = .ok (.iaload, 1) := by decide +kernel
theorem dX11_does_212 : decode cX11_does 212 = .ok (.invokestatic 239, 3) := by decide +kernel
theorem dX11_does_215 : decode cX11_does 215 = .ok (.invokestatic 239, 3) := by decide +kernel
theorem dX11_does_218 : decode cX11_does 218 = .ok (.isub, 1) := by decide +kernel
theorem dX11_does_219 : decode cX11_does 219 = .ok (.invokestatic 223, 3) := by decide +kernel
theorem dX11_does_222 : decode cX11_does 222 = .ok (.invokestatic 223, 3) := by decide +kernel
theorem dX11_does_225 : decode cX11_does 225 = .ok (.invokevirtual 339, 3) := by decide +kernel
theorem dX11_does_228 : decode cX11_does 228 = .ok (.goto 47, 3) := by decide +kernel
theorem dX11_does_231 : decode cX11_does 231 = .ok (.iload_n 2, 1) := by decide +kernel
theorem dX11_does_232 : decode cX11_does 232 = .ok (.ifCond .le 43, 3) := by decide +kernel
theorem dX11_does_235 : decode cX11_does 235 = .ok (.aload_n 0, 1) := by decide +kernel
theorem dX11_does_236 : decode cX11_does 236 = .ok (.iload_n 2, 1) := by decide +kernel
theorem dX11_does_237 : decode cX11_does 237 = .ok (.iconst 1, 1) := by decide +kernel
theorem dX11_does_238 : decode cX11_does 238 = .ok (.isub, 1) := by decide +kernel
theorem dX11_does_239 : decode cX11_does 239 = .ok (.iconst 0, 1) := by decide +kernel
theorem dX11_does_240 : decode cX11_does 240 = .ok (.aload_n 0, 1) := by decide +kernel
theorem dX11_does_241 : decode cX11_does 241 = .ok (.getfield 9, 3) := by decide +kernel
theorem dX11_does_244 : decode cX11_does 244 = .ok (.sipush 600, 3) := by decide +kernel
theorem dX11_does_247 : decode cX11_does 247 = .ok (.iload_n 2, 1) := by decide +kernel
theorem dX11_does_248 : decode cX11_does 248 = .ok (.iadd, 1) := by decide +kernel
theorem dX11_does_249 : decode cX11_does 249 = .ok (.iconst 1, 1) := by decide +kernel
theorem dX11_does_250 : decode cX11_does 250 = .ok (.isub, 1) := by decide +kernel
theorem dX11_does_251 : decode cX11_does 251 = .ok (.iaload, 1) := by decide +kernel
theorem dX11_does_252 : decode cX11_does 252 = .ok (.invokevirtual 332, 3) := by decide +kernel
theorem dX11_does_255 : decode cX11_does 255 = .ok (.goto 20, 3) := by decide +kernel
theorem dX11_does_258 : decode cX11_does 258 = .ok (.aload_n 0, 1) := by decide +kernel
theorem dX11_does_259 : decode cX11_does 259 = .ok (.iload_n 1, 1) := by decide +kernel
theorem dX11_does_260 : decode cX11_does 260 = .ok (.aload_n 0, 1) := by decide +kernel
theorem dX11_does_261 : decode cX11_does 261 = .ok (.getfield 9, 3) := by decide +kernel
theorem dX11_does_264 : decode cX11_does 264 = .ok (.iload_n 3, 1) := by decide +kernel
theorem dX11_does_265 : decode cX11_does 265 = .ok (.iconst 1, 1) := by decide +kernel
theorem dX11_does_266 : decode cX11_does 266 = .ok (.iadd, 1) := by decide +kernel
theorem dX11_does_267 : decode cX11_does 267 = .ok (.iaload, 1) := by decide +kernel
theorem dX11_does_268 : decode cX11_does 268 = .ok (.invokestatic 156, 3) := by decide +kernel
theorem dX11_does_271 : decode cX11_does 271 = .ok (.iload_n 3, 1) := by decide +kernel
theorem dX11_does_272 : decode cX11_does 272 = .ok (.invokevirtual 342, 3) := by decide +kernel
theorem dX11_does_275 : decode cX11_does 275 = .ok (.return_, 1) := by decide +kernel
theorem dX11_trade_0 : decode cX11_trade 0 = .ok (.iconst 0, 1) := by decide +kernel
theorem dX11_trade_1 : decode cX11_trade 1 = .ok (.istore_n 2, 1) := by decide +kernel
theorem dX11_trade_2 : decode cX11_trade 2 = .ok (.iload_n 2, 1) := by decide +kernel
theorem dX11_trade_3 : decode cX11_trade 3 = .ok (.iconst 3, 1) := by decide +kernel
theorem dX11_trade_4 : decode cX11_trade 4 = .ok (.if_icmp .ge 19, 3) := by decide +kernel
theorem dX11_trade_7 : decode cX11_trade 7 = .ok (.aload_n 0, 1) := by decide +kernel
theorem dX11_trade_8 : decode cX11_trade 8 = .ok (.getfield 42, 3) := by decide +kernel
theorem dX11_trade_11 : decode cX11_trade 11 = .ok (.iload_n 2, 1) := by decide +kernel
theorem dX11_trade_12 : decode cX11_trade 12 = .ok (.dup2, 1) := by decide +kernel
theorem dX11_trade_13 : decode cX11_trade 13 = .ok (.iaload, 1) := by decide +kernel
theorem dX11_trade_14 : decode cX11_trade 14 = .ok (.iload_n 1, 1) := by decide +kernel
theorem dX11_trade_15 : decode cX11_trade 15 = .ok (.iadd, 1) := by decide +kernel
theorem dX11_trade_16 : decode cX11_trade 16 = .ok (.iastore, 1) := by decide +kernel
theorem dX11_trade_17 : decode cX11_trade 17 = .ok (.iinc 2 1, 3) := by decide +kernel
theorem dX11_trade_20 : decode cX11_trade 20 = .ok (.goto (-18), 3) := by decide +kernel
theorem dX11_trade_23 : decode cX11_trade 23 = .ok (.aload_n 0, 1) := by decide +kernel
theorem dX11_trade_24 : decode cX11_trade 24 = .ok (.getfield 42, 3) := by decide +kernel
theorem dX11_trade_27 : decode cX11_trade 27 = .ok (.iconst 3, 1) := by decide +kernel
theorem dX11_trade_28 : decode cX11_trade 28 = .ok (.dup2, 1) := by decide +kernel
theorem dX11_trade_29 : decode cX11_trade 29 = .ok (.iaload, 1) := by decide +kernel
theorem dX11_trade_30 : decode cX11_trade 30 = .ok (.iload_n 1, 1) := by decide +kernel
theorem dX11_trade_31 : decode cX11_trade 31 = .ok (.isub, 1) := by decide +kernel
theorem dX11_trade_32 : decode cX11_trade 32 = .ok (.iastore, 1) := by decide +kernel
theorem dX11_trade_33 : decode cX11_trade 33 = .ok (.return_, 1) := by decide +kernel
theorem dX11_doesOne_0 : decode cX11_doesOne 0 = .ok (.iload_n 1, 1) := by decide +kernel
theorem dX11_doesOne_1 : decode cX11_doesOne 1 = .ok (.lookupswitch 123 #[(97, 43), (104, 110), (115, 62), (119, 81)], 43) := by decide +kernel
theorem dX11_doesOne_44 : decode cX11_doesOne 44 = .ok (.aload_n 0, 1) := by decide +kernel
theorem dX11_doesOne_45 : decode cX11_doesOne 45 = .ok (.iload_n 2, 1) := by decide +kernel
theorem dX11_doesOne_46 : decode cX11_doesOne 46 = .ok (.aload_n 0, 1) := by decide +kernel
theorem dX11_doesOne_47 : decode cX11_doesOne 47 = .ok (.getfield 9, 3) := by decide +kernel
theorem dX11_doesOne_50 : decode cX11_doesOne 50 = .ok (.iload_n 3, 1) := by decide +kernel
theorem dX11_doesOne_51 : decode cX11_doesOne 51 = .ok (.iconst 2, 1) := by decide +kernel
theorem dX11_doesOne_52 : decode cX11_doesOne 52 = .ok (.iadd, 1) := by decide +kernel
theorem dX11_doesOne_53 : decode cX11_doesOne 53 = .ok (.iaload, 1) := by decide +kernel
theorem dX11_doesOne_54 : decode cX11_doesOne 54 = .ok (.bipush 48, 2) := by decide +kernel
theorem dX11_doesOne_56 : decode cX11_doesOne 56 = .ok (.isub, 1) := by decide +kernel
theorem dX11_doesOne_57 : decode cX11_doesOne 57 = .ok (.invokevirtual 345, 3) := by decide +kernel
theorem dX11_doesOne_60 : decode cX11_doesOne 60 = .ok (.goto 107, 3) := by decide +kernel
theorem dX11_doesOne_63 : decode cX11_doesOne 63 = .ok (.aload_n 0, 1) := by decide +kernel
theorem dX11_doesOne_64 : decode cX11_doesOne 64 = .ok (.iload_n 2, 1) := by decide +kernel
theorem dX11_doesOne_65 : decode cX11_doesOne 65 = .ok (.bipush 48, 2) := by decide +kernel
theorem dX11_doesOne_67 : decode cX11_doesOne 67 = .ok (.aload_n 0, 1) := by decide +kernel
theorem dX11_doesOne_68 : decode cX11_doesOne 68 = .ok (.getfield 9, 3) := by decide +kernel
theorem dX11_doesOne_71 : decode cX11_doesOne 71 = .ok (.iload_n 3, 1) := by decide +kernel
theorem dX11_doesOne_72 : decode cX11_doesOne 72 = .ok (.iconst 2, 1) := by decide +kernel
theorem dX11_doesOne_73 : decode cX11_doesOne 73 = .ok (.iadd, 1) := by decide +kernel
theorem dX11_doesOne_74 : decode cX11_doesOne 74 = .ok (.iaload, 1) := by decide +kernel
theorem dX11_doesOne_75 : decode cX11_doesOne 75 = .ok (.isub, 1) := by decide +kernel
theorem dX11_doesOne_76 : decode cX11_doesOne 76 = .ok (.invokevirtual 345, 3) := by decide +kernel
theorem dX11_doesOne_79 : decode cX11_doesOne 79 = .ok (.goto 88, 3) := by decide +kernel
theorem dX11_doesOne_82 : decode cX11_doesOne 82 = .ok (.aload_n 0, 1) := by decide +kernel
theorem dX11_doesOne_83 : decode cX11_doesOne 83 = .ok (.getfield 42, 3) := by decide +kernel
theorem dX11_doesOne_86 : decode cX11_doesOne 86 = .ok (.iload_n 2, 1) := by decide +kernel
theorem dX11_doesOne_87 : decode cX11_doesOne 87 = .ok (.aload_n 0, 1) := by decide +kernel
theorem dX11_doesOne_88 : decode cX11_doesOne 88 = .ok (.getfield 42, 3) := by decide +kernel
theorem dX11_doesOne_91 : decode cX11_doesOne 91 = .ok (.iload_n 2, 1) := by decide +kernel
theorem dX11_doesOne_92 : decode cX11_doesOne 92 = .ok (.iaload, 1) := by decide +kernel
theorem dX11_doesOne_93 : decode cX11_doesOne 93 = .ok (.aload_n 0, 1) := by decide +kernel
theorem dX11_doesOne_94 : decode cX11_doesOne 94 = .ok (.getfield 9, 3) := by decide +kernel
theorem dX11_doesOne_97 : decode cX11_doesOne 97 = .ok (.iload_n 3, 1) := by decide +kernel
theorem dX11_doesOne_98 : decode cX11_doesOne 98 = .ok (.iconst 2, 1) := by decide +kernel
theorem dX11_doesOne_99 : decode cX11_doesOne 99 = .ok (.iadd, 1) := by decide +kernel
theorem dX11_doesOne_100 : decode cX11_doesOne 100 = .ok (.iaload, 1) := by decide +kernel
theorem dX11_doesOne_101 : decode cX11_doesOne 101 = .ok (.bipush 48, 2) := by decide +kernel
theorem dX11_doesOne_103 : decode cX11_doesOne 103 = .ok (.isub, 1) := by decide +kernel
theorem dX11_doesOne_104 : decode cX11_doesOne 104 = .ok (.invokestatic 223, 3) := by decide +kernel
theorem dX11_doesOne_107 : decode cX11_doesOne 107 = .ok (.iastore, 1) := by decide +kernel
theorem dX11_doesOne_108 : decode cX11_doesOne 108 = .ok (.goto 59, 3) := by decide +kernel
theorem dX11_doesOne_111 : decode cX11_doesOne 111 = .ok (.aload_n 0, 1) := by decide +kernel
theorem dX11_doesOne_112 : decode cX11_doesOne 112 = .ok (.getfield 42, 3) := by decide +kernel
theorem dX11_doesOne_115 : decode cX11_doesOne 115 = .ok (.iload_n 2, 1) := by decide +kernel
theorem dX11_doesOne_116 : decode cX11_doesOne 116 = .ok (.dup2, 1) := by decide +kernel
theorem dX11_doesOne_117 : decode cX11_doesOne 117 = .ok (.iaload, 1) := by decide +kernel
theorem dX11_doesOne_118 : decode cX11_doesOne 118 = .ok (.iconst 2, 1) := by decide +kernel
theorem dX11_doesOne_119 : decode cX11_doesOne 119 = .ok (.idiv, 1) := by decide +kernel
theorem dX11_doesOne_120 : decode cX11_doesOne 120 = .ok (.iastore, 1) := by decide +kernel
theorem dX11_doesOne_121 : decode cX11_doesOne 121 = .ok (.goto 46, 3) := by decide +kernel
theorem dX11_doesOne_124 : decode cX11_doesOne 124 = .ok (.aload_n 0, 1) := by decide +kernel
theorem dX11_doesOne_125 : decode cX11_doesOne 125 = .ok (.getfield 9, 3) := by decide +kernel
theorem dX11_doesOne_128 : decode cX11_doesOne 128 = .ok (.iload_n 3, 1) := by decide +kernel
theorem dX11_doesOne_129 : decode cX11_doesOne 129 = .ok (.iconst 2, 1) := by decide +kernel
theorem dX11_doesOne_130 : decode cX11_doesOne 130 = .ok (.iadd, 1) := by decide +kernel
theorem dX11_doesOne_131 : decode cX11_doesOne 131 = .ok (.iaload, 1) := by decide +kernel
theorem dX11_doesOne_132 : decode cX11_doesOne 132 = .ok (.invokestatic 156, 3) := by decide +kernel
theorem dX11_doesOne_135 : decode cX11_doesOne 135 = .ok (.istore 4, 2) := by decide +kernel
theorem dX11_doesOne_137 : decode cX11_doesOne 137 = .ok (.aload_n 0, 1) := by decide +kernel
theorem dX11_doesOne_138 : decode cX11_doesOne 138 = .ok (.getfield 42, 3) := by decide +kernel
theorem dX11_doesOne_141 : decode cX11_doesOne 141 = .ok (.iload_n 2, 1) := by decide +kernel
theorem dX11_doesOne_142 : decode cX11_doesOne 142 = .ok (.iaload, 1) := by decide +kernel
theorem dX11_doesOne_143 : decode cX11_doesOne 143 = .ok (.istore 5, 2) := by decide +kernel
theorem dX11_doesOne_145 : decode cX11_doesOne 145 = .ok (.aload_n 0, 1) := by decide +kernel
theorem dX11_doesOne_146 : decode cX11_doesOne 146 = .ok (.getfield 42, 3) := by decide +kernel
theorem dX11_doesOne_149 : decode cX11_doesOne 149 = .ok (.iload_n 2, 1) := by decide +kernel
theorem dX11_doesOne_150 : decode cX11_doesOne 150 = .ok (.aload_n 0, 1) := by decide +kernel
theorem dX11_doesOne_151 : decode cX11_doesOne 151 = .ok (.getfield 42, 3) := by decide +kernel
theorem dX11_doesOne_154 : decode cX11_doesOne 154 = .ok (.iload 4, 2) := by decide +kernel
theorem dX11_doesOne_156 : decode cX11_doesOne 156 = .ok (.iaload, 1) := by decide +kernel
theorem dX11_doesOne_157 : decode cX11_doesOne 157 = .ok (.iastore, 1) := by decide +kernel
theorem dX11_doesOne_158 : decode cX11_doesOne 158 = .ok (.aload_n 0, 1) := by decide +kernel
theorem dX11_doesOne_159 : decode cX11_doesOne 159 = .ok (.getfield 42, 3) := by decide +kernel
theorem dX11_doesOne_162 : decode cX11_doesOne 162 = .ok (.iload 4, 2) := by decide +kernel
theorem dX11_doesOne_164 : decode cX11_doesOne 164 = .ok (.iload 5, 2) := by decide +kernel
theorem dX11_doesOne_166 : decode cX11_doesOne 166 = .ok (.iastore, 1) := by decide +kernel
theorem dX11_doesOne_167 : decode cX11_doesOne 167 = .ok (.return_, 1) := by decide +kernel
theorem dX11_linked_0 : decode cX11_linked 0 = .ok (.aload_n 0, 1) := by decide +kernel
theorem dX11_linked_1 : decode cX11_linked 1 = .ok (.iload_n 1, 1) := by decide +kernel
theorem dX11_linked_2 : decode cX11_linked 2 = .ok (.invokevirtual 277, 3) := by decide +kernel
theorem dX11_linked_5 : decode cX11_linked 5 = .ok (.aload_n 0, 1) := by decide +kernel
theorem dX11_linked_6 : decode cX11_linked 6 = .ok (.getfield 9, 3) := by decide +kernel
theorem dX11_linked_9 : decode cX11_linked 9 = .ok (.sipush 612, 3) := by decide +kernel
theorem dX11_linked_12 : decode cX11_linked 12 = .ok (.iaload, 1) := by decide +kernel
theorem dX11_linked_13 : decode cX11_linked 13 = .ok (.ifCond .le 37, 3) := by decide +kernel
theorem dX11_linked_16 : decode cX11_linked 16 = .ok (.aload_n 0, 1) := by decide +kernel
theorem dX11_linked_17 : decode cX11_linked 17 = .ok (.aload_n 0, 1) := by decide +kernel
theorem dX11_linked_18 : decode cX11_linked 18 = .ok (.getfield 9, 3) := by decide +kernel
theorem dX11_linked_21 : decode cX11_linked 21 = .ok (.sipush 612, 3) := by decide +kernel
theorem dX11_linked_24 : decode cX11_linked 24 = .ok (.iaload, 1) := by decide +kernel
theorem dX11_linked_25 : decode cX11_linked 25 = .ok (.iconst 1, 1) := by decide +kernel
theorem dX11_linked_26 : decode cX11_linked 26 = .ok (.isub, 1) := by decide +kernel
theorem dX11_linked_27 : decode cX11_linked 27 = .ok (.iconst 0, 1) := by decide +kernel
theorem dX11_linked_28 : decode cX11_linked 28 = .ok (.aload_n 0, 1) := by decide +kernel
theorem dX11_linked_29 : decode cX11_linked 29 = .ok (.getfield 9, 3) := by decide +kernel
theorem dX11_linked_32 : decode cX11_linked 32 = .ok (.sipush 600, 3) := by decide +kernel
theorem dX11_linked_35 : decode cX11_linked 35 = .ok (.aload_n 0, 1) := by decide +kernel
theorem dX11_linked_36 : decode cX11_linked 36 = .ok (.getfield 9, 3) := by decide +kernel
theorem dX11_linked_39 : decode cX11_linked 39 = .ok (.sipush 612, 3) := by decide +kernel
theorem dX11_linked_42 : decode cX11_linked 42 = .ok (.iaload, 1) := by decide +kernel
theorem dX11_linked_43 : decode cX11_linked 43 = .ok (.iadd, 1) := by decide +kernel
theorem dX11_linked_44 : decode cX11_linked 44 = .ok (.iconst 1, 1) := by decide +kernel
theorem dX11_linked_45 : decode cX11_linked 45 = .ok (.isub, 1) := by decide +kernel
theorem dX11_linked_46 : decode cX11_linked 46 = .ok (.iaload, 1) := by decide +kernel
theorem dX11_linked_47 : decode cX11_linked 47 = .ok (.invokevirtual 332, 3) := by decide +kernel
theorem dX11_linked_50 : decode cX11_linked 50 = .ok (.aload_n 0, 1) := by decide +kernel
theorem dX11_linked_51 : decode cX11_linked 51 = .ok (.invokevirtual 283, 3) := by decide +kernel
theorem dX11_linked_54 : decode cX11_linked 54 = .ok (.ireturn, 1) := by decide +kernel
theorem dX11_prints_0 : decode cX11_prints 0 = .ok (.aload_n 0, 1) := by decide +kernel
theorem dX11_prints_1 : decode cX11_prints 1 = .ok (.iconst 0, 1) := by decide +kernel
theorem dX11_prints_2 : decode cX11_prints 2 = .ok (.putfield 105, 3) := by decide +kernel
theorem dX11_prints_5 : decode cX11_prints 5 = .ok (.iload_n 1, 1) := by decide +kernel
theorem dX11_prints_6 : decode cX11_prints 6 = .ok (.iload_n 2, 1) := by decide +kernel
theorem dX11_prints_7 : decode cX11_prints 7 = .ok (.iload_n 3, 1) := by decide +kernel
theorem dX11_prints_8 : decode cX11_prints 8 = .ok (.invokestatic 305, 3) := by decide +kernel
theorem dX11_prints_11 : decode cX11_prints 11 = .ok (.ifCond .ne 5, 3) := by decide +kernel
theorem dX11_prints_14 : decode cX11_prints 14 = .ok (.iconst (-1), 1) := by decide +kernel
theorem dX11_prints_15 : decode cX11_prints 15 = .ok (.ireturn, 1) := by decide +kernel
theorem dX11_prints_16 : decode cX11_prints 16 = .ok (.aload_n 0, 1) := by decide +kernel
theorem dX11_prints_17 : decode cX11_prints 17 = .ok (.aload_n 0, 1) := by decide +kernel
theorem dX11_prints_18 : decode cX11_prints 18 = .ok (.getfield 9, 3) := by decide +kernel
theorem dX11_prints_21 : decode cX11_prints 21 = .ok (.invokevirtual 308, 3) := by decide +kernel
theorem dX11_prints_24 : decode cX11_prints 24 = .ok (.aload_n 0, 1) := by decide +kernel
theorem dX11_prints_25 : decode cX11_prints 25 = .ok (.iload_n 1, 1) := by decide +kernel
theorem dX11_prints_26 : decode cX11_prints 26 = .ok (.iload_n 2, 1) := by decide +kernel
theorem dX11_prints_27 : decode cX11_prints 27 = .ok (.iload_n 3, 1) := by decide +kernel
theorem dX11_prints_28 : decode cX11_prints 28 = .ok (.invokevirtual 323, 3) := by decide +kernel
theorem dX11_prints_31 : decode cX11_prints 31 = .ok (.pop, 1) := by decide +kernel
theorem dX11_prints_32 : decode cX11_prints 32 = .ok (.aload_n 0, 1) := by decide +kernel
theorem dX11_prints_33 : decode cX11_prints 33 = .ok (.aload_n 0, 1) := by decide +kernel
theorem dX11_prints_34 : decode cX11_prints 34 = .ok (.aload_n 0, 1) := by decide +kernel
theorem dX11_prints_35 : decode cX11_prints 35 = .ok (.getfield 48, 3) := by decide +kernel
theorem dX11_prints_38 : decode cX11_prints 38 = .ok (.iconst 0, 1) := by decide +kernel
theorem dX11_prints_39 : decode cX11_prints 39 = .ok (.iaload, 1) := by decide +kernel
theorem dX11_prints_40 : decode cX11_prints 40 = .ok (.aload_n 0, 1) := by decide +kernel
theorem dX11_prints_41 : decode cX11_prints 41 = .ok (.getfield 48, 3) := by decide +kernel
theorem dX11_prints_44 : decode cX11_prints 44 = .ok (.iconst 1, 1) := by decide +kernel
theorem dX11_prints_45 : decode cX11_prints 45 = .ok (.iaload, 1) := by decide +kernel
theorem dX11_prints_46 : decode cX11_prints 46 = .ok (.aload_n 0, 1) := by decide +kernel
theorem dX11_prints_47 : decode cX11_prints 47 = .ok (.getfield 48, 3) := by decide +kernel
theorem dX11_prints_50 : decode cX11_prints 50 = .ok (.iconst 2, 1) := by decide +kernel
theorem dX11_prints_51 : decode cX11_prints 51 = .ok (.iaload, 1) := by decide +kernel
theorem dX11_prints_52 : decode cX11_prints 52 = .ok (.invokevirtual 311, 3) := by decide +kernel
theorem dX11_prints_55 : decode cX11_prints 55 = .ok (.invokevirtual 349, 3) := by decide +kernel
theorem dX11_prints_58 : decode cX11_prints 58 = .ok (.istore 4, 2) := by decide +kernel
theorem dX11_prints_60 : decode cX11_prints 60 = .ok (.iload 4, 2) := by decide +kernel
theorem dX11_prints_62 : decode cX11_prints 62 = .ok (.invokestatic 314, 3) := by decide +kernel
theorem dX11_prints_65 : decode cX11_prints 65 = .ok (.istore 5, 2) := by decide +kernel
theorem dX11_prints_67 : decode cX11_prints 67 = .ok (.aload_n 0, 1) := by decide +kernel
theorem dX11_prints_68 : decode cX11_prints 68 = .ok (.iconst 0, 1) := by decide +kernel
theorem dX11_prints_69 : decode cX11_prints 69 = .ok (.putfield 109, 3) := by decide +kernel
theorem dX11_prints_72 : decode cX11_prints 72 = .ok (.iconst 0, 1) := by decide +kernel
theorem dX11_prints_73 : decode cX11_prints 73 = .ok (.istore 6, 2) := by decide +kernel
theorem dX11_prints_75 : decode cX11_prints 75 = .ok (.iload 6, 2) := by decide +kernel
theorem dX11_prints_77 : decode cX11_prints 77 = .ok (.iconst 3, 1) := by decide +kernel
theorem dX11_prints_78 : decode cX11_prints 78 = .ok (.if_icmp .ge 26, 3) := by decide +kernel
theorem dX11_prints_81 : decode cX11_prints 81 = .ok (.aload_n 0, 1) := by decide +kernel
theorem dX11_prints_82 : decode cX11_prints 82 = .ok (.aload_n 0, 1) := by decide +kernel
theorem dX11_prints_83 : decode cX11_prints 83 = .ok (.getfield 27, 3) := by decide +kernel
theorem dX11_prints_86 : decode cX11_prints 86 = .ok (.iconst 3, 1) := by decide +kernel
theorem dX11_prints_87 : decode cX11_prints 87 = .ok (.iload 5, 2) := by decide +kernel
theorem dX11_prints_89 : decode cX11_prints 89 = .ok (.imul, 1) := by decide +kernel
theorem dX11_prints_90 : decode cX11_prints 90 = .ok (.iload 6, 2) := by decide +kernel
theorem dX11_prints_92 : decode cX11_prints 92 = .ok (.iadd, 1) := by decide +kernel
theorem dX11_prints_93 : decode cX11_prints 93 = .ok (.iaload, 1) := by decide +kernel
theorem dX11_prints_94 : decode cX11_prints 94 = .ok (.i2l, 1) := by decide +kernel
theorem dX11_prints_95 : decode cX11_prints 95 = .ok (.invokevirtual 273, 3) := by decide +kernel
theorem dX11_prints_98 : decode cX11_prints 98 = .ok (.iinc 6 1, 3) := by decide +kernel
theorem dX11_prints_101 : decode cX11_prints 101 = .ok (.goto (-26), 3) := by decide +kernel
theorem dX11_prints_104 : decode cX11_prints 104 = .ok (.aload_n 0, 1) := by decide +kernel
theorem dX11_prints_105 : decode cX11_prints 105 = .ok (.aload_n 0, 1) := by decide +kernel
theorem dX11_prints_106 : decode cX11_prints 106 = .ok (.iload 5, 2) := by decide +kernel
theorem dX11_prints_108 : decode cX11_prints 108 = .ok (.iload_n 1, 1) := by decide +kernel
theorem dX11_prints_109 : decode cX11_prints 109 = .ok (.iload_n 2, 1) := by decide +kernel
theorem dX11_prints_110 : decode cX11_prints 110 = .ok (.iload_n 3, 1) := by decide +kernel
theorem dX11_prints_111 : decode cX11_prints 111 = .ok (.invokevirtual 266, 3) := by decide +kernel
theorem dX11_prints_114 : decode cX11_prints 114 = .ok (.i2l, 1) := by decide +kernel
theorem dX11_prints_115 : decode cX11_prints 115 = .ok (.invokevirtual 273, 3) := by decide +kernel
theorem dX11_prints_118 : decode cX11_prints 118 = .ok (.iload 4, 2) := by decide +kernel
theorem dX11_prints_120 : decode cX11_prints 120 = .ok (.ireturn, 1) := by decide +kernel
theorem dX11_through_0 : decode cX11_through 0 = .ok (.aload_n 0, 1) := by decide +kernel
theorem dX11_through_1 : decode cX11_through 1 = .ok (.iconst 0, 1) := by decide +kernel
theorem dX11_through_2 : decode cX11_through 2 = .ok (.putfield 105, 3) := by decide +kernel
theorem dX11_through_5 : decode cX11_through 5 = .ok (.iload_n 1, 1) := by decide +kernel
theorem dX11_through_6 : decode cX11_through 6 = .ok (.invokestatic 270, 3) := by decide +kernel
theorem dX11_through_9 : decode cX11_through 9 = .ok (.ifCond .eq 11, 3) := by decide +kernel
theorem dX11_through_12 : decode cX11_through 12 = .ok (.aload_n 0, 1) := by decide +kernel
theorem dX11_through_13 : decode cX11_through 13 = .ok (.iload_n 1, 1) := by decide +kernel
theorem dX11_through_14 : decode cX11_through 14 = .ok (.invokevirtual 349, 3) := by decide +kernel
theorem dX11_through_17 : decode cX11_through 17 = .ok (.goto 4, 3) := by decide +kernel
theorem dX11_through_20 : decode cX11_through 20 = .ok (.iconst (-1), 1) := by decide +kernel
theorem dX11_through_21 : decode cX11_through 21 = .ok (.ireturn, 1) := by decide +kernel
theorem dX11_sources_0 : decode cX11_sources 0 = .ok (.aload_n 0, 1) := by decide +kernel
theorem dX11_sources_1 : decode cX11_sources 1 = .ok (.iconst 0, 1) := by decide +kernel
theorem dX11_sources_2 : decode cX11_sources 2 = .ok (.putfield 105, 3) := by decide +kernel
theorem dX11_sources_5 : decode cX11_sources 5 = .ok (.iload_n 1, 1) := by decide +kernel
theorem dX11_sources_6 : decode cX11_sources 6 = .ok (.invokestatic 270, 3) := by decide +kernel
theorem dX11_sources_9 : decode cX11_sources 9 = .ok (.ifCond .ne 5, 3) := by decide +kernel
theorem dX11_sources_12 : decode cX11_sources 12 = .ok (.iconst (-1), 1) := by decide +kernel
theorem dX11_sources_13 : decode cX11_sources 13 = .ok (.ireturn, 1) := by decide +kernel
theorem dX11_sources_14 : decode cX11_sources 14 = .ok (.iconst 0, 1) := by decide +kernel
theorem dX11_sources_15 : decode cX11_sources 15 = .ok (.istore_n 2, 1) := by decide +kernel
theorem dX11_sources_16 : decode cX11_sources 16 = .ok (.iconst 0, 1) := by decide +kernel
theorem dX11_sources_17 : decode cX11_sources 17 = .ok (.istore_n 3, 1) := by decide +kernel
theorem dX11_sources_18 : decode cX11_sources 18 = .ok (.iconst 0, 1) := by decide +kernel
theorem dX11_sources_19 : decode cX11_sources 19 = .ok (.istore 4, 2) := by decide +kernel
theorem dX11_sources_21 : decode cX11_sources 21 = .ok (.iconst 0, 1) := by decide +kernel
theorem dX11_sources_22 : decode cX11_sources 22 = .ok (.istore 5, 2) := by decide +kernel
theorem dX11_sources_24 : decode cX11_sources 24 = .ok (.iload 5, 2) := by decide +kernel
theorem dX11_sources_26 : decode cX11_sources 26 = .ok (.sipush 6561, 3) := by decide +kernel
theorem dX11_sources_29 : decode cX11_sources 29 = .ok (.if_icmp .ge 45, 3) := by decide +kernel
theorem dX11_sources_32 : decode cX11_sources 32 = .ok (.aload_n 0, 1) := by decide +kernel
theorem dX11_sources_33 : decode cX11_sources 33 = .ok (.iload 5, 2) := by decide +kernel
theorem dX11_sources_35 : decode cX11_sources 35 = .ok (.invokestatic 101, 3) := by decide +kernel
theorem dX11_sources_38 : decode cX11_sources 38 = .ok (.invokevirtual 349, 3) := by decide +kernel
theorem dX11_sources_41 : decode cX11_sources 41 = .ok (.iload_n 1, 1) := by decide +kernel
theorem dX11_sources_42 : decode cX11_sources 42 = .ok (.if_icmp .eq 6, 3) := by decide +kernel
theorem dX11_sources_45 : decode cX11_sources 45 = .ok (.goto 23, 3) := by decide +kernel
theorem dX11_sources_48 : decode cX11_sources 48 = .ok (.iload_n 2, 1) := by decide +kernel
theorem dX11_sources_49 : decode cX11_sources 49 = .ok (.ifCond .ne 9, 3) := by decide +kernel
theorem dX11_sources_52 : decode cX11_sources 52 = .ok (.iload 5, 2) := by decide +kernel
theorem dX11_sources_54 : decode cX11_sources 54 = .ok (.invokestatic 101, 3) := by decide +kernel
theorem dX11_sources_57 : decode cX11_sources 57 = .ok (.istore_n 3, 1) := by decide +kernel
theorem dX11_sources_58 : decode cX11_sources 58 = .ok (.iload 5, 2) := by decide +kernel
theorem dX11_sources_60 : decode cX11_sources 60 = .ok (.invokestatic 101, 3) := by decide +kernel
theorem dX11_sources_63 : decode cX11_sources 63 = .ok (.istore 4, 2) := by decide +kernel
theorem dX11_sources_65 : decode cX11_sources 65 = .ok (.iinc 2 1, 3) := by decide +kernel
theorem dX11_sources_68 : decode cX11_sources 68 = .ok (.iinc 5 1, 3) := by decide +kernel
theorem dX11_sources_71 : decode cX11_sources 71 = .ok (.goto (-47), 3) := by decide +kernel
theorem dX11_sources_74 : decode cX11_sources 74 = .ok (.aload_n 0, 1) := by decide +kernel
theorem dX11_sources_75 : decode cX11_sources 75 = .ok (.iconst 0, 1) := by decide +kernel
theorem dX11_sources_76 : decode cX11_sources 76 = .ok (.putfield 109, 3) := by decide +kernel
theorem dX11_sources_79 : decode cX11_sources 79 = .ok (.iload_n 2, 1) := by decide +kernel
theorem dX11_sources_80 : decode cX11_sources 80 = .ok (.ifCond .le 16, 3) := by decide +kernel
theorem dX11_sources_83 : decode cX11_sources 83 = .ok (.aload_n 0, 1) := by decide +kernel
theorem dX11_sources_84 : decode cX11_sources 84 = .ok (.iload_n 3, 1) := by decide +kernel
theorem dX11_sources_85 : decode cX11_sources 85 = .ok (.i2l, 1) := by decide +kernel
theorem dX11_sources_86 : decode cX11_sources 86 = .ok (.invokevirtual 273, 3) := by decide +kernel
theorem dX11_sources_89 : decode cX11_sources 89 = .ok (.aload_n 0, 1) := by decide +kernel
theorem dX11_sources_90 : decode cX11_sources 90 = .ok (.iload 4, 2) := by decide +kernel
theorem dX11_sources_92 : decode cX11_sources 92 = .ok (.i2l, 1) := by decide +kernel
theorem dX11_sources_93 : decode cX11_sources 93 = .ok (.invokevirtual 273, 3) := by decide +kernel
theorem dX11_sources_96 : decode cX11_sources 96 = .ok (.iload_n 2, 1) := by decide +kernel
theorem dX11_sources_97 : decode cX11_sources 97 = .ok (.ireturn, 1) := by decide +kernel
theorem dX11_rounds_0 : decode cX11_rounds 0 = .ok (.aload_n 0, 1) := by decide +kernel
theorem dX11_rounds_1 : decode cX11_rounds 1 = .ok (.iconst 0, 1) := by decide +kernel
theorem dX11_rounds_2 : decode cX11_rounds 2 = .ok (.putfield 105, 3) := by decide +kernel
theorem dX11_rounds_5 : decode cX11_rounds 5 = .ok (.iload_n 1, 1) := by decide +kernel
theorem dX11_rounds_6 : decode cX11_rounds 6 = .ok (.invokestatic 270, 3) := by decide +kernel
theorem dX11_rounds_9 : decode cX11_rounds 9 = .ok (.ifCond .ne 5, 3) := by decide +kernel
theorem dX11_rounds_12 : decode cX11_rounds 12 = .ok (.iconst (-1), 1) := by decide +kernel
theorem dX11_rounds_13 : decode cX11_rounds 13 = .ok (.ireturn, 1) := by decide +kernel
theorem dX11_rounds_14 : decode cX11_rounds 14 = .ok (.iconst 0, 1) := by decide +kernel
theorem dX11_rounds_15 : decode cX11_rounds 15 = .ok (.istore_n 2, 1) := by decide +kernel
theorem dX11_rounds_16 : decode cX11_rounds 16 = .ok (.iload_n 2, 1) := by decide +kernel
theorem dX11_rounds_17 : decode cX11_rounds 17 = .ok (.sipush 6561, 3) := by decide +kernel
theorem dX11_rounds_20 : decode cX11_rounds 20 = .ok (.if_icmp .ge 16, 3) := by decide +kernel
theorem dX11_rounds_23 : decode cX11_rounds 23 = .ok (.aload_n 0, 1) := by decide +kernel
theorem dX11_rounds_24 : decode cX11_rounds 24 = .ok (.getfield 51, 3) := by decide +kernel
theorem dX11_rounds_27 : decode cX11_rounds 27 = .ok (.iload_n 2, 1) := by decide +kernel
theorem dX11_rounds_28 : decode cX11_rounds 28 = .ok (.iconst (-1), 1) := by decide +kernel
theorem dX11_rounds_29 : decode cX11_rounds 29 = .ok (.iastore, 1) := by decide +kernel
theorem dX11_rounds_30 : decode cX11_rounds 30 = .ok (.iinc 2 1, 3) := by decide +kernel
theorem dX11_rounds_33 : decode cX11_rounds 33 = .ok (.goto (-17), 3) := by decide +kernel
theorem dX11_rounds_36 : decode cX11_rounds 36 = .ok (.iload_n 1, 1) := by decide +kernel
theorem dX11_rounds_37 : decode cX11_rounds 37 = .ok (.istore_n 2, 1) := by decide +kernel
theorem dX11_rounds_38 : decode cX11_rounds 38 = .ok (.iconst 0, 1) := by decide +kernel
theorem dX11_rounds_39 : decode cX11_rounds 39 = .ok (.istore_n 3, 1) := by decide +kernel
theorem dX11_rounds_40 : decode cX11_rounds 40 = .ok (.aload_n 0, 1) := by decide +kernel
theorem dX11_rounds_41 : decode cX11_rounds 41 = .ok (.getfield 51, 3) := by decide +kernel
theorem dX11_rounds_44 : decode cX11_rounds 44 = .ok (.iload_n 2, 1) := by decide +kernel
theorem dX11_rounds_45 : decode cX11_rounds 45 = .ok (.invokestatic 314, 3) := by decide +kernel
theorem dX11_rounds_48 : decode cX11_rounds 48 = .ok (.iaload, 1) := by decide +kernel
theorem dX11_rounds_49 : decode cX11_rounds 49 = .ok (.iconst (-1), 1) := by decide +kernel
theorem dX11_rounds_50 : decode cX11_rounds 50 = .ok (.if_icmp .ne 25, 3) := by decide +kernel
theorem dX11_rounds_53 : decode cX11_rounds 53 = .ok (.aload_n 0, 1) := by decide +kernel
theorem dX11_rounds_54 : decode cX11_rounds 54 = .ok (.getfield 51, 3) := by decide +kernel
theorem dX11_rounds_57 : decode cX11_rounds 57 = .ok (.iload_n 2, 1) := by decide +kernel
theorem dX11_rounds_58 : decode cX11_rounds 58 = .ok (.invokestatic 314, 3) := by decide +kernel
theorem dX11_rounds_61 : decode cX11_rounds 61 = .ok (.iload_n 3, 1) := by decide +kernel
theorem dX11_rounds_62 : decode cX11_rounds 62 = .ok (.iastore, 1) := by decide +kernel
theorem dX11_rounds_63 : decode cX11_rounds 63 = .ok (.aload_n 0, 1) := by decide +kernel
theorem dX11_rounds_64 : decode cX11_rounds 64 = .ok (.iload_n 2, 1) := by decide +kernel
theorem dX11_rounds_65 : decode cX11_rounds 65 = .ok (.invokevirtual 349, 3) := by decide +kernel
theorem dX11_rounds_68 : decode cX11_rounds 68 = .ok (.istore_n 2, 1) := by decide +kernel
theorem dX11_rounds_69 : decode cX11_rounds 69 = .ok (.iinc 3 1, 3) := by decide +kernel
theorem dX11_rounds_72 : decode cX11_rounds 72 = .ok (.goto (-32), 3) := by decide +kernel
theorem dX11_rounds_75 : decode cX11_rounds 75 = .ok (.aload_n 0, 1) := by decide +kernel
theorem dX11_rounds_76 : decode cX11_rounds 76 = .ok (.getfield 51, 3) := by decide +kernel
theorem dX11_rounds_79 : decode cX11_rounds 79 = .ok (.iload_n 2, 1) := by decide +kernel
theorem dX11_rounds_80 : decode cX11_rounds 80 = .ok (.invokestatic 314, 3) := by decide +kernel
theorem dX11_rounds_83 : decode cX11_rounds 83 = .ok (.iaload, 1) := by decide +kernel
theorem dX11_rounds_84 : decode cX11_rounds 84 = .ok (.istore 4, 2) := by decide +kernel
theorem dX11_rounds_86 : decode cX11_rounds 86 = .ok (.iload_n 2, 1) := by decide +kernel
theorem dX11_rounds_87 : decode cX11_rounds 87 = .ok (.istore 5, 2) := by decide +kernel
theorem dX11_rounds_89 : decode cX11_rounds 89 = .ok (.iload_n 3, 1) := by decide +kernel
theorem dX11_rounds_90 : decode cX11_rounds 90 = .ok (.iload 4, 2) := by decide +kernel
theorem dX11_rounds_92 : decode cX11_rounds 92 = .ok (.isub, 1) := by decide +kernel
theorem dX11_rounds_93 : decode cX11_rounds 93 = .ok (.istore 6, 2) := by decide +kernel
theorem dX11_rounds_95 : decode cX11_rounds 95 = .ok (.iconst 0, 1) := by decide +kernel
theorem dX11_rounds_96 : decode cX11_rounds 96 = .ok (.istore 7, 2) := by decide +kernel
theorem dX11_rounds_98 : decode cX11_rounds 98 = .ok (.iload 7, 2) := by decide +kernel
theorem dX11_rounds_100 : decode cX11_rounds 100 = .ok (.iload 6, 2) := by decide +kernel
theorem dX11_rounds_102 : decode cX11_rounds 102 = .ok (.if_icmp .ge 23, 3) := by decide +kernel
theorem dX11_rounds_105 : decode cX11_rounds 105 = .ok (.iload 5, 2) := by decide +kernel
theorem dX11_rounds_107 : decode cX11_rounds 107 = .ok (.iload_n 2, 1) := by decide +kernel
theorem dX11_rounds_108 : decode cX11_rounds 108 = .ok (.invokestatic 223, 3) := by decide +kernel
theorem dX11_rounds_111 : decode cX11_rounds 111 = .ok (.istore 5, 2) := by decide +kernel
theorem dX11_rounds_113 : decode cX11_rounds 113 = .ok (.aload_n 0, 1) := by decide +kernel
theorem dX11_rounds_114 : decode cX11_rounds 114 = .ok (.iload_n 2, 1) := by decide +kernel
theorem dX11_rounds_115 : decode cX11_rounds 115 = .ok (.invokevirtual 349, 3) := by decide +kernel
theorem dX11_rounds_118 : decode cX11_rounds 118 = .ok (.istore_n 2, 1) := by decide +kernel
theorem dX11_rounds_119 : decode cX11_rounds 119 = .ok (.iinc 7 1, 3) := by decide +kernel
theorem dX11_rounds_122 : decode cX11_rounds 122 = .ok (.goto (-24), 3) := by decide +kernel
theorem dX11_rounds_125 : decode cX11_rounds 125 = .ok (.aload_n 0, 1) := by decide +kernel
theorem dX11_rounds_126 : decode cX11_rounds 126 = .ok (.iconst 0, 1) := by decide +kernel
theorem dX11_rounds_127 : decode cX11_rounds 127 = .ok (.putfield 109, 3) := by decide +kernel
theorem dX11_rounds_130 : decode cX11_rounds 130 = .ok (.aload_n 0, 1) := by decide +kernel
theorem dX11_rounds_131 : decode cX11_rounds 131 = .ok (.iload 6, 2) := by decide +kernel
theorem dX11_rounds_133 : decode cX11_rounds 133 = .ok (.i2l, 1) := by decide +kernel
theorem dX11_rounds_134 : decode cX11_rounds 134 = .ok (.invokevirtual 273, 3) := by decide +kernel
theorem dX11_rounds_137 : decode cX11_rounds 137 = .ok (.aload_n 0, 1) := by decide +kernel
theorem dX11_rounds_138 : decode cX11_rounds 138 = .ok (.iload 5, 2) := by decide +kernel
theorem dX11_rounds_140 : decode cX11_rounds 140 = .ok (.i2l, 1) := by decide +kernel
theorem dX11_rounds_141 : decode cX11_rounds 141 = .ok (.invokevirtual 273, 3) := by decide +kernel
theorem dX11_rounds_144 : decode cX11_rounds 144 = .ok (.iload 4, 2) := by decide +kernel
theorem dX11_rounds_146 : decode cX11_rounds 146 = .ok (.ireturn, 1) := by decide +kernel
theorem dX11_ramp_0 : decode cX11_ramp 0 = .ok (.aload_n 0, 1) := by decide +kernel
theorem dX11_ramp_1 : decode cX11_ramp 1 = .ok (.iconst 0, 1) := by decide +kernel
theorem dX11_ramp_2 : decode cX11_ramp 2 = .ok (.putfield 105, 3) := by decide +kernel
theorem dX11_ramp_5 : decode cX11_ramp 5 = .ok (.iload_n 1, 1) := by decide +kernel
theorem dX11_ramp_6 : decode cX11_ramp 6 = .ok (.invokestatic 270, 3) := by decide +kernel
theorem dX11_ramp_9 : decode cX11_ramp 9 = .ok (.ifCond .eq 10, 3) := by decide +kernel
theorem dX11_ramp_12 : decode cX11_ramp 12 = .ok (.iload_n 2, 1) := by decide +kernel
theorem dX11_ramp_13 : decode cX11_ramp 13 = .ok (.invokestatic 270, 3) := by decide +kernel
theorem dX11_ramp_16 : decode cX11_ramp 16 = .ok (.ifCond .ne 5, 3) := by decide +kernel
theorem dX11_ramp_19 : decode cX11_ramp 19 = .ok (.iconst (-1), 1) := by decide +kernel
theorem dX11_ramp_20 : decode cX11_ramp 20 = .ok (.ireturn, 1) := by decide +kernel
theorem dX11_ramp_21 : decode cX11_ramp 21 = .ok (.aload_n 0, 1) := by decide +kernel
theorem dX11_ramp_22 : decode cX11_ramp 22 = .ok (.aload_n 0, 1) := by decide +kernel
theorem dX11_ramp_23 : decode cX11_ramp 23 = .ok (.getfield 9, 3) := by decide +kernel
theorem dX11_ramp_26 : decode cX11_ramp 26 = .ok (.invokevirtual 308, 3) := by decide +kernel
theorem dX11_ramp_29 : decode cX11_ramp 29 = .ok (.iconst 3, 1) := by decide +kernel
theorem dX11_ramp_30 : decode cX11_ramp 30 = .ok (.iload_n 1, 1) := by decide +kernel
theorem dX11_ramp_31 : decode cX11_ramp 31 = .ok (.invokestatic 314, 3) := by decide +kernel
theorem dX11_ramp_34 : decode cX11_ramp 34 = .ok (.imul, 1) := by decide +kernel
theorem dX11_ramp_35 : decode cX11_ramp 35 = .ok (.istore_n 3, 1) := by decide +kernel
theorem dX11_ramp_36 : decode cX11_ramp 36 = .ok (.iconst 3, 1) := by decide +kernel
theorem dX11_ramp_37 : decode cX11_ramp 37 = .ok (.iload_n 2, 1) := by decide +kernel
theorem dX11_ramp_38 : decode cX11_ramp 38 = .ok (.invokestatic 314, 3) := by decide +kernel
theorem dX11_ramp_41 : decode cX11_ramp 41 = .ok (.imul, 1) := by decide +kernel
theorem dX11_ramp_42 : decode cX11_ramp 42 = .ok (.istore 4, 2) := by decide +kernel
theorem dX11_ramp_44 : decode cX11_ramp 44 = .ok (.iconst 0, 1) := by decide +kernel
theorem dX11_ramp_45 : decode cX11_ramp 45 = .ok (.istore 5, 2) := by decide +kernel
theorem dX11_ramp_47 : decode cX11_ramp 47 = .ok (.iconst 0, 1) := by decide +kernel
theorem dX11_ramp_48 : decode cX11_ramp 48 = .ok (.istore 6, 2) := by decide +kernel
theorem dX11_ramp_50 : decode cX11_ramp 50 = .ok (.iload 6, 2) := by decide +kernel
theorem dX11_ramp_52 : decode cX11_ramp 52 = .ok (.bipush 8, 2) := by decide +kernel
theorem dX11_ramp_54 : decode cX11_ramp 54 = .ok (.if_icmp .gt 170, 3) := by decide +kernel
theorem dX11_ramp_57 : decode cX11_ramp 57 = .ok (.aload_n 0, 1) := by decide +kernel
theorem dX11_ramp_58 : decode cX11_ramp 58 = .ok (.getfield 21, 3) := by decide +kernel
theorem dX11_ramp_61 : decode cX11_ramp 61 = .ok (.iload 6, 2) := by decide +kernel
theorem dX11_ramp_63 : decode cX11_ramp 63 = .ok (.aload_n 0, 1) := by decide +kernel
theorem dX11_ramp_64 : decode cX11_ramp 64 = .ok (.aload_n 0, 1) := by decide +kernel
theorem dX11_ramp_65 : decode cX11_ramp 65 = .ok (.getfield 27, 3) := by decide +kernel
theorem dX11_ramp_68 : decode cX11_ramp 68 = .ok (.iload_n 3, 1) := by decide +kernel
theorem dX11_ramp_69 : decode cX11_ramp 69 = .ok (.iaload, 1) := by decide +kernel
theorem dX11_ramp_70 : decode cX11_ramp 70 = .ok (.aload_n 0, 1) := by decide +kernel
theorem dX11_ramp_71 : decode cX11_ramp 71 = .ok (.getfield 27, 3) := by decide +kernel
theorem dX11_ramp_74 : decode cX11_ramp 74 = .ok (.iload 4, 2) := by decide +kernel
theorem dX11_ramp_76 : decode cX11_ramp 76 = .ok (.iaload, 1) := by decide +kernel
theorem dX11_ramp_77 : decode cX11_ramp 77 = .ok (.aload_n 0, 1) := by decide +kernel
theorem dX11_ramp_78 : decode cX11_ramp 78 = .ok (.getfield 27, 3) := by decide +kernel
theorem dX11_ramp_81 : decode cX11_ramp 81 = .ok (.iload_n 3, 1) := by decide +kernel
theorem dX11_ramp_82 : decode cX11_ramp 82 = .ok (.iaload, 1) := by decide +kernel
theorem dX11_ramp_83 : decode cX11_ramp 83 = .ok (.isub, 1) := by decide +kernel
theorem dX11_ramp_84 : decode cX11_ramp 84 = .ok (.iload 6, 2) := by decide +kernel
theorem dX11_ramp_86 : decode cX11_ramp 86 = .ok (.imul, 1) := by decide +kernel
theorem dX11_ramp_87 : decode cX11_ramp 87 = .ok (.bipush 8, 2) := by decide +kernel
theorem dX11_ramp_89 : decode cX11_ramp 89 = .ok (.idiv, 1) := by decide +kernel
theorem dX11_ramp_90 : decode cX11_ramp 90 = .ok (.iadd, 1) := by decide +kernel
theorem dX11_ramp_91 : decode cX11_ramp 91 = .ok (.aload_n 0, 1) := by decide +kernel
theorem dX11_ramp_92 : decode cX11_ramp 92 = .ok (.getfield 27, 3) := by decide +kernel
theorem dX11_ramp_95 : decode cX11_ramp 95 = .ok (.iload_n 3, 1) := by decide +kernel
theorem dX11_ramp_96 : decode cX11_ramp 96 = .ok (.iconst 1, 1) := by decide +kernel
theorem dX11_ramp_97 : decode cX11_ramp 97 = .ok (.iadd, 1) := by decide +kernel
theorem dX11_ramp_98 : decode cX11_ramp 98 = .ok (.iaload, 1) := by decide +kernel
theorem dX11_ramp_99 : decode cX11_ramp 99 = .ok (.aload_n 0, 1) := by decide +kernel
theorem dX11_ramp_100 : decode cX11_ramp 100 = .ok (.getfield 27, 3) := by decide +kernel
theorem dX11_ramp_103 : decode cX11_ramp 103 = .ok (.iload 4, 2) := by decide +kernel
theorem dX11_ramp_105 : decode cX11_ramp 105 = .ok (.iconst 1, 1) := by decide +kernel
theorem dX11_ramp_106 : decode cX11_ramp 106 = .ok (.iadd, 1) := by decide +kernel
theorem dX11_ramp_107 : decode cX11_ramp 107 = .ok (.iaload, 1) := by decide +kernel
theorem dX11_ramp_108 : decode cX11_ramp 108 = .ok (.aload_n 0, 1) := by decide +kernel
theorem dX11_ramp_109 : decode cX11_ramp 109 = .ok (.getfield 27, 3) := by decide +kernel
theorem dX11_ramp_112 : decode cX11_ramp 112 = .ok (.iload_n 3, 1) := by decide +kernel
theorem dX11_ramp_113 : decode cX11_ramp 113 = .ok (.iconst 1, 1) := by decide +kernel
theorem dX11_ramp_114 : decode cX11_ramp 114 = .ok (.iadd, 1) := by decide +kernel
theorem dX11_ramp_115 : decode cX11_ramp 115 = .ok (.iaload, 1) := by decide +kernel
theorem dX11_ramp_116 : decode cX11_ramp 116 = .ok (.isub, 1) := by decide +kernel
theorem dX11_ramp_117 : decode cX11_ramp 117 = .ok (.iload 6, 2) := by decide +kernel
theorem dX11_ramp_119 : decode cX11_ramp 119 = .ok (.imul, 1) := by decide +kernel
theorem dX11_ramp_120 : decode cX11_ramp 120 = .ok (.bipush 8, 2) := by decide +kernel
theorem dX11_ramp_122 : decode cX11_ramp 122 = .ok (.idiv, 1) := by decide +kernel
theorem dX11_ramp_123 : decode cX11_ramp 123 = .ok (.iadd, 1) := by decide +kernel
theorem dX11_ramp_124 : decode cX11_ramp 124 = .ok (.aload_n 0, 1) := by decide +kernel
theorem dX11_ramp_125 : decode cX11_ramp 125 = .ok (.getfield 27, 3) := by decide +kernel
theorem dX11_ramp_128 : decode cX11_ramp 128 = .ok (.iload_n 3, 1) := by decide +kernel
theorem dX11_ramp_129 : decode cX11_ramp 129 = .ok (.iconst 2, 1) := by decide +kernel
theorem dX11_ramp_130 : decode cX11_ramp 130 = .ok (.iadd, 1) := by decide +kernel
theorem dX11_ramp_131 : decode cX11_ramp 131 = .ok (.iaload, 1) := by decide +kernel
theorem dX11_ramp_132 : decode cX11_ramp 132 = .ok (.aload_n 0, 1) := by decide +kernel
theorem dX11_ramp_133 : decode cX11_ramp 133 = .ok (.getfield 27, 3) := by decide +kernel
theorem dX11_ramp_136 : decode cX11_ramp 136 = .ok (.iload 4, 2) := by decide +kernel
theorem dX11_ramp_138 : decode cX11_ramp 138 = .ok (.iconst 2, 1) := by decide +kernel
theorem dX11_ramp_139 : decode cX11_ramp 139 = .ok (.iadd, 1) := by decide +kernel
theorem dX11_ramp_140 : decode cX11_ramp 140 = .ok (.iaload, 1) := by decide +kernel
theorem dX11_ramp_141 : decode cX11_ramp 141 = .ok (.aload_n 0, 1) := by decide +kernel
theorem dX11_ramp_142 : decode cX11_ramp 142 = .ok (.getfield 27, 3) := by decide +kernel
theorem dX11_ramp_145 : decode cX11_ramp 145 = .ok (.iload_n 3, 1) := by decide +kernel
theorem dX11_ramp_146 : decode cX11_ramp 146 = .ok (.iconst 2, 1) := by decide +kernel
theorem dX11_ramp_147 : decode cX11_ramp 147 = .ok (.iadd, 1) := by decide +kernel
theorem dX11_ramp_148 : decode cX11_ramp 148 = .ok (.iaload, 1) := by decide +kernel
theorem dX11_ramp_149 : decode cX11_ramp 149 = .ok (.isub, 1) := by decide +kernel
theorem dX11_ramp_150 : decode cX11_ramp 150 = .ok (.iload 6, 2) := by decide +kernel
theorem dX11_ramp_152 : decode cX11_ramp 152 = .ok (.imul, 1) := by decide +kernel
theorem dX11_ramp_153 : decode cX11_ramp 153 = .ok (.bipush 8, 2) := by decide +kernel
theorem dX11_ramp_155 : decode cX11_ramp 155 = .ok (.idiv, 1) := by decide +kernel
theorem dX11_ramp_156 : decode cX11_ramp 156 = .ok (.iadd, 1) := by decide +kernel
theorem dX11_ramp_157 : decode cX11_ramp 157 = .ok (.invokevirtual 311, 3) := by decide +kernel
theorem dX11_ramp_160 : decode cX11_ramp 160 = .ok (.iastore, 1) := by decide +kernel
theorem dX11_ramp_161 : decode cX11_ramp 161 = .ok (.iconst 0, 1) := by decide +kernel
theorem dX11_ramp_162 : decode cX11_ramp 162 = .ok (.istore 7, 2) := by decide +kernel
theorem dX11_ramp_164 : decode cX11_ramp 164 = .ok (.iload 7, 2) := by decide +kernel
theorem dX11_ramp_166 : decode cX11_ramp 166 = .ok (.iconst 4, 1) := by decide +kernel
theorem dX11_ramp_167 : decode cX11_ramp 167 = .ok (.if_icmp .ge 51, 3) := by decide +kernel
theorem dX11_ramp_170 : decode cX11_ramp 170 = .ok (.iload 6, 2) := by decide +kernel
theorem dX11_ramp_172 : decode cX11_ramp 172 = .ok (.ifCond .le 46, 3) := by decide +kernel
theorem dX11_ramp_175 : decode cX11_ramp 175 = .ok (.iload 5, 2) := by decide +kernel
theorem dX11_ramp_177 : decode cX11_ramp 177 = .ok (.aload_n 0, 1) := by decide +kernel
theorem dX11_ramp_178 : decode cX11_ramp 178 = .ok (.getfield 21, 3) := by decide +kernel
theorem dX11_ramp_181 : decode cX11_ramp 181 = .ok (.iload 6, 2) := by decide +kernel
theorem dX11_ramp_183 : decode cX11_ramp 183 = .ok (.iaload, 1) := by decide +kernel
theorem dX11_ramp_184 : decode cX11_ramp 184 = .ok (.iload 7, 2) := by decide +kernel
theorem dX11_ramp_186 : decode cX11_ramp 186 = .ok (.invokestatic 119, 3) := by decide +kernel
theorem dX11_ramp_189 : decode cX11_ramp 189 = .ok (.aload_n 0, 1) := by decide +kernel
theorem dX11_ramp_190 : decode cX11_ramp 190 = .ok (.getfield 21, 3) := by decide +kernel
theorem dX11_ramp_193 : decode cX11_ramp 193 = .ok (.iload 6, 2) := by decide +kernel
theorem dX11_ramp_195 : decode cX11_ramp 195 = .ok (.iconst 1, 1) := by decide +kernel
theorem dX11_ramp_196 : decode cX11_ramp 196 = .ok (.isub, 1) := by decide +kernel
theorem dX11_ramp_197 : decode cX11_ramp 197 = .ok (.iaload, 1) := by decide +kernel
theorem dX11_ramp_198 : decode cX11_ramp 198 = .ok (.iload 7, 2) := by decide +kernel
theorem dX11_ramp_200 : decode cX11_ramp 200 = .ok (.invokestatic 119, 3) := by decide +kernel
theorem dX11_ramp_203 : decode cX11_ramp 203 = .ok (.isub, 1) := by decide +kernel
theorem dX11_ramp_204 : decode cX11_ramp 204 = .ok (.invokestatic 188, 3) := by decide +kernel
theorem dX11_ramp_207 : decode cX11_ramp 207 = .ok (.invokestatic 239, 3) := by decide +kernel
theorem dX11_ramp_210 : decode cX11_ramp 210 = .ok (.istore 5, 2) := by decide +kernel
theorem dX11_ramp_212 : decode cX11_ramp 212 = .ok (.iinc 7 1, 3) := by decide +kernel
theorem dX11_ramp_215 : decode cX11_ramp 215 = .ok (.goto (-51), 3) := by decide +kernel
theorem dX11_ramp_218 : decode cX11_ramp 218 = .ok (.iinc 6 1, 3) := by decide +kernel
theorem dX11_ramp_221 : decode cX11_ramp 221 = .ok (.goto (-171), 3) := by decide +kernel
theorem dX11_ramp_224 : decode cX11_ramp 224 = .ok (.aload_n 0, 1) := by decide +kernel
theorem dX11_ramp_225 : decode cX11_ramp 225 = .ok (.iconst 0, 1) := by decide +kernel
theorem dX11_ramp_226 : decode cX11_ramp 226 = .ok (.putfield 109, 3) := by decide +kernel
theorem dX11_ramp_229 : decode cX11_ramp 229 = .ok (.iconst 0, 1) := by decide +kernel
theorem dX11_ramp_230 : decode cX11_ramp 230 = .ok (.istore 6, 2) := by decide +kernel
theorem dX11_ramp_232 : decode cX11_ramp 232 = .ok (.iload 6, 2) := by decide +kernel
theorem dX11_ramp_234 : decode cX11_ramp 234 = .ok (.bipush 8, 2) := by decide +kernel
theorem dX11_ramp_236 : decode cX11_ramp 236 = .ok (.if_icmp .gt 21, 3) := by decide +kernel
theorem dX11_ramp_239 : decode cX11_ramp 239 = .ok (.aload_n 0, 1) := by decide +kernel
theorem dX11_ramp_240 : decode cX11_ramp 240 = .ok (.aload_n 0, 1) := by decide +kernel
theorem dX11_ramp_241 : decode cX11_ramp 241 = .ok (.getfield 21, 3) := by decide +kernel
theorem dX11_ramp_244 : decode cX11_ramp 244 = .ok (.iload 6, 2) := by decide +kernel
theorem dX11_ramp_246 : decode cX11_ramp 246 = .ok (.iaload, 1) := by decide +kernel
theorem dX11_ramp_247 : decode cX11_ramp 247 = .ok (.i2l, 1) := by decide +kernel
theorem dX11_ramp_248 : decode cX11_ramp 248 = .ok (.invokevirtual 273, 3) := by decide +kernel
theorem dX11_ramp_251 : decode cX11_ramp 251 = .ok (.iinc 6 1, 3) := by decide +kernel
theorem dX11_ramp_254 : decode cX11_ramp 254 = .ok (.goto (-22), 3) := by decide +kernel
theorem dX11_ramp_257 : decode cX11_ramp 257 = .ok (.iload 5, 2) := by decide +kernel
theorem dX11_ramp_259 : decode cX11_ramp 259 = .ok (.ireturn, 1) := by decide +kernel
theorem dX11_layWays_0 : decode cX11_layWays 0 = .ok (.iconst 0, 1) := by decide +kernel
theorem dX11_layWays_1 : decode cX11_layWays 1 = .ok (.istore_n 3, 1) := by decide +kernel
theorem dX11_layWays_2 : decode cX11_layWays 2 = .ok (.iload_n 3, 1) := by decide +kernel
theorem dX11_layWays_3 : decode cX11_layWays 3 = .ok (.sipush 6561, 3) := by decide +kernel
theorem dX11_layWays_6 : decode cX11_layWays 6 = .ok (.if_icmp .ge 16, 3) := by decide +kernel
theorem dX11_layWays_9 : decode cX11_layWays 9 = .ok (.aload_n 0, 1) := by decide +kernel
theorem dX11_layWays_10 : decode cX11_layWays 10 = .ok (.getfield 51, 3) := by decide +kernel
theorem dX11_layWays_13 : decode cX11_layWays 13 = .ok (.iload_n 3, 1) := by decide +kernel
theorem dX11_layWays_14 : decode cX11_layWays 14 = .ok (.iconst (-1), 1) := by decide +kernel
theorem dX11_layWays_15 : decode cX11_layWays 15 = .ok (.iastore, 1) := by decide +kernel
theorem dX11_layWays_16 : decode cX11_layWays 16 = .ok (.iinc 3 1, 3) := by decide +kernel
theorem dX11_layWays_19 : decode cX11_layWays 19 = .ok (.goto (-17), 3) := by decide +kernel
theorem dX11_layWays_22 : decode cX11_layWays 22 = .ok (.iconst 1, 1) := by decide +kernel
theorem dX11_layWays_23 : decode cX11_layWays 23 = .ok (.istore_n 3, 1) := by decide +kernel
theorem dX11_layWays_24 : decode cX11_layWays 24 = .ok (.aload_n 0, 1) := by decide +kernel
theorem dX11_layWays_25 : decode cX11_layWays 25 = .ok (.getfield 54, 3) := by decide +kernel
theorem dX11_layWays_28 : decode cX11_layWays 28 = .ok (.iconst 0, 1) := by decide +kernel
theorem dX11_layWays_29 : decode cX11_layWays 29 = .ok (.iload_n 1, 1) := by decide +kernel
theorem dX11_layWays_30 : decode cX11_layWays 30 = .ok (.iastore, 1) := by decide +kernel
theorem dX11_layWays_31 : decode cX11_layWays 31 = .ok (.aload_n 0, 1) := by decide +kernel
theorem dX11_layWays_32 : decode cX11_layWays 32 = .ok (.getfield 51, 3) := by decide +kernel
theorem dX11_layWays_35 : decode cX11_layWays 35 = .ok (.iload_n 1, 1) := by decide +kernel
theorem dX11_layWays_36 : decode cX11_layWays 36 = .ok (.invokestatic 314, 3) := by decide +kernel
theorem dX11_layWays_39 : decode cX11_layWays 39 = .ok (.iconst 0, 1) := by decide +kernel
theorem dX11_layWays_40 : decode cX11_layWays 40 = .ok (.iastore, 1) := by decide +kernel
theorem dX11_layWays_41 : decode cX11_layWays 41 = .ok (.iconst 0, 1) := by decide +kernel
theorem dX11_layWays_42 : decode cX11_layWays 42 = .ok (.istore 4, 2) := by decide +kernel
theorem dX11_layWays_44 : decode cX11_layWays 44 = .ok (.iload 4, 2) := by decide +kernel
theorem dX11_layWays_46 : decode cX11_layWays 46 = .ok (.iload_n 3, 1) := by decide +kernel
theorem dX11_layWays_47 : decode cX11_layWays 47 = .ok (.if_icmp .ge 132, 3) := by decide +kernel
theorem dX11_layWays_50 : decode cX11_layWays 50 = .ok (.iconst 0, 1) := by decide +kernel
theorem dX11_layWays_51 : decode cX11_layWays 51 = .ok (.istore 5, 2) := by decide +kernel
theorem dX11_layWays_53 : decode cX11_layWays 53 = .ok (.iload 5, 2) := by decide +kernel
theorem dX11_layWays_55 : decode cX11_layWays 55 = .ok (.bipush 8, 2) := by decide +kernel
theorem dX11_layWays_57 : decode cX11_layWays 57 = .ok (.if_icmp .ge 116, 3) := by decide +kernel
theorem dX11_layWays_60 : decode cX11_layWays 60 = .ok (.aload_n 0, 1) := by decide +kernel
theorem dX11_layWays_61 : decode cX11_layWays 61 = .ok (.getfield 54, 3) := by decide +kernel
theorem dX11_layWays_64 : decode cX11_layWays 64 = .ok (.iload 4, 2) := by decide +kernel
theorem dX11_layWays_66 : decode cX11_layWays 66 = .ok (.iaload, 1) := by decide +kernel
theorem dX11_layWays_67 : decode cX11_layWays 67 = .ok (.iload 5, 2) := by decide +kernel
theorem dX11_layWays_69 : decode cX11_layWays 69 = .ok (.invokestatic 352, 3) := by decide +kernel
theorem dX11_layWays_72 : decode cX11_layWays 72 = .ok (.istore 6, 2) := by decide +kernel
theorem dX11_layWays_74 : decode cX11_layWays 74 = .ok (.iload 6, 2) := by decide +kernel
theorem dX11_layWays_76 : decode cX11_layWays 76 = .ok (.iconst (-1), 1) := by decide +kernel
theorem dX11_layWays_77 : decode cX11_layWays 77 = .ok (.if_icmp .eq 90, 3) := by decide +kernel
theorem dX11_layWays_80 : decode cX11_layWays 80 = .ok (.aload_n 0, 1) := by decide +kernel
theorem dX11_layWays_81 : decode cX11_layWays 81 = .ok (.iload 6, 2) := by decide +kernel
theorem dX11_layWays_83 : decode cX11_layWays 83 = .ok (.invokevirtual 256, 3) := by decide +kernel
theorem dX11_layWays_86 : decode cX11_layWays 86 = .ok (.ifCond .eq 81, 3) := by decide +kernel
theorem dX11_layWays_89 : decode cX11_layWays 89 = .ok (.aload_n 0, 1) := by decide +kernel
theorem dX11_layWays_90 : decode cX11_layWays 90 = .ok (.getfield 51, 3) := by decide +kernel
theorem dX11_layWays_93 : decode cX11_layWays 93 = .ok (.iload 6, 2) := by decide +kernel
theorem dX11_layWays_95 : decode cX11_layWays 95 = .ok (.invokestatic 314, 3) := by decide +kernel
theorem dX11_layWays_98 : decode cX11_layWays 98 = .ok (.iaload, 1) := by decide +kernel
theorem dX11_layWays_99 : decode cX11_layWays 99 = .ok (.iconst (-1), 1) := by decide +kernel
theorem dX11_layWays_100 : decode cX11_layWays 100 = .ok (.if_icmp .ne 67, 3) := by decide +kernel
theorem dX11_layWays_103 : decode cX11_layWays 103 = .ok (.aload_n 0, 1) := by decide +kernel
theorem dX11_layWays_104 : decode cX11_layWays 104 = .ok (.iload 6, 2) := by decide +kernel
theorem dX11_layWays_106 : decode cX11_layWays 106 = .ok (.invokestatic 314, 3) := by decide +kernel
theorem dX11_layWays_109 : decode cX11_layWays 109 = .ok (.aload_n 0, 1) := by decide +kernel
theorem dX11_layWays_110 : decode cX11_layWays 110 = .ok (.getfield 54, 3) := by decide +kernel
theorem dX11_layWays_113 : decode cX11_layWays 113 = .ok (.iload 4, 2) := by decide +kernel
theorem dX11_layWays_115 : decode cX11_layWays 115 = .ok (.iaload, 1) := by decide +kernel
theorem dX11_layWays_116 : decode cX11_layWays 116 = .ok (.invokestatic 314, 3) := by decide +kernel
theorem dX11_layWays_119 : decode cX11_layWays 119 = .ok (.invokevirtual 355, 3) := by decide +kernel
theorem dX11_layWays_122 : decode cX11_layWays 122 = .ok (.iload_n 2, 1) := by decide +kernel
theorem dX11_layWays_123 : decode cX11_layWays 123 = .ok (.if_icmp .le 6, 3) := by decide +kernel
theorem dX11_layWays_126 : decode cX11_layWays 126 = .ok (.goto 41, 3) := by decide +kernel
theorem dX11_layWays_129 : decode cX11_layWays 129 = .ok (.aload_n 0, 1) := by decide +kernel
theorem dX11_layWays_130 : decode cX11_layWays 130 = .ok (.getfield 51, 3) := by decide +kernel
theorem dX11_layWays_133 : decode cX11_layWays 133 = .ok (.iload 6, 2) := by decide +kernel
theorem dX11_layWays_135 : decode cX11_layWays 135 = .ok (.invokestatic 314, 3) := by decide +kernel
theorem dX11_layWays_138 : decode cX11_layWays 138 = .ok (.aload_n 0, 1) := by decide +kernel
theorem dX11_layWays_139 : decode cX11_layWays 139 = .ok (.getfield 51, 3) := by decide +kernel
theorem dX11_layWays_142 : decode cX11_layWays 142 = .ok (.aload_n 0, 1) := by decide +kernel
theorem dX11_layWays_143 : decode cX11_layWays 143 = .ok (.getfield 54, 3) := by decide +kernel
theorem dX11_layWays_146 : decode cX11_layWays 146 = .ok (.iload 4, 2) := by decide +kernel
theorem dX11_layWays_148 : decode cX11_layWays 148 = .ok (.iaload, 1) := by decide +kernel
theorem dX11_layWays_149 : decode cX11_layWays 149 = .ok (.invokestatic 314, 3) := by decide +kernel
theorem dX11_layWays_152 : decode cX11_layWays 152 = .ok (.iaload, 1) := by decide +kernel
theorem dX11_layWays_153 : decode cX11_layWays 153 = .ok (.iconst 1, 1) := by decide +kernel
theorem dX11_layWays_154 : decode cX11_layWays 154 = .ok (.iadd, 1) := by decide +kernel
theorem dX11_layWays_155 : decode cX11_layWays 155 = .ok (.iastore, 1) := by decide +kernel
theorem dX11_layWays_156 : decode cX11_layWays 156 = .ok (.aload_n 0, 1) := by decide +kernel
theorem dX11_layWays_157 : decode cX11_layWays 157 = .ok (.getfield 54, 3) := by decide +kernel
theorem dX11_layWays_160 : decode cX11_layWays 160 = .ok (.iload_n 3, 1) := by decide +kernel
theorem dX11_layWays_161 : decode cX11_layWays 161 = .ok (.iload 6, 2) := by decide +kernel
theorem dX11_layWays_163 : decode cX11_layWays 163 = .ok (.iastore, 1) := by decide +kernel
theorem dX11_layWays_164 : decode cX11_layWays 164 = .ok (.iinc 3 1, 3) := by decide +kernel
theorem dX11_layWays_167 : decode cX11_layWays 167 = .ok (.iinc 5 1, 3) := by decide +kernel
theorem dX11_layWays_170 : decode cX11_layWays 170 = .ok (.goto (-117), 3) := by decide +kernel
theorem dX11_layWays_173 : decode cX11_layWays 173 = .ok (.iinc 4 1, 3) := by decide +kernel
theorem dX11_layWays_176 : decode cX11_layWays 176 = .ok (.goto (-132), 3) := by decide +kernel
theorem dX11_layWays_179 : decode cX11_layWays 179 = .ok (.return_, 1) := by decide +kernel
theorem dX11_neighbour_0 : decode cX11_neighbour 0 = .ok (.iload_n 1, 1) := by decide +kernel
theorem dX11_neighbour_1 : decode cX11_neighbour 1 = .ok (.iconst 4, 1) := by decide +kernel
theorem dX11_neighbour_2 : decode cX11_neighbour 2 = .ok (.if_icmp .ge 7, 3) := by decide +kernel
theorem dX11_neighbour_5 : decode cX11_neighbour 5 = .ok (.iload_n 1, 1) := by decide +kernel
theorem dX11_neighbour_6 : decode cX11_neighbour 6 = .ok (.goto 7, 3) := by decide +kernel
theorem dX11_neighbour_9 : decode cX11_neighbour 9 = .ok (.bipush 7, 2) := by decide +kernel
theorem dX11_neighbour_11 : decode cX11_neighbour 11 = .ok (.iload_n 1, 1) := by decide +kernel
theorem dX11_neighbour_12 : decode cX11_neighbour 12 = .ok (.isub, 1) := by decide +kernel
theorem dX11_neighbour_13 : decode cX11_neighbour 13 = .ok (.istore_n 2, 1) := by decide +kernel
theorem dX11_neighbour_14 : decode cX11_neighbour 14 = .ok (.iload_n 0, 1) := by decide +kernel
theorem dX11_neighbour_15 : decode cX11_neighbour 15 = .ok (.iload_n 2, 1) := by decide +kernel
theorem dX11_neighbour_16 : decode cX11_neighbour 16 = .ok (.invokestatic 119, 3) := by decide +kernel
theorem dX11_neighbour_19 : decode cX11_neighbour 19 = .ok (.istore_n 3, 1) := by decide +kernel
theorem dX11_neighbour_20 : decode cX11_neighbour 20 = .ok (.iload_n 1, 1) := by decide +kernel
theorem dX11_neighbour_21 : decode cX11_neighbour 21 = .ok (.iconst 4, 1) := by decide +kernel
theorem dX11_neighbour_22 : decode cX11_neighbour 22 = .ok (.if_icmp .ge 19, 3) := by decide +kernel
theorem dX11_neighbour_25 : decode cX11_neighbour 25 = .ok (.iload_n 3, 1) := by decide +kernel
theorem dX11_neighbour_26 : decode cX11_neighbour 26 = .ok (.ifCond .ne 7, 3) := by decide +kernel
theorem dX11_neighbour_29 : decode cX11_neighbour 29 = .ok (.iconst (-1), 1) := by decide +kernel
theorem dX11_neighbour_30 : decode cX11_neighbour 30 = .ok (.goto 10, 3) := by decide +kernel
theorem dX11_neighbour_33 : decode cX11_neighbour 33 = .ok (.iload_n 0, 1) := by decide +kernel
theorem dX11_neighbour_34 : decode cX11_neighbour 34 = .ok (.getstatic 116, 3) := by decide +kernel
theorem dX11_neighbour_37 : decode cX11_neighbour 37 = .ok (.iload_n 2, 1) := by decide +kernel
theorem dX11_neighbour_38 : decode cX11_neighbour 38 = .ok (.iaload, 1) := by decide +kernel
theorem dX11_neighbour_39 : decode cX11_neighbour 39 = .ok (.isub, 1) := by decide +kernel
theorem dX11_neighbour_40 : decode cX11_neighbour 40 = .ok (.ireturn, 1) := by decide +kernel
theorem dX11_neighbour_41 : decode cX11_neighbour 41 = .ok (.iload_n 3, 1) := by decide +kernel
theorem dX11_neighbour_42 : decode cX11_neighbour 42 = .ok (.bipush 8, 2) := by decide +kernel
theorem dX11_neighbour_44 : decode cX11_neighbour 44 = .ok (.if_icmp .ne 7, 3) := by decide +kernel
theorem dX11_neighbour_47 : decode cX11_neighbour 47 = .ok (.iconst (-1), 1) := by decide +kernel
theorem dX11_neighbour_48 : decode cX11_neighbour 48 = .ok (.goto 10, 3) := by decide +kernel
theorem dX11_neighbour_51 : decode cX11_neighbour 51 = .ok (.iload_n 0, 1) := by decide +kernel
theorem dX11_neighbour_52 : decode cX11_neighbour 52 = .ok (.getstatic 116, 3) := by decide +kernel
theorem dX11_neighbour_55 : decode cX11_neighbour 55 = .ok (.iload_n 2, 1) := by decide +kernel
theorem dX11_neighbour_56 : decode cX11_neighbour 56 = .ok (.iaload, 1) := by decide +kernel
theorem dX11_neighbour_57 : decode cX11_neighbour 57 = .ok (.iadd, 1) := by decide +kernel
theorem dX11_neighbour_58 : decode cX11_neighbour 58 = .ok (.ireturn, 1) := by decide +kernel
theorem dX11_way_0 : decode cX11_way 0 = .ok (.aload_n 0, 1) := by decide +kernel
theorem dX11_way_1 : decode cX11_way 1 = .ok (.iconst 0, 1) := by decide +kernel
theorem dX11_way_2 : decode cX11_way 2 = .ok (.putfield 105, 3) := by decide +kernel
theorem dX11_way_5 : decode cX11_way 5 = .ok (.iload_n 1, 1) := by decide +kernel
theorem dX11_way_6 : decode cX11_way 6 = .ok (.invokestatic 270, 3) := by decide +kernel
theorem dX11_way_9 : decode cX11_way 9 = .ok (.ifCond .eq 10, 3) := by decide +kernel
theorem dX11_way_12 : decode cX11_way 12 = .ok (.iload_n 2, 1) := by decide +kernel
theorem dX11_way_13 : decode cX11_way 13 = .ok (.invokestatic 270, 3) := by decide +kernel
theorem dX11_way_16 : decode cX11_way 16 = .ok (.ifCond .ne 5, 3) := by decide +kernel
theorem dX11_way_19 : decode cX11_way 19 = .ok (.iconst (-1), 1) := by decide +kernel
theorem dX11_way_20 : decode cX11_way 20 = .ok (.ireturn, 1) := by decide +kernel
theorem dX11_way_21 : decode cX11_way 21 = .ok (.aload_n 0, 1) := by decide +kernel
theorem dX11_way_22 : decode cX11_way 22 = .ok (.iload_n 1, 1) := by decide +kernel
theorem dX11_way_23 : decode cX11_way 23 = .ok (.invokevirtual 256, 3) := by decide +kernel
theorem dX11_way_26 : decode cX11_way 26 = .ok (.ifCond .eq 11, 3) := by decide +kernel
theorem dX11_way_29 : decode cX11_way 29 = .ok (.aload_n 0, 1) := by decide +kernel
theorem dX11_way_30 : decode cX11_way 30 = .ok (.iload_n 2, 1) := by decide +kernel
theorem dX11_way_31 : decode cX11_way 31 = .ok (.invokevirtual 256, 3) := by decide +kernel
theorem dX11_way_34 : decode cX11_way 34 = .ok (.ifCond .ne 6, 3) := by decide +kernel
theorem dX11_way_37 : decode cX11_way 37 = .ok (.bipush (-2), 2) := by decide +kernel
theorem dX11_way_39 : decode cX11_way 39 = .ok (.ireturn, 1) := by decide +kernel
theorem dX11_way_40 : decode cX11_way 40 = .ok (.aload_n 0, 1) := by decide +kernel
theorem dX11_way_41 : decode cX11_way 41 = .ok (.aload_n 0, 1) := by decide +kernel
theorem dX11_way_42 : decode cX11_way 42 = .ok (.getfield 9, 3) := by decide +kernel
theorem dX11_way_45 : decode cX11_way 45 = .ok (.invokevirtual 308, 3) := by decide +kernel
theorem dX11_way_48 : decode cX11_way 48 = .ok (.aload_n 0, 1) := by decide +kernel
theorem dX11_way_49 : decode cX11_way 49 = .ok (.iload_n 2, 1) := by decide +kernel
theorem dX11_way_50 : decode cX11_way 50 = .ok (.iload_n 3, 1) := by decide +kernel
theorem dX11_way_51 : decode cX11_way 51 = .ok (.invokevirtual 358, 3) := by decide +kernel
theorem dX11_way_54 : decode cX11_way 54 = .ok (.aload_n 0, 1) := by decide +kernel
theorem dX11_way_55 : decode cX11_way 55 = .ok (.getfield 51, 3) := by decide +kernel
theorem dX11_way_58 : decode cX11_way 58 = .ok (.iload_n 1, 1) := by decide +kernel
theorem dX11_way_59 : decode cX11_way 59 = .ok (.invokestatic 314, 3) := by decide +kernel
theorem dX11_way_62 : decode cX11_way 62 = .ok (.iaload, 1) := by decide +kernel
theorem dX11_way_63 : decode cX11_way 63 = .ok (.istore 4, 2) := by decide +kernel
theorem dX11_way_65 : decode cX11_way 65 = .ok (.iload 4, 2) := by decide +kernel
theorem dX11_way_67 : decode cX11_way 67 = .ok (.iconst (-1), 1) := by decide +kernel
theorem dX11_way_68 : decode cX11_way 68 = .ok (.if_icmp .ne 6, 3) := by decide +kernel
theorem dX11_way_71 : decode cX11_way 71 = .ok (.bipush (-2), 2) := by decide +kernel
theorem dX11_way_73 : decode cX11_way 73 = .ok (.ireturn, 1) := by decide +kernel
theorem dX11_way_74 : decode cX11_way 74 = .ok (.aload_n 0, 1) := by decide +kernel
theorem dX11_way_75 : decode cX11_way 75 = .ok (.iconst 0, 1) := by decide +kernel
theorem dX11_way_76 : decode cX11_way 76 = .ok (.putfield 109, 3) := by decide +kernel
theorem dX11_way_79 : decode cX11_way 79 = .ok (.iconst 0, 1) := by decide +kernel
theorem dX11_way_80 : decode cX11_way 80 = .ok (.istore 5, 2) := by decide +kernel
theorem dX11_way_82 : decode cX11_way 82 = .ok (.iload 5, 2) := by decide +kernel
theorem dX11_way_84 : decode cX11_way 84 = .ok (.bipush 8, 2) := by decide +kernel
theorem dX11_way_86 : decode cX11_way 86 = .ok (.if_icmp .ge 88, 3) := by decide +kernel
theorem dX11_way_89 : decode cX11_way 89 = .ok (.iload 4, 2) := by decide +kernel
theorem dX11_way_91 : decode cX11_way 91 = .ok (.ifCond .le 83, 3) := by decide +kernel
theorem dX11_way_94 : decode cX11_way 94 = .ok (.aload_n 0, 1) := by decide +kernel
theorem dX11_way_95 : decode cX11_way 95 = .ok (.getfield 109, 3) := by decide +kernel
theorem dX11_way_98 : decode cX11_way 98 = .ok (.ifCond .ne 76, 3) := by decide +kernel
theorem dX11_way_101 : decode cX11_way 101 = .ok (.iload_n 1, 1) := by decide +kernel
theorem dX11_way_102 : decode cX11_way 102 = .ok (.iload 5, 2) := by decide +kernel
theorem dX11_way_104 : decode cX11_way 104 = .ok (.invokestatic 352, 3) := by decide +kernel
theorem dX11_way_107 : decode cX11_way 107 = .ok (.istore 6, 2) := by decide +kernel
theorem dX11_way_109 : decode cX11_way 109 = .ok (.iload 6, 2) := by decide +kernel
theorem dX11_way_111 : decode cX11_way 111 = .ok (.iconst (-1), 1) := by decide +kernel
theorem dX11_way_112 : decode cX11_way 112 = .ok (.if_icmp .eq 56, 3) := by decide +kernel
theorem dX11_way_115 : decode cX11_way 115 = .ok (.aload_n 0, 1) := by decide +kernel
theorem dX11_way_116 : decode cX11_way 116 = .ok (.iload 6, 2) := by decide +kernel
theorem dX11_way_118 : decode cX11_way 118 = .ok (.invokevirtual 256, 3) := by decide +kernel
theorem dX11_way_121 : decode cX11_way 121 = .ok (.ifCond .eq 47, 3) := by decide +kernel
theorem dX11_way_124 : decode cX11_way 124 = .ok (.aload_n 0, 1) := by decide +kernel
theorem dX11_way_125 : decode cX11_way 125 = .ok (.getfield 51, 3) := by decide +kernel
theorem dX11_way_128 : decode cX11_way 128 = .ok (.iload 6, 2) := by decide +kernel
theorem dX11_way_130 : decode cX11_way 130 = .ok (.invokestatic 314, 3) := by decide +kernel
theorem dX11_way_133 : decode cX11_way 133 = .ok (.iaload, 1) := by decide +kernel
theorem dX11_way_134 : decode cX11_way 134 = .ok (.iload 4, 2) := by decide +kernel
theorem dX11_way_136 : decode cX11_way 136 = .ok (.iconst 1, 1) := by decide +kernel
theorem dX11_way_137 : decode cX11_way 137 = .ok (.isub, 1) := by decide +kernel
theorem dX11_way_138 : decode cX11_way 138 = .ok (.if_icmp .ne 30, 3) := by decide +kernel
theorem dX11_way_141 : decode cX11_way 141 = .ok (.aload_n 0, 1) := by decide +kernel
theorem dX11_way_142 : decode cX11_way 142 = .ok (.iload 6, 2) := by decide +kernel
theorem dX11_way_144 : decode cX11_way 144 = .ok (.invokestatic 314, 3) := by decide +kernel
theorem dX11_way_147 : decode cX11_way 147 = .ok (.iload_n 1, 1) := by decide +kernel
theorem dX11_way_148 : decode cX11_way 148 = .ok (.invokestatic 314, 3) := by decide +kernel
theorem dX11_way_151 : decode cX11_way 151 = .ok (.invokevirtual 355, 3) := by decide +kernel
theorem dX11_way_154 : decode cX11_way 154 = .ok (.iload_n 3, 1) := by decide +kernel
theorem dX11_way_155 : decode cX11_way 155 = .ok (.if_icmp .le 6, 3) := by decide +kernel
theorem dX11_way_158 : decode cX11_way 158 = .ok (.goto 10, 3) := by decide +kernel
theorem dX11_way_161 : decode cX11_way 161 = .ok (.aload_n 0, 1) := by decide +kernel
theorem dX11_way_162 : decode cX11_way 162 = .ok (.iload 6, 2) := by decide +kernel
theorem dX11_way_164 : decode cX11_way 164 = .ok (.i2l, 1) := by decide +kernel
theorem dX11_way_165 : decode cX11_way 165 = .ok (.invokevirtual 273, 3) := by decide +kernel
theorem dX11_way_168 : decode cX11_way 168 = .ok (.iinc 5 1, 3) := by decide +kernel
theorem dX11_way_171 : decode cX11_way 171 = .ok (.goto (-89), 3) := by decide +kernel
theorem dX11_way_174 : decode cX11_way 174 = .ok (.iload 4, 2) := by decide +kernel
theorem dX11_way_176 : decode cX11_way 176 = .ok (.ireturn, 1) := by decide +kernel
theorem dX11_risesOf_0 : decode cX11_risesOf 0 = .ok (.iconst 0, 1) := by decide +kernel
theorem dX11_risesOf_1 : decode cX11_risesOf 1 = .ok (.istore_n 3, 1) := by decide +kernel
theorem dX11_risesOf_2 : decode cX11_risesOf 2 = .ok (.iconst 0, 1) := by decide +kernel
theorem dX11_risesOf_3 : decode cX11_risesOf 3 = .ok (.istore 4, 2) := by decide +kernel
theorem dX11_risesOf_5 : decode cX11_risesOf 5 = .ok (.iload 4, 2) := by decide +kernel
theorem dX11_risesOf_7 : decode cX11_risesOf 7 = .ok (.bipush 81, 2) := by decide +kernel
theorem dX11_risesOf_9 : decode cX11_risesOf 9 = .ok (.if_icmp .ge 84, 3) := by decide +kernel
theorem dX11_risesOf_12 : decode cX11_risesOf 12 = .ok (.iload 4, 2) := by decide +kernel
theorem dX11_risesOf_14 : decode cX11_risesOf 14 = .ok (.iload_n 2, 1) := by decide +kernel
theorem dX11_risesOf_15 : decode cX11_risesOf 15 = .ok (.invokestatic 123, 3) := by decide +kernel
theorem dX11_risesOf_18 : decode cX11_risesOf 18 = .ok (.iconst 2, 1) := by decide +kernel
theorem dX11_risesOf_19 : decode cX11_risesOf 19 = .ok (.if_icmp .ne 6, 3) := by decide +kernel
theorem dX11_risesOf_22 : decode cX11_risesOf 22 = .ok (.goto 65, 3) := by decide +kernel
theorem dX11_risesOf_25 : decode cX11_risesOf 25 = .ok (.iconst 0, 1) := by decide +kernel
theorem dX11_risesOf_26 : decode cX11_risesOf 26 = .ok (.istore 5, 2) := by decide +kernel
theorem dX11_risesOf_28 : decode cX11_risesOf 28 = .ok (.iload 5, 2) := by decide +kernel
theorem dX11_risesOf_30 : decode cX11_risesOf 30 = .ok (.iconst 3, 1) := by decide +kernel
theorem dX11_risesOf_31 : decode cX11_risesOf 31 = .ok (.if_icmp .ge 56, 3) := by decide +kernel
theorem dX11_risesOf_34 : decode cX11_risesOf 34 = .ok (.aload_n 1, 1) := by decide +kernel
theorem dX11_risesOf_35 : decode cX11_risesOf 35 = .ok (.iload 4, 2) := by decide +kernel
theorem dX11_risesOf_37 : decode cX11_risesOf 37 = .ok (.getstatic 94, 3) := by decide +kernel
theorem dX11_risesOf_40 : decode cX11_risesOf 40 = .ok (.iload_n 2, 1) := by decide +kernel
theorem dX11_risesOf_41 : decode cX11_risesOf 41 = .ok (.iaload, 1) := by decide +kernel
theorem dX11_risesOf_42 : decode cX11_risesOf 42 = .ok (.iadd, 1) := by decide +kernel
theorem dX11_risesOf_43 : decode cX11_risesOf 43 = .ok (.iload 5, 2) := by decide +kernel
theorem dX11_risesOf_45 : decode cX11_risesOf 45 = .ok (.invokestatic 230, 3) := by decide +kernel
theorem dX11_risesOf_48 : decode cX11_risesOf 48 = .ok (.aload_n 1, 1) := by decide +kernel
theorem dX11_risesOf_49 : decode cX11_risesOf 49 = .ok (.iload 4, 2) := by decide +kernel
theorem dX11_risesOf_51 : decode cX11_risesOf 51 = .ok (.iload 5, 2) := by decide +kernel
theorem dX11_risesOf_53 : decode cX11_risesOf 53 = .ok (.invokestatic 230, 3) := by decide +kernel
theorem dX11_risesOf_56 : decode cX11_risesOf 56 = .ok (.if_icmp .gt 6, 3) := by decide +kernel
theorem dX11_risesOf_59 : decode cX11_risesOf 59 = .ok (.goto 22, 3) := by decide +kernel
theorem dX11_risesOf_62 : decode cX11_risesOf 62 = .ok (.iload_n 3, 1) := by decide +kernel
theorem dX11_risesOf_63 : decode cX11_risesOf 63 = .ok (.ifCond .ne 15, 3) := by decide +kernel
theorem dX11_risesOf_66 : decode cX11_risesOf 66 = .ok (.aload_n 0, 1) := by decide +kernel
theorem dX11_risesOf_67 : decode cX11_risesOf 67 = .ok (.iload 4, 2) := by decide +kernel
theorem dX11_risesOf_69 : decode cX11_risesOf 69 = .ok (.putfield 361, 3) := by decide +kernel
theorem dX11_risesOf_72 : decode cX11_risesOf 72 = .ok (.aload_n 0, 1) := by decide +kernel
theorem dX11_risesOf_73 : decode cX11_risesOf 73 = .ok (.iload 5, 2) := by decide +kernel
theorem dX11_risesOf_75 : decode cX11_risesOf 75 = .ok (.putfield 364, 3) := by decide +kernel
theorem dX11_risesOf_78 : decode cX11_risesOf 78 = .ok (.iinc 3 1, 3) := by decide +kernel
theorem dX11_risesOf_81 : decode cX11_risesOf 81 = .ok (.iinc 5 1, 3) := by decide +kernel
theorem dX11_risesOf_84 : decode cX11_risesOf 84 = .ok (.goto (-56), 3) := by decide +kernel
theorem dX11_risesOf_87 : decode cX11_risesOf 87 = .ok (.iinc 4 1, 3) := by decide +kernel
theorem dX11_risesOf_90 : decode cX11_risesOf 90 = .ok (.goto (-85), 3) := by decide +kernel
theorem dX11_risesOf_93 : decode cX11_risesOf 93 = .ok (.iload_n 3, 1) := by decide +kernel
theorem dX11_risesOf_94 : decode cX11_risesOf 94 = .ok (.ireturn, 1) := by decide +kernel
theorem dX11_rises_0 : decode cX11_rises 0 = .ok (.aload_n 0, 1) := by decide +kernel
theorem dX11_rises_1 : decode cX11_rises 1 = .ok (.iconst 0, 1) := by decide +kernel
theorem dX11_rises_2 : decode cX11_rises 2 = .ok (.putfield 105, 3) := by decide +kernel
theorem dX11_rises_5 : decode cX11_rises 5 = .ok (.iload_n 1, 1) := by decide +kernel
theorem dX11_rises_6 : decode cX11_rises 6 = .ok (.invokestatic 185, 3) := by decide +kernel
theorem dX11_rises_9 : decode cX11_rises 9 = .ok (.ifCond .ne 5, 3) := by decide +kernel
theorem dX11_rises_12 : decode cX11_rises 12 = .ok (.iconst (-1), 1) := by decide +kernel
theorem dX11_rises_13 : decode cX11_rises 13 = .ok (.ireturn, 1) := by decide +kernel
theorem dX11_rises_14 : decode cX11_rises 14 = .ok (.aload_n 0, 1) := by decide +kernel
theorem dX11_rises_15 : decode cX11_rises 15 = .ok (.aload_n 0, 1) := by decide +kernel
theorem dX11_rises_16 : decode cX11_rises 16 = .ok (.getfield 9, 3) := by decide +kernel
theorem dX11_rises_19 : decode cX11_rises 19 = .ok (.iload_n 1, 1) := by decide +kernel
theorem dX11_rises_20 : decode cX11_rises 20 = .ok (.invokevirtual 367, 3) := by decide +kernel
theorem dX11_rises_23 : decode cX11_rises 23 = .ok (.istore_n 2, 1) := by decide +kernel
theorem dX11_rises_24 : decode cX11_rises 24 = .ok (.aload_n 0, 1) := by decide +kernel
theorem dX11_rises_25 : decode cX11_rises 25 = .ok (.iconst 0, 1) := by decide +kernel
theorem dX11_rises_26 : decode cX11_rises 26 = .ok (.putfield 109, 3) := by decide +kernel
theorem dX11_rises_29 : decode cX11_rises 29 = .ok (.iload_n 2, 1) := by decide +kernel
theorem dX11_rises_30 : decode cX11_rises 30 = .ok (.ifCond .le 21, 3) := by decide +kernel
theorem dX11_rises_33 : decode cX11_rises 33 = .ok (.aload_n 0, 1) := by decide +kernel
theorem dX11_rises_34 : decode cX11_rises 34 = .ok (.aload_n 0, 1) := by decide +kernel
theorem dX11_rises_35 : decode cX11_rises 35 = .ok (.getfield 361, 3) := by decide +kernel
theorem dX11_rises_38 : decode cX11_rises 38 = .ok (.i2l, 1) := by decide +kernel
theorem dX11_rises_39 : decode cX11_rises 39 = .ok (.invokevirtual 273, 3) := by decide +kernel
theorem dX11_rises_42 : decode cX11_rises 42 = .ok (.aload_n 0, 1) := by decide +kernel
theorem dX11_rises_43 : decode cX11_rises 43 = .ok (.aload_n 0, 1) := by decide +kernel
theorem dX11_rises_44 : decode cX11_rises 44 = .ok (.getfield 364, 3) := by decide +kernel
theorem dX11_rises_47 : decode cX11_rises 47 = .ok (.i2l, 1) := by decide +kernel
theorem dX11_rises_48 : decode cX11_rises 48 = .ok (.invokevirtual 273, 3) := by decide +kernel
theorem dX11_rises_51 : decode cX11_rises 51 = .ok (.iload_n 2, 1) := by decide +kernel
theorem dX11_rises_52 : decode cX11_rises 52 = .ok (.ireturn, 1) := by decide +kernel
theorem dX11_reach_0 : decode cX11_reach 0 = .ok (.aload_n 0, 1) := by decide +kernel
theorem dX11_reach_1 : decode cX11_reach 1 = .ok (.iconst 0, 1) := by decide +kernel
theorem dX11_reach_2 : decode cX11_reach 2 = .ok (.putfield 105, 3) := by decide +kernel
theorem dX11_reach_5 : decode cX11_reach 5 = .ok (.iload_n 1, 1) := by decide +kernel
theorem dX11_reach_6 : decode cX11_reach 6 = .ok (.iconst 0, 1) := by decide +kernel
theorem dX11_reach_7 : decode cX11_reach 7 = .ok (.iconst 2, 1) := by decide +kernel
theorem dX11_reach_8 : decode cX11_reach 8 = .ok (.invokestatic 112, 3) := by decide +kernel
theorem dX11_reach_11 : decode cX11_reach 11 = .ok (.ifCond .ne 5, 3) := by decide +kernel
theorem dX11_reach_14 : decode cX11_reach 14 = .ok (.iconst (-1), 1) := by decide +kernel
theorem dX11_reach_15 : decode cX11_reach 15 = .ok (.ireturn, 1) := by decide +kernel
theorem dX11_reach_16 : decode cX11_reach 16 = .ok (.aload_n 0, 1) := by decide +kernel
theorem dX11_reach_17 : decode cX11_reach 17 = .ok (.aload_n 0, 1) := by decide +kernel
theorem dX11_reach_18 : decode cX11_reach 18 = .ok (.getfield 9, 3) := by decide +kernel
theorem dX11_reach_21 : decode cX11_reach 21 = .ok (.invokevirtual 308, 3) := by decide +kernel
theorem dX11_reach_24 : decode cX11_reach 24 = .ok (.iconst (-1), 1) := by decide +kernel
theorem dX11_reach_25 : decode cX11_reach 25 = .ok (.istore_n 2, 1) := by decide +kernel
theorem dX11_reach_26 : decode cX11_reach 26 = .ok (.iconst (-1), 1) := by decide +kernel
theorem dX11_reach_27 : decode cX11_reach 27 = .ok (.istore_n 3, 1) := by decide +kernel
theorem dX11_reach_28 : decode cX11_reach 28 = .ok (.iconst 0, 1) := by decide +kernel
theorem dX11_reach_29 : decode cX11_reach 29 = .ok (.istore 4, 2) := by decide +kernel
theorem dX11_reach_31 : decode cX11_reach 31 = .ok (.iload 4, 2) := by decide +kernel
theorem dX11_reach_33 : decode cX11_reach 33 = .ok (.sipush 6561, 3) := by decide +kernel
theorem dX11_reach_36 : decode cX11_reach 36 = .ok (.if_icmp .ge 88, 3) := by decide +kernel
theorem dX11_reach_39 : decode cX11_reach 39 = .ok (.aload_n 0, 1) := by decide +kernel
theorem dX11_reach_40 : decode cX11_reach 40 = .ok (.iload 4, 2) := by decide +kernel
theorem dX11_reach_42 : decode cX11_reach 42 = .ok (.invokestatic 101, 3) := by decide +kernel
theorem dX11_reach_45 : decode cX11_reach 45 = .ok (.invokevirtual 256, 3) := by decide +kernel
theorem dX11_reach_48 : decode cX11_reach 48 = .ok (.ifCond .ne 6, 3) := by decide +kernel
theorem dX11_reach_51 : decode cX11_reach 51 = .ok (.goto 67, 3) := by decide +kernel
theorem dX11_reach_54 : decode cX11_reach 54 = .ok (.iload_n 2, 1) := by decide +kernel
theorem dX11_reach_55 : decode cX11_reach 55 = .ok (.iconst (-1), 1) := by decide +kernel
theorem dX11_reach_56 : decode cX11_reach 56 = .ok (.if_icmp .eq 27, 3) := by decide +kernel
theorem dX11_reach_59 : decode cX11_reach 59 = .ok (.aload_n 0, 1) := by decide +kernel
theorem dX11_reach_60 : decode cX11_reach 60 = .ok (.getfield 27, 3) := by decide +kernel
theorem dX11_reach_63 : decode cX11_reach 63 = .ok (.iconst 3, 1) := by decide +kernel
theorem dX11_reach_64 : decode cX11_reach 64 = .ok (.iload 4, 2) := by decide +kernel
theorem dX11_reach_66 : decode cX11_reach 66 = .ok (.imul, 1) := by decide +kernel
theorem dX11_reach_67 : decode cX11_reach 67 = .ok (.iload_n 1, 1) := by decide +kernel
theorem dX11_reach_68 : decode cX11_reach 68 = .ok (.iadd, 1) := by decide +kernel
theorem dX11_reach_69 : decode cX11_reach 69 = .ok (.iaload, 1) := by decide +kernel
theorem dX11_reach_70 : decode cX11_reach 70 = .ok (.aload_n 0, 1) := by decide +kernel
theorem dX11_reach_71 : decode cX11_reach 71 = .ok (.getfield 27, 3) := by decide +kernel
theorem dX11_reach_74 : decode cX11_reach 74 = .ok (.iconst 3, 1) := by decide +kernel
theorem dX11_reach_75 : decode cX11_reach 75 = .ok (.iload_n 2, 1) := by decide +kernel
theorem dX11_reach_76 : decode cX11_reach 76 = .ok (.imul, 1) := by decide +kernel
theorem dX11_reach_77 : decode cX11_reach 77 = .ok (.iload_n 1, 1) := by decide +kernel
theorem dX11_reach_78 : decode cX11_reach 78 = .ok (.iadd, 1) := by decide +kernel
theorem dX11_reach_79 : decode cX11_reach 79 = .ok (.iaload, 1) := by decide +kernel
theorem dX11_reach_80 : decode cX11_reach 80 = .ok (.if_icmp .ge 6, 3) := by decide +kernel
theorem dX11_reach_83 : decode cX11_reach 83 = .ok (.iload 4, 2) := by decide +kernel
theorem dX11_reach_85 : decode cX11_reach 85 = .ok (.istore_n 2, 1) := by decide +kernel
theorem dX11_reach_86 : decode cX11_reach 86 = .ok (.iload_n 3, 1) := by decide +kernel
theorem dX11_reach_87 : decode cX11_reach 87 = .ok (.iconst (-1), 1) := by decide +kernel
theorem dX11_reach_88 : decode cX11_reach 88 = .ok (.if_icmp .eq 27, 3) := by decide +kernel
theorem dX11_reach_91 : decode cX11_reach 91 = .ok (.aload_n 0, 1) := by decide +kernel
theorem dX11_reach_92 : decode cX11_reach 92 = .ok (.getfield 27, 3) := by decide +kernel
theorem dX11_reach_95 : decode cX11_reach 95 = .ok (.iconst 3, 1) := by decide +kernel
theorem dX11_reach_96 : decode cX11_reach 96 = .ok (.iload 4, 2) := by decide +kernel
theorem dX11_reach_98 : decode cX11_reach 98 = .ok (.imul, 1) := by decide +kernel
theorem dX11_reach_99 : decode cX11_reach 99 = .ok (.iload_n 1, 1) := by decide +kernel
theorem dX11_reach_100 : decode cX11_reach 100 = .ok (.iadd, 1) := by decide +kernel
theorem dX11_reach_101 : decode cX11_reach 101 = .ok (.iaload, 1) := by decide +kernel
theorem dX11_reach_102 : decode cX11_reach 102 = .ok (.aload_n 0, 1) := by decide +kernel
theorem dX11_reach_103 : decode cX11_reach 103 = .ok (.getfield 27, 3) := by decide +kernel
theorem dX11_reach_106 : decode cX11_reach 106 = .ok (.iconst 3, 1) := by decide +kernel
theorem dX11_reach_107 : decode cX11_reach 107 = .ok (.iload_n 3, 1) := by decide +kernel
theorem dX11_reach_108 : decode cX11_reach 108 = .ok (.imul, 1) := by decide +kernel
theorem dX11_reach_109 : decode cX11_reach 109 = .ok (.iload_n 1, 1) := by decide +kernel
theorem dX11_reach_110 : decode cX11_reach 110 = .ok (.iadd, 1) := by decide +kernel
theorem dX11_reach_111 : decode cX11_reach 111 = .ok (.iaload, 1) := by decide +kernel
theorem dX11_reach_112 : decode cX11_reach 112 = .ok (.if_icmp .le 6, 3) := by decide +kernel
theorem dX11_reach_115 : decode cX11_reach 115 = .ok (.iload 4, 2) := by decide +kernel
theorem dX11_reach_117 : decode cX11_reach 117 = .ok (.istore_n 3, 1) := by decide +kernel
theorem dX11_reach_118 : decode cX11_reach 118 = .ok (.iinc 4 1, 3) := by decide +kernel
theorem dX11_reach_121 : decode cX11_reach 121 = .ok (.goto (-90), 3) := by decide +kernel
theorem dX11_reach_124 : decode cX11_reach 124 = .ok (.aload_n 0, 1) := by decide +kernel
theorem dX11_reach_125 : decode cX11_reach 125 = .ok (.getfield 27, 3) := by decide +kernel
theorem dX11_reach_128 : decode cX11_reach 128 = .ok (.iconst 3, 1) := by decide +kernel
theorem dX11_reach_129 : decode cX11_reach 129 = .ok (.iload_n 2, 1) := by decide +kernel
theorem dX11_reach_130 : decode cX11_reach 130 = .ok (.imul, 1) := by decide +kernel
theorem dX11_reach_131 : decode cX11_reach 131 = .ok (.iload_n 1, 1) := by decide +kernel
theorem dX11_reach_132 : decode cX11_reach 132 = .ok (.iadd, 1) := by decide +kernel
theorem dX11_reach_133 : decode cX11_reach 133 = .ok (.iaload, 1) := by decide +kernel
theorem dX11_reach_134 : decode cX11_reach 134 = .ok (.istore 4, 2) := by decide +kernel
theorem dX11_reach_136 : decode cX11_reach 136 = .ok (.aload_n 0, 1) := by decide +kernel
theorem dX11_reach_137 : decode cX11_reach 137 = .ok (.getfield 27, 3) := by decide +kernel
theorem dX11_reach_140 : decode cX11_reach 140 = .ok (.iconst 3, 1) := by decide +kernel
theorem dX11_reach_141 : decode cX11_reach 141 = .ok (.iload_n 3, 1) := by decide +kernel
theorem dX11_reach_142 : decode cX11_reach 142 = .ok (.imul, 1) := by decide +kernel
theorem dX11_reach_143 : decode cX11_reach 143 = .ok (.iload_n 1, 1) := by decide +kernel
theorem dX11_reach_144 : decode cX11_reach 144 = .ok (.iadd, 1) := by decide +kernel
theorem dX11_reach_145 : decode cX11_reach 145 = .ok (.iaload, 1) := by decide +kernel
theorem dX11_reach_146 : decode cX11_reach 146 = .ok (.istore 5, 2) := by decide +kernel
theorem dX11_reach_148 : decode cX11_reach 148 = .ok (.aload_n 0, 1) := by decide +kernel
theorem dX11_reach_149 : decode cX11_reach 149 = .ok (.iconst 0, 1) := by decide +kernel
theorem dX11_reach_150 : decode cX11_reach 150 = .ok (.putfield 109, 3) := by decide +kernel
theorem dX11_reach_153 : decode cX11_reach 153 = .ok (.aload_n 0, 1) := by decide +kernel
theorem dX11_reach_154 : decode cX11_reach 154 = .ok (.iload 4, 2) := by decide +kernel
theorem dX11_reach_156 : decode cX11_reach 156 = .ok (.i2l, 1) := by decide +kernel
theorem dX11_reach_157 : decode cX11_reach 157 = .ok (.invokevirtual 273, 3) := by decide +kernel
theorem dX11_reach_160 : decode cX11_reach 160 = .ok (.aload_n 0, 1) := by decide +kernel
theorem dX11_reach_161 : decode cX11_reach 161 = .ok (.iload_n 2, 1) := by decide +kernel
theorem dX11_reach_162 : decode cX11_reach 162 = .ok (.invokestatic 101, 3) := by decide +kernel
theorem dX11_reach_165 : decode cX11_reach 165 = .ok (.i2l, 1) := by decide +kernel
theorem dX11_reach_166 : decode cX11_reach 166 = .ok (.invokevirtual 273, 3) := by decide +kernel
theorem dX11_reach_169 : decode cX11_reach 169 = .ok (.aload_n 0, 1) := by decide +kernel
theorem dX11_reach_170 : decode cX11_reach 170 = .ok (.iload 5, 2) := by decide +kernel
theorem dX11_reach_172 : decode cX11_reach 172 = .ok (.i2l, 1) := by decide +kernel
theorem dX11_reach_173 : decode cX11_reach 173 = .ok (.invokevirtual 273, 3) := by decide +kernel
theorem dX11_reach_176 : decode cX11_reach 176 = .ok (.aload_n 0, 1) := by decide +kernel
theorem dX11_reach_177 : decode cX11_reach 177 = .ok (.iload_n 3, 1) := by decide +kernel
theorem dX11_reach_178 : decode cX11_reach 178 = .ok (.invokestatic 101, 3) := by decide +kernel
theorem dX11_reach_181 : decode cX11_reach 181 = .ok (.i2l, 1) := by decide +kernel
theorem dX11_reach_182 : decode cX11_reach 182 = .ok (.invokevirtual 273, 3) := by decide +kernel
theorem dX11_reach_185 : decode cX11_reach 185 = .ok (.iload 5, 2) := by decide +kernel
theorem dX11_reach_187 : decode cX11_reach 187 = .ok (.iload 4, 2) := by decide +kernel
theorem dX11_reach_189 : decode cX11_reach 189 = .ok (.isub, 1) := by decide +kernel
theorem dX11_reach_190 : decode cX11_reach 190 = .ok (.ireturn, 1) := by decide +kernel
theorem dX11_sort_0 : decode cX11_sort 0 = .ok (.iconst 1, 1) := by decide +kernel
theorem dX11_sort_1 : decode cX11_sort 1 = .ok (.istore_n 2, 1) := by decide +kernel
theorem dX11_sort_2 : decode cX11_sort 2 = .ok (.iload_n 2, 1) := by decide +kernel
theorem dX11_sort_3 : decode cX11_sort 3 = .ok (.iload_n 1, 1) := by decide +kernel
theorem dX11_sort_4 : decode cX11_sort 4 = .ok (.if_icmp .ge 171, 3) := by decide +kernel
theorem dX11_sort_7 : decode cX11_sort 7 = .ok (.iconst 0, 1) := by decide +kernel
theorem dX11_sort_8 : decode cX11_sort 8 = .ok (.istore_n 3, 1) := by decide +kernel
theorem dX11_sort_9 : decode cX11_sort 9 = .ok (.iload_n 3, 1) := by decide +kernel
theorem dX11_sort_10 : decode cX11_sort 10 = .ok (.iload_n 1, 1) := by decide +kernel
theorem dX11_sort_11 : decode cX11_sort 11 = .ok (.if_icmp .ge 132, 3) := by decide +kernel
theorem dX11_sort_14 : decode cX11_sort 14 = .ok (.iload_n 1, 1) := by decide +kernel
theorem dX11_sort_15 : decode cX11_sort 15 = .ok (.iload_n 3, 1) := by decide +kernel
theorem dX11_sort_16 : decode cX11_sort 16 = .ok (.iload_n 2, 1) := by decide +kernel
theorem dX11_sort_17 : decode cX11_sort 17 = .ok (.iadd, 1) := by decide +kernel
theorem dX11_sort_18 : decode cX11_sort 18 = .ok (.invokestatic 223, 3) := by decide +kernel
theorem dX11_sort_21 : decode cX11_sort 21 = .ok (.istore 4, 2) := by decide +kernel
theorem dX11_sort_23 : decode cX11_sort 23 = .ok (.iload_n 1, 1) := by decide +kernel
theorem dX11_sort_24 : decode cX11_sort 24 = .ok (.iload_n 3, 1) := by decide +kernel
theorem dX11_sort_25 : decode cX11_sort 25 = .ok (.iconst 2, 1) := by decide +kernel
theorem dX11_sort_26 : decode cX11_sort 26 = .ok (.iload_n 2, 1) := by decide +kernel
theorem dX11_sort_27 : decode cX11_sort 27 = .ok (.imul, 1) := by decide +kernel
theorem dX11_sort_28 : decode cX11_sort 28 = .ok (.iadd, 1) := by decide +kernel
theorem dX11_sort_29 : decode cX11_sort 29 = .ok (.invokestatic 223, 3) := by decide +kernel
theorem dX11_sort_32 : decode cX11_sort 32 = .ok (.istore 5, 2) := by decide +kernel
theorem dX11_sort_34 : decode cX11_sort 34 = .ok (.iload_n 3, 1) := by decide +kernel
theorem dX11_sort_35 : decode cX11_sort 35 = .ok (.istore 6, 2) := by decide +kernel
theorem dX11_sort_37 : decode cX11_sort 37 = .ok (.iload 4, 2) := by decide +kernel
theorem dX11_sort_39 : decode cX11_sort 39 = .ok (.istore 7, 2) := by decide +kernel
theorem dX11_sort_41 : decode cX11_sort 41 = .ok (.iload_n 3, 1) := by decide +kernel
theorem dX11_sort_42 : decode cX11_sort 42 = .ok (.istore 8, 2) := by decide +kernel
theorem dX11_sort_44 : decode cX11_sort 44 = .ok (.iload 8, 2) := by decide +kernel
theorem dX11_sort_46 : decode cX11_sort 46 = .ok (.iload 5, 2) := by decide +kernel
theorem dX11_sort_48 : decode cX11_sort 48 = .ok (.if_icmp .ge 86, 3) := by decide +kernel
theorem dX11_sort_51 : decode cX11_sort 51 = .ok (.iload 7, 2) := by decide +kernel
theorem dX11_sort_53 : decode cX11_sort 53 = .ok (.iload 5, 2) := by decide +kernel
theorem dX11_sort_55 : decode cX11_sort 55 = .ok (.if_icmp .eq 28, 3) := by decide +kernel
theorem dX11_sort_58 : decode cX11_sort 58 = .ok (.iload 6, 2) := by decide +kernel
theorem dX11_sort_60 : decode cX11_sort 60 = .ok (.iload 4, 2) := by decide +kernel
theorem dX11_sort_62 : decode cX11_sort 62 = .ok (.if_icmp .ge 25, 3) := by decide +kernel
theorem dX11_sort_65 : decode cX11_sort 65 = .ok (.aload_n 0, 1) := by decide +kernel
theorem dX11_sort_66 : decode cX11_sort 66 = .ok (.getfield 57, 3) := by decide +kernel
theorem dX11_sort_69 : decode cX11_sort 69 = .ok (.iload 6, 2) := by decide +kernel
theorem dX11_sort_71 : decode cX11_sort 71 = .ok (.laload, 1) := by decide +kernel
theorem dX11_sort_72 : decode cX11_sort 72 = .ok (.aload_n 0, 1) := by decide +kernel
theorem dX11_sort_73 : decode cX11_sort 73 = .ok (.getfield 57, 3) := by decide +kernel
theorem dX11_sort_76 : decode cX11_sort 76 = .ok (.iload 7, 2) := by decide +kernel
theorem dX11_sort_78 : decode cX11_sort 78 = .ok (.laload, 1) := by decide +kernel
theorem dX11_sort_79 : decode cX11_sort 79 = .ok (.lcmp, 1) := by decide +kernel
theorem dX11_sort_80 : decode cX11_sort 80 = .ok (.ifCond .gt 7, 3) := by decide +kernel
theorem dX11_sort_83 : decode cX11_sort 83 = .ok (.iconst 1, 1) := by decide +kernel
theorem dX11_sort_84 : decode cX11_sort 84 = .ok (.goto 4, 3) := by decide +kernel
theorem dX11_sort_87 : decode cX11_sort 87 = .ok (.iconst 0, 1) := by decide +kernel
theorem dX11_sort_88 : decode cX11_sort 88 = .ok (.istore 9, 2) := by decide +kernel
theorem dX11_sort_90 : decode cX11_sort 90 = .ok (.aload_n 0, 1) := by decide +kernel
theorem dX11_sort_91 : decode cX11_sort 91 = .ok (.getfield 60, 3) := by decide +kernel
theorem dX11_sort_94 : decode cX11_sort 94 = .ok (.iload 8, 2) := by decide +kernel
theorem dX11_sort_96 : decode cX11_sort 96 = .ok (.aload_n 0, 1) := by decide +kernel
theorem dX11_sort_97 : decode cX11_sort 97 = .ok (.getfield 57, 3) := by decide +kernel
theorem dX11_sort_100 : decode cX11_sort 100 = .ok (.iload 9, 2) := by decide +kernel
theorem dX11_sort_102 : decode cX11_sort 102 = .ok (.ifCond .eq 8, 3) := by decide +kernel
theorem dX11_sort_105 : decode cX11_sort 105 = .ok (.iload 6, 2) := by decide +kernel
theorem dX11_sort_107 : decode cX11_sort 107 = .ok (.goto 5, 3) := by decide +kernel
theorem dX11_sort_110 : decode cX11_sort 110 = .ok (.iload 7, 2) := by decide +kernel
theorem dX11_sort_112 : decode cX11_sort 112 = .ok (.laload, 1) := by decide +kernel
theorem dX11_sort_113 : decode cX11_sort 113 = .ok (.lastore, 1) := by decide +kernel
theorem dX11_sort_114 : decode cX11_sort 114 = .ok (.iload 9, 2) := by decide +kernel
theorem dX11_sort_116 : decode cX11_sort 116 = .ok (.ifCond .eq 9, 3) := by decide +kernel
theorem dX11_sort_119 : decode cX11_sort 119 = .ok (.iinc 6 1, 3) := by decide +kernel
theorem dX11_sort_122 : decode cX11_sort 122 = .ok (.goto 6, 3) := by decide +kernel
theorem dX11_sort_125 : decode cX11_sort 125 = .ok (.iinc 7 1, 3) := by decide +kernel
theorem dX11_sort_128 : decode cX11_sort 128 = .ok (.iinc 8 1, 3) := by decide +kernel
theorem dX11_sort_131 : decode cX11_sort 131 = .ok (.goto (-87), 3) := by decide +kernel
theorem dX11_sort_134 : decode cX11_sort 134 = .ok (.iload_n 3, 1) := by decide +kernel
theorem dX11_sort_135 : decode cX11_sort 135 = .ok (.iconst 2, 1) := by decide +kernel
theorem dX11_sort_136 : decode cX11_sort 136 = .ok (.iload_n 2, 1) := by decide +kernel
theorem dX11_sort_137 : decode cX11_sort 137 = .ok (.imul, 1) := by decide +kernel
theorem dX11_sort_138 : decode cX11_sort 138 = .ok (.iadd, 1) := by decide +kernel
theorem dX11_sort_139 : decode cX11_sort 139 = .ok (.istore_n 3, 1) := by decide +kernel
theorem dX11_sort_140 : decode cX11_sort 140 = .ok (.goto (-131), 3) := by decide +kernel
theorem dX11_sort_143 : decode cX11_sort 143 = .ok (.iconst 0, 1) := by decide +kernel
theorem dX11_sort_144 : decode cX11_sort 144 = .ok (.istore_n 3, 1) := by decide +kernel
theorem dX11_sort_145 : decode cX11_sort 145 = .ok (.iload_n 3, 1) := by decide +kernel
theorem dX11_sort_146 : decode cX11_sort 146 = .ok (.iload_n 1, 1) := by decide +kernel
theorem dX11_sort_147 : decode cX11_sort 147 = .ok (.if_icmp .ge 21, 3) := by decide +kernel
theorem dX11_sort_150 : decode cX11_sort 150 = .ok (.aload_n 0, 1) := by decide +kernel
theorem dX11_sort_151 : decode cX11_sort 151 = .ok (.getfield 57, 3) := by decide +kernel
theorem dX11_sort_154 : decode cX11_sort 154 = .ok (.iload_n 3, 1) := by decide +kernel
theorem dX11_sort_155 : decode cX11_sort 155 = .ok (.aload_n 0, 1) := by decide +kernel
theorem dX11_sort_156 : decode cX11_sort 156 = .ok (.getfield 60, 3) := by decide +kernel
theorem dX11_sort_159 : decode cX11_sort 159 = .ok (.iload_n 3, 1) := by decide +kernel
theorem dX11_sort_160 : decode cX11_sort 160 = .ok (.laload, 1) := by decide +kernel
theorem dX11_sort_161 : decode cX11_sort 161 = .ok (.lastore, 1) := by decide +kernel
theorem dX11_sort_162 : decode cX11_sort 162 = .ok (.iinc 3 1, 3) := by decide +kernel
theorem dX11_sort_165 : decode cX11_sort 165 = .ok (.goto (-20), 3) := by decide +kernel
theorem dX11_sort_168 : decode cX11_sort 168 = .ok (.iload_n 2, 1) := by decide +kernel
theorem dX11_sort_169 : decode cX11_sort 169 = .ok (.iconst 2, 1) := by decide +kernel
theorem dX11_sort_170 : decode cX11_sort 170 = .ok (.imul, 1) := by decide +kernel
theorem dX11_sort_171 : decode cX11_sort 171 = .ok (.istore_n 2, 1) := by decide +kernel
theorem dX11_sort_172 : decode cX11_sort 172 = .ok (.goto (-170), 3) := by decide +kernel
theorem dX11_sort_175 : decode cX11_sort 175 = .ok (.return_, 1) := by decide +kernel
theorem dX11_spread_0 : decode cX11_spread 0 = .ok (.aload_n 0, 1) := by decide +kernel
theorem dX11_spread_1 : decode cX11_spread 1 = .ok (.iconst 0, 1) := by decide +kernel
theorem dX11_spread_2 : decode cX11_spread 2 = .ok (.putfield 105, 3) := by decide +kernel
theorem dX11_spread_5 : decode cX11_spread 5 = .ok (.aload_n 0, 1) := by decide +kernel
theorem dX11_spread_6 : decode cX11_spread 6 = .ok (.aload_n 0, 1) := by decide +kernel
theorem dX11_spread_7 : decode cX11_spread 7 = .ok (.getfield 9, 3) := by decide +kernel
theorem dX11_spread_10 : decode cX11_spread 10 = .ok (.invokevirtual 308, 3) := by decide +kernel
theorem dX11_spread_13 : decode cX11_spread 13 = .ok (.iconst 0, 1) := by decide +kernel
theorem dX11_spread_14 : decode cX11_spread 14 = .ok (.istore_n 1, 1) := by decide +kernel
theorem dX11_spread_15 : decode cX11_spread 15 = .ok (.iconst 0, 1) := by decide +kernel
theorem dX11_spread_16 : decode cX11_spread 16 = .ok (.istore_n 2, 1) := by decide +kernel
theorem dX11_spread_17 : decode cX11_spread 17 = .ok (.iload_n 2, 1) := by decide +kernel
theorem dX11_spread_18 : decode cX11_spread 18 = .ok (.sipush 6561, 3) := by decide +kernel
theorem dX11_spread_21 : decode cX11_spread 21 = .ok (.if_icmp .ge 85, 3) := by decide +kernel
theorem dX11_spread_24 : decode cX11_spread 24 = .ok (.aload_n 0, 1) := by decide +kernel
theorem dX11_spread_25 : decode cX11_spread 25 = .ok (.iload_n 2, 1) := by decide +kernel
theorem dX11_spread_26 : decode cX11_spread 26 = .ok (.invokestatic 101, 3) := by decide +kernel
theorem dX11_spread_29 : decode cX11_spread 29 = .ok (.invokevirtual 256, 3) := by decide +kernel
theorem dX11_spread_32 : decode cX11_spread 32 = .ok (.ifCond .ne 6, 3) := by decide +kernel
theorem dX11_spread_35 : decode cX11_spread 35 = .ok (.goto 65, 3) := by decide +kernel
theorem dX11_spread_38 : decode cX11_spread 38 = .ok (.ldc2_w 371, 3) := by decide +kernel
theorem dX11_spread_41 : decode cX11_spread 41 = .ok (.aload_n 0, 1) := by decide +kernel
theorem dX11_spread_42 : decode cX11_spread 42 = .ok (.getfield 27, 3) := by decide +kernel
theorem dX11_spread_45 : decode cX11_spread 45 = .ok (.iconst 3, 1) := by decide +kernel
theorem dX11_spread_46 : decode cX11_spread 46 = .ok (.iload_n 2, 1) := by decide +kernel
theorem dX11_spread_47 : decode cX11_spread 47 = .ok (.imul, 1) := by decide +kernel
theorem dX11_spread_48 : decode cX11_spread 48 = .ok (.iaload, 1) := by decide +kernel
theorem dX11_spread_49 : decode cX11_spread 49 = .ok (.i2l, 1) := by decide +kernel
theorem dX11_spread_50 : decode cX11_spread 50 = .ok (.lmul, 1) := by decide +kernel
theorem dX11_spread_51 : decode cX11_spread 51 = .ok (.aload_n 0, 1) := by decide +kernel
theorem dX11_spread_52 : decode cX11_spread 52 = .ok (.getfield 27, 3) := by decide +kernel
theorem dX11_spread_55 : decode cX11_spread 55 = .ok (.iconst 3, 1) := by decide +kernel
theorem dX11_spread_56 : decode cX11_spread 56 = .ok (.iload_n 2, 1) := by decide +kernel
theorem dX11_spread_57 : decode cX11_spread 57 = .ok (.imul, 1) := by decide +kernel
theorem dX11_spread_58 : decode cX11_spread 58 = .ok (.iconst 1, 1) := by decide +kernel
theorem dX11_spread_59 : decode cX11_spread 59 = .ok (.iadd, 1) := by decide +kernel
theorem dX11_spread_60 : decode cX11_spread 60 = .ok (.iaload, 1) := by decide +kernel
theorem dX11_spread_61 : decode cX11_spread 61 = .ok (.i2l, 1) := by decide +kernel
theorem dX11_spread_62 : decode cX11_spread 62 = .ok (.ladd, 1) := by decide +kernel
theorem dX11_spread_63 : decode cX11_spread 63 = .ok (.ldc2_w 371, 3) := by decide +kernel
theorem dX11_spread_66 : decode cX11_spread 66 = .ok (.lmul, 1) := by decide +kernel
theorem dX11_spread_67 : decode cX11_spread 67 = .ok (.aload_n 0, 1) := by decide +kernel
theorem dX11_spread_68 : decode cX11_spread 68 = .ok (.getfield 27, 3) := by decide +kernel
theorem dX11_spread_71 : decode cX11_spread 71 = .ok (.iconst 3, 1) := by decide +kernel
theorem dX11_spread_72 : decode cX11_spread 72 = .ok (.iload_n 2, 1) := by decide +kernel
theorem dX11_spread_73 : decode cX11_spread 73 = .ok (.imul, 1) := by decide +kernel
theorem dX11_spread_74 : decode cX11_spread 74 = .ok (.iconst 2, 1) := by decide +kernel
theorem dX11_spread_75 : decode cX11_spread 75 = .ok (.iadd, 1) := by decide +kernel
theorem dX11_spread_76 : decode cX11_spread 76 = .ok (.iaload, 1) := by decide +kernel
theorem dX11_spread_77 : decode cX11_spread 77 = .ok (.i2l, 1) := by decide +kernel
theorem dX11_spread_78 : decode cX11_spread 78 = .ok (.ladd, 1) := by decide +kernel
theorem dX11_spread_79 : decode cX11_spread 79 = .ok (.lstore_n 3, 1) := by decide +kernel
theorem dX11_spread_80 : decode cX11_spread 80 = .ok (.aload_n 0, 1) := by decide +kernel
theorem dX11_spread_81 : decode cX11_spread 81 = .ok (.getfield 57, 3) := by decide +kernel
theorem dX11_spread_84 : decode cX11_spread 84 = .ok (.iload_n 1, 1) := by decide +kernel
theorem dX11_spread_85 : decode cX11_spread 85 = .ok (.ldc2_w 373, 3) := by decide +kernel
theorem dX11_spread_88 : decode cX11_spread 88 = .ok (.lload_n 3, 1) := by decide +kernel
theorem dX11_spread_89 : decode cX11_spread 89 = .ok (.lmul, 1) := by decide +kernel
theorem dX11_spread_90 : decode cX11_spread 90 = .ok (.iload_n 2, 1) := by decide +kernel
theorem dX11_spread_91 : decode cX11_spread 91 = .ok (.invokestatic 101, 3) := by decide +kernel
theorem dX11_spread_94 : decode cX11_spread 94 = .ok (.i2l, 1) := by decide +kernel
theorem dX11_spread_95 : decode cX11_spread 95 = .ok (.ladd, 1) := by decide +kernel
theorem dX11_spread_96 : decode cX11_spread 96 = .ok (.lastore, 1) := by decide +kernel
theorem dX11_spread_97 : decode cX11_spread 97 = .ok (.iinc 1 1, 3) := by decide +kernel
theorem dX11_spread_100 : decode cX11_spread 100 = .ok (.iinc 2 1, 3) := by decide +kernel
theorem dX11_spread_103 : decode cX11_spread 103 = .ok (.goto (-86), 3) := by decide +kernel
theorem dX11_spread_106 : decode cX11_spread 106 = .ok (.aload_n 0, 1) := by decide +kernel
theorem dX11_spread_107 : decode cX11_spread 107 = .ok (.iload_n 1, 1) := by decide +kernel
theorem dX11_spread_108 : decode cX11_spread 108 = .ok (.invokevirtual 375, 3) := by decide +kernel
theorem dX11_spread_111 : decode cX11_spread 111 = .ok (.iconst 0, 1) := by decide +kernel
theorem dX11_spread_112 : decode cX11_spread 112 = .ok (.istore_n 2, 1) := by decide +kernel
theorem dX11_spread_113 : decode cX11_spread 113 = .ok (.iconst 0, 1) := by decide +kernel
theorem dX11_spread_114 : decode cX11_spread 114 = .ok (.istore_n 3, 1) := by decide +kernel
theorem dX11_spread_115 : decode cX11_spread 115 = .ok (.lconst 0, 1) := by decide +kernel
theorem dX11_spread_116 : decode cX11_spread 116 = .ok (.lstore 4, 2) := by decide +kernel
theorem dX11_spread_118 : decode cX11_spread 118 = .ok (.iconst 0, 1) := by decide +kernel
theorem dX11_spread_119 : decode cX11_spread 119 = .ok (.istore 6, 2) := by decide +kernel
theorem dX11_spread_121 : decode cX11_spread 121 = .ok (.iload 6, 2) := by decide +kernel
theorem dX11_spread_123 : decode cX11_spread 123 = .ok (.iload_n 1, 1) := by decide +kernel
theorem dX11_spread_124 : decode cX11_spread 124 = .ok (.if_icmp .ge 104, 3) := by decide +kernel
theorem dX11_spread_127 : decode cX11_spread 127 = .ok (.iload 6, 2) := by decide +kernel
theorem dX11_spread_129 : decode cX11_spread 129 = .ok (.istore 7, 2) := by decide +kernel
theorem dX11_spread_131 : decode cX11_spread 131 = .ok (.iload 7, 2) := by decide +kernel
theorem dX11_spread_133 : decode cX11_spread 133 = .ok (.iload_n 1, 1) := by decide +kernel
theorem dX11_spread_134 : decode cX11_spread 134 = .ok (.if_icmp .ge 35, 3) := by decide +kernel
theorem dX11_spread_137 : decode cX11_spread 137 = .ok (.aload_n 0, 1) := by decide +kernel
theorem dX11_spread_138 : decode cX11_spread 138 = .ok (.getfield 57, 3) := by decide +kernel
theorem dX11_spread_141 : decode cX11_spread 141 = .ok (.iload 7, 2) := by decide +kernel
theorem dX11_spread_143 : decode cX11_spread 143 = .ok (.laload, 1) := by decide +kernel
theorem dX11_spread_144 : decode cX11_spread 144 = .ok (.ldc2_w 373, 3) := by decide +kernel
theorem dX11_spread_147 : decode cX11_spread 147 = .ok (.ldiv, 1) := by decide +kernel
theorem dX11_spread_148 : decode cX11_spread 148 = .ok (.aload_n 0, 1) := by decide +kernel
theorem dX11_spread_149 : decode cX11_spread 149 = .ok (.getfield 57, 3) := by decide +kernel
theorem dX11_spread_152 : decode cX11_spread 152 = .ok (.iload 6, 2) := by decide +kernel
theorem dX11_spread_154 : decode cX11_spread 154 = .ok (.laload, 1) := by decide +kernel
theorem dX11_spread_155 : decode cX11_spread 155 = .ok (.ldc2_w 373, 3) := by decide +kernel
theorem dX11_spread_158 : decode cX11_spread 158 = .ok (.ldiv, 1) := by decide +kernel
theorem dX11_spread_159 : decode cX11_spread 159 = .ok (.lcmp, 1) := by decide +kernel
theorem dX11_spread_160 : decode cX11_spread 160 = .ok (.ifCond .ne 9, 3) := by decide +kernel
theorem dX11_spread_163 : decode cX11_spread 163 = .ok (.iinc 7 1, 3) := by decide +kernel
theorem dX11_spread_166 : decode cX11_spread 166 = .ok (.goto (-35), 3) := by decide +kernel
theorem dX11_spread_169 : decode cX11_spread 169 = .ok (.aload_n 0, 1) := by decide +kernel
theorem dX11_spread_170 : decode cX11_spread 170 = .ok (.getfield 57, 3) := by decide +kernel
theorem dX11_spread_173 : decode cX11_spread 173 = .ok (.iload 6, 2) := by decide +kernel
theorem dX11_spread_175 : decode cX11_spread 175 = .ok (.laload, 1) := by decide +kernel
theorem dX11_spread_176 : decode cX11_spread 176 = .ok (.ldc2_w 373, 3) := by decide +kernel
theorem dX11_spread_179 : decode cX11_spread 179 = .ok (.lrem, 1) := by decide +kernel
theorem dX11_spread_180 : decode cX11_spread 180 = .ok (.lstore 8, 2) := by decide +kernel
theorem dX11_spread_182 : decode cX11_spread 182 = .ok (.iload 7, 2) := by decide +kernel
theorem dX11_spread_184 : decode cX11_spread 184 = .ok (.iload 6, 2) := by decide +kernel
theorem dX11_spread_186 : decode cX11_spread 186 = .ok (.isub, 1) := by decide +kernel
theorem dX11_spread_187 : decode cX11_spread 187 = .ok (.iload_n 3, 1) := by decide +kernel
theorem dX11_spread_188 : decode cX11_spread 188 = .ok (.if_icmp .gt 20, 3) := by decide +kernel
theorem dX11_spread_191 : decode cX11_spread 191 = .ok (.iload 7, 2) := by decide +kernel
theorem dX11_spread_193 : decode cX11_spread 193 = .ok (.iload 6, 2) := by decide +kernel
theorem dX11_spread_195 : decode cX11_spread 195 = .ok (.isub, 1) := by decide +kernel
theorem dX11_spread_196 : decode cX11_spread 196 = .ok (.iload_n 3, 1) := by decide +kernel
theorem dX11_spread_197 : decode cX11_spread 197 = .ok (.if_icmp .ne 21, 3) := by decide +kernel
theorem dX11_spread_200 : decode cX11_spread 200 = .ok (.lload 8, 2) := by decide +kernel
theorem dX11_spread_202 : decode cX11_spread 202 = .ok (.lload 4, 2) := by decide +kernel
theorem dX11_spread_204 : decode cX11_spread 204 = .ok (.lcmp, 1) := by decide +kernel
theorem dX11_spread_205 : decode cX11_spread 205 = .ok (.ifCond .ge 13, 3) := by decide +kernel
theorem dX11_spread_208 : decode cX11_spread 208 = .ok (.iload 7, 2) := by decide +kernel
theorem dX11_spread_210 : decode cX11_spread 210 = .ok (.iload 6, 2) := by decide +kernel
theorem dX11_spread_212 : decode cX11_spread 212 = .ok (.isub, 1) := by decide +kernel
theorem dX11_spread_213 : decode cX11_spread 213 = .ok (.istore_n 3, 1) := by decide +kernel
theorem dX11_spread_214 : decode cX11_spread 214 = .ok (.lload 8, 2) := by decide +kernel
theorem dX11_spread_216 : decode cX11_spread 216 = .ok (.lstore 4, 2) := by decide +kernel
theorem dX11_spread_218 : decode cX11_spread 218 = .ok (.iinc 2 1, 3) := by decide +kernel
theorem dX11_spread_221 : decode cX11_spread 221 = .ok (.iload 7, 2) := by decide +kernel
theorem dX11_spread_223 : decode cX11_spread 223 = .ok (.istore 6, 2) := by decide +kernel
theorem dX11_spread_225 : decode cX11_spread 225 = .ok (.goto (-104), 3) := by decide +kernel
theorem dX11_spread_228 : decode cX11_spread 228 = .ok (.aload_n 0, 1) := by decide +kernel
theorem dX11_spread_229 : decode cX11_spread 229 = .ok (.iconst 0, 1) := by decide +kernel
theorem dX11_spread_230 : decode cX11_spread 230 = .ok (.putfield 109, 3) := by decide +kernel
theorem dX11_spread_233 : decode cX11_spread 233 = .ok (.aload_n 0, 1) := by decide +kernel
theorem dX11_spread_234 : decode cX11_spread 234 = .ok (.iload_n 3, 1) := by decide +kernel
theorem dX11_spread_235 : decode cX11_spread 235 = .ok (.i2l, 1) := by decide +kernel
theorem dX11_spread_236 : decode cX11_spread 236 = .ok (.invokevirtual 273, 3) := by decide +kernel
theorem dX11_spread_239 : decode cX11_spread 239 = .ok (.aload_n 0, 1) := by decide +kernel
theorem dX11_spread_240 : decode cX11_spread 240 = .ok (.lload 4, 2) := by decide +kernel
theorem dX11_spread_242 : decode cX11_spread 242 = .ok (.invokevirtual 273, 3) := by decide +kernel
theorem dX11_spread_245 : decode cX11_spread 245 = .ok (.aload_n 0, 1) := by decide +kernel
theorem dX11_spread_246 : decode cX11_spread 246 = .ok (.iload_n 1, 1) := by decide +kernel
theorem dX11_spread_247 : decode cX11_spread 247 = .ok (.i2l, 1) := by decide +kernel
theorem dX11_spread_248 : decode cX11_spread 248 = .ok (.invokevirtual 273, 3) := by decide +kernel
theorem dX11_spread_251 : decode cX11_spread 251 = .ok (.iload_n 2, 1) := by decide +kernel
theorem dX11_spread_252 : decode cX11_spread 252 = .ok (.ireturn, 1) := by decide +kernel
theorem dX11_common_0 : decode cX11_common 0 = .ok (.lload_n 2, 1) := by decide +kernel
theorem dX11_common_1 : decode cX11_common 1 = .ok (.lconst 0, 1) := by decide +kernel
theorem dX11_common_2 : decode cX11_common 2 = .ok (.lcmp, 1) := by decide +kernel
theorem dX11_common_3 : decode cX11_common 3 = .ok (.ifCond .ne 7, 3) := by decide +kernel
theorem dX11_common_6 : decode cX11_common 6 = .ok (.lload_n 0, 1) := by decide +kernel
theorem dX11_common_7 : decode cX11_common 7 = .ok (.goto 10, 3) := by decide +kernel
theorem dX11_common_10 : decode cX11_common 10 = .ok (.lload_n 2, 1) := by decide +kernel
theorem dX11_common_11 : decode cX11_common 11 = .ok (.lload_n 0, 1) := by decide +kernel
theorem dX11_common_12 : decode cX11_common 12 = .ok (.lload_n 2, 1) := by decide +kernel
theorem dX11_common_13 : decode cX11_common 13 = .ok (.lrem, 1) := by decide +kernel
theorem dX11_common_14 : decode cX11_common 14 = .ok (.invokestatic 378, 3) := by decide +kernel
theorem dX11_common_17 : decode cX11_common 17 = .ok (.lreturn, 1) := by decide +kernel
theorem dX11_odds_0 : decode cX11_odds 0 = .ok (.aload_n 0, 1) := by decide +kernel
theorem dX11_odds_1 : decode cX11_odds 1 = .ok (.iconst 0, 1) := by decide +kernel
theorem dX11_odds_2 : decode cX11_odds 2 = .ok (.putfield 105, 3) := by decide +kernel
theorem dX11_odds_5 : decode cX11_odds 5 = .ok (.iload_n 1, 1) := by decide +kernel
theorem dX11_odds_6 : decode cX11_odds 6 = .ok (.iload_n 2, 1) := by decide +kernel
theorem dX11_odds_7 : decode cX11_odds 7 = .ok (.iload_n 3, 1) := by decide +kernel
theorem dX11_odds_8 : decode cX11_odds 8 = .ok (.invokestatic 305, 3) := by decide +kernel
theorem dX11_odds_11 : decode cX11_odds 11 = .ok (.ifCond .ne 5, 3) := by decide +kernel
theorem dX11_odds_14 : decode cX11_odds 14 = .ok (.iconst (-1), 1) := by decide +kernel
theorem dX11_odds_15 : decode cX11_odds 15 = .ok (.ireturn, 1) := by decide +kernel
theorem dX11_odds_16 : decode cX11_odds 16 = .ok (.aload_n 0, 1) := by decide +kernel
theorem dX11_odds_17 : decode cX11_odds 17 = .ok (.aload_n 0, 1) := by decide +kernel
theorem dX11_odds_18 : decode cX11_odds 18 = .ok (.getfield 9, 3) := by decide +kernel
theorem dX11_odds_21 : decode cX11_odds 21 = .ok (.invokevirtual 308, 3) := by decide +kernel
theorem dX11_odds_24 : decode cX11_odds 24 = .ok (.lconst 0, 1) := by decide +kernel
theorem dX11_odds_25 : decode cX11_odds 25 = .ok (.lstore 5, 2) := by decide +kernel
theorem dX11_odds_27 : decode cX11_odds 27 = .ok (.lconst 0, 1) := by decide +kernel
theorem dX11_odds_28 : decode cX11_odds 28 = .ok (.lstore 7, 2) := by decide +kernel
theorem dX11_odds_30 : decode cX11_odds 30 = .ok (.iconst 0, 1) := by decide +kernel
theorem dX11_odds_31 : decode cX11_odds 31 = .ok (.istore 9, 2) := by decide +kernel
theorem dX11_odds_33 : decode cX11_odds 33 = .ok (.iload 9, 2) := by decide +kernel
theorem dX11_odds_35 : decode cX11_odds 35 = .ok (.sipush 6561, 3) := by decide +kernel
theorem dX11_odds_38 : decode cX11_odds 38 = .ok (.if_icmp .ge 50, 3) := by decide +kernel
theorem dX11_odds_41 : decode cX11_odds 41 = .ok (.aload_n 0, 1) := by decide +kernel
theorem dX11_odds_42 : decode cX11_odds 42 = .ok (.iload 9, 2) := by decide +kernel
theorem dX11_odds_44 : decode cX11_odds 44 = .ok (.invokestatic 101, 3) := by decide +kernel
theorem dX11_odds_47 : decode cX11_odds 47 = .ok (.invokevirtual 256, 3) := by decide +kernel
theorem dX11_odds_50 : decode cX11_odds 50 = .ok (.ifCond .ne 6, 3) := by decide +kernel
theorem dX11_odds_53 : decode cX11_odds 53 = .ok (.goto 29, 3) := by decide +kernel
theorem dX11_odds_56 : decode cX11_odds 56 = .ok (.lload 5, 2) := by decide +kernel
theorem dX11_odds_58 : decode cX11_odds 58 = .ok (.lconst 1, 1) := by decide +kernel
theorem dX11_odds_59 : decode cX11_odds 59 = .ok (.ladd, 1) := by decide +kernel
theorem dX11_odds_60 : decode cX11_odds 60 = .ok (.lstore 5, 2) := by decide +kernel
theorem dX11_odds_62 : decode cX11_odds 62 = .ok (.aload_n 0, 1) := by decide +kernel
theorem dX11_odds_63 : decode cX11_odds 63 = .ok (.iload 9, 2) := by decide +kernel
theorem dX11_odds_65 : decode cX11_odds 65 = .ok (.iload_n 1, 1) := by decide +kernel
theorem dX11_odds_66 : decode cX11_odds 66 = .ok (.iload_n 2, 1) := by decide +kernel
theorem dX11_odds_67 : decode cX11_odds 67 = .ok (.iload_n 3, 1) := by decide +kernel
theorem dX11_odds_68 : decode cX11_odds 68 = .ok (.invokevirtual 266, 3) := by decide +kernel
theorem dX11_odds_71 : decode cX11_odds 71 = .ok (.iload 4, 2) := by decide +kernel
theorem dX11_odds_73 : decode cX11_odds 73 = .ok (.if_icmp .gt 9, 3) := by decide +kernel
theorem dX11_odds_76 : decode cX11_odds 76 = .ok (.lload 7, 2) := by decide +kernel
theorem dX11_odds_78 : decode cX11_odds 78 = .ok (.lconst 1, 1) := by decide +kernel
theorem dX11_odds_79 : decode cX11_odds 79 = .ok (.ladd, 1) := by decide +kernel
theorem dX11_odds_80 : decode cX11_odds 80 = .ok (.lstore 7, 2) := by decide +kernel
theorem dX11_odds_82 : decode cX11_odds 82 = .ok (.iinc 9 1, 3) := by decide +kernel
theorem dX11_odds_85 : decode cX11_odds 85 = .ok (.goto (-52), 3) := by decide +kernel
theorem dX11_odds_88 : decode cX11_odds 88 = .ok (.lload 7, 2) := by decide +kernel
theorem dX11_odds_90 : decode cX11_odds 90 = .ok (.lload 5, 2) := by decide +kernel
theorem dX11_odds_92 : decode cX11_odds 92 = .ok (.invokestatic 378, 3) := by decide +kernel
theorem dX11_odds_95 : decode cX11_odds 95 = .ok (.lstore 9, 2) := by decide +kernel
theorem dX11_odds_97 : decode cX11_odds 97 = .ok (.aload_n 0, 1) := by decide +kernel
theorem dX11_odds_98 : decode cX11_odds 98 = .ok (.iconst 0, 1) := by decide +kernel
theorem dX11_odds_99 : decode cX11_odds 99 = .ok (.putfield 109, 3) := by decide +kernel
theorem dX11_odds_102 : decode cX11_odds 102 = .ok (.aload_n 0, 1) := by decide +kernel
theorem dX11_odds_103 : decode cX11_odds 103 = .ok (.lload 7, 2) := by decide +kernel
theorem dX11_odds_105 : decode cX11_odds 105 = .ok (.lload 9, 2) := by decide +kernel
theorem dX11_odds_107 : decode cX11_odds 107 = .ok (.ldiv, 1) := by decide +kernel
theorem dX11_odds_108 : decode cX11_odds 108 = .ok (.invokevirtual 273, 3) := by decide +kernel
theorem dX11_odds_111 : decode cX11_odds 111 = .ok (.aload_n 0, 1) := by decide +kernel
theorem dX11_odds_112 : decode cX11_odds 112 = .ok (.lload 5, 2) := by decide +kernel
theorem dX11_odds_114 : decode cX11_odds 114 = .ok (.lload 9, 2) := by decide +kernel
theorem dX11_odds_116 : decode cX11_odds 116 = .ok (.ldiv, 1) := by decide +kernel
theorem dX11_odds_117 : decode cX11_odds 117 = .ok (.invokevirtual 273, 3) := by decide +kernel
theorem dX11_odds_120 : decode cX11_odds 120 = .ok (.iconst 0, 1) := by decide +kernel
theorem dX11_odds_121 : decode cX11_odds 121 = .ok (.ireturn, 1) := by decide +kernel
theorem dX11_cells_0 : decode cX11_cells 0 = .ok (.aload_n 0, 1) := by decide +kernel
theorem dX11_cells_1 : decode cX11_cells 1 = .ok (.getfield 9, 3) := by decide +kernel
theorem dX11_cells_4 : decode cX11_cells 4 = .ok (.sipush 702, 3) := by decide +kernel
theorem dX11_cells_7 : decode cX11_cells 7 = .ok (.iaload, 1) := by decide +kernel
theorem dX11_cells_8 : decode cX11_cells 8 = .ok (.aload_n 0, 1) := by decide +kernel
theorem dX11_cells_9 : decode cX11_cells 9 = .ok (.getfield 9, 3) := by decide +kernel
theorem dX11_cells_12 : decode cX11_cells 12 = .ok (.sipush 703, 3) := by decide +kernel
theorem dX11_cells_15 : decode cX11_cells 15 = .ok (.iaload, 1) := by decide +kernel
theorem dX11_cells_16 : decode cX11_cells 16 = .ok (.imul, 1) := by decide +kernel
theorem dX11_cells_17 : decode cX11_cells 17 = .ok (.ireturn, 1) := by decide +kernel
theorem dX11_within_0 : decode cX11_within 0 = .ok (.iconst 0, 1) := by decide +kernel
theorem dX11_within_1 : decode cX11_within 1 = .ok (.sipush 400, 3) := by decide +kernel
theorem dX11_within_4 : decode cX11_within 4 = .ok (.iload_n 0, 1) := by decide +kernel
theorem dX11_within_5 : decode cX11_within 5 = .ok (.invokestatic 223, 3) := by decide +kernel
theorem dX11_within_8 : decode cX11_within 8 = .ok (.invokestatic 239, 3) := by decide +kernel
theorem dX11_within_11 : decode cX11_within 11 = .ok (.ireturn, 1) := by decide +kernel
theorem dX11_sameAhead_0 : decode cX11_sameAhead 0 = .ok (.iconst 0, 1) := by decide +kernel
theorem dX11_sameAhead_1 : decode cX11_sameAhead 1 = .ok (.istore_n 2, 1) := by decide +kernel
theorem dX11_sameAhead_2 : decode cX11_sameAhead 2 = .ok (.iload_n 2, 1) := by decide +kernel
theorem dX11_sameAhead_3 : decode cX11_sameAhead 3 = .ok (.iload_n 1, 1) := by decide +kernel
theorem dX11_sameAhead_4 : decode cX11_sameAhead 4 = .ok (.if_icmp .ge 34, 3) := by decide +kernel
theorem dX11_sameAhead_7 : decode cX11_sameAhead 7 = .ok (.aload_n 0, 1) := by decide +kernel
theorem dX11_sameAhead_8 : decode cX11_sameAhead 8 = .ok (.getfield 9, 3) := by decide +kernel
theorem dX11_sameAhead_11 : decode cX11_sameAhead 11 = .ok (.sipush 638, 3) := by decide +kernel
theorem dX11_sameAhead_14 : decode cX11_sameAhead 14 = .ok (.iload_n 2, 1) := by decide +kernel
theorem dX11_sameAhead_15 : decode cX11_sameAhead 15 = .ok (.iadd, 1) := by decide +kernel
theorem dX11_sameAhead_16 : decode cX11_sameAhead 16 = .ok (.iaload, 1) := by decide +kernel
theorem dX11_sameAhead_17 : decode cX11_sameAhead 17 = .ok (.aload_n 0, 1) := by decide +kernel
theorem dX11_sameAhead_18 : decode cX11_sameAhead 18 = .ok (.getfield 9, 3) := by decide +kernel
theorem dX11_sameAhead_21 : decode cX11_sameAhead 21 = .ok (.sipush 638, 3) := by decide +kernel
theorem dX11_sameAhead_24 : decode cX11_sameAhead 24 = .ok (.iload_n 1, 1) := by decide +kernel
theorem dX11_sameAhead_25 : decode cX11_sameAhead 25 = .ok (.iadd, 1) := by decide +kernel
theorem dX11_sameAhead_26 : decode cX11_sameAhead 26 = .ok (.iaload, 1) := by decide +kernel
theorem dX11_sameAhead_27 : decode cX11_sameAhead 27 = .ok (.if_icmp .ne 5, 3) := by decide +kernel
theorem dX11_sameAhead_30 : decode cX11_sameAhead 30 = .ok (.iload_n 2, 1) := by decide +kernel
theorem dX11_sameAhead_31 : decode cX11_sameAhead 31 = .ok (.ireturn, 1) := by decide +kernel
theorem dX11_sameAhead_32 : decode cX11_sameAhead 32 = .ok (.iinc 2 1, 3) := by decide +kernel
theorem dX11_sameAhead_35 : decode cX11_sameAhead 35 = .ok (.goto (-33), 3) := by decide +kernel
theorem dX11_sameAhead_38 : decode cX11_sameAhead 38 = .ok (.iconst (-1), 1) := by decide +kernel
theorem dX11_sameAhead_39 : decode cX11_sameAhead 39 = .ok (.ireturn, 1) := by decide +kernel
theorem dX11_layPress_0 : decode cX11_layPress 0 = .ok (.aload_n 0, 1) := by decide +kernel
theorem dX11_layPress_1 : decode cX11_layPress 1 = .ok (.getfield 9, 3) := by decide +kernel
theorem dX11_layPress_4 : decode cX11_layPress 4 = .ok (.sipush 702, 3) := by decide +kernel
theorem dX11_layPress_7 : decode cX11_layPress 7 = .ok (.iaload, 1) := by decide +kernel
theorem dX11_layPress_8 : decode cX11_layPress 8 = .ok (.istore_n 2, 1) := by decide +kernel
theorem dX11_layPress_9 : decode cX11_layPress 9 = .ok (.iconst 0, 1) := by decide +kernel
theorem dX11_layPress_10 : decode cX11_layPress 10 = .ok (.istore_n 3, 1) := by decide +kernel
theorem dX11_layPress_11 : decode cX11_layPress 11 = .ok (.iload_n 3, 1) := by decide +kernel
theorem dX11_layPress_12 : decode cX11_layPress 12 = .ok (.aload_n 0, 1) := by decide +kernel
theorem dX11_layPress_13 : decode cX11_layPress 13 = .ok (.getfield 66, 3) := by decide +kernel
theorem dX11_layPress_16 : decode cX11_layPress 16 = .ok (.arraylength, 1) := by decide +kernel
theorem dX11_layPress_17 : decode cX11_layPress 17 = .ok (.if_icmp .ge 16, 3) := by decide +kernel
theorem dX11_layPress_20 : decode cX11_layPress 20 = .ok (.aload_n 0, 1) := by decide +kernel
theorem dX11_layPress_21 : decode cX11_layPress 21 = .ok (.getfield 66, 3) := by decide +kernel
theorem dX11_layPress_24 : decode cX11_layPress 24 = .ok (.iload_n 3, 1) := by decide +kernel
theorem dX11_layPress_25 : decode cX11_layPress 25 = .ok (.iconst 0, 1) := by decide +kernel
theorem dX11_layPress_26 : decode cX11_layPress 26 = .ok (.iastore, 1) := by decide +kernel
theorem dX11_layPress_27 : decode cX11_layPress 27 = .ok (.iinc 3 1, 3) := by decide +kernel
theorem dX11_layPress_30 : decode cX11_layPress 30 = .ok (.goto (-19), 3) := by decide +kernel
theorem dX11_layPress_33 : decode cX11_layPress 33 = .ok (.iconst 0, 1) := by decide +kernel
theorem dX11_layPress_34 : decode cX11_layPress 34 = .ok (.istore_n 3, 1) := by decide +kernel
theorem dX11_layPress_35 : decode cX11_layPress 35 = .ok (.iload_n 3, 1) := by decide +kernel
theorem dX11_layPress_36 : decode cX11_layPress 36 = .ok (.aload_n 0, 1) := by decide +kernel
theorem dX11_layPress_37 : decode cX11_layPress 37 = .ok (.invokevirtual 382, 3) := by decide +kernel
theorem dX11_layPress_40 : decode cX11_layPress 40 = .ok (.if_icmp .ge 246, 3) := by decide +kernel
theorem dX11_layPress_43 : decode cX11_layPress 43 = .ok (.sipush 614, 3) := by decide +kernel
theorem dX11_layPress_46 : decode cX11_layPress 46 = .ok (.iconst 3, 1) := by decide +kernel
theorem dX11_layPress_47 : decode cX11_layPress 47 = .ok (.aload_n 0, 1) := by decide +kernel
theorem dX11_layPress_48 : decode cX11_layPress 48 = .ok (.getfield 9, 3) := by decide +kernel
theorem dX11_layPress_51 : decode cX11_layPress 51 = .ok (.sipush 638, 3) := by decide +kernel
theorem dX11_layPress_54 : decode cX11_layPress 54 = .ok (.iload_n 3, 1) := by decide +kernel
theorem dX11_layPress_55 : decode cX11_layPress 55 = .ok (.iadd, 1) := by decide +kernel
theorem dX11_layPress_56 : decode cX11_layPress 56 = .ok (.iaload, 1) := by decide +kernel
theorem dX11_layPress_57 : decode cX11_layPress 57 = .ok (.imul, 1) := by decide +kernel
theorem dX11_layPress_58 : decode cX11_layPress 58 = .ok (.iadd, 1) := by decide +kernel
theorem dX11_layPress_59 : decode cX11_layPress 59 = .ok (.istore 4, 2) := by decide +kernel
theorem dX11_layPress_61 : decode cX11_layPress 61 = .ok (.iconst 0, 1) := by decide +kernel
theorem dX11_layPress_62 : decode cX11_layPress 62 = .ok (.istore 5, 2) := by decide +kernel
theorem dX11_layPress_64 : decode cX11_layPress 64 = .ok (.iload 5, 2) := by decide +kernel
theorem dX11_layPress_66 : decode cX11_layPress 66 = .ok (.iconst 3, 1) := by decide +kernel
theorem dX11_layPress_67 : decode cX11_layPress 67 = .ok (.if_icmp .ge 41, 3) := by decide +kernel
theorem dX11_layPress_70 : decode cX11_layPress 70 = .ok (.aload_n 0, 1) := by decide +kernel
theorem dX11_layPress_71 : decode cX11_layPress 71 = .ok (.getfield 48, 3) := by decide +kernel
theorem dX11_layPress_74 : decode cX11_layPress 74 = .ok (.iload 5, 2) := by decide +kernel
theorem dX11_layPress_76 : decode cX11_layPress 76 = .ok (.aload_n 0, 1) := by decide +kernel
theorem dX11_layPress_77 : decode cX11_layPress 77 = .ok (.getfield 9, 3) := by decide +kernel
theorem dX11_layPress_80 : decode cX11_layPress 80 = .ok (.iload 4, 2) := by decide +kernel
theorem dX11_layPress_82 : decode cX11_layPress 82 = .ok (.iload 5, 2) := by decide +kernel
theorem dX11_layPress_84 : decode cX11_layPress 84 = .ok (.iadd, 1) := by decide +kernel
theorem dX11_layPress_85 : decode cX11_layPress 85 = .ok (.iaload, 1) := by decide +kernel
theorem dX11_layPress_86 : decode cX11_layPress 86 = .ok (.aload_n 0, 1) := by decide +kernel
theorem dX11_layPress_87 : decode cX11_layPress 87 = .ok (.getfield 66, 3) := by decide +kernel
theorem dX11_layPress_90 : decode cX11_layPress 90 = .ok (.iconst 3, 1) := by decide +kernel
theorem dX11_layPress_91 : decode cX11_layPress 91 = .ok (.iload_n 3, 1) := by decide +kernel
theorem dX11_layPress_92 : decode cX11_layPress 92 = .ok (.imul, 1) := by decide +kernel
theorem dX11_layPress_93 : decode cX11_layPress 93 = .ok (.iload 5, 2) := by decide +kernel
theorem dX11_layPress_95 : decode cX11_layPress 95 = .ok (.iadd, 1) := by decide +kernel
theorem dX11_layPress_96 : decode cX11_layPress 96 = .ok (.iaload, 1) := by decide +kernel
theorem dX11_layPress_97 : decode cX11_layPress 97 = .ok (.iadd, 1) := by decide +kernel
theorem dX11_layPress_98 : decode cX11_layPress 98 = .ok (.invokestatic 385, 3) := by decide +kernel
theorem dX11_layPress_101 : decode cX11_layPress 101 = .ok (.iastore, 1) := by decide +kernel
theorem dX11_layPress_102 : decode cX11_layPress 102 = .ok (.iinc 5 1, 3) := by decide +kernel
theorem dX11_layPress_105 : decode cX11_layPress 105 = .ok (.goto (-41), 3) := by decide +kernel
theorem dX11_layPress_108 : decode cX11_layPress 108 = .ok (.iload_n 1, 1) := by decide +kernel
theorem dX11_layPress_109 : decode cX11_layPress 109 = .ok (.ifCond .ne 11, 3) := by decide +kernel
theorem dX11_layPress_112 : decode cX11_layPress 112 = .ok (.aload_n 0, 1) := by decide +kernel
theorem dX11_layPress_113 : decode cX11_layPress 113 = .ok (.iload_n 3, 1) := by decide +kernel
theorem dX11_layPress_114 : decode cX11_layPress 114 = .ok (.invokevirtual 388, 3) := by decide +kernel
theorem dX11_layPress_117 : decode cX11_layPress 117 = .ok (.goto 4, 3) := by decide +kernel
theorem dX11_layPress_120 : decode cX11_layPress 120 = .ok (.iconst (-1), 1) := by decide +kernel
theorem dX11_layPress_121 : decode cX11_layPress 121 = .ok (.istore 5, 2) := by decide +kernel
theorem dX11_layPress_123 : decode cX11_layPress 123 = .ok (.aload_n 0, 1) := by decide +kernel
theorem dX11_layPress_124 : decode cX11_layPress 124 = .ok (.getfield 63, 3) := by decide +kernel
theorem dX11_layPress_127 : decode cX11_layPress 127 = .ok (.iload_n 3, 1) := by decide +kernel
theorem dX11_layPress_128 : decode cX11_layPress 128 = .ok (.iload 5, 2) := by decide +kernel
theorem dX11_layPress_130 : decode cX11_layPress 130 = .ok (.iconst (-1), 1) := by decide +kernel
theorem dX11_layPress_131 : decode cX11_layPress 131 = .ok (.if_icmp .ne 28, 3) := by decide +kernel
theorem dX11_layPress_134 : decode cX11_layPress 134 = .ok (.aload_n 0, 1) := by decide +kernel
theorem dX11_layPress_135 : decode cX11_layPress 135 = .ok (.aload_n 0, 1) := by decide +kernel
theorem dX11_layPress_136 : decode cX11_layPress 136 = .ok (.getfield 48, 3) := by decide +kernel
theorem dX11_layPress_139 : decode cX11_layPress 139 = .ok (.iconst 0, 1) := by decide +kernel
theorem dX11_layPress_140 : decode cX11_layPress 140 = .ok (.iaload, 1) := by decide +kernel
theorem dX11_layPress_141 : decode cX11_layPress 141 = .ok (.aload_n 0, 1) := by decide +kernel
theorem dX11_layPress_142 : decode cX11_layPress 142 = .ok (.getfield 48, 3) := by decide +kernel
theorem dX11_layPress_145 : decode cX11_layPress 145 = .ok (.iconst 1, 1) := by decide +kernel
theorem dX11_layPress_146 : decode cX11_layPress 146 = .ok (.iaload, 1) := by decide +kernel
theorem dX11_layPress_147 : decode cX11_layPress 147 = .ok (.aload_n 0, 1) := by decide +kernel
theorem dX11_layPress_148 : decode cX11_layPress 148 = .ok (.getfield 48, 3) := by decide +kernel
theorem dX11_layPress_151 : decode cX11_layPress 151 = .ok (.iconst 2, 1) := by decide +kernel
theorem dX11_layPress_152 : decode cX11_layPress 152 = .ok (.iaload, 1) := by decide +kernel
theorem dX11_layPress_153 : decode cX11_layPress 153 = .ok (.invokevirtual 311, 3) := by decide +kernel
theorem dX11_layPress_156 : decode cX11_layPress 156 = .ok (.goto 10, 3) := by decide +kernel
theorem dX11_layPress_159 : decode cX11_layPress 159 = .ok (.aload_n 0, 1) := by decide +kernel
theorem dX11_layPress_160 : decode cX11_layPress 160 = .ok (.getfield 63, 3) := by decide +kernel
theorem dX11_layPress_163 : decode cX11_layPress 163 = .ok (.iload 5, 2) := by decide +kernel
theorem dX11_layPress_165 : decode cX11_layPress 165 = .ok (.iaload, 1) := by decide +kernel
theorem dX11_layPress_166 : decode cX11_layPress 166 = .ok (.iastore, 1) := by decide +kernel
theorem dX11_layPress_167 : decode cX11_layPress 167 = .ok (.iload_n 1, 1) := by decide +kernel
theorem dX11_layPress_168 : decode cX11_layPress 168 = .ok (.ifCond .ne 6, 3) := by decide +kernel
theorem dX11_layPress_171 : decode cX11_layPress 171 = .ok (.goto 109, 3) := by decide +kernel
theorem dX11_layPress_174 : decode cX11_layPress 174 = .ok (.iconst 0, 1) := by decide +kernel
theorem dX11_layPress_175 : decode cX11_layPress 175 = .ok (.istore 6, 2) := by decide +kernel
theorem dX11_layPress_177 : decode cX11_layPress 177 = .ok (.iload 6, 2) := by decide +kernel
theorem dX11_layPress_179 : decode cX11_layPress 179 = .ok (.iconst 3, 1) := by decide +kernel
theorem dX11_layPress_180 : decode cX11_layPress 180 = .ok (.if_icmp .ge 100, 3) := by decide +kernel
theorem dX11_layPress_183 : decode cX11_layPress 183 = .ok (.aload_n 0, 1) := by decide +kernel
theorem dX11_layPress_184 : decode cX11_layPress 184 = .ok (.getfield 48, 3) := by decide +kernel
theorem dX11_layPress_187 : decode cX11_layPress 187 = .ok (.iload 6, 2) := by decide +kernel
theorem dX11_layPress_189 : decode cX11_layPress 189 = .ok (.iaload, 1) := by decide +kernel
theorem dX11_layPress_190 : decode cX11_layPress 190 = .ok (.aload_n 0, 1) := by decide +kernel
theorem dX11_layPress_191 : decode cX11_layPress 191 = .ok (.getfield 27, 3) := by decide +kernel
theorem dX11_layPress_194 : decode cX11_layPress 194 = .ok (.iconst 3, 1) := by decide +kernel
theorem dX11_layPress_195 : decode cX11_layPress 195 = .ok (.aload_n 0, 1) := by decide +kernel
theorem dX11_layPress_196 : decode cX11_layPress 196 = .ok (.getfield 63, 3) := by decide +kernel
theorem dX11_layPress_199 : decode cX11_layPress 199 = .ok (.iload_n 3, 1) := by decide +kernel
theorem dX11_layPress_200 : decode cX11_layPress 200 = .ok (.iaload, 1) := by decide +kernel
theorem dX11_layPress_201 : decode cX11_layPress 201 = .ok (.invokestatic 314, 3) := by decide +kernel
theorem dX11_layPress_204 : decode cX11_layPress 204 = .ok (.imul, 1) := by decide +kernel
theorem dX11_layPress_205 : decode cX11_layPress 205 = .ok (.iload 6, 2) := by decide +kernel
theorem dX11_layPress_207 : decode cX11_layPress 207 = .ok (.iadd, 1) := by decide +kernel
theorem dX11_layPress_208 : decode cX11_layPress 208 = .ok (.iaload, 1) := by decide +kernel
theorem dX11_layPress_209 : decode cX11_layPress 209 = .ok (.isub, 1) := by decide +kernel
theorem dX11_layPress_210 : decode cX11_layPress 210 = .ok (.istore 7, 2) := by decide +kernel
theorem dX11_layPress_212 : decode cX11_layPress 212 = .ok (.iload_n 3, 1) := by decide +kernel
theorem dX11_layPress_213 : decode cX11_layPress 213 = .ok (.iload_n 2, 1) := by decide +kernel
theorem dX11_layPress_214 : decode cX11_layPress 214 = .ok (.irem, 1) := by decide +kernel
theorem dX11_layPress_215 : decode cX11_layPress 215 = .ok (.iload_n 2, 1) := by decide +kernel
theorem dX11_layPress_216 : decode cX11_layPress 216 = .ok (.iconst 1, 1) := by decide +kernel
theorem dX11_layPress_217 : decode cX11_layPress 217 = .ok (.isub, 1) := by decide +kernel
theorem dX11_layPress_218 : decode cX11_layPress 218 = .ok (.if_icmp .ge 23, 3) := by decide +kernel
theorem dX11_layPress_221 : decode cX11_layPress 221 = .ok (.aload_n 0, 1) := by decide +kernel
theorem dX11_layPress_222 : decode cX11_layPress 222 = .ok (.getfield 66, 3) := by decide +kernel
theorem dX11_layPress_225 : decode cX11_layPress 225 = .ok (.iconst 3, 1) := by decide +kernel
theorem dX11_layPress_226 : decode cX11_layPress 226 = .ok (.iload_n 3, 1) := by decide +kernel
theorem dX11_layPress_227 : decode cX11_layPress 227 = .ok (.iconst 1, 1) := by decide +kernel
theorem dX11_layPress_228 : decode cX11_layPress 228 = .ok (.iadd, 1) := by decide +kernel
theorem dX11_layPress_229 : decode cX11_layPress 229 = .ok (.imul, 1) := by decide +kernel
theorem dX11_layPress_230 : decode cX11_layPress 230 = .ok (.iload 6, 2) := by decide +kernel
theorem dX11_layPress_232 : decode cX11_layPress 232 = .ok (.iadd, 1) := by decide +kernel
theorem dX11_layPress_233 : decode cX11_layPress 233 = .ok (.dup2, 1) := by decide +kernel
theorem dX11_layPress_234 : decode cX11_layPress 234 = .ok (.iaload, 1) := by decide +kernel
theorem dX11_layPress_235 : decode cX11_layPress 235 = .ok (.iload 7, 2) := by decide +kernel
theorem dX11_layPress_237 : decode cX11_layPress 237 = .ok (.iconst 2, 1) := by decide +kernel
theorem dX11_layPress_238 : decode cX11_layPress 238 = .ok (.idiv, 1) := by decide +kernel
theorem dX11_layPress_239 : decode cX11_layPress 239 = .ok (.iadd, 1) := by decide +kernel
theorem dX11_layPress_240 : decode cX11_layPress 240 = .ok (.iastore, 1) := by decide +kernel
theorem dX11_layPress_241 : decode cX11_layPress 241 = .ok (.iload_n 3, 1) := by decide +kernel
theorem dX11_layPress_242 : decode cX11_layPress 242 = .ok (.iload_n 2, 1) := by decide +kernel
theorem dX11_layPress_243 : decode cX11_layPress 243 = .ok (.iadd, 1) := by decide +kernel
theorem dX11_layPress_244 : decode cX11_layPress 244 = .ok (.aload_n 0, 1) := by decide +kernel
theorem dX11_layPress_245 : decode cX11_layPress 245 = .ok (.invokevirtual 382, 3) := by decide +kernel
theorem dX11_layPress_248 : decode cX11_layPress 248 = .ok (.if_icmp .ge 26, 3) := by decide +kernel
theorem dX11_layPress_251 : decode cX11_layPress 251 = .ok (.aload_n 0, 1) := by decide +kernel
theorem dX11_layPress_252 : decode cX11_layPress 252 = .ok (.getfield 66, 3) := by decide +kernel
theorem dX11_layPress_255 : decode cX11_layPress 255 = .ok (.iconst 3, 1) := by decide +kernel
theorem dX11_layPress_256 : decode cX11_layPress 256 = .ok (.iload_n 3, 1) := by decide +kernel
theorem dX11_layPress_257 : decode cX11_layPress 257 = .ok (.iload_n 2, 1) := by decide +kernel
theorem dX11_layPress_258 : decode cX11_layPress 258 = .ok (.iadd, 1) := by decide +kernel
theorem dX11_layPress_259 : decode cX11_layPress 259 = .ok (.imul, 1) := by decide +kernel
theorem dX11_layPress_260 : decode cX11_layPress 260 = .ok (.iload 6, 2) := by decide +kernel
theorem dX11_layPress_262 : decode cX11_layPress 262 = .ok (.iadd, 1) := by decide +kernel
theorem dX11_layPress_263 : decode cX11_layPress 263 = .ok (.dup2, 1) := by decide +kernel
theorem dX11_layPress_264 : decode cX11_layPress 264 = .ok (.iaload, 1) := by decide +kernel
theorem dX11_layPress_265 : decode cX11_layPress 265 = .ok (.iload 7, 2) := by decide +kernel
theorem dX11_layPress_267 : decode cX11_layPress 267 = .ok (.iload 7, 2) := by decide +kernel
theorem dX11_layPress_269 : decode cX11_layPress 269 = .ok (.iconst 2, 1) := by decide +kernel
theorem dX11_layPress_270 : decode cX11_layPress 270 = .ok (.idiv, 1) := by decide +kernel
theorem dX11_layPress_271 : decode cX11_layPress 271 = .ok (.isub, 1) := by decide +kernel
theorem dX11_layPress_272 : decode cX11_layPress 272 = .ok (.iadd, 1) := by decide +kernel
theorem dX11_layPress_273 : decode cX11_layPress 273 = .ok (.iastore, 1) := by decide +kernel
theorem dX11_layPress_274 : decode cX11_layPress 274 = .ok (.iinc 6 1, 3) := by decide +kernel
theorem dX11_layPress_277 : decode cX11_layPress 277 = .ok (.goto (-100), 3) := by decide +kernel
theorem dX11_layPress_280 : decode cX11_layPress 280 = .ok (.iinc 3 1, 3) := by decide +kernel
theorem dX11_layPress_283 : decode cX11_layPress 283 = .ok (.goto (-248), 3) := by decide +kernel
theorem dX11_layPress_286 : decode cX11_layPress 286 = .ok (.return_, 1) := by decide +kernel
theorem dX11_press_0 : decode cX11_press 0 = .ok (.aload_n 0, 1) := by decide +kernel
theorem dX11_press_1 : decode cX11_press 1 = .ok (.iconst 0, 1) := by decide +kernel
theorem dX11_press_2 : decode cX11_press 2 = .ok (.putfield 105, 3) := by decide +kernel
theorem dX11_press_5 : decode cX11_press 5 = .ok (.iload_n 1, 1) := by decide +kernel
theorem dX11_press_6 : decode cX11_press 6 = .ok (.iconst 0, 1) := by decide +kernel
theorem dX11_press_7 : decode cX11_press 7 = .ok (.iconst 1, 1) := by decide +kernel
theorem dX11_press_8 : decode cX11_press 8 = .ok (.invokestatic 112, 3) := by decide +kernel
theorem dX11_press_11 : decode cX11_press 11 = .ok (.ifCond .ne 5, 3) := by decide +kernel
theorem dX11_press_14 : decode cX11_press 14 = .ok (.iconst (-1), 1) := by decide +kernel
theorem dX11_press_15 : decode cX11_press 15 = .ok (.ireturn, 1) := by decide +kernel
theorem dX11_press_16 : decode cX11_press 16 = .ok (.aload_n 0, 1) := by decide +kernel
theorem dX11_press_17 : decode cX11_press 17 = .ok (.invokevirtual 382, 3) := by decide +kernel
theorem dX11_press_20 : decode cX11_press 20 = .ok (.ifCond .ne 6, 3) := by decide +kernel
theorem dX11_press_23 : decode cX11_press 23 = .ok (.bipush (-2), 2) := by decide +kernel
theorem dX11_press_25 : decode cX11_press 25 = .ok (.ireturn, 1) := by decide +kernel
theorem dX11_press_26 : decode cX11_press 26 = .ok (.aload_n 0, 1) := by decide +kernel
theorem dX11_press_27 : decode cX11_press 27 = .ok (.aload_n 0, 1) := by decide +kernel
theorem dX11_press_28 : decode cX11_press 28 = .ok (.getfield 9, 3) := by decide +kernel
theorem dX11_press_31 : decode cX11_press 31 = .ok (.invokevirtual 308, 3) := by decide +kernel
theorem dX11_press_34 : decode cX11_press 34 = .ok (.aload_n 0, 1) := by decide +kernel
theorem dX11_press_35 : decode cX11_press 35 = .ok (.iload_n 1, 1) := by decide +kernel
theorem dX11_press_36 : decode cX11_press 36 = .ok (.invokevirtual 391, 3) := by decide +kernel
theorem dX11_press_39 : decode cX11_press 39 = .ok (.iconst 0, 1) := by decide +kernel
theorem dX11_press_40 : decode cX11_press 40 = .ok (.istore_n 2, 1) := by decide +kernel
theorem dX11_press_41 : decode cX11_press 41 = .ok (.lconst 0, 1) := by decide +kernel
theorem dX11_press_42 : decode cX11_press 42 = .ok (.lstore_n 3, 1) := by decide +kernel
theorem dX11_press_43 : decode cX11_press 43 = .ok (.iconst 0, 1) := by decide +kernel
theorem dX11_press_44 : decode cX11_press 44 = .ok (.istore 5, 2) := by decide +kernel
theorem dX11_press_46 : decode cX11_press 46 = .ok (.iload 5, 2) := by decide +kernel
theorem dX11_press_48 : decode cX11_press 48 = .ok (.aload_n 0, 1) := by decide +kernel
theorem dX11_press_49 : decode cX11_press 49 = .ok (.invokevirtual 382, 3) := by decide +kernel
theorem dX11_press_52 : decode cX11_press 52 = .ok (.if_icmp .ge 132, 3) := by decide +kernel
theorem dX11_press_55 : decode cX11_press 55 = .ok (.iconst 1, 1) := by decide +kernel
theorem dX11_press_56 : decode cX11_press 56 = .ok (.istore 6, 2) := by decide +kernel
theorem dX11_press_58 : decode cX11_press 58 = .ok (.iconst 0, 1) := by decide +kernel
theorem dX11_press_59 : decode cX11_press 59 = .ok (.istore 7, 2) := by decide +kernel
theorem dX11_press_61 : decode cX11_press 61 = .ok (.iload 7, 2) := by decide +kernel
theorem dX11_press_63 : decode cX11_press 63 = .ok (.iload 5, 2) := by decide +kernel
theorem dX11_press_65 : decode cX11_press 65 = .ok (.if_icmp .ge 38, 3) := by decide +kernel
theorem dX11_press_68 : decode cX11_press 68 = .ok (.iload 6, 2) := by decide +kernel
theorem dX11_press_70 : decode cX11_press 70 = .ok (.ifCond .eq 24, 3) := by decide +kernel
theorem dX11_press_73 : decode cX11_press 73 = .ok (.aload_n 0, 1) := by decide +kernel
theorem dX11_press_74 : decode cX11_press 74 = .ok (.getfield 63, 3) := by decide +kernel
theorem dX11_press_77 : decode cX11_press 77 = .ok (.iload 7, 2) := by decide +kernel
theorem dX11_press_79 : decode cX11_press 79 = .ok (.iaload, 1) := by decide +kernel
theorem dX11_press_80 : decode cX11_press 80 = .ok (.aload_n 0, 1) := by decide +kernel
theorem dX11_press_81 : decode cX11_press 81 = .ok (.getfield 63, 3) := by decide +kernel
theorem dX11_press_84 : decode cX11_press 84 = .ok (.iload 5, 2) := by decide +kernel
theorem dX11_press_86 : decode cX11_press 86 = .ok (.iaload, 1) := by decide +kernel
theorem dX11_press_87 : decode cX11_press 87 = .ok (.if_icmp .eq 7, 3) := by decide +kernel
theorem dX11_press_90 : decode cX11_press 90 = .ok (.iconst 1, 1) := by decide +kernel
theorem dX11_press_91 : decode cX11_press 91 = .ok (.goto 4, 3) := by decide +kernel
theorem dX11_press_94 : decode cX11_press 94 = .ok (.iconst 0, 1) := by decide +kernel
theorem dX11_press_95 : decode cX11_press 95 = .ok (.istore 6, 2) := by decide +kernel
theorem dX11_press_97 : decode cX11_press 97 = .ok (.iinc 7 1, 3) := by decide +kernel
theorem dX11_press_100 : decode cX11_press 100 = .ok (.goto (-39), 3) := by decide +kernel
theorem dX11_press_103 : decode cX11_press 103 = .ok (.iload_n 2, 1) := by decide +kernel
theorem dX11_press_104 : decode cX11_press 104 = .ok (.iload 6, 2) := by decide +kernel
theorem dX11_press_106 : decode cX11_press 106 = .ok (.ifCond .eq 7, 3) := by decide +kernel
theorem dX11_press_109 : decode cX11_press 109 = .ok (.iconst 1, 1) := by decide +kernel
theorem dX11_press_110 : decode cX11_press 110 = .ok (.goto 4, 3) := by decide +kernel
theorem dX11_press_113 : decode cX11_press 113 = .ok (.iconst 0, 1) := by decide +kernel
theorem dX11_press_114 : decode cX11_press 114 = .ok (.iadd, 1) := by decide +kernel
theorem dX11_press_115 : decode cX11_press 115 = .ok (.istore_n 2, 1) := by decide +kernel
theorem dX11_press_116 : decode cX11_press 116 = .ok (.sipush 614, 3) := by decide +kernel
theorem dX11_press_119 : decode cX11_press 119 = .ok (.iconst 3, 1) := by decide +kernel
theorem dX11_press_120 : decode cX11_press 120 = .ok (.aload_n 0, 1) := by decide +kernel
theorem dX11_press_121 : decode cX11_press 121 = .ok (.getfield 9, 3) := by decide +kernel
theorem dX11_press_124 : decode cX11_press 124 = .ok (.sipush 638, 3) := by decide +kernel
theorem dX11_press_127 : decode cX11_press 127 = .ok (.iload 5, 2) := by decide +kernel
theorem dX11_press_129 : decode cX11_press 129 = .ok (.iadd, 1) := by decide +kernel
theorem dX11_press_130 : decode cX11_press 130 = .ok (.iaload, 1) := by decide +kernel
theorem dX11_press_131 : decode cX11_press 131 = .ok (.imul, 1) := by decide +kernel
theorem dX11_press_132 : decode cX11_press 132 = .ok (.iadd, 1) := by decide +kernel
theorem dX11_press_133 : decode cX11_press 133 = .ok (.istore 7, 2) := by decide +kernel
theorem dX11_press_135 : decode cX11_press 135 = .ok (.lload_n 3, 1) := by decide +kernel
theorem dX11_press_136 : decode cX11_press 136 = .ok (.aload_n 0, 1) := by decide +kernel
theorem dX11_press_137 : decode cX11_press 137 = .ok (.aload_n 0, 1) := by decide +kernel
theorem dX11_press_138 : decode cX11_press 138 = .ok (.getfield 63, 3) := by decide +kernel
theorem dX11_press_141 : decode cX11_press 141 = .ok (.iload 5, 2) := by decide +kernel
theorem dX11_press_143 : decode cX11_press 143 = .ok (.iaload, 1) := by decide +kernel
theorem dX11_press_144 : decode cX11_press 144 = .ok (.invokestatic 314, 3) := by decide +kernel
theorem dX11_press_147 : decode cX11_press 147 = .ok (.aload_n 0, 1) := by decide +kernel
theorem dX11_press_148 : decode cX11_press 148 = .ok (.getfield 9, 3) := by decide +kernel
theorem dX11_press_151 : decode cX11_press 151 = .ok (.iload 7, 2) := by decide +kernel
theorem dX11_press_153 : decode cX11_press 153 = .ok (.iaload, 1) := by decide +kernel
theorem dX11_press_154 : decode cX11_press 154 = .ok (.aload_n 0, 1) := by decide +kernel
theorem dX11_press_155 : decode cX11_press 155 = .ok (.getfield 9, 3) := by decide +kernel
theorem dX11_press_158 : decode cX11_press 158 = .ok (.iload 7, 2) := by decide +kernel
theorem dX11_press_160 : decode cX11_press 160 = .ok (.iconst 1, 1) := by decide +kernel
theorem dX11_press_161 : decode cX11_press 161 = .ok (.iadd, 1) := by decide +kernel
theorem dX11_press_162 : decode cX11_press 162 = .ok (.iaload, 1) := by decide +kernel
theorem dX11_press_163 : decode cX11_press 163 = .ok (.aload_n 0, 1) := by decide +kernel
theorem dX11_press_164 : decode cX11_press 164 = .ok (.getfield 9, 3) := by decide +kernel
theorem dX11_press_167 : decode cX11_press 167 = .ok (.iload 7, 2) := by decide +kernel
theorem dX11_press_169 : decode cX11_press 169 = .ok (.iconst 2, 1) := by decide +kernel
theorem dX11_press_170 : decode cX11_press 170 = .ok (.iadd, 1) := by decide +kernel
theorem dX11_press_171 : decode cX11_press 171 = .ok (.iaload, 1) := by decide +kernel
theorem dX11_press_172 : decode cX11_press 172 = .ok (.invokevirtual 266, 3) := by decide +kernel
theorem dX11_press_175 : decode cX11_press 175 = .ok (.i2l, 1) := by decide +kernel
theorem dX11_press_176 : decode cX11_press 176 = .ok (.ladd, 1) := by decide +kernel
theorem dX11_press_177 : decode cX11_press 177 = .ok (.lstore_n 3, 1) := by decide +kernel
theorem dX11_press_178 : decode cX11_press 178 = .ok (.iinc 5 1, 3) := by decide +kernel
theorem dX11_press_181 : decode cX11_press 181 = .ok (.goto (-135), 3) := by decide +kernel
theorem dX11_press_184 : decode cX11_press 184 = .ok (.aload_n 0, 1) := by decide +kernel
theorem dX11_press_185 : decode cX11_press 185 = .ok (.iconst 0, 1) := by decide +kernel
theorem dX11_press_186 : decode cX11_press 186 = .ok (.putfield 109, 3) := by decide +kernel
theorem dX11_press_189 : decode cX11_press 189 = .ok (.iconst 0, 1) := by decide +kernel
theorem dX11_press_190 : decode cX11_press 190 = .ok (.istore 5, 2) := by decide +kernel
theorem dX11_press_192 : decode cX11_press 192 = .ok (.iload 5, 2) := by decide +kernel
theorem dX11_press_194 : decode cX11_press 194 = .ok (.iconst 4, 1) := by decide +kernel
theorem dX11_press_195 : decode cX11_press 195 = .ok (.if_icmp .ge 54, 3) := by decide +kernel
theorem dX11_press_198 : decode cX11_press 198 = .ok (.iconst 0, 1) := by decide +kernel
theorem dX11_press_199 : decode cX11_press 199 = .ok (.istore 6, 2) := by decide +kernel
theorem dX11_press_201 : decode cX11_press 201 = .ok (.iconst 0, 1) := by decide +kernel
theorem dX11_press_202 : decode cX11_press 202 = .ok (.istore 7, 2) := by decide +kernel
theorem dX11_press_204 : decode cX11_press 204 = .ok (.iload 7, 2) := by decide +kernel
theorem dX11_press_206 : decode cX11_press 206 = .ok (.aload_n 0, 1) := by decide +kernel
theorem dX11_press_207 : decode cX11_press 207 = .ok (.invokevirtual 382, 3) := by decide +kernel
theorem dX11_press_210 : decode cX11_press 210 = .ok (.if_icmp .ge 26, 3) := by decide +kernel
theorem dX11_press_213 : decode cX11_press 213 = .ok (.iload 6, 2) := by decide +kernel
theorem dX11_press_215 : decode cX11_press 215 = .ok (.aload_n 0, 1) := by decide +kernel
theorem dX11_press_216 : decode cX11_press 216 = .ok (.getfield 63, 3) := by decide +kernel
theorem dX11_press_219 : decode cX11_press 219 = .ok (.iload 7, 2) := by decide +kernel
theorem dX11_press_221 : decode cX11_press 221 = .ok (.iaload, 1) := by decide +kernel
theorem dX11_press_222 : decode cX11_press 222 = .ok (.iload 5, 2) := by decide +kernel
theorem dX11_press_224 : decode cX11_press 224 = .ok (.invokestatic 119, 3) := by decide +kernel
theorem dX11_press_227 : decode cX11_press 227 = .ok (.iadd, 1) := by decide +kernel
theorem dX11_press_228 : decode cX11_press 228 = .ok (.istore 6, 2) := by decide +kernel
theorem dX11_press_230 : decode cX11_press 230 = .ok (.iinc 7 1, 3) := by decide +kernel
theorem dX11_press_233 : decode cX11_press 233 = .ok (.goto (-29), 3) := by decide +kernel
theorem dX11_press_236 : decode cX11_press 236 = .ok (.aload_n 0, 1) := by decide +kernel
theorem dX11_press_237 : decode cX11_press 237 = .ok (.iload 6, 2) := by decide +kernel
theorem dX11_press_239 : decode cX11_press 239 = .ok (.i2l, 1) := by decide +kernel
theorem dX11_press_240 : decode cX11_press 240 = .ok (.invokevirtual 273, 3) := by decide +kernel
theorem dX11_press_243 : decode cX11_press 243 = .ok (.iinc 5 1, 3) := by decide +kernel
theorem dX11_press_246 : decode cX11_press 246 = .ok (.goto (-54), 3) := by decide +kernel
theorem dX11_press_249 : decode cX11_press 249 = .ok (.aload_n 0, 1) := by decide +kernel
theorem dX11_press_250 : decode cX11_press 250 = .ok (.lload_n 3, 1) := by decide +kernel
theorem dX11_press_251 : decode cX11_press 251 = .ok (.invokevirtual 273, 3) := by decide +kernel
theorem dX11_press_254 : decode cX11_press 254 = .ok (.iload_n 2, 1) := by decide +kernel
theorem dX11_press_255 : decode cX11_press 255 = .ok (.ireturn, 1) := by decide +kernel
theorem dX11_cell_0 : decode cX11_cell 0 = .ok (.aload_n 0, 1) := by decide +kernel
theorem dX11_cell_1 : decode cX11_cell 1 = .ok (.iconst 0, 1) := by decide +kernel
theorem dX11_cell_2 : decode cX11_cell 2 = .ok (.putfield 105, 3) := by decide +kernel
theorem dX11_cell_5 : decode cX11_cell 5 = .ok (.iload_n 1, 1) := by decide +kernel
theorem dX11_cell_6 : decode cX11_cell 6 = .ok (.iconst 0, 1) := by decide +kernel
theorem dX11_cell_7 : decode cX11_cell 7 = .ok (.iconst 1, 1) := by decide +kernel
theorem dX11_cell_8 : decode cX11_cell 8 = .ok (.invokestatic 112, 3) := by decide +kernel
theorem dX11_cell_11 : decode cX11_cell 11 = .ok (.ifCond .ne 5, 3) := by decide +kernel
theorem dX11_cell_14 : decode cX11_cell 14 = .ok (.iconst (-1), 1) := by decide +kernel
theorem dX11_cell_15 : decode cX11_cell 15 = .ok (.ireturn, 1) := by decide +kernel
theorem dX11_cell_16 : decode cX11_cell 16 = .ok (.aload_n 0, 1) := by decide +kernel
theorem dX11_cell_17 : decode cX11_cell 17 = .ok (.invokevirtual 382, 3) := by decide +kernel
theorem dX11_cell_20 : decode cX11_cell 20 = .ok (.ifCond .ne 6, 3) := by decide +kernel
theorem dX11_cell_23 : decode cX11_cell 23 = .ok (.bipush (-2), 2) := by decide +kernel
theorem dX11_cell_25 : decode cX11_cell 25 = .ok (.ireturn, 1) := by decide +kernel
theorem dX11_cell_26 : decode cX11_cell 26 = .ok (.iload_n 2, 1) := by decide +kernel
theorem dX11_cell_27 : decode cX11_cell 27 = .ok (.iconst 0, 1) := by decide +kernel
theorem dX11_cell_28 : decode cX11_cell 28 = .ok (.aload_n 0, 1) := by decide +kernel
theorem dX11_cell_29 : decode cX11_cell 29 = .ok (.invokevirtual 382, 3) := by decide +kernel
theorem dX11_cell_32 : decode cX11_cell 32 = .ok (.iconst 1, 1) := by decide +kernel
theorem dX11_cell_33 : decode cX11_cell 33 = .ok (.isub, 1) := by decide +kernel
theorem dX11_cell_34 : decode cX11_cell 34 = .ok (.invokestatic 112, 3) := by decide +kernel
theorem dX11_cell_37 : decode cX11_cell 37 = .ok (.ifCond .ne 5, 3) := by decide +kernel
theorem dX11_cell_40 : decode cX11_cell 40 = .ok (.iconst (-1), 1) := by decide +kernel
theorem dX11_cell_41 : decode cX11_cell 41 = .ok (.ireturn, 1) := by decide +kernel
theorem dX11_cell_42 : decode cX11_cell 42 = .ok (.aload_n 0, 1) := by decide +kernel
theorem dX11_cell_43 : decode cX11_cell 43 = .ok (.aload_n 0, 1) := by decide +kernel
theorem dX11_cell_44 : decode cX11_cell 44 = .ok (.getfield 9, 3) := by decide +kernel
theorem dX11_cell_47 : decode cX11_cell 47 = .ok (.invokevirtual 308, 3) := by decide +kernel
theorem dX11_cell_50 : decode cX11_cell 50 = .ok (.aload_n 0, 1) := by decide +kernel
theorem dX11_cell_51 : decode cX11_cell 51 = .ok (.iload_n 1, 1) := by decide +kernel
theorem dX11_cell_52 : decode cX11_cell 52 = .ok (.invokevirtual 391, 3) := by decide +kernel
theorem dX11_cell_55 : decode cX11_cell 55 = .ok (.aload_n 0, 1) := by decide +kernel
theorem dX11_cell_56 : decode cX11_cell 56 = .ok (.getfield 63, 3) := by decide +kernel
theorem dX11_cell_59 : decode cX11_cell 59 = .ok (.iload_n 2, 1) := by decide +kernel
theorem dX11_cell_60 : decode cX11_cell 60 = .ok (.iaload, 1) := by decide +kernel
theorem dX11_cell_61 : decode cX11_cell 61 = .ok (.ireturn, 1) := by decide +kernel
theorem dX11_slips_0 : decode cX11_slips 0 = .ok (.aload_n 0, 1) := by decide +kernel
theorem dX11_slips_1 : decode cX11_slips 1 = .ok (.iconst 0, 1) := by decide +kernel
theorem dX11_slips_2 : decode cX11_slips 2 = .ok (.putfield 105, 3) := by decide +kernel
theorem dX11_slips_5 : decode cX11_slips 5 = .ok (.iload_n 1, 1) := by decide +kernel
theorem dX11_slips_6 : decode cX11_slips 6 = .ok (.invokestatic 185, 3) := by decide +kernel
theorem dX11_slips_9 : decode cX11_slips 9 = .ok (.ifCond .eq 25, 3) := by decide +kernel
theorem dX11_slips_12 : decode cX11_slips 12 = .ok (.iload_n 2, 1) := by decide +kernel
theorem dX11_slips_13 : decode cX11_slips 13 = .ok (.bipush (-8), 2) := by decide +kernel
theorem dX11_slips_15 : decode cX11_slips 15 = .ok (.bipush 8, 2) := by decide +kernel
theorem dX11_slips_17 : decode cX11_slips 17 = .ok (.invokestatic 112, 3) := by decide +kernel
theorem dX11_slips_20 : decode cX11_slips 20 = .ok (.ifCond .eq 14, 3) := by decide +kernel
theorem dX11_slips_23 : decode cX11_slips 23 = .ok (.iload_n 3, 1) := by decide +kernel
theorem dX11_slips_24 : decode cX11_slips 24 = .ok (.bipush (-8), 2) := by decide +kernel
theorem dX11_slips_26 : decode cX11_slips 26 = .ok (.bipush 8, 2) := by decide +kernel
theorem dX11_slips_28 : decode cX11_slips 28 = .ok (.invokestatic 112, 3) := by decide +kernel
theorem dX11_slips_31 : decode cX11_slips 31 = .ok (.ifCond .ne 5, 3) := by decide +kernel
theorem dX11_slips_34 : decode cX11_slips 34 = .ok (.iconst (-1), 1) := by decide +kernel
theorem dX11_slips_35 : decode cX11_slips 35 = .ok (.ireturn, 1) := by decide +kernel
theorem dX11_slips_36 : decode cX11_slips 36 = .ok (.aload_n 0, 1) := by decide +kernel
theorem dX11_slips_37 : decode cX11_slips 37 = .ok (.invokevirtual 382, 3) := by decide +kernel
theorem dX11_slips_40 : decode cX11_slips 40 = .ok (.ifCond .ne 6, 3) := by decide +kernel
theorem dX11_slips_43 : decode cX11_slips 43 = .ok (.bipush (-2), 2) := by decide +kernel
theorem dX11_slips_45 : decode cX11_slips 45 = .ok (.ireturn, 1) := by decide +kernel
theorem dX11_slips_46 : decode cX11_slips 46 = .ok (.aload_n 0, 1) := by decide +kernel
theorem dX11_slips_47 : decode cX11_slips 47 = .ok (.aload_n 0, 1) := by decide +kernel
theorem dX11_slips_48 : decode cX11_slips 48 = .ok (.getfield 9, 3) := by decide +kernel
theorem dX11_slips_51 : decode cX11_slips 51 = .ok (.invokevirtual 308, 3) := by decide +kernel
theorem dX11_slips_54 : decode cX11_slips 54 = .ok (.aload_n 0, 1) := by decide +kernel
theorem dX11_slips_55 : decode cX11_slips 55 = .ok (.iconst 0, 1) := by decide +kernel
theorem dX11_slips_56 : decode cX11_slips 56 = .ok (.invokevirtual 391, 3) := by decide +kernel
theorem dX11_slips_59 : decode cX11_slips 59 = .ok (.iconst 0, 1) := by decide +kernel
theorem dX11_slips_60 : decode cX11_slips 60 = .ok (.istore 4, 2) := by decide +kernel
theorem dX11_slips_62 : decode cX11_slips 62 = .ok (.lconst 0, 1) := by decide +kernel
theorem dX11_slips_63 : decode cX11_slips 63 = .ok (.lstore 5, 2) := by decide +kernel
theorem dX11_slips_65 : decode cX11_slips 65 = .ok (.iconst 0, 1) := by decide +kernel
theorem dX11_slips_66 : decode cX11_slips 66 = .ok (.istore 7, 2) := by decide +kernel
theorem dX11_slips_68 : decode cX11_slips 68 = .ok (.iload 7, 2) := by decide +kernel
theorem dX11_slips_70 : decode cX11_slips 70 = .ok (.aload_n 0, 1) := by decide +kernel
theorem dX11_slips_71 : decode cX11_slips 71 = .ok (.invokevirtual 382, 3) := by decide +kernel
theorem dX11_slips_74 : decode cX11_slips 74 = .ok (.if_icmp .ge 195, 3) := by decide +kernel
theorem dX11_slips_77 : decode cX11_slips 77 = .ok (.iload 7, 2) := by decide +kernel
theorem dX11_slips_79 : decode cX11_slips 79 = .ok (.aload_n 0, 1) := by decide +kernel
theorem dX11_slips_80 : decode cX11_slips 80 = .ok (.getfield 9, 3) := by decide +kernel
theorem dX11_slips_83 : decode cX11_slips 83 = .ok (.sipush 702, 3) := by decide +kernel

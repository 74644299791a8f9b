theorem dX7_settle_40 : decode cX7_settle 40 = .ok (.lload 5, 2) := by decide +kernel
theorem dX7_settle_42 : decode cX7_settle 42 = .ok (.lconst 0, 1) := by decide +kernel
theorem dX7_settle_43 : decode cX7_settle 43 = .ok (.lcmp, 1) := by decide +kernel
theorem dX7_settle_44 : decode cX7_settle 44 = .ok (.ifCond .le 31, 3) := by decide +kernel
theorem dX7_settle_47 : decode cX7_settle 47 = .ok (.iload_n 3, 1) := by decide +kernel
theorem dX7_settle_48 : decode cX7_settle 48 = .ok (.ifCond .lt 22, 3) := by decide +kernel
theorem dX7_settle_51 : decode cX7_settle 51 = .ok (.lload 5, 2) := by decide +kernel
theorem dX7_settle_53 : decode cX7_settle 53 = .ok (.aload_n 0, 1) := by decide +kernel
theorem dX7_settle_54 : decode cX7_settle 54 = .ok (.getfield 48, 3) := by decide +kernel
theorem dX7_settle_57 : decode cX7_settle 57 = .ok (.iconst 3, 1) := by decide +kernel
theorem dX7_settle_58 : decode cX7_settle 58 = .ok (.iload_n 3, 1) := by decide +kernel
theorem dX7_settle_59 : decode cX7_settle 59 = .ok (.imul, 1) := by decide +kernel
theorem dX7_settle_60 : decode cX7_settle 60 = .ok (.iload_n 1, 1) := by decide +kernel
theorem dX7_settle_61 : decode cX7_settle 61 = .ok (.iadd, 1) := by decide +kernel
theorem dX7_settle_62 : decode cX7_settle 62 = .ok (.laload, 1) := by decide +kernel
theorem dX7_settle_63 : decode cX7_settle 63 = .ok (.invokestatic 203, 3) := by decide +kernel
theorem dX7_settle_66 : decode cX7_settle 66 = .ok (.lcmp, 1) := by decide +kernel
theorem dX7_settle_67 : decode cX7_settle 67 = .ok (.ifCond .ge 8, 3) := by decide +kernel
theorem dX7_settle_70 : decode cX7_settle 70 = .ok (.iload 4, 2) := by decide +kernel
theorem dX7_settle_72 : decode cX7_settle 72 = .ok (.goto 4, 3) := by decide +kernel
theorem dX7_settle_75 : decode cX7_settle 75 = .ok (.iload_n 3, 1) := by decide +kernel
theorem dX7_settle_76 : decode cX7_settle 76 = .ok (.istore_n 3, 1) := by decide +kernel
theorem dX7_settle_77 : decode cX7_settle 77 = .ok (.iinc 4 1, 3) := by decide +kernel
theorem dX7_settle_80 : decode cX7_settle 80 = .ok (.goto (-62), 3) := by decide +kernel
theorem dX7_settle_83 : decode cX7_settle 83 = .ok (.iconst 0, 1) := by decide +kernel
theorem dX7_settle_84 : decode cX7_settle 84 = .ok (.istore 4, 2) := by decide +kernel
theorem dX7_settle_86 : decode cX7_settle 86 = .ok (.iload 4, 2) := by decide +kernel
theorem dX7_settle_88 : decode cX7_settle 88 = .ok (.iconst 3, 1) := by decide +kernel
theorem dX7_settle_89 : decode cX7_settle 89 = .ok (.if_icmp .ge 57, 3) := by decide +kernel
theorem dX7_settle_92 : decode cX7_settle 92 = .ok (.aload_n 0, 1) := by decide +kernel
theorem dX7_settle_93 : decode cX7_settle 93 = .ok (.getfield 48, 3) := by decide +kernel
theorem dX7_settle_96 : decode cX7_settle 96 = .ok (.iconst 3, 1) := by decide +kernel
theorem dX7_settle_97 : decode cX7_settle 97 = .ok (.iload_n 3, 1) := by decide +kernel
theorem dX7_settle_98 : decode cX7_settle 98 = .ok (.imul, 1) := by decide +kernel
theorem dX7_settle_99 : decode cX7_settle 99 = .ok (.iload 4, 2) := by decide +kernel
theorem dX7_settle_101 : decode cX7_settle 101 = .ok (.iadd, 1) := by decide +kernel
theorem dX7_settle_102 : decode cX7_settle 102 = .ok (.laload, 1) := by decide +kernel
theorem dX7_settle_103 : decode cX7_settle 103 = .ok (.lstore 5, 2) := by decide +kernel
theorem dX7_settle_105 : decode cX7_settle 105 = .ok (.aload_n 0, 1) := by decide +kernel
theorem dX7_settle_106 : decode cX7_settle 106 = .ok (.getfield 48, 3) := by decide +kernel
theorem dX7_settle_109 : decode cX7_settle 109 = .ok (.iconst 3, 1) := by decide +kernel
theorem dX7_settle_110 : decode cX7_settle 110 = .ok (.iload_n 3, 1) := by decide +kernel
theorem dX7_settle_111 : decode cX7_settle 111 = .ok (.imul, 1) := by decide +kernel
theorem dX7_settle_112 : decode cX7_settle 112 = .ok (.iload 4, 2) := by decide +kernel
theorem dX7_settle_114 : decode cX7_settle 114 = .ok (.iadd, 1) := by decide +kernel
theorem dX7_settle_115 : decode cX7_settle 115 = .ok (.aload_n 0, 1) := by decide +kernel
theorem dX7_settle_116 : decode cX7_settle 116 = .ok (.getfield 48, 3) := by decide +kernel
theorem dX7_settle_119 : decode cX7_settle 119 = .ok (.iconst 3, 1) := by decide +kernel
theorem dX7_settle_120 : decode cX7_settle 120 = .ok (.iload_n 1, 1) := by decide +kernel
theorem dX7_settle_121 : decode cX7_settle 121 = .ok (.imul, 1) := by decide +kernel
theorem dX7_settle_122 : decode cX7_settle 122 = .ok (.iload 4, 2) := by decide +kernel
theorem dX7_settle_124 : decode cX7_settle 124 = .ok (.iadd, 1) := by decide +kernel
theorem dX7_settle_125 : decode cX7_settle 125 = .ok (.laload, 1) := by decide +kernel
theorem dX7_settle_126 : decode cX7_settle 126 = .ok (.lastore, 1) := by decide +kernel
theorem dX7_settle_127 : decode cX7_settle 127 = .ok (.aload_n 0, 1) := by decide +kernel
theorem dX7_settle_128 : decode cX7_settle 128 = .ok (.getfield 48, 3) := by decide +kernel
theorem dX7_settle_131 : decode cX7_settle 131 = .ok (.iconst 3, 1) := by decide +kernel
theorem dX7_settle_132 : decode cX7_settle 132 = .ok (.iload_n 1, 1) := by decide +kernel
theorem dX7_settle_133 : decode cX7_settle 133 = .ok (.imul, 1) := by decide +kernel
theorem dX7_settle_134 : decode cX7_settle 134 = .ok (.iload 4, 2) := by decide +kernel
theorem dX7_settle_136 : decode cX7_settle 136 = .ok (.iadd, 1) := by decide +kernel
theorem dX7_settle_137 : decode cX7_settle 137 = .ok (.lload 5, 2) := by decide +kernel
theorem dX7_settle_139 : decode cX7_settle 139 = .ok (.lastore, 1) := by decide +kernel
theorem dX7_settle_140 : decode cX7_settle 140 = .ok (.iinc 4 1, 3) := by decide +kernel
theorem dX7_settle_143 : decode cX7_settle 143 = .ok (.goto (-57), 3) := by decide +kernel
theorem dX7_settle_146 : decode cX7_settle 146 = .ok (.iconst 0, 1) := by decide +kernel
theorem dX7_settle_147 : decode cX7_settle 147 = .ok (.istore_n 2, 1) := by decide +kernel
theorem dX7_settle_148 : decode cX7_settle 148 = .ok (.iload_n 1, 1) := by decide +kernel
theorem dX7_settle_149 : decode cX7_settle 149 = .ok (.iconst 1, 1) := by decide +kernel
theorem dX7_settle_150 : decode cX7_settle 150 = .ok (.iadd, 1) := by decide +kernel
theorem dX7_settle_151 : decode cX7_settle 151 = .ok (.istore 4, 2) := by decide +kernel
theorem dX7_settle_153 : decode cX7_settle 153 = .ok (.iload 4, 2) := by decide +kernel
theorem dX7_settle_155 : decode cX7_settle 155 = .ok (.iconst 4, 1) := by decide +kernel
theorem dX7_settle_156 : decode cX7_settle 156 = .ok (.if_icmp .ge 103, 3) := by decide +kernel
theorem dX7_settle_159 : decode cX7_settle 159 = .ok (.aload_n 0, 1) := by decide +kernel
theorem dX7_settle_160 : decode cX7_settle 160 = .ok (.getfield 48, 3) := by decide +kernel
theorem dX7_settle_163 : decode cX7_settle 163 = .ok (.iconst 3, 1) := by decide +kernel
theorem dX7_settle_164 : decode cX7_settle 164 = .ok (.iload 4, 2) := by decide +kernel
theorem dX7_settle_166 : decode cX7_settle 166 = .ok (.imul, 1) := by decide +kernel
theorem dX7_settle_167 : decode cX7_settle 167 = .ok (.iload_n 1, 1) := by decide +kernel
theorem dX7_settle_168 : decode cX7_settle 168 = .ok (.iadd, 1) := by decide +kernel
theorem dX7_settle_169 : decode cX7_settle 169 = .ok (.laload, 1) := by decide +kernel
theorem dX7_settle_170 : decode cX7_settle 170 = .ok (.aload_n 0, 1) := by decide +kernel
theorem dX7_settle_171 : decode cX7_settle 171 = .ok (.getfield 48, 3) := by decide +kernel
theorem dX7_settle_174 : decode cX7_settle 174 = .ok (.iconst 3, 1) := by decide +kernel
theorem dX7_settle_175 : decode cX7_settle 175 = .ok (.iload_n 1, 1) := by decide +kernel
theorem dX7_settle_176 : decode cX7_settle 176 = .ok (.imul, 1) := by decide +kernel
theorem dX7_settle_177 : decode cX7_settle 177 = .ok (.iload_n 1, 1) := by decide +kernel
theorem dX7_settle_178 : decode cX7_settle 178 = .ok (.iadd, 1) := by decide +kernel
theorem dX7_settle_179 : decode cX7_settle 179 = .ok (.laload, 1) := by decide +kernel
theorem dX7_settle_180 : decode cX7_settle 180 = .ok (.ldiv, 1) := by decide +kernel
theorem dX7_settle_181 : decode cX7_settle 181 = .ok (.lstore 5, 2) := by decide +kernel
theorem dX7_settle_183 : decode cX7_settle 183 = .ok (.iconst 0, 1) := by decide +kernel
theorem dX7_settle_184 : decode cX7_settle 184 = .ok (.istore 7, 2) := by decide +kernel
theorem dX7_settle_186 : decode cX7_settle 186 = .ok (.iload 7, 2) := by decide +kernel
theorem dX7_settle_188 : decode cX7_settle 188 = .ok (.iconst 3, 1) := by decide +kernel
theorem dX7_settle_189 : decode cX7_settle 189 = .ok (.if_icmp .ge 38, 3) := by decide +kernel
theorem dX7_settle_192 : decode cX7_settle 192 = .ok (.aload_n 0, 1) := by decide +kernel
theorem dX7_settle_193 : decode cX7_settle 193 = .ok (.getfield 48, 3) := by decide +kernel
theorem dX7_settle_196 : decode cX7_settle 196 = .ok (.iconst 3, 1) := by decide +kernel
theorem dX7_settle_197 : decode cX7_settle 197 = .ok (.iload 4, 2) := by decide +kernel
theorem dX7_settle_199 : decode cX7_settle 199 = .ok (.imul, 1) := by decide +kernel
theorem dX7_settle_200 : decode cX7_settle 200 = .ok (.iload 7, 2) := by decide +kernel
theorem dX7_settle_202 : decode cX7_settle 202 = .ok (.iadd, 1) := by decide +kernel
theorem dX7_settle_203 : decode cX7_settle 203 = .ok (.dup2, 1) := by decide +kernel
theorem dX7_settle_204 : decode cX7_settle 204 = .ok (.laload, 1) := by decide +kernel
theorem dX7_settle_205 : decode cX7_settle 205 = .ok (.lload 5, 2) := by decide +kernel
theorem dX7_settle_207 : decode cX7_settle 207 = .ok (.aload_n 0, 1) := by decide +kernel
theorem dX7_settle_208 : decode cX7_settle 208 = .ok (.getfield 48, 3) := by decide +kernel
theorem dX7_settle_211 : decode cX7_settle 211 = .ok (.iconst 3, 1) := by decide +kernel
theorem dX7_settle_212 : decode cX7_settle 212 = .ok (.iload_n 1, 1) := by decide +kernel
theorem dX7_settle_213 : decode cX7_settle 213 = .ok (.imul, 1) := by decide +kernel
theorem dX7_settle_214 : decode cX7_settle 214 = .ok (.iload 7, 2) := by decide +kernel
theorem dX7_settle_216 : decode cX7_settle 216 = .ok (.iadd, 1) := by decide +kernel
theorem dX7_settle_217 : decode cX7_settle 217 = .ok (.laload, 1) := by decide +kernel
theorem dX7_settle_218 : decode cX7_settle 218 = .ok (.lmul, 1) := by decide +kernel
theorem dX7_settle_219 : decode cX7_settle 219 = .ok (.lsub, 1) := by decide +kernel
theorem dX7_settle_220 : decode cX7_settle 220 = .ok (.lastore, 1) := by decide +kernel
theorem dX7_settle_221 : decode cX7_settle 221 = .ok (.iinc 7 1, 3) := by decide +kernel
theorem dX7_settle_224 : decode cX7_settle 224 = .ok (.goto (-38), 3) := by decide +kernel
theorem dX7_settle_227 : decode cX7_settle 227 = .ok (.iload_n 2, 1) := by decide +kernel
theorem dX7_settle_228 : decode cX7_settle 228 = .ok (.ifCond .ne 19, 3) := by decide +kernel
theorem dX7_settle_231 : decode cX7_settle 231 = .ok (.aload_n 0, 1) := by decide +kernel
theorem dX7_settle_232 : decode cX7_settle 232 = .ok (.getfield 48, 3) := by decide +kernel
theorem dX7_settle_235 : decode cX7_settle 235 = .ok (.iconst 3, 1) := by decide +kernel
theorem dX7_settle_236 : decode cX7_settle 236 = .ok (.iload 4, 2) := by decide +kernel
theorem dX7_settle_238 : decode cX7_settle 238 = .ok (.imul, 1) := by decide +kernel
theorem dX7_settle_239 : decode cX7_settle 239 = .ok (.iload_n 1, 1) := by decide +kernel
theorem dX7_settle_240 : decode cX7_settle 240 = .ok (.iadd, 1) := by decide +kernel
theorem dX7_settle_241 : decode cX7_settle 241 = .ok (.laload, 1) := by decide +kernel
theorem dX7_settle_242 : decode cX7_settle 242 = .ok (.lconst 0, 1) := by decide +kernel
theorem dX7_settle_243 : decode cX7_settle 243 = .ok (.lcmp, 1) := by decide +kernel
theorem dX7_settle_244 : decode cX7_settle 244 = .ok (.ifCond .eq 7, 3) := by decide +kernel
theorem dX7_settle_247 : decode cX7_settle 247 = .ok (.iconst 1, 1) := by decide +kernel
theorem dX7_settle_248 : decode cX7_settle 248 = .ok (.goto 4, 3) := by decide +kernel
theorem dX7_settle_251 : decode cX7_settle 251 = .ok (.iconst 0, 1) := by decide +kernel
theorem dX7_settle_252 : decode cX7_settle 252 = .ok (.istore_n 2, 1) := by decide +kernel
theorem dX7_settle_253 : decode cX7_settle 253 = .ok (.iinc 4 1, 3) := by decide +kernel
theorem dX7_settle_256 : decode cX7_settle 256 = .ok (.goto (-103), 3) := by decide +kernel
theorem dX7_settle_259 : decode cX7_settle 259 = .ok (.goto (-250), 3) := by decide +kernel
theorem dX7_settle_262 : decode cX7_settle 262 = .ok (.iinc 1 1, 3) := by decide +kernel
theorem dX7_settle_265 : decode cX7_settle 265 = .ok (.goto (-263), 3) := by decide +kernel
theorem dX7_settle_268 : decode cX7_settle 268 = .ok (.return_, 1) := by decide +kernel
theorem dX7_size_0 : decode cX7_size 0 = .ok (.lload_n 0, 1) := by decide +kernel
theorem dX7_size_1 : decode cX7_size 1 = .ok (.lconst 0, 1) := by decide +kernel
theorem dX7_size_2 : decode cX7_size 2 = .ok (.lcmp, 1) := by decide +kernel
theorem dX7_size_3 : decode cX7_size 3 = .ok (.ifCond .ge 8, 3) := by decide +kernel
theorem dX7_size_6 : decode cX7_size 6 = .ok (.lload_n 0, 1) := by decide +kernel
theorem dX7_size_7 : decode cX7_size 7 = .ok (.lneg, 1) := by decide +kernel
theorem dX7_size_8 : decode cX7_size 8 = .ok (.goto 4, 3) := by decide +kernel
theorem dX7_size_11 : decode cX7_size 11 = .ok (.lload_n 0, 1) := by decide +kernel
theorem dX7_size_12 : decode cX7_size 12 = .ok (.lreturn, 1) := by decide +kernel
theorem dX7_findNeighbour_0 : decode cX7_findNeighbour 0 = .ok (.aload_n 0, 1) := by decide +kernel
theorem dX7_findNeighbour_1 : decode cX7_findNeighbour 1 = .ok (.iload_n 1, 1) := by decide +kernel
theorem dX7_findNeighbour_2 : decode cX7_findNeighbour 2 = .ok (.invokevirtual 206, 3) := by decide +kernel
theorem dX7_findNeighbour_5 : decode cX7_findNeighbour 5 = .ok (.iconst (-1), 1) := by decide +kernel
theorem dX7_findNeighbour_6 : decode cX7_findNeighbour 6 = .ok (.istore_n 2, 1) := by decide +kernel
theorem dX7_findNeighbour_7 : decode cX7_findNeighbour 7 = .ok (.iconst 0, 1) := by decide +kernel
theorem dX7_findNeighbour_8 : decode cX7_findNeighbour 8 = .ok (.istore_n 3, 1) := by decide +kernel
theorem dX7_findNeighbour_9 : decode cX7_findNeighbour 9 = .ok (.iload_n 3, 1) := by decide +kernel
theorem dX7_findNeighbour_10 : decode cX7_findNeighbour 10 = .ok (.iconst 3, 1) := by decide +kernel
theorem dX7_findNeighbour_11 : decode cX7_findNeighbour 11 = .ok (.if_icmp .ge 102, 3) := by decide +kernel
theorem dX7_findNeighbour_14 : decode cX7_findNeighbour 14 = .ok (.aload_n 0, 1) := by decide +kernel
theorem dX7_findNeighbour_15 : decode cX7_findNeighbour 15 = .ok (.aload_n 0, 1) := by decide +kernel
theorem dX7_findNeighbour_16 : decode cX7_findNeighbour 16 = .ok (.iconst 0, 1) := by decide +kernel
theorem dX7_findNeighbour_17 : decode cX7_findNeighbour 17 = .ok (.invokevirtual 199, 3) := by decide +kernel
theorem dX7_findNeighbour_20 : decode cX7_findNeighbour 20 = .ok (.aload_n 0, 1) := by decide +kernel
theorem dX7_findNeighbour_21 : decode cX7_findNeighbour 21 = .ok (.iconst 1, 1) := by decide +kernel
theorem dX7_findNeighbour_22 : decode cX7_findNeighbour 22 = .ok (.invokevirtual 199, 3) := by decide +kernel
theorem dX7_findNeighbour_25 : decode cX7_findNeighbour 25 = .ok (.aload_n 0, 1) := by decide +kernel
theorem dX7_findNeighbour_26 : decode cX7_findNeighbour 26 = .ok (.iconst 2, 1) := by decide +kernel
theorem dX7_findNeighbour_27 : decode cX7_findNeighbour 27 = .ok (.invokevirtual 199, 3) := by decide +kernel
theorem dX7_findNeighbour_30 : decode cX7_findNeighbour 30 = .ok (.iload_n 3, 1) := by decide +kernel
theorem dX7_findNeighbour_31 : decode cX7_findNeighbour 31 = .ok (.ifCond .ne 7, 3) := by decide +kernel
theorem dX7_findNeighbour_34 : decode cX7_findNeighbour 34 = .ok (.lconst 1, 1) := by decide +kernel
theorem dX7_findNeighbour_35 : decode cX7_findNeighbour 35 = .ok (.goto 4, 3) := by decide +kernel
theorem dX7_findNeighbour_38 : decode cX7_findNeighbour 38 = .ok (.lconst 0, 1) := by decide +kernel
theorem dX7_findNeighbour_39 : decode cX7_findNeighbour 39 = .ok (.iload_n 3, 1) := by decide +kernel
theorem dX7_findNeighbour_40 : decode cX7_findNeighbour 40 = .ok (.iconst 1, 1) := by decide +kernel
theorem dX7_findNeighbour_41 : decode cX7_findNeighbour 41 = .ok (.if_icmp .ne 7, 3) := by decide +kernel
theorem dX7_findNeighbour_44 : decode cX7_findNeighbour 44 = .ok (.lconst 1, 1) := by decide +kernel
theorem dX7_findNeighbour_45 : decode cX7_findNeighbour 45 = .ok (.goto 4, 3) := by decide +kernel
theorem dX7_findNeighbour_48 : decode cX7_findNeighbour 48 = .ok (.lconst 0, 1) := by decide +kernel
theorem dX7_findNeighbour_49 : decode cX7_findNeighbour 49 = .ok (.iload_n 3, 1) := by decide +kernel
theorem dX7_findNeighbour_50 : decode cX7_findNeighbour 50 = .ok (.iconst 2, 1) := by decide +kernel
theorem dX7_findNeighbour_51 : decode cX7_findNeighbour 51 = .ok (.if_icmp .ne 7, 3) := by decide +kernel
theorem dX7_findNeighbour_54 : decode cX7_findNeighbour 54 = .ok (.lconst 1, 1) := by decide +kernel
theorem dX7_findNeighbour_55 : decode cX7_findNeighbour 55 = .ok (.goto 4, 3) := by decide +kernel
theorem dX7_findNeighbour_58 : decode cX7_findNeighbour 58 = .ok (.lconst 0, 1) := by decide +kernel
theorem dX7_findNeighbour_59 : decode cX7_findNeighbour 59 = .ok (.invokevirtual 106, 3) := by decide +kernel
theorem dX7_findNeighbour_62 : decode cX7_findNeighbour 62 = .ok (.lstore 4, 2) := by decide +kernel
theorem dX7_findNeighbour_64 : decode cX7_findNeighbour 64 = .ok (.aload_n 0, 1) := by decide +kernel
theorem dX7_findNeighbour_65 : decode cX7_findNeighbour 65 = .ok (.getfield 51, 3) := by decide +kernel
theorem dX7_findNeighbour_68 : decode cX7_findNeighbour 68 = .ok (.iload_n 3, 1) := by decide +kernel
theorem dX7_findNeighbour_69 : decode cX7_findNeighbour 69 = .ok (.lload 4, 2) := by decide +kernel
theorem dX7_findNeighbour_71 : decode cX7_findNeighbour 71 = .ok (.aload_n 0, 1) := by decide +kernel
theorem dX7_findNeighbour_72 : decode cX7_findNeighbour 72 = .ok (.getfield 13, 3) := by decide +kernel
theorem dX7_findNeighbour_75 : decode cX7_findNeighbour 75 = .ok (.i2l, 1) := by decide +kernel
theorem dX7_findNeighbour_76 : decode cX7_findNeighbour 76 = .ok (.lrem, 1) := by decide +kernel
theorem dX7_findNeighbour_77 : decode cX7_findNeighbour 77 = .ok (.aload_n 0, 1) := by decide +kernel
theorem dX7_findNeighbour_78 : decode cX7_findNeighbour 78 = .ok (.getfield 13, 3) := by decide +kernel
theorem dX7_findNeighbour_81 : decode cX7_findNeighbour 81 = .ok (.i2l, 1) := by decide +kernel
theorem dX7_findNeighbour_82 : decode cX7_findNeighbour 82 = .ok (.ladd, 1) := by decide +kernel
theorem dX7_findNeighbour_83 : decode cX7_findNeighbour 83 = .ok (.aload_n 0, 1) := by decide +kernel
theorem dX7_findNeighbour_84 : decode cX7_findNeighbour 84 = .ok (.getfield 13, 3) := by decide +kernel
theorem dX7_findNeighbour_87 : decode cX7_findNeighbour 87 = .ok (.i2l, 1) := by decide +kernel
theorem dX7_findNeighbour_88 : decode cX7_findNeighbour 88 = .ok (.lrem, 1) := by decide +kernel
theorem dX7_findNeighbour_89 : decode cX7_findNeighbour 89 = .ok (.lastore, 1) := by decide +kernel
theorem dX7_findNeighbour_90 : decode cX7_findNeighbour 90 = .ok (.aload_n 0, 1) := by decide +kernel
theorem dX7_findNeighbour_91 : decode cX7_findNeighbour 91 = .ok (.getfield 51, 3) := by decide +kernel
theorem dX7_findNeighbour_94 : decode cX7_findNeighbour 94 = .ok (.iload_n 3, 1) := by decide +kernel
theorem dX7_findNeighbour_95 : decode cX7_findNeighbour 95 = .ok (.laload, 1) := by decide +kernel
theorem dX7_findNeighbour_96 : decode cX7_findNeighbour 96 = .ok (.lconst 0, 1) := by decide +kernel
theorem dX7_findNeighbour_97 : decode cX7_findNeighbour 97 = .ok (.lcmp, 1) := by decide +kernel
theorem dX7_findNeighbour_98 : decode cX7_findNeighbour 98 = .ok (.ifCond .eq 7, 3) := by decide +kernel
theorem dX7_findNeighbour_101 : decode cX7_findNeighbour 101 = .ok (.iload_n 3, 1) := by decide +kernel
theorem dX7_findNeighbour_102 : decode cX7_findNeighbour 102 = .ok (.goto 4, 3) := by decide +kernel
theorem dX7_findNeighbour_105 : decode cX7_findNeighbour 105 = .ok (.iload_n 2, 1) := by decide +kernel
theorem dX7_findNeighbour_106 : decode cX7_findNeighbour 106 = .ok (.istore_n 2, 1) := by decide +kernel
theorem dX7_findNeighbour_107 : decode cX7_findNeighbour 107 = .ok (.iinc 3 1, 3) := by decide +kernel
theorem dX7_findNeighbour_110 : decode cX7_findNeighbour 110 = .ok (.goto (-101), 3) := by decide +kernel
theorem dX7_findNeighbour_113 : decode cX7_findNeighbour 113 = .ok (.lconst 1, 1) := by decide +kernel
theorem dX7_findNeighbour_114 : decode cX7_findNeighbour 114 = .ok (.lstore_n 3, 1) := by decide +kernel
theorem dX7_findNeighbour_115 : decode cX7_findNeighbour 115 = .ok (.lload_n 3, 1) := by decide +kernel
theorem dX7_findNeighbour_116 : decode cX7_findNeighbour 116 = .ok (.aload_n 0, 1) := by decide +kernel
theorem dX7_findNeighbour_117 : decode cX7_findNeighbour 117 = .ok (.getfield 51, 3) := by decide +kernel
theorem dX7_findNeighbour_120 : decode cX7_findNeighbour 120 = .ok (.iload_n 2, 1) := by decide +kernel
theorem dX7_findNeighbour_121 : decode cX7_findNeighbour 121 = .ok (.laload, 1) := by decide +kernel
theorem dX7_findNeighbour_122 : decode cX7_findNeighbour 122 = .ok (.lmul, 1) := by decide +kernel
theorem dX7_findNeighbour_123 : decode cX7_findNeighbour 123 = .ok (.aload_n 0, 1) := by decide +kernel
theorem dX7_findNeighbour_124 : decode cX7_findNeighbour 124 = .ok (.getfield 13, 3) := by decide +kernel
theorem dX7_findNeighbour_127 : decode cX7_findNeighbour 127 = .ok (.i2l, 1) := by decide +kernel
theorem dX7_findNeighbour_128 : decode cX7_findNeighbour 128 = .ok (.lrem, 1) := by decide +kernel
theorem dX7_findNeighbour_129 : decode cX7_findNeighbour 129 = .ok (.lconst 1, 1) := by decide +kernel
theorem dX7_findNeighbour_130 : decode cX7_findNeighbour 130 = .ok (.lcmp, 1) := by decide +kernel
theorem dX7_findNeighbour_131 : decode cX7_findNeighbour 131 = .ok (.ifCond .eq 10, 3) := by decide +kernel
theorem dX7_findNeighbour_134 : decode cX7_findNeighbour 134 = .ok (.lload_n 3, 1) := by decide +kernel
theorem dX7_findNeighbour_135 : decode cX7_findNeighbour 135 = .ok (.lconst 1, 1) := by decide +kernel
theorem dX7_findNeighbour_136 : decode cX7_findNeighbour 136 = .ok (.ladd, 1) := by decide +kernel
theorem dX7_findNeighbour_137 : decode cX7_findNeighbour 137 = .ok (.lstore_n 3, 1) := by decide +kernel
theorem dX7_findNeighbour_138 : decode cX7_findNeighbour 138 = .ok (.goto (-23), 3) := by decide +kernel
theorem dX7_findNeighbour_141 : decode cX7_findNeighbour 141 = .ok (.iconst 0, 1) := by decide +kernel
theorem dX7_findNeighbour_142 : decode cX7_findNeighbour 142 = .ok (.istore 5, 2) := by decide +kernel
theorem dX7_findNeighbour_144 : decode cX7_findNeighbour 144 = .ok (.iload 5, 2) := by decide +kernel
theorem dX7_findNeighbour_146 : decode cX7_findNeighbour 146 = .ok (.iconst 3, 1) := by decide +kernel
theorem dX7_findNeighbour_147 : decode cX7_findNeighbour 147 = .ok (.if_icmp .ge 107, 3) := by decide +kernel
theorem dX7_findNeighbour_150 : decode cX7_findNeighbour 150 = .ok (.iconst 0, 1) := by decide +kernel
theorem dX7_findNeighbour_151 : decode cX7_findNeighbour 151 = .ok (.istore 6, 2) := by decide +kernel
theorem dX7_findNeighbour_153 : decode cX7_findNeighbour 153 = .ok (.iload 6, 2) := by decide +kernel
theorem dX7_findNeighbour_155 : decode cX7_findNeighbour 155 = .ok (.iconst 3, 1) := by decide +kernel
theorem dX7_findNeighbour_156 : decode cX7_findNeighbour 156 = .ok (.if_icmp .ge 92, 3) := by decide +kernel
theorem dX7_findNeighbour_159 : decode cX7_findNeighbour 159 = .ok (.iload 5, 2) := by decide +kernel
theorem dX7_findNeighbour_161 : decode cX7_findNeighbour 161 = .ok (.iload_n 2, 1) := by decide +kernel
theorem dX7_findNeighbour_162 : decode cX7_findNeighbour 162 = .ok (.if_icmp .ne 21, 3) := by decide +kernel
theorem dX7_findNeighbour_165 : decode cX7_findNeighbour 165 = .ok (.iload 6, 2) := by decide +kernel
theorem dX7_findNeighbour_167 : decode cX7_findNeighbour 167 = .ok (.iload_n 2, 1) := by decide +kernel
theorem dX7_findNeighbour_168 : decode cX7_findNeighbour 168 = .ok (.if_icmp .ne 11, 3) := by decide +kernel
theorem dX7_findNeighbour_171 : decode cX7_findNeighbour 171 = .ok (.aload_n 0, 1) := by decide +kernel
theorem dX7_findNeighbour_172 : decode cX7_findNeighbour 172 = .ok (.getfield 13, 3) := by decide +kernel
theorem dX7_findNeighbour_175 : decode cX7_findNeighbour 175 = .ok (.i2l, 1) := by decide +kernel
theorem dX7_findNeighbour_176 : decode cX7_findNeighbour 176 = .ok (.goto 44, 3) := by decide +kernel
theorem dX7_findNeighbour_179 : decode cX7_findNeighbour 179 = .ok (.lconst 0, 1) := by decide +kernel
theorem dX7_findNeighbour_180 : decode cX7_findNeighbour 180 = .ok (.goto 40, 3) := by decide +kernel
theorem dX7_findNeighbour_183 : decode cX7_findNeighbour 183 = .ok (.iload 6, 2) := by decide +kernel
theorem dX7_findNeighbour_185 : decode cX7_findNeighbour 185 = .ok (.iload 5, 2) := by decide +kernel
theorem dX7_findNeighbour_187 : decode cX7_findNeighbour 187 = .ok (.if_icmp .ne 7, 3) := by decide +kernel
theorem dX7_findNeighbour_190 : decode cX7_findNeighbour 190 = .ok (.lconst 1, 1) := by decide +kernel
theorem dX7_findNeighbour_191 : decode cX7_findNeighbour 191 = .ok (.goto 29, 3) := by decide +kernel
theorem dX7_findNeighbour_194 : decode cX7_findNeighbour 194 = .ok (.iload 6, 2) := by decide +kernel
theorem dX7_findNeighbour_196 : decode cX7_findNeighbour 196 = .ok (.iload_n 2, 1) := by decide +kernel
theorem dX7_findNeighbour_197 : decode cX7_findNeighbour 197 = .ok (.if_icmp .ne 22, 3) := by decide +kernel
theorem dX7_findNeighbour_200 : decode cX7_findNeighbour 200 = .ok (.aload_n 0, 1) := by decide +kernel
theorem dX7_findNeighbour_201 : decode cX7_findNeighbour 201 = .ok (.getfield 51, 3) := by decide +kernel
theorem dX7_findNeighbour_204 : decode cX7_findNeighbour 204 = .ok (.iload 5, 2) := by decide +kernel
theorem dX7_findNeighbour_206 : decode cX7_findNeighbour 206 = .ok (.laload, 1) := by decide +kernel
theorem dX7_findNeighbour_207 : decode cX7_findNeighbour 207 = .ok (.lload_n 3, 1) := by decide +kernel
theorem dX7_findNeighbour_208 : decode cX7_findNeighbour 208 = .ok (.lmul, 1) := by decide +kernel
theorem dX7_findNeighbour_209 : decode cX7_findNeighbour 209 = .ok (.aload_n 0, 1) := by decide +kernel
theorem dX7_findNeighbour_210 : decode cX7_findNeighbour 210 = .ok (.getfield 13, 3) := by decide +kernel
theorem dX7_findNeighbour_213 : decode cX7_findNeighbour 213 = .ok (.i2l, 1) := by decide +kernel
theorem dX7_findNeighbour_214 : decode cX7_findNeighbour 214 = .ok (.lrem, 1) := by decide +kernel
theorem dX7_findNeighbour_215 : decode cX7_findNeighbour 215 = .ok (.lneg, 1) := by decide +kernel
theorem dX7_findNeighbour_216 : decode cX7_findNeighbour 216 = .ok (.goto 4, 3) := by decide +kernel
theorem dX7_findNeighbour_219 : decode cX7_findNeighbour 219 = .ok (.lconst 0, 1) := by decide +kernel
theorem dX7_findNeighbour_220 : decode cX7_findNeighbour 220 = .ok (.lstore 7, 2) := by decide +kernel
theorem dX7_findNeighbour_222 : decode cX7_findNeighbour 222 = .ok (.aload_n 0, 1) := by decide +kernel
theorem dX7_findNeighbour_223 : decode cX7_findNeighbour 223 = .ok (.getfield 48, 3) := by decide +kernel
theorem dX7_findNeighbour_226 : decode cX7_findNeighbour 226 = .ok (.iconst 3, 1) := by decide +kernel
theorem dX7_findNeighbour_227 : decode cX7_findNeighbour 227 = .ok (.iload 5, 2) := by decide +kernel
theorem dX7_findNeighbour_229 : decode cX7_findNeighbour 229 = .ok (.imul, 1) := by decide +kernel
theorem dX7_findNeighbour_230 : decode cX7_findNeighbour 230 = .ok (.iload 6, 2) := by decide +kernel
theorem dX7_findNeighbour_232 : decode cX7_findNeighbour 232 = .ok (.iadd, 1) := by decide +kernel
theorem dX7_findNeighbour_233 : decode cX7_findNeighbour 233 = .ok (.aload_n 0, 1) := by decide +kernel
theorem dX7_findNeighbour_234 : decode cX7_findNeighbour 234 = .ok (.getfield 13, 3) := by decide +kernel
theorem dX7_findNeighbour_237 : decode cX7_findNeighbour 237 = .ok (.i2l, 1) := by decide +kernel
theorem dX7_findNeighbour_238 : decode cX7_findNeighbour 238 = .ok (.lload 7, 2) := by decide +kernel
theorem dX7_findNeighbour_240 : decode cX7_findNeighbour 240 = .ok (.lmul, 1) := by decide +kernel
theorem dX7_findNeighbour_241 : decode cX7_findNeighbour 241 = .ok (.lastore, 1) := by decide +kernel
theorem dX7_findNeighbour_242 : decode cX7_findNeighbour 242 = .ok (.iinc 6 1, 3) := by decide +kernel
theorem dX7_findNeighbour_245 : decode cX7_findNeighbour 245 = .ok (.goto (-92), 3) := by decide +kernel
theorem dX7_findNeighbour_248 : decode cX7_findNeighbour 248 = .ok (.iinc 5 1, 3) := by decide +kernel
theorem dX7_findNeighbour_251 : decode cX7_findNeighbour 251 = .ok (.goto (-107), 3) := by decide +kernel
theorem dX7_findNeighbour_254 : decode cX7_findNeighbour 254 = .ok (.iconst 0, 1) := by decide +kernel
theorem dX7_findNeighbour_255 : decode cX7_findNeighbour 255 = .ok (.istore 5, 2) := by decide +kernel
theorem dX7_findNeighbour_257 : decode cX7_findNeighbour 257 = .ok (.iload 5, 2) := by decide +kernel
theorem dX7_findNeighbour_259 : decode cX7_findNeighbour 259 = .ok (.iconst 3, 1) := by decide +kernel
theorem dX7_findNeighbour_260 : decode cX7_findNeighbour 260 = .ok (.if_icmp .ge 25, 3) := by decide +kernel
theorem dX7_findNeighbour_263 : decode cX7_findNeighbour 263 = .ok (.aload_n 0, 1) := by decide +kernel
theorem dX7_findNeighbour_264 : decode cX7_findNeighbour 264 = .ok (.getfield 48, 3) := by decide +kernel
theorem dX7_findNeighbour_267 : decode cX7_findNeighbour 267 = .ok (.bipush 9, 2) := by decide +kernel
theorem dX7_findNeighbour_269 : decode cX7_findNeighbour 269 = .ok (.iload 5, 2) := by decide +kernel
theorem dX7_findNeighbour_271 : decode cX7_findNeighbour 271 = .ok (.iadd, 1) := by decide +kernel
theorem dX7_findNeighbour_272 : decode cX7_findNeighbour 272 = .ok (.aload_n 0, 1) := by decide +kernel
theorem dX7_findNeighbour_273 : decode cX7_findNeighbour 273 = .ok (.iload 5, 2) := by decide +kernel
theorem dX7_findNeighbour_275 : decode cX7_findNeighbour 275 = .ok (.invokevirtual 199, 3) := by decide +kernel
theorem dX7_findNeighbour_278 : decode cX7_findNeighbour 278 = .ok (.lastore, 1) := by decide +kernel
theorem dX7_findNeighbour_279 : decode cX7_findNeighbour 279 = .ok (.iinc 5 1, 3) := by decide +kernel
theorem dX7_findNeighbour_282 : decode cX7_findNeighbour 282 = .ok (.goto (-25), 3) := by decide +kernel
theorem dX7_findNeighbour_285 : decode cX7_findNeighbour 285 = .ok (.aload_n 0, 1) := by decide +kernel
theorem dX7_findNeighbour_286 : decode cX7_findNeighbour 286 = .ok (.invokevirtual 209, 3) := by decide +kernel
theorem dX7_findNeighbour_289 : decode cX7_findNeighbour 289 = .ok (.aload_n 0, 1) := by decide +kernel
theorem dX7_findNeighbour_290 : decode cX7_findNeighbour 290 = .ok (.getfield 13, 3) := by decide +kernel
theorem dX7_findNeighbour_293 : decode cX7_findNeighbour 293 = .ok (.i2l, 1) := by decide +kernel
theorem dX7_findNeighbour_294 : decode cX7_findNeighbour 294 = .ok (.aload_n 0, 1) := by decide +kernel
theorem dX7_findNeighbour_295 : decode cX7_findNeighbour 295 = .ok (.getfield 13, 3) := by decide +kernel
theorem dX7_findNeighbour_298 : decode cX7_findNeighbour 298 = .ok (.i2l, 1) := by decide +kernel
theorem dX7_findNeighbour_299 : decode cX7_findNeighbour 299 = .ok (.lmul, 1) := by decide +kernel
theorem dX7_findNeighbour_300 : decode cX7_findNeighbour 300 = .ok (.lstore 5, 2) := by decide +kernel
theorem dX7_findNeighbour_302 : decode cX7_findNeighbour 302 = .ok (.iconst 0, 1) := by decide +kernel
theorem dX7_findNeighbour_303 : decode cX7_findNeighbour 303 = .ok (.istore 7, 2) := by decide +kernel
theorem dX7_findNeighbour_305 : decode cX7_findNeighbour 305 = .ok (.iload 7, 2) := by decide +kernel
theorem dX7_findNeighbour_307 : decode cX7_findNeighbour 307 = .ok (.iconst 3, 1) := by decide +kernel
theorem dX7_findNeighbour_308 : decode cX7_findNeighbour 308 = .ok (.if_icmp .ge 54, 3) := by decide +kernel
theorem dX7_findNeighbour_311 : decode cX7_findNeighbour 311 = .ok (.aload_n 0, 1) := by decide +kernel
theorem dX7_findNeighbour_312 : decode cX7_findNeighbour 312 = .ok (.getfield 54, 3) := by decide +kernel
theorem dX7_findNeighbour_315 : decode cX7_findNeighbour 315 = .ok (.iload 7, 2) := by decide +kernel
theorem dX7_findNeighbour_317 : decode cX7_findNeighbour 317 = .ok (.aload_n 0, 1) := by decide +kernel
theorem dX7_findNeighbour_318 : decode cX7_findNeighbour 318 = .ok (.aload_n 0, 1) := by decide +kernel
theorem dX7_findNeighbour_319 : decode cX7_findNeighbour 319 = .ok (.getfield 48, 3) := by decide +kernel
theorem dX7_findNeighbour_322 : decode cX7_findNeighbour 322 = .ok (.iconst 3, 1) := by decide +kernel
theorem dX7_findNeighbour_323 : decode cX7_findNeighbour 323 = .ok (.iload 7, 2) := by decide +kernel
theorem dX7_findNeighbour_325 : decode cX7_findNeighbour 325 = .ok (.imul, 1) := by decide +kernel
theorem dX7_findNeighbour_326 : decode cX7_findNeighbour 326 = .ok (.laload, 1) := by decide +kernel
theorem dX7_findNeighbour_327 : decode cX7_findNeighbour 327 = .ok (.aload_n 0, 1) := by decide +kernel
theorem dX7_findNeighbour_328 : decode cX7_findNeighbour 328 = .ok (.getfield 48, 3) := by decide +kernel
theorem dX7_findNeighbour_331 : decode cX7_findNeighbour 331 = .ok (.iconst 3, 1) := by decide +kernel
theorem dX7_findNeighbour_332 : decode cX7_findNeighbour 332 = .ok (.iload 7, 2) := by decide +kernel
theorem dX7_findNeighbour_334 : decode cX7_findNeighbour 334 = .ok (.imul, 1) := by decide +kernel
theorem dX7_findNeighbour_335 : decode cX7_findNeighbour 335 = .ok (.iconst 1, 1) := by decide +kernel
theorem dX7_findNeighbour_336 : decode cX7_findNeighbour 336 = .ok (.iadd, 1) := by decide +kernel
theorem dX7_findNeighbour_337 : decode cX7_findNeighbour 337 = .ok (.laload, 1) := by decide +kernel
theorem dX7_findNeighbour_338 : decode cX7_findNeighbour 338 = .ok (.aload_n 0, 1) := by decide +kernel
theorem dX7_findNeighbour_339 : decode cX7_findNeighbour 339 = .ok (.getfield 48, 3) := by decide +kernel
theorem dX7_findNeighbour_342 : decode cX7_findNeighbour 342 = .ok (.iconst 3, 1) := by decide +kernel
theorem dX7_findNeighbour_343 : decode cX7_findNeighbour 343 = .ok (.iload 7, 2) := by decide +kernel
theorem dX7_findNeighbour_345 : decode cX7_findNeighbour 345 = .ok (.imul, 1) := by decide +kernel
theorem dX7_findNeighbour_346 : decode cX7_findNeighbour 346 = .ok (.iconst 2, 1) := by decide +kernel
theorem dX7_findNeighbour_347 : decode cX7_findNeighbour 347 = .ok (.iadd, 1) := by decide +kernel
theorem dX7_findNeighbour_348 : decode cX7_findNeighbour 348 = .ok (.laload, 1) := by decide +kernel
theorem dX7_findNeighbour_349 : decode cX7_findNeighbour 349 = .ok (.invokevirtual 66, 3) := by decide +kernel
theorem dX7_findNeighbour_352 : decode cX7_findNeighbour 352 = .ok (.lload 5, 2) := by decide +kernel
theorem dX7_findNeighbour_354 : decode cX7_findNeighbour 354 = .ok (.ldiv, 1) := by decide +kernel
theorem dX7_findNeighbour_355 : decode cX7_findNeighbour 355 = .ok (.lastore, 1) := by decide +kernel
theorem dX7_findNeighbour_356 : decode cX7_findNeighbour 356 = .ok (.iinc 7 1, 3) := by decide +kernel
theorem dX7_findNeighbour_359 : decode cX7_findNeighbour 359 = .ok (.goto (-54), 3) := by decide +kernel
theorem dX7_findNeighbour_362 : decode cX7_findNeighbour 362 = .ok (.iconst 0, 1) := by decide +kernel
theorem dX7_findNeighbour_363 : decode cX7_findNeighbour 363 = .ok (.istore 7, 2) := by decide +kernel
theorem dX7_findNeighbour_365 : decode cX7_findNeighbour 365 = .ok (.iload 7, 2) := by decide +kernel
theorem dX7_findNeighbour_367 : decode cX7_findNeighbour 367 = .ok (.iconst 3, 1) := by decide +kernel
theorem dX7_findNeighbour_368 : decode cX7_findNeighbour 368 = .ok (.if_icmp .ge 112, 3) := by decide +kernel
theorem dX7_findNeighbour_371 : decode cX7_findNeighbour 371 = .ok (.iload 7, 2) := by decide +kernel
theorem dX7_findNeighbour_373 : decode cX7_findNeighbour 373 = .ok (.ifCond .ne 7, 3) := by decide +kernel
theorem dX7_findNeighbour_376 : decode cX7_findNeighbour 376 = .ok (.iconst 1, 1) := by decide +kernel
theorem dX7_findNeighbour_377 : decode cX7_findNeighbour 377 = .ok (.goto 4, 3) := by decide +kernel
theorem dX7_findNeighbour_380 : decode cX7_findNeighbour 380 = .ok (.iconst 0, 1) := by decide +kernel
theorem dX7_findNeighbour_381 : decode cX7_findNeighbour 381 = .ok (.istore 8, 2) := by decide +kernel
theorem dX7_findNeighbour_383 : decode cX7_findNeighbour 383 = .ok (.iload 7, 2) := by decide +kernel
theorem dX7_findNeighbour_385 : decode cX7_findNeighbour 385 = .ok (.iconst 2, 1) := by decide +kernel
theorem dX7_findNeighbour_386 : decode cX7_findNeighbour 386 = .ok (.if_icmp .ne 7, 3) := by decide +kernel
theorem dX7_findNeighbour_389 : decode cX7_findNeighbour 389 = .ok (.iconst 1, 1) := by decide +kernel
theorem dX7_findNeighbour_390 : decode cX7_findNeighbour 390 = .ok (.goto 4, 3) := by decide +kernel
theorem dX7_findNeighbour_393 : decode cX7_findNeighbour 393 = .ok (.iconst 2, 1) := by decide +kernel
theorem dX7_findNeighbour_394 : decode cX7_findNeighbour 394 = .ok (.istore 9, 2) := by decide +kernel
theorem dX7_findNeighbour_396 : decode cX7_findNeighbour 396 = .ok (.aload_n 0, 1) := by decide +kernel
theorem dX7_findNeighbour_397 : decode cX7_findNeighbour 397 = .ok (.getfield 54, 3) := by decide +kernel
theorem dX7_findNeighbour_400 : decode cX7_findNeighbour 400 = .ok (.iconst 3, 1) := by decide +kernel
theorem dX7_findNeighbour_401 : decode cX7_findNeighbour 401 = .ok (.iload 7, 2) := by decide +kernel
theorem dX7_findNeighbour_403 : decode cX7_findNeighbour 403 = .ok (.iadd, 1) := by decide +kernel
theorem dX7_findNeighbour_404 : decode cX7_findNeighbour 404 = .ok (.aload_n 0, 1) := by decide +kernel
theorem dX7_findNeighbour_405 : decode cX7_findNeighbour 405 = .ok (.aload_n 0, 1) := by decide +kernel
theorem dX7_findNeighbour_406 : decode cX7_findNeighbour 406 = .ok (.getfield 48, 3) := by decide +kernel
theorem dX7_findNeighbour_409 : decode cX7_findNeighbour 409 = .ok (.iconst 3, 1) := by decide +kernel
theorem dX7_findNeighbour_410 : decode cX7_findNeighbour 410 = .ok (.iload 8, 2) := by decide +kernel
theorem dX7_findNeighbour_412 : decode cX7_findNeighbour 412 = .ok (.imul, 1) := by decide +kernel
theorem dX7_findNeighbour_413 : decode cX7_findNeighbour 413 = .ok (.laload, 1) := by decide +kernel
theorem dX7_findNeighbour_414 : decode cX7_findNeighbour 414 = .ok (.aload_n 0, 1) := by decide +kernel
theorem dX7_findNeighbour_415 : decode cX7_findNeighbour 415 = .ok (.getfield 48, 3) := by decide +kernel
theorem dX7_findNeighbour_418 : decode cX7_findNeighbour 418 = .ok (.iconst 3, 1) := by decide +kernel
theorem dX7_findNeighbour_419 : decode cX7_findNeighbour 419 = .ok (.iload 8, 2) := by decide +kernel
theorem dX7_findNeighbour_421 : decode cX7_findNeighbour 421 = .ok (.imul, 1) := by decide +kernel
theorem dX7_findNeighbour_422 : decode cX7_findNeighbour 422 = .ok (.iconst 1, 1) := by decide +kernel
theorem dX7_findNeighbour_423 : decode cX7_findNeighbour 423 = .ok (.iadd, 1) := by decide +kernel
theorem dX7_findNeighbour_424 : decode cX7_findNeighbour 424 = .ok (.laload, 1) := by decide +kernel
theorem dX7_findNeighbour_425 : decode cX7_findNeighbour 425 = .ok (.aload_n 0, 1) := by decide +kernel
theorem dX7_findNeighbour_426 : decode cX7_findNeighbour 426 = .ok (.getfield 48, 3) := by decide +kernel
theorem dX7_findNeighbour_429 : decode cX7_findNeighbour 429 = .ok (.iconst 3, 1) := by decide +kernel
theorem dX7_findNeighbour_430 : decode cX7_findNeighbour 430 = .ok (.iload 8, 2) := by decide +kernel
theorem dX7_findNeighbour_432 : decode cX7_findNeighbour 432 = .ok (.imul, 1) := by decide +kernel
theorem dX7_findNeighbour_433 : decode cX7_findNeighbour 433 = .ok (.iconst 2, 1) := by decide +kernel
theorem dX7_findNeighbour_434 : decode cX7_findNeighbour 434 = .ok (.iadd, 1) := by decide +kernel
theorem dX7_findNeighbour_435 : decode cX7_findNeighbour 435 = .ok (.laload, 1) := by decide +kernel
theorem dX7_findNeighbour_436 : decode cX7_findNeighbour 436 = .ok (.aload_n 0, 1) := by decide +kernel
theorem dX7_findNeighbour_437 : decode cX7_findNeighbour 437 = .ok (.getfield 48, 3) := by decide +kernel
theorem dX7_findNeighbour_440 : decode cX7_findNeighbour 440 = .ok (.iconst 3, 1) := by decide +kernel
theorem dX7_findNeighbour_441 : decode cX7_findNeighbour 441 = .ok (.iload 9, 2) := by decide +kernel
theorem dX7_findNeighbour_443 : decode cX7_findNeighbour 443 = .ok (.imul, 1) := by decide +kernel
theorem dX7_findNeighbour_444 : decode cX7_findNeighbour 444 = .ok (.laload, 1) := by decide +kernel
theorem dX7_findNeighbour_445 : decode cX7_findNeighbour 445 = .ok (.aload_n 0, 1) := by decide +kernel
theorem dX7_findNeighbour_446 : decode cX7_findNeighbour 446 = .ok (.getfield 48, 3) := by decide +kernel
theorem dX7_findNeighbour_449 : decode cX7_findNeighbour 449 = .ok (.iconst 3, 1) := by decide +kernel
theorem dX7_findNeighbour_450 : decode cX7_findNeighbour 450 = .ok (.iload 9, 2) := by decide +kernel
theorem dX7_findNeighbour_452 : decode cX7_findNeighbour 452 = .ok (.imul, 1) := by decide +kernel
theorem dX7_findNeighbour_453 : decode cX7_findNeighbour 453 = .ok (.iconst 1, 1) := by decide +kernel
theorem dX7_findNeighbour_454 : decode cX7_findNeighbour 454 = .ok (.iadd, 1) := by decide +kernel
theorem dX7_findNeighbour_455 : decode cX7_findNeighbour 455 = .ok (.laload, 1) := by decide +kernel
theorem dX7_findNeighbour_456 : decode cX7_findNeighbour 456 = .ok (.aload_n 0, 1) := by decide +kernel
theorem dX7_findNeighbour_457 : decode cX7_findNeighbour 457 = .ok (.getfield 48, 3) := by decide +kernel
theorem dX7_findNeighbour_460 : decode cX7_findNeighbour 460 = .ok (.iconst 3, 1) := by decide +kernel
theorem dX7_findNeighbour_461 : decode cX7_findNeighbour 461 = .ok (.iload 9, 2) := by decide +kernel
theorem dX7_findNeighbour_463 : decode cX7_findNeighbour 463 = .ok (.imul, 1) := by decide +kernel
theorem dX7_findNeighbour_464 : decode cX7_findNeighbour 464 = .ok (.iconst 2, 1) := by decide +kernel
theorem dX7_findNeighbour_465 : decode cX7_findNeighbour 465 = .ok (.iadd, 1) := by decide +kernel
theorem dX7_findNeighbour_466 : decode cX7_findNeighbour 466 = .ok (.laload, 1) := by decide +kernel
theorem dX7_findNeighbour_467 : decode cX7_findNeighbour 467 = .ok (.invokevirtual 106, 3) := by decide +kernel
theorem dX7_findNeighbour_470 : decode cX7_findNeighbour 470 = .ok (.lload 5, 2) := by decide +kernel
theorem dX7_findNeighbour_472 : decode cX7_findNeighbour 472 = .ok (.ldiv, 1) := by decide +kernel
theorem dX7_findNeighbour_473 : decode cX7_findNeighbour 473 = .ok (.lastore, 1) := by decide +kernel
theorem dX7_findNeighbour_474 : decode cX7_findNeighbour 474 = .ok (.iinc 7 1, 3) := by decide +kernel
theorem dX7_findNeighbour_477 : decode cX7_findNeighbour 477 = .ok (.goto (-112), 3) := by decide +kernel
theorem dX7_findNeighbour_480 : decode cX7_findNeighbour 480 = .ok (.iconst 0, 1) := by decide +kernel
theorem dX7_findNeighbour_481 : decode cX7_findNeighbour 481 = .ok (.istore 7, 2) := by decide +kernel
theorem dX7_findNeighbour_483 : decode cX7_findNeighbour 483 = .ok (.iload 7, 2) := by decide +kernel
theorem dX7_findNeighbour_485 : decode cX7_findNeighbour 485 = .ok (.bipush 6, 2) := by decide +kernel
theorem dX7_findNeighbour_487 : decode cX7_findNeighbour 487 = .ok (.if_icmp .ge 23, 3) := by decide +kernel
theorem dX7_findNeighbour_490 : decode cX7_findNeighbour 490 = .ok (.aload_n 0, 1) := by decide +kernel
theorem dX7_findNeighbour_491 : decode cX7_findNeighbour 491 = .ok (.getfield 17, 3) := by decide +kernel
theorem dX7_findNeighbour_494 : decode cX7_findNeighbour 494 = .ok (.iload 7, 2) := by decide +kernel
theorem dX7_findNeighbour_496 : decode cX7_findNeighbour 496 = .ok (.aload_n 0, 1) := by decide +kernel
theorem dX7_findNeighbour_497 : decode cX7_findNeighbour 497 = .ok (.getfield 54, 3) := by decide +kernel
theorem dX7_findNeighbour_500 : decode cX7_findNeighbour 500 = .ok (.iload 7, 2) := by decide +kernel
theorem dX7_findNeighbour_502 : decode cX7_findNeighbour 502 = .ok (.laload, 1) := by decide +kernel
theorem dX7_findNeighbour_503 : decode cX7_findNeighbour 503 = .ok (.lastore, 1) := by decide +kernel
theorem dX7_findNeighbour_504 : decode cX7_findNeighbour 504 = .ok (.iinc 7 1, 3) := by decide +kernel
theorem dX7_findNeighbour_507 : decode cX7_findNeighbour 507 = .ok (.goto (-24), 3) := by decide +kernel
theorem dX7_findNeighbour_510 : decode cX7_findNeighbour 510 = .ok (.aload_n 0, 1) := by decide +kernel
theorem dX7_findNeighbour_511 : decode cX7_findNeighbour 511 = .ok (.invokevirtual 142, 3) := by decide +kernel
theorem dX7_findNeighbour_514 : decode cX7_findNeighbour 514 = .ok (.return_, 1) := by decide +kernel
theorem dX7_line_0 : decode cX7_line 0 = .ok (.aload_n 0, 1) := by decide +kernel
theorem dX7_line_1 : decode cX7_line 1 = .ok (.iload_n 1, 1) := by decide +kernel
theorem dX7_line_2 : decode cX7_line 2 = .ok (.invokevirtual 166, 3) := by decide +kernel
theorem dX7_line_5 : decode cX7_line 5 = .ok (.ifCond .ne 6, 3) := by decide +kernel
theorem dX7_line_8 : decode cX7_line 8 = .ok (.ldc 170, 2) := by decide +kernel
theorem dX7_line_10 : decode cX7_line 10 = .ok (.ireturn, 1) := by decide +kernel
theorem dX7_line_11 : decode cX7_line 11 = .ok (.iload_n 2, 1) := by decide +kernel
theorem dX7_line_12 : decode cX7_line 12 = .ok (.i2l, 1) := by decide +kernel
theorem dX7_line_13 : decode cX7_line 13 = .ok (.lconst 0, 1) := by decide +kernel
theorem dX7_line_14 : decode cX7_line 14 = .ok (.aload_n 0, 1) := by decide +kernel
theorem dX7_line_15 : decode cX7_line 15 = .ok (.getfield 13, 3) := by decide +kernel
theorem dX7_line_18 : decode cX7_line 18 = .ok (.i2l, 1) := by decide +kernel
theorem dX7_line_19 : decode cX7_line 19 = .ok (.invokestatic 147, 3) := by decide +kernel
theorem dX7_line_22 : decode cX7_line 22 = .ok (.ifCond .eq 15, 3) := by decide +kernel
theorem dX7_line_25 : decode cX7_line 25 = .ok (.iload_n 3, 1) := by decide +kernel
theorem dX7_line_26 : decode cX7_line 26 = .ok (.i2l, 1) := by decide +kernel
theorem dX7_line_27 : decode cX7_line 27 = .ok (.lconst 0, 1) := by decide +kernel
theorem dX7_line_28 : decode cX7_line 28 = .ok (.ldc2_w 70, 3) := by decide +kernel
theorem dX7_line_31 : decode cX7_line 31 = .ok (.invokestatic 147, 3) := by decide +kernel
theorem dX7_line_34 : decode cX7_line 34 = .ok (.ifCond .ne 6, 3) := by decide +kernel
theorem dX7_line_37 : decode cX7_line 37 = .ok (.ldc 157, 2) := by decide +kernel
theorem dX7_line_39 : decode cX7_line 39 = .ok (.ireturn, 1) := by decide +kernel
theorem dX7_line_40 : decode cX7_line 40 = .ok (.aload_n 0, 1) := by decide +kernel
theorem dX7_line_41 : decode cX7_line 41 = .ok (.iload_n 1, 1) := by decide +kernel
theorem dX7_line_42 : decode cX7_line 42 = .ok (.invokevirtual 138, 3) := by decide +kernel
theorem dX7_line_45 : decode cX7_line 45 = .ok (.aload_n 0, 1) := by decide +kernel
theorem dX7_line_46 : decode cX7_line 46 = .ok (.invokevirtual 212, 3) := by decide +kernel
theorem dX7_line_49 : decode cX7_line 49 = .ok (.ifCond .eq 6, 3) := by decide +kernel
theorem dX7_line_52 : decode cX7_line 52 = .ok (.ldc 171, 2) := by decide +kernel
theorem dX7_line_54 : decode cX7_line 54 = .ok (.ireturn, 1) := by decide +kernel
theorem dX7_line_55 : decode cX7_line 55 = .ok (.aload_n 0, 1) := by decide +kernel
theorem dX7_line_56 : decode cX7_line 56 = .ok (.iload_n 2, 1) := by decide +kernel
theorem dX7_line_57 : decode cX7_line 57 = .ok (.invokevirtual 206, 3) := by decide +kernel
theorem dX7_line_60 : decode cX7_line 60 = .ok (.iload_n 3, 1) := by decide +kernel
theorem dX7_line_61 : decode cX7_line 61 = .ok (.iconst 3, 1) := by decide +kernel
theorem dX7_line_62 : decode cX7_line 62 = .ok (.if_icmp .ge 13, 3) := by decide +kernel
theorem dX7_line_65 : decode cX7_line 65 = .ok (.aload_n 0, 1) := by decide +kernel
theorem dX7_line_66 : decode cX7_line 66 = .ok (.getfield 45, 3) := by decide +kernel
theorem dX7_line_69 : decode cX7_line 69 = .ok (.iload_n 3, 1) := by decide +kernel
theorem dX7_line_70 : decode cX7_line 70 = .ok (.laload, 1) := by decide +kernel
theorem dX7_line_71 : decode cX7_line 71 = .ok (.l2i, 1) := by decide +kernel
theorem dX7_line_72 : decode cX7_line 72 = .ok (.goto 19, 3) := by decide +kernel
theorem dX7_line_75 : decode cX7_line 75 = .ok (.iload_n 3, 1) := by decide +kernel
theorem dX7_line_76 : decode cX7_line 76 = .ok (.iconst 3, 1) := by decide +kernel
theorem dX7_line_77 : decode cX7_line 77 = .ok (.if_icmp .ne 10, 3) := by decide +kernel
theorem dX7_line_80 : decode cX7_line 80 = .ok (.aload_n 0, 1) := by decide +kernel
theorem dX7_line_81 : decode cX7_line 81 = .ok (.getfield 196, 3) := by decide +kernel
theorem dX7_line_84 : decode cX7_line 84 = .ok (.goto 7, 3) := by decide +kernel
theorem dX7_line_87 : decode cX7_line 87 = .ok (.aload_n 0, 1) := by decide +kernel
theorem dX7_line_88 : decode cX7_line 88 = .ok (.getfield 193, 3) := by decide +kernel
theorem dX7_line_91 : decode cX7_line 91 = .ok (.ireturn, 1) := by decide +kernel
theorem dX7_neighbour_0 : decode cX7_neighbour 0 = .ok (.aload_n 0, 1) := by decide +kernel
theorem dX7_neighbour_1 : decode cX7_neighbour 1 = .ok (.iload_n 1, 1) := by decide +kernel
theorem dX7_neighbour_2 : decode cX7_neighbour 2 = .ok (.invokevirtual 166, 3) := by decide +kernel
theorem dX7_neighbour_5 : decode cX7_neighbour 5 = .ok (.ifCond .ne 6, 3) := by decide +kernel
theorem dX7_neighbour_8 : decode cX7_neighbour 8 = .ok (.ldc 170, 2) := by decide +kernel
theorem dX7_neighbour_10 : decode cX7_neighbour 10 = .ok (.ireturn, 1) := by decide +kernel
theorem dX7_neighbour_11 : decode cX7_neighbour 11 = .ok (.iload_n 2, 1) := by decide +kernel
theorem dX7_neighbour_12 : decode cX7_neighbour 12 = .ok (.i2l, 1) := by decide +kernel
theorem dX7_neighbour_13 : decode cX7_neighbour 13 = .ok (.lconst 0, 1) := by decide +kernel
theorem dX7_neighbour_14 : decode cX7_neighbour 14 = .ok (.aload_n 0, 1) := by decide +kernel
theorem dX7_neighbour_15 : decode cX7_neighbour 15 = .ok (.getfield 13, 3) := by decide +kernel
theorem dX7_neighbour_18 : decode cX7_neighbour 18 = .ok (.i2l, 1) := by decide +kernel
theorem dX7_neighbour_19 : decode cX7_neighbour 19 = .ok (.invokestatic 147, 3) := by decide +kernel
theorem dX7_neighbour_22 : decode cX7_neighbour 22 = .ok (.ifCond .eq 15, 3) := by decide +kernel
theorem dX7_neighbour_25 : decode cX7_neighbour 25 = .ok (.iload_n 3, 1) := by decide +kernel
theorem dX7_neighbour_26 : decode cX7_neighbour 26 = .ok (.i2l, 1) := by decide +kernel
theorem dX7_neighbour_27 : decode cX7_neighbour 27 = .ok (.lconst 0, 1) := by decide +kernel
theorem dX7_neighbour_28 : decode cX7_neighbour 28 = .ok (.ldc2_w 216, 3) := by decide +kernel
theorem dX7_neighbour_31 : decode cX7_neighbour 31 = .ok (.invokestatic 147, 3) := by decide +kernel
theorem dX7_neighbour_34 : decode cX7_neighbour 34 = .ok (.ifCond .ne 6, 3) := by decide +kernel
theorem dX7_neighbour_37 : decode cX7_neighbour 37 = .ok (.ldc 157, 2) := by decide +kernel
theorem dX7_neighbour_39 : decode cX7_neighbour 39 = .ok (.ireturn, 1) := by decide +kernel
theorem dX7_neighbour_40 : decode cX7_neighbour 40 = .ok (.aload_n 0, 1) := by decide +kernel
theorem dX7_neighbour_41 : decode cX7_neighbour 41 = .ok (.iload_n 1, 1) := by decide +kernel
theorem dX7_neighbour_42 : decode cX7_neighbour 42 = .ok (.invokevirtual 138, 3) := by decide +kernel
theorem dX7_neighbour_45 : decode cX7_neighbour 45 = .ok (.aload_n 0, 1) := by decide +kernel
theorem dX7_neighbour_46 : decode cX7_neighbour 46 = .ok (.invokevirtual 212, 3) := by decide +kernel
theorem dX7_neighbour_49 : decode cX7_neighbour 49 = .ok (.ifCond .eq 6, 3) := by decide +kernel
theorem dX7_neighbour_52 : decode cX7_neighbour 52 = .ok (.ldc 171, 2) := by decide +kernel
theorem dX7_neighbour_54 : decode cX7_neighbour 54 = .ok (.ireturn, 1) := by decide +kernel
theorem dX7_neighbour_55 : decode cX7_neighbour 55 = .ok (.aload_n 0, 1) := by decide +kernel
theorem dX7_neighbour_56 : decode cX7_neighbour 56 = .ok (.iload_n 2, 1) := by decide +kernel
theorem dX7_neighbour_57 : decode cX7_neighbour 57 = .ok (.invokevirtual 218, 3) := by decide +kernel
theorem dX7_neighbour_60 : decode cX7_neighbour 60 = .ok (.aload_n 0, 1) := by decide +kernel
theorem dX7_neighbour_61 : decode cX7_neighbour 61 = .ok (.getfield 24, 3) := by decide +kernel
theorem dX7_neighbour_64 : decode cX7_neighbour 64 = .ok (.iload_n 3, 1) := by decide +kernel
theorem dX7_neighbour_65 : decode cX7_neighbour 65 = .ok (.laload, 1) := by decide +kernel
theorem dX7_neighbour_66 : decode cX7_neighbour 66 = .ok (.l2i, 1) := by decide +kernel
theorem dX7_neighbour_67 : decode cX7_neighbour 67 = .ok (.ireturn, 1) := by decide +kernel
theorem dX7_kindOfLeast_0 : decode cX7_kindOfLeast 0 = .ok (.iconst 0, 1) := by decide +kernel
theorem dX7_kindOfLeast_1 : decode cX7_kindOfLeast 1 = .ok (.istore_n 1, 1) := by decide +kernel
theorem dX7_kindOfLeast_2 : decode cX7_kindOfLeast 2 = .ok (.iload_n 1, 1) := by decide +kernel
theorem dX7_kindOfLeast_3 : decode cX7_kindOfLeast 3 = .ok (.aload_n 0, 1) := by decide +kernel
theorem dX7_kindOfLeast_4 : decode cX7_kindOfLeast 4 = .ok (.getfield 221, 3) := by decide +kernel
theorem dX7_kindOfLeast_7 : decode cX7_kindOfLeast 7 = .ok (.if_icmp .ge 62, 3) := by decide +kernel
theorem dX7_kindOfLeast_10 : decode cX7_kindOfLeast 10 = .ok (.iconst 1, 1) := by decide +kernel
theorem dX7_kindOfLeast_11 : decode cX7_kindOfLeast 11 = .ok (.istore_n 2, 1) := by decide +kernel
theorem dX7_kindOfLeast_12 : decode cX7_kindOfLeast 12 = .ok (.iconst 0, 1) := by decide +kernel
theorem dX7_kindOfLeast_13 : decode cX7_kindOfLeast 13 = .ok (.istore_n 3, 1) := by decide +kernel
theorem dX7_kindOfLeast_14 : decode cX7_kindOfLeast 14 = .ok (.iload_n 3, 1) := by decide +kernel
theorem dX7_kindOfLeast_15 : decode cX7_kindOfLeast 15 = .ok (.bipush 6, 2) := by decide +kernel
theorem dX7_kindOfLeast_17 : decode cX7_kindOfLeast 17 = .ok (.if_icmp .ge 40, 3) := by decide +kernel
theorem dX7_kindOfLeast_20 : decode cX7_kindOfLeast 20 = .ok (.iload_n 2, 1) := by decide +kernel
theorem dX7_kindOfLeast_21 : decode cX7_kindOfLeast 21 = .ok (.ifCond .eq 28, 3) := by decide +kernel
theorem dX7_kindOfLeast_24 : decode cX7_kindOfLeast 24 = .ok (.aload_n 0, 1) := by decide +kernel
theorem dX7_kindOfLeast_25 : decode cX7_kindOfLeast 25 = .ok (.getfield 57, 3) := by decide +kernel
theorem dX7_kindOfLeast_28 : decode cX7_kindOfLeast 28 = .ok (.bipush 6, 2) := by decide +kernel
theorem dX7_kindOfLeast_30 : decode cX7_kindOfLeast 30 = .ok (.iload_n 1, 1) := by decide +kernel
theorem dX7_kindOfLeast_31 : decode cX7_kindOfLeast 31 = .ok (.imul, 1) := by decide +kernel
theorem dX7_kindOfLeast_32 : decode cX7_kindOfLeast 32 = .ok (.iload_n 3, 1) := by decide +kernel
theorem dX7_kindOfLeast_33 : decode cX7_kindOfLeast 33 = .ok (.iadd, 1) := by decide +kernel
theorem dX7_kindOfLeast_34 : decode cX7_kindOfLeast 34 = .ok (.laload, 1) := by decide +kernel
theorem dX7_kindOfLeast_35 : decode cX7_kindOfLeast 35 = .ok (.aload_n 0, 1) := by decide +kernel
theorem dX7_kindOfLeast_36 : decode cX7_kindOfLeast 36 = .ok (.getfield 24, 3) := by decide +kernel
theorem dX7_kindOfLeast_39 : decode cX7_kindOfLeast 39 = .ok (.iload_n 3, 1) := by decide +kernel
theorem dX7_kindOfLeast_40 : decode cX7_kindOfLeast 40 = .ok (.laload, 1) := by decide +kernel
theorem dX7_kindOfLeast_41 : decode cX7_kindOfLeast 41 = .ok (.lcmp, 1) := by decide +kernel
theorem dX7_kindOfLeast_42 : decode cX7_kindOfLeast 42 = .ok (.ifCond .ne 7, 3) := by decide +kernel
theorem dX7_kindOfLeast_45 : decode cX7_kindOfLeast 45 = .ok (.iconst 1, 1) := by decide +kernel
theorem dX7_kindOfLeast_46 : decode cX7_kindOfLeast 46 = .ok (.goto 4, 3) := by decide +kernel
theorem dX7_kindOfLeast_49 : decode cX7_kindOfLeast 49 = .ok (.iconst 0, 1) := by decide +kernel
theorem dX7_kindOfLeast_50 : decode cX7_kindOfLeast 50 = .ok (.istore_n 2, 1) := by decide +kernel
theorem dX7_kindOfLeast_51 : decode cX7_kindOfLeast 51 = .ok (.iinc 3 1, 3) := by decide +kernel
theorem dX7_kindOfLeast_54 : decode cX7_kindOfLeast 54 = .ok (.goto (-40), 3) := by decide +kernel
theorem dX7_kindOfLeast_57 : decode cX7_kindOfLeast 57 = .ok (.iload_n 2, 1) := by decide +kernel
theorem dX7_kindOfLeast_58 : decode cX7_kindOfLeast 58 = .ok (.ifCond .eq 5, 3) := by decide +kernel
theorem dX7_kindOfLeast_61 : decode cX7_kindOfLeast 61 = .ok (.iload_n 1, 1) := by decide +kernel
theorem dX7_kindOfLeast_62 : decode cX7_kindOfLeast 62 = .ok (.ireturn, 1) := by decide +kernel
theorem dX7_kindOfLeast_63 : decode cX7_kindOfLeast 63 = .ok (.iinc 1 1, 3) := by decide +kernel
theorem dX7_kindOfLeast_66 : decode cX7_kindOfLeast 66 = .ok (.goto (-64), 3) := by decide +kernel
theorem dX7_kindOfLeast_69 : decode cX7_kindOfLeast 69 = .ok (.iconst (-1), 1) := by decide +kernel
theorem dX7_kindOfLeast_70 : decode cX7_kindOfLeast 70 = .ok (.ireturn, 1) := by decide +kernel
theorem dX7_addKind_0 : decode cX7_addKind 0 = .ok (.iconst 0, 1) := by decide +kernel
theorem dX7_addKind_1 : decode cX7_addKind 1 = .ok (.istore_n 1, 1) := by decide +kernel
theorem dX7_addKind_2 : decode cX7_addKind 2 = .ok (.iload_n 1, 1) := by decide +kernel
theorem dX7_addKind_3 : decode cX7_addKind 3 = .ok (.bipush 6, 2) := by decide +kernel
theorem dX7_addKind_5 : decode cX7_addKind 5 = .ok (.if_icmp .ge 29, 3) := by decide +kernel
theorem dX7_addKind_8 : decode cX7_addKind 8 = .ok (.aload_n 0, 1) := by decide +kernel
theorem dX7_addKind_9 : decode cX7_addKind 9 = .ok (.getfield 57, 3) := by decide +kernel
theorem dX7_addKind_12 : decode cX7_addKind 12 = .ok (.bipush 6, 2) := by decide +kernel
theorem dX7_addKind_14 : decode cX7_addKind 14 = .ok (.aload_n 0, 1) := by decide +kernel
theorem dX7_addKind_15 : decode cX7_addKind 15 = .ok (.getfield 221, 3) := by decide +kernel
theorem dX7_addKind_18 : decode cX7_addKind 18 = .ok (.imul, 1) := by decide +kernel
theorem dX7_addKind_19 : decode cX7_addKind 19 = .ok (.iload_n 1, 1) := by decide +kernel
theorem dX7_addKind_20 : decode cX7_addKind 20 = .ok (.iadd, 1) := by decide +kernel
theorem dX7_addKind_21 : decode cX7_addKind 21 = .ok (.aload_n 0, 1) := by decide +kernel
theorem dX7_addKind_22 : decode cX7_addKind 22 = .ok (.getfield 24, 3) := by decide +kernel
theorem dX7_addKind_25 : decode cX7_addKind 25 = .ok (.iload_n 1, 1) := by decide +kernel
theorem dX7_addKind_26 : decode cX7_addKind 26 = .ok (.laload, 1) := by decide +kernel
theorem dX7_addKind_27 : decode cX7_addKind 27 = .ok (.lastore, 1) := by decide +kernel
theorem dX7_addKind_28 : decode cX7_addKind 28 = .ok (.iinc 1 1, 3) := by decide +kernel
theorem dX7_addKind_31 : decode cX7_addKind 31 = .ok (.goto (-29), 3) := by decide +kernel
theorem dX7_addKind_34 : decode cX7_addKind 34 = .ok (.aload_n 0, 1) := by decide +kernel
theorem dX7_addKind_35 : decode cX7_addKind 35 = .ok (.getfield 60, 3) := by decide +kernel
theorem dX7_addKind_38 : decode cX7_addKind 38 = .ok (.aload_n 0, 1) := by decide +kernel
theorem dX7_addKind_39 : decode cX7_addKind 39 = .ok (.getfield 221, 3) := by decide +kernel
theorem dX7_addKind_42 : decode cX7_addKind 42 = .ok (.aload_n 0, 1) := by decide +kernel
theorem dX7_addKind_43 : decode cX7_addKind 43 = .ok (.getfield 110, 3) := by decide +kernel
theorem dX7_addKind_46 : decode cX7_addKind 46 = .ok (.iastore, 1) := by decide +kernel
theorem dX7_addKind_47 : decode cX7_addKind 47 = .ok (.aload_n 0, 1) := by decide +kernel
theorem dX7_addKind_48 : decode cX7_addKind 48 = .ok (.dup, 1) := by decide +kernel
theorem dX7_addKind_49 : decode cX7_addKind 49 = .ok (.getfield 221, 3) := by decide +kernel
theorem dX7_addKind_52 : decode cX7_addKind 52 = .ok (.iconst 1, 1) := by decide +kernel
theorem dX7_addKind_53 : decode cX7_addKind 53 = .ok (.iadd, 1) := by decide +kernel
theorem dX7_addKind_54 : decode cX7_addKind 54 = .ok (.putfield 221, 3) := by decide +kernel
theorem dX7_addKind_57 : decode cX7_addKind 57 = .ok (.return_, 1) := by decide +kernel
theorem dX7_holdKind_0 : decode cX7_holdKind 0 = .ok (.iconst 0, 1) := by decide +kernel
theorem dX7_holdKind_1 : decode cX7_holdKind 1 = .ok (.istore_n 2, 1) := by decide +kernel
theorem dX7_holdKind_2 : decode cX7_holdKind 2 = .ok (.iload_n 2, 1) := by decide +kernel
theorem dX7_holdKind_3 : decode cX7_holdKind 3 = .ok (.bipush 6, 2) := by decide +kernel
theorem dX7_holdKind_5 : decode cX7_holdKind 5 = .ok (.if_icmp .ge 26, 3) := by decide +kernel
theorem dX7_holdKind_8 : decode cX7_holdKind 8 = .ok (.aload_n 0, 1) := by decide +kernel
theorem dX7_holdKind_9 : decode cX7_holdKind 9 = .ok (.getfield 17, 3) := by decide +kernel
theorem dX7_holdKind_12 : decode cX7_holdKind 12 = .ok (.iload_n 2, 1) := by decide +kernel
theorem dX7_holdKind_13 : decode cX7_holdKind 13 = .ok (.aload_n 0, 1) := by decide +kernel
theorem dX7_holdKind_14 : decode cX7_holdKind 14 = .ok (.getfield 57, 3) := by decide +kernel
theorem dX7_holdKind_17 : decode cX7_holdKind 17 = .ok (.bipush 6, 2) := by decide +kernel
theorem dX7_holdKind_19 : decode cX7_holdKind 19 = .ok (.iload_n 1, 1) := by decide +kernel
theorem dX7_holdKind_20 : decode cX7_holdKind 20 = .ok (.imul, 1) := by decide +kernel
theorem dX7_holdKind_21 : decode cX7_holdKind 21 = .ok (.iload_n 2, 1) := by decide +kernel
theorem dX7_holdKind_22 : decode cX7_holdKind 22 = .ok (.iadd, 1) := by decide +kernel
theorem dX7_holdKind_23 : decode cX7_holdKind 23 = .ok (.laload, 1) := by decide +kernel
theorem dX7_holdKind_24 : decode cX7_holdKind 24 = .ok (.lastore, 1) := by decide +kernel
theorem dX7_holdKind_25 : decode cX7_holdKind 25 = .ok (.iinc 2 1, 3) := by decide +kernel
theorem dX7_holdKind_28 : decode cX7_holdKind 28 = .ok (.goto (-26), 3) := by decide +kernel
theorem dX7_holdKind_31 : decode cX7_holdKind 31 = .ok (.return_, 1) := by decide +kernel
theorem dX7_findKin_0 : decode cX7_findKin 0 = .ok (.aload_n 0, 1) := by decide +kernel
theorem dX7_findKin_1 : decode cX7_findKin 1 = .ok (.iload_n 1, 1) := by decide +kernel
theorem dX7_findKin_2 : decode cX7_findKin 2 = .ok (.invokevirtual 138, 3) := by decide +kernel
theorem dX7_findKin_5 : decode cX7_findKin 5 = .ok (.aload_n 0, 1) := by decide +kernel
theorem dX7_findKin_6 : decode cX7_findKin 6 = .ok (.invokevirtual 212, 3) := by decide +kernel
theorem dX7_findKin_9 : decode cX7_findKin 9 = .ok (.ifCond .eq 6, 3) := by decide +kernel
theorem dX7_findKin_12 : decode cX7_findKin 12 = .ok (.ldc 171, 2) := by decide +kernel
theorem dX7_findKin_14 : decode cX7_findKin 14 = .ok (.ireturn, 1) := by decide +kernel
theorem dX7_findKin_15 : decode cX7_findKin 15 = .ok (.aload_n 0, 1) := by decide +kernel
theorem dX7_findKin_16 : decode cX7_findKin 16 = .ok (.iconst 0, 1) := by decide +kernel
theorem dX7_findKin_17 : decode cX7_findKin 17 = .ok (.putfield 221, 3) := by decide +kernel
theorem dX7_findKin_20 : decode cX7_findKin 20 = .ok (.aload_n 0, 1) := by decide +kernel
theorem dX7_findKin_21 : decode cX7_findKin 21 = .ok (.invokevirtual 142, 3) := by decide +kernel
theorem dX7_findKin_24 : decode cX7_findKin 24 = .ok (.aload_n 0, 1) := by decide +kernel
theorem dX7_findKin_25 : decode cX7_findKin 25 = .ok (.invokevirtual 224, 3) := by decide +kernel
theorem dX7_findKin_28 : decode cX7_findKin 28 = .ok (.iconst 0, 1) := by decide +kernel
theorem dX7_findKin_29 : decode cX7_findKin 29 = .ok (.istore_n 2, 1) := by decide +kernel
theorem dX7_findKin_30 : decode cX7_findKin 30 = .ok (.iload_n 2, 1) := by decide +kernel
theorem dX7_findKin_31 : decode cX7_findKin 31 = .ok (.sipush 272, 3) := by decide +kernel
theorem dX7_findKin_34 : decode cX7_findKin 34 = .ok (.if_icmp .ge 16, 3) := by decide +kernel
theorem dX7_findKin_37 : decode cX7_findKin 37 = .ok (.aload_n 0, 1) := by decide +kernel
theorem dX7_findKin_38 : decode cX7_findKin 38 = .ok (.getfield 63, 3) := by decide +kernel
theorem dX7_findKin_41 : decode cX7_findKin 41 = .ok (.iload_n 2, 1) := by decide +kernel
theorem dX7_findKin_42 : decode cX7_findKin 42 = .ok (.iconst 0, 1) := by decide +kernel
theorem dX7_findKin_43 : decode cX7_findKin 43 = .ok (.iastore, 1) := by decide +kernel
theorem dX7_findKin_44 : decode cX7_findKin 44 = .ok (.iinc 2 1, 3) := by decide +kernel
theorem dX7_findKin_47 : decode cX7_findKin 47 = .ok (.goto (-17), 3) := by decide +kernel
theorem dX7_findKin_50 : decode cX7_findKin 50 = .ok (.iconst 0, 1) := by decide +kernel
theorem dX7_findKin_51 : decode cX7_findKin 51 = .ok (.istore_n 2, 1) := by decide +kernel
theorem dX7_findKin_52 : decode cX7_findKin 52 = .ok (.iload_n 2, 1) := by decide +kernel
theorem dX7_findKin_53 : decode cX7_findKin 53 = .ok (.aload_n 0, 1) := by decide +kernel
theorem dX7_findKin_54 : decode cX7_findKin 54 = .ok (.getfield 221, 3) := by decide +kernel
theorem dX7_findKin_57 : decode cX7_findKin 57 = .ok (.if_icmp .ge 84, 3) := by decide +kernel
theorem dX7_findKin_60 : decode cX7_findKin 60 = .ok (.iconst 0, 1) := by decide +kernel
theorem dX7_findKin_61 : decode cX7_findKin 61 = .ok (.istore_n 3, 1) := by decide +kernel
theorem dX7_findKin_62 : decode cX7_findKin 62 = .ok (.iload_n 3, 1) := by decide +kernel
theorem dX7_findKin_63 : decode cX7_findKin 63 = .ok (.aload_n 0, 1) := by decide +kernel
theorem dX7_findKin_64 : decode cX7_findKin 64 = .ok (.getfield 13, 3) := by decide +kernel
theorem dX7_findKin_67 : decode cX7_findKin 67 = .ok (.if_icmp .gt 68, 3) := by decide +kernel
theorem dX7_findKin_70 : decode cX7_findKin 70 = .ok (.aload_n 0, 1) := by decide +kernel
theorem dX7_findKin_71 : decode cX7_findKin 71 = .ok (.iload_n 2, 1) := by decide +kernel
theorem dX7_findKin_72 : decode cX7_findKin 72 = .ok (.invokevirtual 227, 3) := by decide +kernel
theorem dX7_findKin_75 : decode cX7_findKin 75 = .ok (.aload_n 0, 1) := by decide +kernel
theorem dX7_findKin_76 : decode cX7_findKin 76 = .ok (.iload_n 3, 1) := by decide +kernel
theorem dX7_findKin_77 : decode cX7_findKin 77 = .ok (.invokevirtual 218, 3) := by decide +kernel
theorem dX7_findKin_80 : decode cX7_findKin 80 = .ok (.aload_n 0, 1) := by decide +kernel
theorem dX7_findKin_81 : decode cX7_findKin 81 = .ok (.invokevirtual 230, 3) := by decide +kernel
theorem dX7_findKin_84 : decode cX7_findKin 84 = .ok (.istore 4, 2) := by decide +kernel
theorem dX7_findKin_86 : decode cX7_findKin 86 = .ok (.iload 4, 2) := by decide +kernel
theorem dX7_findKin_88 : decode cX7_findKin 88 = .ok (.ifCond .ge 25, 3) := by decide +kernel
theorem dX7_findKin_91 : decode cX7_findKin 91 = .ok (.aload_n 0, 1) := by decide +kernel
theorem dX7_findKin_92 : decode cX7_findKin 92 = .ok (.getfield 221, 3) := by decide +kernel
theorem dX7_findKin_95 : decode cX7_findKin 95 = .ok (.istore 4, 2) := by decide +kernel
theorem dX7_findKin_97 : decode cX7_findKin 97 = .ok (.aload_n 0, 1) := by decide +kernel
theorem dX7_findKin_98 : decode cX7_findKin 98 = .ok (.invokevirtual 224, 3) := by decide +kernel
theorem dX7_findKin_101 : decode cX7_findKin 101 = .ok (.aload_n 0, 1) := by decide +kernel
theorem dX7_findKin_102 : decode cX7_findKin 102 = .ok (.getfield 221, 3) := by decide +kernel
theorem dX7_findKin_105 : decode cX7_findKin 105 = .ok (.bipush 16, 2) := by decide +kernel
theorem dX7_findKin_107 : decode cX7_findKin 107 = .ok (.if_icmp .le 6, 3) := by decide +kernel
theorem dX7_findKin_110 : decode cX7_findKin 110 = .ok (.ldc 234, 2) := by decide +kernel
theorem dX7_findKin_112 : decode cX7_findKin 112 = .ok (.ireturn, 1) := by decide +kernel
theorem dX7_findKin_113 : decode cX7_findKin 113 = .ok (.aload_n 0, 1) := by decide +kernel
theorem dX7_findKin_114 : decode cX7_findKin 114 = .ok (.getfield 63, 3) := by decide +kernel
theorem dX7_findKin_117 : decode cX7_findKin 117 = .ok (.bipush 16, 2) := by decide +kernel
theorem dX7_findKin_119 : decode cX7_findKin 119 = .ok (.iload_n 2, 1) := by decide +kernel
theorem dX7_findKin_120 : decode cX7_findKin 120 = .ok (.imul, 1) := by decide +kernel
theorem dX7_findKin_121 : decode cX7_findKin 121 = .ok (.iload 4, 2) := by decide +kernel
theorem dX7_findKin_123 : decode cX7_findKin 123 = .ok (.iadd, 1) := by decide +kernel
theorem dX7_findKin_124 : decode cX7_findKin 124 = .ok (.dup2, 1) := by decide +kernel
theorem dX7_findKin_125 : decode cX7_findKin 125 = .ok (.iaload, 1) := by decide +kernel
theorem dX7_findKin_126 : decode cX7_findKin 126 = .ok (.iconst 1, 1) := by decide +kernel
theorem dX7_findKin_127 : decode cX7_findKin 127 = .ok (.iadd, 1) := by decide +kernel
theorem dX7_findKin_128 : decode cX7_findKin 128 = .ok (.iastore, 1) := by decide +kernel
theorem dX7_findKin_129 : decode cX7_findKin 129 = .ok (.iinc 3 1, 3) := by decide +kernel
theorem dX7_findKin_132 : decode cX7_findKin 132 = .ok (.goto (-70), 3) := by decide +kernel
theorem dX7_findKin_135 : decode cX7_findKin 135 = .ok (.iinc 2 1, 3) := by decide +kernel
theorem dX7_findKin_138 : decode cX7_findKin 138 = .ok (.goto (-86), 3) := by decide +kernel
theorem dX7_findKin_141 : decode cX7_findKin 141 = .ok (.aload_n 0, 1) := by decide +kernel
theorem dX7_findKin_142 : decode cX7_findKin 142 = .ok (.getfield 221, 3) := by decide +kernel
theorem dX7_findKin_145 : decode cX7_findKin 145 = .ok (.ireturn, 1) := by decide +kernel
theorem dX7_kin_0 : decode cX7_kin 0 = .ok (.aload_n 0, 1) := by decide +kernel
theorem dX7_kin_1 : decode cX7_kin 1 = .ok (.iload_n 1, 1) := by decide +kernel
theorem dX7_kin_2 : decode cX7_kin 2 = .ok (.invokevirtual 166, 3) := by decide +kernel
theorem dX7_kin_5 : decode cX7_kin 5 = .ok (.ifCond .eq 11, 3) := by decide +kernel
theorem dX7_kin_8 : decode cX7_kin 8 = .ok (.aload_n 0, 1) := by decide +kernel
theorem dX7_kin_9 : decode cX7_kin 9 = .ok (.iload_n 1, 1) := by decide +kernel
theorem dX7_kin_10 : decode cX7_kin 10 = .ok (.invokevirtual 235, 3) := by decide +kernel
theorem dX7_kin_13 : decode cX7_kin 13 = .ok (.goto 5, 3) := by decide +kernel
theorem dX7_kin_16 : decode cX7_kin 16 = .ok (.ldc 170, 2) := by decide +kernel
theorem dX7_kin_18 : decode cX7_kin 18 = .ok (.ireturn, 1) := by decide +kernel
theorem dX7_kind_0 : decode cX7_kind 0 = .ok (.aload_n 0, 1) := by decide +kernel
theorem dX7_kind_1 : decode cX7_kind 1 = .ok (.iload_n 1, 1) := by decide +kernel
theorem dX7_kind_2 : decode cX7_kind 2 = .ok (.invokevirtual 166, 3) := by decide +kernel
theorem dX7_kind_5 : decode cX7_kind 5 = .ok (.ifCond .ne 6, 3) := by decide +kernel
theorem dX7_kind_8 : decode cX7_kind 8 = .ok (.ldc 170, 2) := by decide +kernel
theorem dX7_kind_10 : decode cX7_kind 10 = .ok (.ireturn, 1) := by decide +kernel
theorem dX7_kind_11 : decode cX7_kind 11 = .ok (.iload_n 3, 1) := by decide +kernel
theorem dX7_kind_12 : decode cX7_kind 12 = .ok (.i2l, 1) := by decide +kernel
theorem dX7_kind_13 : decode cX7_kind 13 = .ok (.lconst 0, 1) := by decide +kernel
theorem dX7_kind_14 : decode cX7_kind 14 = .ok (.ldc2_w 238, 3) := by decide +kernel
theorem dX7_kind_17 : decode cX7_kind 17 = .ok (.invokestatic 147, 3) := by decide +kernel
theorem dX7_kind_20 : decode cX7_kind 20 = .ok (.ifCond .ne 6, 3) := by decide +kernel
theorem dX7_kind_23 : decode cX7_kind 23 = .ok (.ldc 157, 2) := by decide +kernel
theorem dX7_kind_25 : decode cX7_kind 25 = .ok (.ireturn, 1) := by decide +kernel
theorem dX7_kind_26 : decode cX7_kind 26 = .ok (.aload_n 0, 1) := by decide +kernel
theorem dX7_kind_27 : decode cX7_kind 27 = .ok (.iload_n 1, 1) := by decide +kernel
theorem dX7_kind_28 : decode cX7_kind 28 = .ok (.invokevirtual 235, 3) := by decide +kernel
theorem dX7_kind_31 : decode cX7_kind 31 = .ok (.istore 4, 2) := by decide +kernel
theorem dX7_kind_33 : decode cX7_kind 33 = .ok (.iload 4, 2) := by decide +kernel
theorem dX7_kind_35 : decode cX7_kind 35 = .ok (.ifCond .ge 6, 3) := by decide +kernel
theorem dX7_kind_38 : decode cX7_kind 38 = .ok (.iload 4, 2) := by decide +kernel
theorem dX7_kind_40 : decode cX7_kind 40 = .ok (.ireturn, 1) := by decide +kernel
theorem dX7_kind_41 : decode cX7_kind 41 = .ok (.iload_n 2, 1) := by decide +kernel
theorem dX7_kind_42 : decode cX7_kind 42 = .ok (.i2l, 1) := by decide +kernel
theorem dX7_kind_43 : decode cX7_kind 43 = .ok (.lconst 0, 1) := by decide +kernel
theorem dX7_kind_44 : decode cX7_kind 44 = .ok (.aload_n 0, 1) := by decide +kernel
theorem dX7_kind_45 : decode cX7_kind 45 = .ok (.getfield 221, 3) := by decide +kernel
theorem dX7_kind_48 : decode cX7_kind 48 = .ok (.iconst 1, 1) := by decide +kernel
theorem dX7_kind_49 : decode cX7_kind 49 = .ok (.isub, 1) := by decide +kernel
theorem dX7_kind_50 : decode cX7_kind 50 = .ok (.i2l, 1) := by decide +kernel
theorem dX7_kind_51 : decode cX7_kind 51 = .ok (.invokestatic 147, 3) := by decide +kernel
theorem dX7_kind_54 : decode cX7_kind 54 = .ok (.ifCond .ne 8, 3) := by decide +kernel
theorem dX7_kind_57 : decode cX7_kind 57 = .ok (.ldc 170, 2) := by decide +kernel
theorem dX7_kind_59 : decode cX7_kind 59 = .ok (.goto 30, 3) := by decide +kernel
theorem dX7_kind_62 : decode cX7_kind 62 = .ok (.iload_n 3, 1) := by decide +kernel
theorem dX7_kind_63 : decode cX7_kind 63 = .ok (.bipush 6, 2) := by decide +kernel
theorem dX7_kind_65 : decode cX7_kind 65 = .ok (.if_icmp .ge 18, 3) := by decide +kernel
theorem dX7_kind_68 : decode cX7_kind 68 = .ok (.aload_n 0, 1) := by decide +kernel
theorem dX7_kind_69 : decode cX7_kind 69 = .ok (.getfield 57, 3) := by decide +kernel
theorem dX7_kind_72 : decode cX7_kind 72 = .ok (.bipush 6, 2) := by decide +kernel
theorem dX7_kind_74 : decode cX7_kind 74 = .ok (.iload_n 2, 1) := by decide +kernel
theorem dX7_kind_75 : decode cX7_kind 75 = .ok (.imul, 1) := by decide +kernel
theorem dX7_kind_76 : decode cX7_kind 76 = .ok (.iload_n 3, 1) := by decide +kernel
theorem dX7_kind_77 : decode cX7_kind 77 = .ok (.iadd, 1) := by decide +kernel
theorem dX7_kind_78 : decode cX7_kind 78 = .ok (.laload, 1) := by decide +kernel
theorem dX7_kind_79 : decode cX7_kind 79 = .ok (.l2i, 1) := by decide +kernel
theorem dX7_kind_80 : decode cX7_kind 80 = .ok (.goto 9, 3) := by decide +kernel
theorem dX7_kind_83 : decode cX7_kind 83 = .ok (.aload_n 0, 1) := by decide +kernel
theorem dX7_kind_84 : decode cX7_kind 84 = .ok (.getfield 60, 3) := by decide +kernel
theorem dX7_kind_87 : decode cX7_kind 87 = .ok (.iload_n 2, 1) := by decide +kernel
theorem dX7_kind_88 : decode cX7_kind 88 = .ok (.iaload, 1) := by decide +kernel
theorem dX7_kind_89 : decode cX7_kind 89 = .ok (.ireturn, 1) := by decide +kernel
theorem dX7_among_0 : decode cX7_among 0 = .ok (.aload_n 0, 1) := by decide +kernel
theorem dX7_among_1 : decode cX7_among 1 = .ok (.iload_n 1, 1) := by decide +kernel
theorem dX7_among_2 : decode cX7_among 2 = .ok (.invokevirtual 166, 3) := by decide +kernel
theorem dX7_among_5 : decode cX7_among 5 = .ok (.ifCond .eq 11, 3) := by decide +kernel
theorem dX7_among_8 : decode cX7_among 8 = .ok (.aload_n 0, 1) := by decide +kernel
theorem dX7_among_9 : decode cX7_among 9 = .ok (.iload_n 2, 1) := by decide +kernel
theorem dX7_among_10 : decode cX7_among 10 = .ok (.invokevirtual 166, 3) := by decide +kernel
theorem dX7_among_13 : decode cX7_among 13 = .ok (.ifCond .ne 6, 3) := by decide +kernel
theorem dX7_among_16 : decode cX7_among 16 = .ok (.ldc 170, 2) := by decide +kernel
theorem dX7_among_18 : decode cX7_among 18 = .ok (.ireturn, 1) := by decide +kernel
theorem dX7_among_19 : decode cX7_among 19 = .ok (.aload_n 0, 1) := by decide +kernel
theorem dX7_among_20 : decode cX7_among 20 = .ok (.iload_n 1, 1) := by decide +kernel
theorem dX7_among_21 : decode cX7_among 21 = .ok (.invokevirtual 235, 3) := by decide +kernel
theorem dX7_among_24 : decode cX7_among 24 = .ok (.istore_n 3, 1) := by decide +kernel
theorem dX7_among_25 : decode cX7_among 25 = .ok (.iload_n 3, 1) := by decide +kernel
theorem dX7_among_26 : decode cX7_among 26 = .ok (.ifCond .ge 5, 3) := by decide +kernel
theorem dX7_among_29 : decode cX7_among 29 = .ok (.iload_n 3, 1) := by decide +kernel
theorem dX7_among_30 : decode cX7_among 30 = .ok (.ireturn, 1) := by decide +kernel
theorem dX7_among_31 : decode cX7_among 31 = .ok (.aload_n 0, 1) := by decide +kernel
theorem dX7_among_32 : decode cX7_among 32 = .ok (.iload_n 2, 1) := by decide +kernel
theorem dX7_among_33 : decode cX7_among 33 = .ok (.invokevirtual 184, 3) := by decide +kernel
theorem dX7_among_36 : decode cX7_among 36 = .ok (.aload_n 0, 1) := by decide +kernel
theorem dX7_among_37 : decode cX7_among 37 = .ok (.invokevirtual 230, 3) := by decide +kernel
theorem dX7_among_40 : decode cX7_among 40 = .ok (.ireturn, 1) := by decide +kernel
theorem dX7_ways_0 : decode cX7_ways 0 = .ok (.aload_n 0, 1) := by decide +kernel
theorem dX7_ways_1 : decode cX7_ways 1 = .ok (.iload_n 1, 1) := by decide +kernel
theorem dX7_ways_2 : decode cX7_ways 2 = .ok (.invokevirtual 166, 3) := by decide +kernel
theorem dX7_ways_5 : decode cX7_ways 5 = .ok (.ifCond .ne 6, 3) := by decide +kernel
theorem dX7_ways_8 : decode cX7_ways 8 = .ok (.ldc 170, 2) := by decide +kernel
theorem dX7_ways_10 : decode cX7_ways 10 = .ok (.ireturn, 1) := by decide +kernel
theorem dX7_ways_11 : decode cX7_ways 11 = .ok (.aload_n 0, 1) := by decide +kernel
theorem dX7_ways_12 : decode cX7_ways 12 = .ok (.iload_n 1, 1) := by decide +kernel
theorem dX7_ways_13 : decode cX7_ways 13 = .ok (.invokevirtual 235, 3) := by decide +kernel
theorem dX7_ways_16 : decode cX7_ways 16 = .ok (.istore 4, 2) := by decide +kernel
theorem dX7_ways_18 : decode cX7_ways 18 = .ok (.iload 4, 2) := by decide +kernel
theorem dX7_ways_20 : decode cX7_ways 20 = .ok (.ifCond .ge 6, 3) := by decide +kernel
theorem dX7_ways_23 : decode cX7_ways 23 = .ok (.iload 4, 2) := by decide +kernel
theorem dX7_ways_25 : decode cX7_ways 25 = .ok (.ireturn, 1) := by decide +kernel
theorem dX7_ways_26 : decode cX7_ways 26 = .ok (.iload_n 2, 1) := by decide +kernel
theorem dX7_ways_27 : decode cX7_ways 27 = .ok (.i2l, 1) := by decide +kernel
theorem dX7_ways_28 : decode cX7_ways 28 = .ok (.lconst 0, 1) := by decide +kernel
theorem dX7_ways_29 : decode cX7_ways 29 = .ok (.aload_n 0, 1) := by decide +kernel
theorem dX7_ways_30 : decode cX7_ways 30 = .ok (.getfield 221, 3) := by decide +kernel
theorem dX7_ways_33 : decode cX7_ways 33 = .ok (.iconst 1, 1) := by decide +kernel
theorem dX7_ways_34 : decode cX7_ways 34 = .ok (.isub, 1) := by decide +kernel
theorem dX7_ways_35 : decode cX7_ways 35 = .ok (.i2l, 1) := by decide +kernel
theorem dX7_ways_36 : decode cX7_ways 36 = .ok (.invokestatic 147, 3) := by decide +kernel
theorem dX7_ways_39 : decode cX7_ways 39 = .ok (.ifCond .eq 33, 3) := by decide +kernel
theorem dX7_ways_42 : decode cX7_ways 42 = .ok (.iload_n 3, 1) := by decide +kernel
theorem dX7_ways_43 : decode cX7_ways 43 = .ok (.i2l, 1) := by decide +kernel
theorem dX7_ways_44 : decode cX7_ways 44 = .ok (.lconst 0, 1) := by decide +kernel
theorem dX7_ways_45 : decode cX7_ways 45 = .ok (.aload_n 0, 1) := by decide +kernel
theorem dX7_ways_46 : decode cX7_ways 46 = .ok (.getfield 221, 3) := by decide +kernel
theorem dX7_ways_49 : decode cX7_ways 49 = .ok (.iconst 1, 1) := by decide +kernel
theorem dX7_ways_50 : decode cX7_ways 50 = .ok (.isub, 1) := by decide +kernel
theorem dX7_ways_51 : decode cX7_ways 51 = .ok (.i2l, 1) := by decide +kernel
theorem dX7_ways_52 : decode cX7_ways 52 = .ok (.invokestatic 147, 3) := by decide +kernel
theorem dX7_ways_55 : decode cX7_ways 55 = .ok (.ifCond .eq 17, 3) := by decide +kernel
theorem dX7_ways_58 : decode cX7_ways 58 = .ok (.aload_n 0, 1) := by decide +kernel
theorem dX7_ways_59 : decode cX7_ways 59 = .ok (.getfield 63, 3) := by decide +kernel
theorem dX7_ways_62 : decode cX7_ways 62 = .ok (.bipush 16, 2) := by decide +kernel
theorem dX7_ways_64 : decode cX7_ways 64 = .ok (.iload_n 2, 1) := by decide +kernel
theorem dX7_ways_65 : decode cX7_ways 65 = .ok (.imul, 1) := by decide +kernel
theorem dX7_ways_66 : decode cX7_ways 66 = .ok (.iload_n 3, 1) := by decide +kernel
theorem dX7_ways_67 : decode cX7_ways 67 = .ok (.iadd, 1) := by decide +kernel
theorem dX7_ways_68 : decode cX7_ways 68 = .ok (.iaload, 1) := by decide +kernel
theorem dX7_ways_69 : decode cX7_ways 69 = .ok (.goto 5, 3) := by decide +kernel
theorem dX7_ways_72 : decode cX7_ways 72 = .ok (.ldc 170, 2) := by decide +kernel
theorem dX7_ways_74 : decode cX7_ways 74 = .ok (.ireturn, 1) := by decide +kernel
theorem dX7_common_0 : decode cX7_common 0 = .ok (.lload_n 0, 1) := by decide +kernel
theorem dX7_common_1 : decode cX7_common 1 = .ok (.lstore 4, 2) := by decide +kernel
theorem dX7_common_3 : decode cX7_common 3 = .ok (.lload_n 2, 1) := by decide +kernel
theorem dX7_common_4 : decode cX7_common 4 = .ok (.lstore 6, 2) := by decide +kernel
theorem dX7_common_6 : decode cX7_common 6 = .ok (.lload 6, 2) := by decide +kernel
theorem dX7_common_8 : decode cX7_common 8 = .ok (.lconst 0, 1) := by decide +kernel
theorem dX7_common_9 : decode cX7_common 9 = .ok (.lcmp, 1) := by decide +kernel
theorem dX7_common_10 : decode cX7_common 10 = .ok (.ifCond .eq 21, 3) := by decide +kernel
theorem dX7_common_13 : decode cX7_common 13 = .ok (.lload 4, 2) := by decide +kernel
theorem dX7_common_15 : decode cX7_common 15 = .ok (.lload 6, 2) := by decide +kernel
theorem dX7_common_17 : decode cX7_common 17 = .ok (.lrem, 1) := by decide +kernel
theorem dX7_common_18 : decode cX7_common 18 = .ok (.lstore 8, 2) := by decide +kernel
theorem dX7_common_20 : decode cX7_common 20 = .ok (.lload 6, 2) := by decide +kernel
theorem dX7_common_22 : decode cX7_common 22 = .ok (.lstore 4, 2) := by decide +kernel
theorem dX7_common_24 : decode cX7_common 24 = .ok (.lload 8, 2) := by decide +kernel
theorem dX7_common_26 : decode cX7_common 26 = .ok (.lstore 6, 2) := by decide +kernel
theorem dX7_common_28 : decode cX7_common 28 = .ok (.goto (-22), 3) := by decide +kernel
theorem dX7_common_31 : decode cX7_common 31 = .ok (.lload 4, 2) := by decide +kernel
theorem dX7_common_33 : decode cX7_common 33 = .ok (.lreturn, 1) := by decide +kernel
theorem dX7_add_0 : decode cX7_add 0 = .ok (.aload_n 0, 1) := by decide +kernel
theorem dX7_add_1 : decode cX7_add 1 = .ok (.aload_n 0, 1) := by decide +kernel
theorem dX7_add_2 : decode cX7_add 2 = .ok (.getfield 240, 3) := by decide +kernel
theorem dX7_add_5 : decode cX7_add 5 = .ok (.lload_n 3, 1) := by decide +kernel
theorem dX7_add_6 : decode cX7_add 6 = .ok (.lmul, 1) := by decide +kernel
theorem dX7_add_7 : decode cX7_add 7 = .ok (.lload_n 1, 1) := by decide +kernel
theorem dX7_add_8 : decode cX7_add 8 = .ok (.aload_n 0, 1) := by decide +kernel
theorem dX7_add_9 : decode cX7_add 9 = .ok (.getfield 244, 3) := by decide +kernel
theorem dX7_add_12 : decode cX7_add 12 = .ok (.lmul, 1) := by decide +kernel
theorem dX7_add_13 : decode cX7_add 13 = .ok (.ladd, 1) := by decide +kernel
theorem dX7_add_14 : decode cX7_add 14 = .ok (.putfield 240, 3) := by decide +kernel
theorem dX7_add_17 : decode cX7_add 17 = .ok (.aload_n 0, 1) := by decide +kernel
theorem dX7_add_18 : decode cX7_add 18 = .ok (.dup, 1) := by decide +kernel
theorem dX7_add_19 : decode cX7_add 19 = .ok (.getfield 244, 3) := by decide +kernel
theorem dX7_add_22 : decode cX7_add 22 = .ok (.lload_n 3, 1) := by decide +kernel
theorem dX7_add_23 : decode cX7_add 23 = .ok (.lmul, 1) := by decide +kernel
theorem dX7_add_24 : decode cX7_add 24 = .ok (.putfield 244, 3) := by decide +kernel
theorem dX7_add_27 : decode cX7_add 27 = .ok (.aload_n 0, 1) := by decide +kernel
theorem dX7_add_28 : decode cX7_add 28 = .ok (.getfield 240, 3) := by decide +kernel
theorem dX7_add_31 : decode cX7_add 31 = .ok (.aload_n 0, 1) := by decide +kernel
theorem dX7_add_32 : decode cX7_add 32 = .ok (.getfield 244, 3) := by decide +kernel
theorem dX7_add_35 : decode cX7_add 35 = .ok (.invokestatic 247, 3) := by decide +kernel
theorem dX7_add_38 : decode cX7_add 38 = .ok (.lstore 5, 2) := by decide +kernel
theorem dX7_add_40 : decode cX7_add 40 = .ok (.aload_n 0, 1) := by decide +kernel
theorem dX7_add_41 : decode cX7_add 41 = .ok (.dup, 1) := by decide +kernel
theorem dX7_add_42 : decode cX7_add 42 = .ok (.getfield 240, 3) := by decide +kernel
theorem dX7_add_45 : decode cX7_add 45 = .ok (.lload 5, 2) := by decide +kernel
theorem dX7_add_47 : decode cX7_add 47 = .ok (.ldiv, 1) := by decide +kernel
theorem dX7_add_48 : decode cX7_add 48 = .ok (.putfield 240, 3) := by decide +kernel
theorem dX7_add_51 : decode cX7_add 51 = .ok (.aload_n 0, 1) := by decide +kernel
theorem dX7_add_52 : decode cX7_add 52 = .ok (.dup, 1) := by decide +kernel
theorem dX7_add_53 : decode cX7_add 53 = .ok (.getfield 244, 3) := by decide +kernel
theorem dX7_add_56 : decode cX7_add 56 = .ok (.lload 5, 2) := by decide +kernel
theorem dX7_add_58 : decode cX7_add 58 = .ok (.ldiv, 1) := by decide +kernel
theorem dX7_add_59 : decode cX7_add 59 = .ok (.putfield 244, 3) := by decide +kernel
theorem dX7_add_62 : decode cX7_add 62 = .ok (.return_, 1) := by decide +kernel
theorem dX7_weigh_0 : decode cX7_weigh 0 = .ok (.aload_n 0, 1) := by decide +kernel
theorem dX7_weigh_1 : decode cX7_weigh 1 = .ok (.lconst 0, 1) := by decide +kernel
theorem dX7_weigh_2 : decode cX7_weigh 2 = .ok (.putfield 240, 3) := by decide +kernel
theorem dX7_weigh_5 : decode cX7_weigh 5 = .ok (.aload_n 0, 1) := by decide +kernel
theorem dX7_weigh_6 : decode cX7_weigh 6 = .ok (.lconst 1, 1) := by decide +kernel
theorem dX7_weigh_7 : decode cX7_weigh 7 = .ok (.putfield 244, 3) := by decide +kernel
theorem dX7_weigh_10 : decode cX7_weigh 10 = .ok (.iconst 0, 1) := by decide +kernel
theorem dX7_weigh_11 : decode cX7_weigh 11 = .ok (.istore_n 1, 1) := by decide +kernel
theorem dX7_weigh_12 : decode cX7_weigh 12 = .ok (.iload_n 1, 1) := by decide +kernel
theorem dX7_weigh_13 : decode cX7_weigh 13 = .ok (.aload_n 0, 1) := by decide +kernel
theorem dX7_weigh_14 : decode cX7_weigh 14 = .ok (.getfield 221, 3) := by decide +kernel
theorem dX7_weigh_17 : decode cX7_weigh 17 = .ok (.if_icmp .ge 21, 3) := by decide +kernel
theorem dX7_weigh_20 : decode cX7_weigh 20 = .ok (.aload_n 0, 1) := by decide +kernel
theorem dX7_weigh_21 : decode cX7_weigh 21 = .ok (.lconst 1, 1) := by decide +kernel
theorem dX7_weigh_22 : decode cX7_weigh 22 = .ok (.aload_n 0, 1) := by decide +kernel
theorem dX7_weigh_23 : decode cX7_weigh 23 = .ok (.getfield 60, 3) := by decide +kernel
theorem dX7_weigh_26 : decode cX7_weigh 26 = .ok (.iload_n 1, 1) := by decide +kernel
theorem dX7_weigh_27 : decode cX7_weigh 27 = .ok (.iaload, 1) := by decide +kernel
theorem dX7_weigh_28 : decode cX7_weigh 28 = .ok (.i2l, 1) := by decide +kernel
theorem dX7_weigh_29 : decode cX7_weigh 29 = .ok (.invokevirtual 251, 3) := by decide +kernel
theorem dX7_weigh_32 : decode cX7_weigh 32 = .ok (.iinc 1 1, 3) := by decide +kernel
theorem dX7_weigh_35 : decode cX7_weigh 35 = .ok (.goto (-23), 3) := by decide +kernel
theorem dX7_weigh_38 : decode cX7_weigh 38 = .ok (.return_, 1) := by decide +kernel
theorem dX7_weight_0 : decode cX7_weight 0 = .ok (.aload_n 0, 1) := by decide +kernel
theorem dX7_weight_1 : decode cX7_weight 1 = .ok (.iload_n 1, 1) := by decide +kernel
theorem dX7_weight_2 : decode cX7_weight 2 = .ok (.invokevirtual 166, 3) := by decide +kernel
theorem dX7_weight_5 : decode cX7_weight 5 = .ok (.ifCond .ne 7, 3) := by decide +kernel
theorem dX7_weight_8 : decode cX7_weight 8 = .ok (.ldc2_w 255, 3) := by decide +kernel
theorem dX7_weight_11 : decode cX7_weight 11 = .ok (.lreturn, 1) := by decide +kernel
theorem dX7_weight_12 : decode cX7_weight 12 = .ok (.iload_n 2, 1) := by decide +kernel
theorem dX7_weight_13 : decode cX7_weight 13 = .ok (.i2l, 1) := by decide +kernel
theorem dX7_weight_14 : decode cX7_weight 14 = .ok (.lconst 0, 1) := by decide +kernel
theorem dX7_weight_15 : decode cX7_weight 15 = .ok (.lconst 1, 1) := by decide +kernel
theorem dX7_weight_16 : decode cX7_weight 16 = .ok (.invokestatic 147, 3) := by decide +kernel
theorem dX7_weight_19 : decode cX7_weight 19 = .ok (.ifCond .ne 7, 3) := by decide +kernel
theorem dX7_weight_22 : decode cX7_weight 22 = .ok (.ldc2_w 257, 3) := by decide +kernel
theorem dX7_weight_25 : decode cX7_weight 25 = .ok (.lreturn, 1) := by decide +kernel
theorem dX7_weight_26 : decode cX7_weight 26 = .ok (.aload_n 0, 1) := by decide +kernel
theorem dX7_weight_27 : decode cX7_weight 27 = .ok (.iload_n 1, 1) := by decide +kernel
theorem dX7_weight_28 : decode cX7_weight 28 = .ok (.invokevirtual 235, 3) := by decide +kernel
theorem dX7_weight_31 : decode cX7_weight 31 = .ok (.istore_n 3, 1) := by decide +kernel
theorem dX7_weight_32 : decode cX7_weight 32 = .ok (.iload_n 3, 1) := by decide +kernel
theorem dX7_weight_33 : decode cX7_weight 33 = .ok (.ifCond .ge 6, 3) := by decide +kernel
theorem dX7_weight_36 : decode cX7_weight 36 = .ok (.iload_n 3, 1) := by decide +kernel
theorem dX7_weight_37 : decode cX7_weight 37 = .ok (.i2l, 1) := by decide +kernel
theorem dX7_weight_38 : decode cX7_weight 38 = .ok (.lreturn, 1) := by decide +kernel
theorem dX7_weight_39 : decode cX7_weight 39 = .ok (.aload_n 0, 1) := by decide +kernel
theorem dX7_weight_40 : decode cX7_weight 40 = .ok (.invokevirtual 259, 3) := by decide +kernel
theorem dX7_weight_43 : decode cX7_weight 43 = .ok (.iload_n 2, 1) := by decide +kernel
theorem dX7_weight_44 : decode cX7_weight 44 = .ok (.ifCond .ne 10, 3) := by decide +kernel
theorem dX7_weight_47 : decode cX7_weight 47 = .ok (.aload_n 0, 1) := by decide +kernel
theorem dX7_weight_48 : decode cX7_weight 48 = .ok (.getfield 240, 3) := by decide +kernel
theorem dX7_weight_51 : decode cX7_weight 51 = .ok (.goto 7, 3) := by decide +kernel
theorem dX7_weight_54 : decode cX7_weight 54 = .ok (.aload_n 0, 1) := by decide +kernel
theorem dX7_weight_55 : decode cX7_weight 55 = .ok (.getfield 244, 3) := by decide +kernel
theorem dX7_weight_58 : decode cX7_weight 58 = .ok (.lreturn, 1) := by decide +kernel
theorem dX7_mean_0 : decode cX7_mean 0 = .ok (.aload_n 0, 1) := by decide +kernel
theorem dX7_mean_1 : decode cX7_mean 1 = .ok (.iload_n 1, 1) := by decide +kernel
theorem dX7_mean_2 : decode cX7_mean 2 = .ok (.invokevirtual 166, 3) := by decide +kernel
theorem dX7_mean_5 : decode cX7_mean 5 = .ok (.ifCond .ne 7, 3) := by decide +kernel
theorem dX7_mean_8 : decode cX7_mean 8 = .ok (.ldc2_w 255, 3) := by decide +kernel
theorem dX7_mean_11 : decode cX7_mean 11 = .ok (.lreturn, 1) := by decide +kernel
theorem dX7_mean_12 : decode cX7_mean 12 = .ok (.iload_n 2, 1) := by decide +kernel
theorem dX7_mean_13 : decode cX7_mean 13 = .ok (.i2l, 1) := by decide +kernel
theorem dX7_mean_14 : decode cX7_mean 14 = .ok (.lconst 0, 1) := by decide +kernel
theorem dX7_mean_15 : decode cX7_mean 15 = .ok (.ldc2_w 178, 3) := by decide +kernel
theorem dX7_mean_18 : decode cX7_mean 18 = .ok (.invokestatic 147, 3) := by decide +kernel
theorem dX7_mean_21 : decode cX7_mean 21 = .ok (.ifCond .eq 13, 3) := by decide +kernel
theorem dX7_mean_24 : decode cX7_mean 24 = .ok (.iload_n 3, 1) := by decide +kernel
theorem dX7_mean_25 : decode cX7_mean 25 = .ok (.i2l, 1) := by decide +kernel
theorem dX7_mean_26 : decode cX7_mean 26 = .ok (.lconst 0, 1) := by decide +kernel
theorem dX7_mean_27 : decode cX7_mean 27 = .ok (.lconst 1, 1) := by decide +kernel
theorem dX7_mean_28 : decode cX7_mean 28 = .ok (.invokestatic 147, 3) := by decide +kernel
theorem dX7_mean_31 : decode cX7_mean 31 = .ok (.ifCond .ne 7, 3) := by decide +kernel
theorem dX7_mean_34 : decode cX7_mean 34 = .ok (.ldc2_w 257, 3) := by decide +kernel
theorem dX7_mean_37 : decode cX7_mean 37 = .ok (.lreturn, 1) := by decide +kernel
theorem dX7_mean_38 : decode cX7_mean 38 = .ok (.aload_n 0, 1) := by decide +kernel
theorem dX7_mean_39 : decode cX7_mean 39 = .ok (.iload_n 1, 1) := by decide +kernel
theorem dX7_mean_40 : decode cX7_mean 40 = .ok (.invokevirtual 235, 3) := by decide +kernel
theorem dX7_mean_43 : decode cX7_mean 43 = .ok (.istore 4, 2) := by decide +kernel
theorem dX7_mean_45 : decode cX7_mean 45 = .ok (.iload 4, 2) := by decide +kernel
theorem dX7_mean_47 : decode cX7_mean 47 = .ok (.ifCond .ge 7, 3) := by decide +kernel
theorem dX7_mean_50 : decode cX7_mean 50 = .ok (.iload 4, 2) := by decide +kernel
theorem dX7_mean_52 : decode cX7_mean 52 = .ok (.i2l, 1) := by decide +kernel
theorem dX7_mean_53 : decode cX7_mean 53 = .ok (.lreturn, 1) := by decide +kernel
theorem dX7_mean_54 : decode cX7_mean 54 = .ok (.aload_n 0, 1) := by decide +kernel
theorem dX7_mean_55 : decode cX7_mean 55 = .ok (.invokevirtual 259, 3) := by decide +kernel
theorem dX7_mean_58 : decode cX7_mean 58 = .ok (.aload_n 0, 1) := by decide +kernel
theorem dX7_mean_59 : decode cX7_mean 59 = .ok (.getfield 240, 3) := by decide +kernel
theorem dX7_mean_62 : decode cX7_mean 62 = .ok (.lstore 5, 2) := by decide +kernel
theorem dX7_mean_64 : decode cX7_mean 64 = .ok (.aload_n 0, 1) := by decide +kernel
theorem dX7_mean_65 : decode cX7_mean 65 = .ok (.getfield 244, 3) := by decide +kernel
theorem dX7_mean_68 : decode cX7_mean 68 = .ok (.lstore 7, 2) := by decide +kernel
theorem dX7_mean_70 : decode cX7_mean 70 = .ok (.aload_n 0, 1) := by decide +kernel
theorem dX7_mean_71 : decode cX7_mean 71 = .ok (.lconst 0, 1) := by decide +kernel
theorem dX7_mean_72 : decode cX7_mean 72 = .ok (.putfield 240, 3) := by decide +kernel
theorem dX7_mean_75 : decode cX7_mean 75 = .ok (.aload_n 0, 1) := by decide +kernel
theorem dX7_mean_76 : decode cX7_mean 76 = .ok (.lconst 1, 1) := by decide +kernel
theorem dX7_mean_77 : decode cX7_mean 77 = .ok (.putfield 244, 3) := by decide +kernel
theorem dX7_mean_80 : decode cX7_mean 80 = .ok (.iconst 0, 1) := by decide +kernel
theorem dX7_mean_81 : decode cX7_mean 81 = .ok (.istore 9, 2) := by decide +kernel
theorem dX7_mean_83 : decode cX7_mean 83 = .ok (.iload 9, 2) := by decide +kernel
theorem dX7_mean_85 : decode cX7_mean 85 = .ok (.aload_n 0, 1) := by decide +kernel
theorem dX7_mean_86 : decode cX7_mean 86 = .ok (.getfield 221, 3) := by decide +kernel
theorem dX7_mean_89 : decode cX7_mean 89 = .ok (.if_icmp .ge 33, 3) := by decide +kernel
theorem dX7_mean_92 : decode cX7_mean 92 = .ok (.aload_n 0, 1) := by decide +kernel
theorem dX7_mean_93 : decode cX7_mean 93 = .ok (.iload 9, 2) := by decide +kernel
theorem dX7_mean_95 : decode cX7_mean 95 = .ok (.invokevirtual 227, 3) := by decide +kernel
theorem dX7_mean_98 : decode cX7_mean 98 = .ok (.aload_n 0, 1) := by decide +kernel
theorem dX7_mean_99 : decode cX7_mean 99 = .ok (.aload_n 0, 1) := by decide +kernel
theorem dX7_mean_100 : decode cX7_mean 100 = .ok (.iload_n 2, 1) := by decide +kernel
theorem dX7_mean_101 : decode cX7_mean 101 = .ok (.invokevirtual 180, 3) := by decide +kernel
theorem dX7_mean_104 : decode cX7_mean 104 = .ok (.i2l, 1) := by decide +kernel
theorem dX7_mean_105 : decode cX7_mean 105 = .ok (.aload_n 0, 1) := by decide +kernel
theorem dX7_mean_106 : decode cX7_mean 106 = .ok (.getfield 60, 3) := by decide +kernel
theorem dX7_mean_109 : decode cX7_mean 109 = .ok (.iload 9, 2) := by decide +kernel
theorem dX7_mean_111 : decode cX7_mean 111 = .ok (.iaload, 1) := by decide +kernel
theorem dX7_mean_112 : decode cX7_mean 112 = .ok (.i2l, 1) := by decide +kernel
theorem dX7_mean_113 : decode cX7_mean 113 = .ok (.invokevirtual 251, 3) := by decide +kernel
theorem dX7_mean_116 : decode cX7_mean 116 = .ok (.iinc 9 1, 3) := by decide +kernel
theorem dX7_mean_119 : decode cX7_mean 119 = .ok (.goto (-36), 3) := by decide +kernel
theorem dX7_mean_122 : decode cX7_mean 122 = .ok (.aload_n 0, 1) := by decide +kernel
theorem dX7_mean_123 : decode cX7_mean 123 = .ok (.dup, 1) := by decide +kernel
theorem dX7_mean_124 : decode cX7_mean 124 = .ok (.getfield 240, 3) := by decide +kernel
theorem dX7_mean_127 : decode cX7_mean 127 = .ok (.lload 7, 2) := by decide +kernel
theorem dX7_mean_129 : decode cX7_mean 129 = .ok (.lmul, 1) := by decide +kernel
theorem dX7_mean_130 : decode cX7_mean 130 = .ok (.putfield 240, 3) := by decide +kernel
theorem dX7_mean_133 : decode cX7_mean 133 = .ok (.aload_n 0, 1) := by decide +kernel
theorem dX7_mean_134 : decode cX7_mean 134 = .ok (.dup, 1) := by decide +kernel
theorem dX7_mean_135 : decode cX7_mean 135 = .ok (.getfield 244, 3) := by decide +kernel
theorem dX7_mean_138 : decode cX7_mean 138 = .ok (.lload 5, 2) := by decide +kernel
theorem dX7_mean_140 : decode cX7_mean 140 = .ok (.lmul, 1) := by decide +kernel
theorem dX7_mean_141 : decode cX7_mean 141 = .ok (.putfield 244, 3) := by decide +kernel
theorem dX7_mean_144 : decode cX7_mean 144 = .ok (.aload_n 0, 1) := by decide +kernel
theorem dX7_mean_145 : decode cX7_mean 145 = .ok (.getfield 240, 3) := by decide +kernel
theorem dX7_mean_148 : decode cX7_mean 148 = .ok (.aload_n 0, 1) := by decide +kernel
theorem dX7_mean_149 : decode cX7_mean 149 = .ok (.getfield 244, 3) := by decide +kernel
theorem dX7_mean_152 : decode cX7_mean 152 = .ok (.invokestatic 247, 3) := by decide +kernel
theorem dX7_mean_155 : decode cX7_mean 155 = .ok (.lstore 9, 2) := by decide +kernel
theorem dX7_mean_157 : decode cX7_mean 157 = .ok (.iload_n 3, 1) := by decide +kernel
theorem dX7_mean_158 : decode cX7_mean 158 = .ok (.ifCond .ne 13, 3) := by decide +kernel
theorem dX7_mean_161 : decode cX7_mean 161 = .ok (.aload_n 0, 1) := by decide +kernel
theorem dX7_mean_162 : decode cX7_mean 162 = .ok (.getfield 240, 3) := by decide +kernel
theorem dX7_mean_165 : decode cX7_mean 165 = .ok (.lload 9, 2) := by decide +kernel
theorem dX7_mean_167 : decode cX7_mean 167 = .ok (.ldiv, 1) := by decide +kernel
theorem dX7_mean_168 : decode cX7_mean 168 = .ok (.goto 10, 3) := by decide +kernel
theorem dX7_mean_171 : decode cX7_mean 171 = .ok (.aload_n 0, 1) := by decide +kernel
theorem dX7_mean_172 : decode cX7_mean 172 = .ok (.getfield 244, 3) := by decide +kernel
theorem dX7_mean_175 : decode cX7_mean 175 = .ok (.lload 9, 2) := by decide +kernel
theorem dX7_mean_177 : decode cX7_mean 177 = .ok (.ldiv, 1) := by decide +kernel
theorem dX7_mean_178 : decode cX7_mean 178 = .ok (.lreturn, 1) := by decide +kernel

theorem dX7_tryRows_9 : decode cX7_tryRows 9 = .ok (.lload 4, 2) := by decide +kernel
theorem dX7_tryRows_11 : decode cX7_tryRows 11 = .ok (.lconst 1, 1) := by decide +kernel
theorem dX7_tryRows_12 : decode cX7_tryRows 12 = .ok (.lcmp, 1) := by decide +kernel
theorem dX7_tryRows_13 : decode cX7_tryRows 13 = .ok (.ifCond .eq 13, 3) := by decide +kernel
theorem dX7_tryRows_16 : decode cX7_tryRows 16 = .ok (.lload 4, 2) := by decide +kernel
theorem dX7_tryRows_18 : decode cX7_tryRows 18 = .ok (.ldc2_w 96, 3) := by decide +kernel
theorem dX7_tryRows_21 : decode cX7_tryRows 21 = .ok (.lcmp, 1) := by decide +kernel
theorem dX7_tryRows_22 : decode cX7_tryRows 22 = .ok (.ifCond .eq 4, 3) := by decide +kernel
theorem dX7_tryRows_25 : decode cX7_tryRows 25 = .ok (.return_, 1) := by decide +kernel
theorem dX7_tryRows_26 : decode cX7_tryRows 26 = .ok (.aload_n 0, 1) := by decide +kernel
theorem dX7_tryRows_27 : decode cX7_tryRows 27 = .ok (.iload_n 2, 1) := by decide +kernel
theorem dX7_tryRows_28 : decode cX7_tryRows 28 = .ok (.iload_n 3, 1) := by decide +kernel
theorem dX7_tryRows_29 : decode cX7_tryRows 29 = .ok (.invokevirtual 117, 3) := by decide +kernel
theorem dX7_tryRows_32 : decode cX7_tryRows 32 = .ok (.lstore 6, 2) := by decide +kernel
theorem dX7_tryRows_34 : decode cX7_tryRows 34 = .ok (.aload_n 0, 1) := by decide +kernel
theorem dX7_tryRows_35 : decode cX7_tryRows 35 = .ok (.iload_n 1, 1) := by decide +kernel
theorem dX7_tryRows_36 : decode cX7_tryRows 36 = .ok (.iload_n 3, 1) := by decide +kernel
theorem dX7_tryRows_37 : decode cX7_tryRows 37 = .ok (.invokevirtual 117, 3) := by decide +kernel
theorem dX7_tryRows_40 : decode cX7_tryRows 40 = .ok (.lstore 8, 2) := by decide +kernel
theorem dX7_tryRows_42 : decode cX7_tryRows 42 = .ok (.aload_n 0, 1) := by decide +kernel
theorem dX7_tryRows_43 : decode cX7_tryRows 43 = .ok (.iload_n 1, 1) := by decide +kernel
theorem dX7_tryRows_44 : decode cX7_tryRows 44 = .ok (.iload_n 2, 1) := by decide +kernel
theorem dX7_tryRows_45 : decode cX7_tryRows 45 = .ok (.invokevirtual 117, 3) := by decide +kernel
theorem dX7_tryRows_48 : decode cX7_tryRows 48 = .ok (.lstore 10, 2) := by decide +kernel
theorem dX7_tryRows_50 : decode cX7_tryRows 50 = .ok (.aload_n 0, 1) := by decide +kernel
theorem dX7_tryRows_51 : decode cX7_tryRows 51 = .ok (.getfield 110, 3) := by decide +kernel
theorem dX7_tryRows_54 : decode cX7_tryRows 54 = .ok (.ifCond .ne 7, 3) := by decide +kernel
theorem dX7_tryRows_57 : decode cX7_tryRows 57 = .ok (.iconst 1, 1) := by decide +kernel
theorem dX7_tryRows_58 : decode cX7_tryRows 58 = .ok (.goto 4, 3) := by decide +kernel
theorem dX7_tryRows_61 : decode cX7_tryRows 61 = .ok (.iconst 0, 1) := by decide +kernel
theorem dX7_tryRows_62 : decode cX7_tryRows 62 = .ok (.istore 12, 2) := by decide +kernel
theorem dX7_tryRows_64 : decode cX7_tryRows 64 = .ok (.iload 12, 2) := by decide +kernel
theorem dX7_tryRows_66 : decode cX7_tryRows 66 = .ok (.ifCond .ne 43, 3) := by decide +kernel
theorem dX7_tryRows_69 : decode cX7_tryRows 69 = .ok (.lload 6, 2) := by decide +kernel
theorem dX7_tryRows_71 : decode cX7_tryRows 71 = .ok (.aload_n 0, 1) := by decide +kernel
theorem dX7_tryRows_72 : decode cX7_tryRows 72 = .ok (.getfield 24, 3) := by decide +kernel
theorem dX7_tryRows_75 : decode cX7_tryRows 75 = .ok (.iconst 3, 1) := by decide +kernel
theorem dX7_tryRows_76 : decode cX7_tryRows 76 = .ok (.laload, 1) := by decide +kernel
theorem dX7_tryRows_77 : decode cX7_tryRows 77 = .ok (.lcmp, 1) := by decide +kernel
theorem dX7_tryRows_78 : decode cX7_tryRows 78 = .ok (.ifCond .ne 31, 3) := by decide +kernel
theorem dX7_tryRows_81 : decode cX7_tryRows 81 = .ok (.lload 8, 2) := by decide +kernel
theorem dX7_tryRows_83 : decode cX7_tryRows 83 = .ok (.aload_n 0, 1) := by decide +kernel
theorem dX7_tryRows_84 : decode cX7_tryRows 84 = .ok (.getfield 24, 3) := by decide +kernel
theorem dX7_tryRows_87 : decode cX7_tryRows 87 = .ok (.iconst 4, 1) := by decide +kernel
theorem dX7_tryRows_88 : decode cX7_tryRows 88 = .ok (.laload, 1) := by decide +kernel
theorem dX7_tryRows_89 : decode cX7_tryRows 89 = .ok (.lcmp, 1) := by decide +kernel
theorem dX7_tryRows_90 : decode cX7_tryRows 90 = .ok (.ifCond .ne 19, 3) := by decide +kernel
theorem dX7_tryRows_93 : decode cX7_tryRows 93 = .ok (.lload 10, 2) := by decide +kernel
theorem dX7_tryRows_95 : decode cX7_tryRows 95 = .ok (.aload_n 0, 1) := by decide +kernel
theorem dX7_tryRows_96 : decode cX7_tryRows 96 = .ok (.getfield 24, 3) := by decide +kernel
theorem dX7_tryRows_99 : decode cX7_tryRows 99 = .ok (.iconst 5, 1) := by decide +kernel
theorem dX7_tryRows_100 : decode cX7_tryRows 100 = .ok (.laload, 1) := by decide +kernel
theorem dX7_tryRows_101 : decode cX7_tryRows 101 = .ok (.lcmp, 1) := by decide +kernel
theorem dX7_tryRows_102 : decode cX7_tryRows 102 = .ok (.ifCond .ne 7, 3) := by decide +kernel
theorem dX7_tryRows_105 : decode cX7_tryRows 105 = .ok (.iconst 1, 1) := by decide +kernel
theorem dX7_tryRows_106 : decode cX7_tryRows 106 = .ok (.goto 4, 3) := by decide +kernel
theorem dX7_tryRows_109 : decode cX7_tryRows 109 = .ok (.iconst 0, 1) := by decide +kernel
theorem dX7_tryRows_110 : decode cX7_tryRows 110 = .ok (.istore 13, 2) := by decide +kernel
theorem dX7_tryRows_112 : decode cX7_tryRows 112 = .ok (.iload 12, 2) := by decide +kernel
theorem dX7_tryRows_114 : decode cX7_tryRows 114 = .ok (.ifCond .ne 63, 3) := by decide +kernel
theorem dX7_tryRows_117 : decode cX7_tryRows 117 = .ok (.lload 6, 2) := by decide +kernel
theorem dX7_tryRows_119 : decode cX7_tryRows 119 = .ok (.aload_n 0, 1) := by decide +kernel
theorem dX7_tryRows_120 : decode cX7_tryRows 120 = .ok (.getfield 24, 3) := by decide +kernel
theorem dX7_tryRows_123 : decode cX7_tryRows 123 = .ok (.iconst 3, 1) := by decide +kernel
theorem dX7_tryRows_124 : decode cX7_tryRows 124 = .ok (.laload, 1) := by decide +kernel
theorem dX7_tryRows_125 : decode cX7_tryRows 125 = .ok (.lcmp, 1) := by decide +kernel
theorem dX7_tryRows_126 : decode cX7_tryRows 126 = .ok (.ifCond .lt 51, 3) := by decide +kernel
theorem dX7_tryRows_129 : decode cX7_tryRows 129 = .ok (.lload 6, 2) := by decide +kernel
theorem dX7_tryRows_131 : decode cX7_tryRows 131 = .ok (.aload_n 0, 1) := by decide +kernel
theorem dX7_tryRows_132 : decode cX7_tryRows 132 = .ok (.getfield 24, 3) := by decide +kernel
theorem dX7_tryRows_135 : decode cX7_tryRows 135 = .ok (.iconst 3, 1) := by decide +kernel
theorem dX7_tryRows_136 : decode cX7_tryRows 136 = .ok (.laload, 1) := by decide +kernel
theorem dX7_tryRows_137 : decode cX7_tryRows 137 = .ok (.lcmp, 1) := by decide +kernel
theorem dX7_tryRows_138 : decode cX7_tryRows 138 = .ok (.ifCond .ne 43, 3) := by decide +kernel
theorem dX7_tryRows_141 : decode cX7_tryRows 141 = .ok (.lload 8, 2) := by decide +kernel
theorem dX7_tryRows_143 : decode cX7_tryRows 143 = .ok (.aload_n 0, 1) := by decide +kernel
theorem dX7_tryRows_144 : decode cX7_tryRows 144 = .ok (.getfield 24, 3) := by decide +kernel
theorem dX7_tryRows_147 : decode cX7_tryRows 147 = .ok (.iconst 4, 1) := by decide +kernel
theorem dX7_tryRows_148 : decode cX7_tryRows 148 = .ok (.laload, 1) := by decide +kernel
theorem dX7_tryRows_149 : decode cX7_tryRows 149 = .ok (.lcmp, 1) := by decide +kernel
theorem dX7_tryRows_150 : decode cX7_tryRows 150 = .ok (.ifCond .lt 27, 3) := by decide +kernel
theorem dX7_tryRows_153 : decode cX7_tryRows 153 = .ok (.lload 8, 2) := by decide +kernel
theorem dX7_tryRows_155 : decode cX7_tryRows 155 = .ok (.aload_n 0, 1) := by decide +kernel
theorem dX7_tryRows_156 : decode cX7_tryRows 156 = .ok (.getfield 24, 3) := by decide +kernel
theorem dX7_tryRows_159 : decode cX7_tryRows 159 = .ok (.iconst 4, 1) := by decide +kernel
theorem dX7_tryRows_160 : decode cX7_tryRows 160 = .ok (.laload, 1) := by decide +kernel
theorem dX7_tryRows_161 : decode cX7_tryRows 161 = .ok (.lcmp, 1) := by decide +kernel
theorem dX7_tryRows_162 : decode cX7_tryRows 162 = .ok (.ifCond .ne 19, 3) := by decide +kernel
theorem dX7_tryRows_165 : decode cX7_tryRows 165 = .ok (.lload 10, 2) := by decide +kernel
theorem dX7_tryRows_167 : decode cX7_tryRows 167 = .ok (.aload_n 0, 1) := by decide +kernel
theorem dX7_tryRows_168 : decode cX7_tryRows 168 = .ok (.getfield 24, 3) := by decide +kernel
theorem dX7_tryRows_171 : decode cX7_tryRows 171 = .ok (.iconst 5, 1) := by decide +kernel
theorem dX7_tryRows_172 : decode cX7_tryRows 172 = .ok (.laload, 1) := by decide +kernel
theorem dX7_tryRows_173 : decode cX7_tryRows 173 = .ok (.lcmp, 1) := by decide +kernel
theorem dX7_tryRows_174 : decode cX7_tryRows 174 = .ok (.ifCond .ge 7, 3) := by decide +kernel
theorem dX7_tryRows_177 : decode cX7_tryRows 177 = .ok (.iconst 1, 1) := by decide +kernel
theorem dX7_tryRows_178 : decode cX7_tryRows 178 = .ok (.goto 4, 3) := by decide +kernel
theorem dX7_tryRows_181 : decode cX7_tryRows 181 = .ok (.iconst 0, 1) := by decide +kernel
theorem dX7_tryRows_182 : decode cX7_tryRows 182 = .ok (.istore 14, 2) := by decide +kernel
theorem dX7_tryRows_184 : decode cX7_tryRows 184 = .ok (.iload 14, 2) := by decide +kernel
theorem dX7_tryRows_186 : decode cX7_tryRows 186 = .ok (.ifCond .eq 42, 3) := by decide +kernel
theorem dX7_tryRows_189 : decode cX7_tryRows 189 = .ok (.aload_n 0, 1) := by decide +kernel
theorem dX7_tryRows_190 : decode cX7_tryRows 190 = .ok (.getfield 24, 3) := by decide +kernel
theorem dX7_tryRows_193 : decode cX7_tryRows 193 = .ok (.iconst 3, 1) := by decide +kernel
theorem dX7_tryRows_194 : decode cX7_tryRows 194 = .ok (.lload 6, 2) := by decide +kernel
theorem dX7_tryRows_196 : decode cX7_tryRows 196 = .ok (.lastore, 1) := by decide +kernel
theorem dX7_tryRows_197 : decode cX7_tryRows 197 = .ok (.aload_n 0, 1) := by decide +kernel
theorem dX7_tryRows_198 : decode cX7_tryRows 198 = .ok (.getfield 24, 3) := by decide +kernel
theorem dX7_tryRows_201 : decode cX7_tryRows 201 = .ok (.iconst 4, 1) := by decide +kernel
theorem dX7_tryRows_202 : decode cX7_tryRows 202 = .ok (.lload 8, 2) := by decide +kernel
theorem dX7_tryRows_204 : decode cX7_tryRows 204 = .ok (.lastore, 1) := by decide +kernel
theorem dX7_tryRows_205 : decode cX7_tryRows 205 = .ok (.aload_n 0, 1) := by decide +kernel
theorem dX7_tryRows_206 : decode cX7_tryRows 206 = .ok (.getfield 24, 3) := by decide +kernel
theorem dX7_tryRows_209 : decode cX7_tryRows 209 = .ok (.iconst 5, 1) := by decide +kernel
theorem dX7_tryRows_210 : decode cX7_tryRows 210 = .ok (.lload 10, 2) := by decide +kernel
theorem dX7_tryRows_212 : decode cX7_tryRows 212 = .ok (.lastore, 1) := by decide +kernel
theorem dX7_tryRows_213 : decode cX7_tryRows 213 = .ok (.aload_n 0, 1) := by decide +kernel
theorem dX7_tryRows_214 : decode cX7_tryRows 214 = .ok (.iconst 1, 1) := by decide +kernel
theorem dX7_tryRows_215 : decode cX7_tryRows 215 = .ok (.putfield 110, 3) := by decide +kernel
theorem dX7_tryRows_218 : decode cX7_tryRows 218 = .ok (.aload_n 0, 1) := by decide +kernel
theorem dX7_tryRows_219 : decode cX7_tryRows 219 = .ok (.iload_n 1, 1) := by decide +kernel
theorem dX7_tryRows_220 : decode cX7_tryRows 220 = .ok (.iload_n 2, 1) := by decide +kernel
theorem dX7_tryRows_221 : decode cX7_tryRows 221 = .ok (.iload_n 3, 1) := by decide +kernel
theorem dX7_tryRows_222 : decode cX7_tryRows 222 = .ok (.invokevirtual 121, 3) := by decide +kernel
theorem dX7_tryRows_225 : decode cX7_tryRows 225 = .ok (.goto 25, 3) := by decide +kernel
theorem dX7_tryRows_228 : decode cX7_tryRows 228 = .ok (.iload 13, 2) := by decide +kernel
theorem dX7_tryRows_230 : decode cX7_tryRows 230 = .ok (.ifCond .eq 20, 3) := by decide +kernel
theorem dX7_tryRows_233 : decode cX7_tryRows 233 = .ok (.aload_n 0, 1) := by decide +kernel
theorem dX7_tryRows_234 : decode cX7_tryRows 234 = .ok (.dup, 1) := by decide +kernel
theorem dX7_tryRows_235 : decode cX7_tryRows 235 = .ok (.getfield 110, 3) := by decide +kernel
theorem dX7_tryRows_238 : decode cX7_tryRows 238 = .ok (.iconst 1, 1) := by decide +kernel
theorem dX7_tryRows_239 : decode cX7_tryRows 239 = .ok (.iadd, 1) := by decide +kernel
theorem dX7_tryRows_240 : decode cX7_tryRows 240 = .ok (.putfield 110, 3) := by decide +kernel
theorem dX7_tryRows_243 : decode cX7_tryRows 243 = .ok (.aload_n 0, 1) := by decide +kernel
theorem dX7_tryRows_244 : decode cX7_tryRows 244 = .ok (.iload_n 1, 1) := by decide +kernel
theorem dX7_tryRows_245 : decode cX7_tryRows 245 = .ok (.iload_n 2, 1) := by decide +kernel
theorem dX7_tryRows_246 : decode cX7_tryRows 246 = .ok (.iload_n 3, 1) := by decide +kernel
theorem dX7_tryRows_247 : decode cX7_tryRows 247 = .ok (.invokevirtual 121, 3) := by decide +kernel
theorem dX7_tryRows_250 : decode cX7_tryRows 250 = .ok (.return_, 1) := by decide +kernel
theorem dX7_findLeast_0 : decode cX7_findLeast 0 = .ok (.aload_n 0, 1) := by decide +kernel
theorem dX7_findLeast_1 : decode cX7_findLeast 1 = .ok (.invokevirtual 125, 3) := by decide +kernel
theorem dX7_findLeast_4 : decode cX7_findLeast 4 = .ok (.aload_n 0, 1) := by decide +kernel
theorem dX7_findLeast_5 : decode cX7_findLeast 5 = .ok (.getfield 17, 3) := by decide +kernel
theorem dX7_findLeast_8 : decode cX7_findLeast 8 = .ok (.iconst 0, 1) := by decide +kernel
theorem dX7_findLeast_9 : decode cX7_findLeast 9 = .ok (.laload, 1) := by decide +kernel
theorem dX7_findLeast_10 : decode cX7_findLeast 10 = .ok (.aload_n 0, 1) := by decide +kernel
theorem dX7_findLeast_11 : decode cX7_findLeast 11 = .ok (.getfield 17, 3) := by decide +kernel
theorem dX7_findLeast_14 : decode cX7_findLeast 14 = .ok (.iconst 1, 1) := by decide +kernel
theorem dX7_findLeast_15 : decode cX7_findLeast 15 = .ok (.laload, 1) := by decide +kernel
theorem dX7_findLeast_16 : decode cX7_findLeast 16 = .ok (.lcmp, 1) := by decide +kernel
theorem dX7_findLeast_17 : decode cX7_findLeast 17 = .ok (.ifCond .le 12, 3) := by decide +kernel
theorem dX7_findLeast_20 : decode cX7_findLeast 20 = .ok (.aload_n 0, 1) := by decide +kernel
theorem dX7_findLeast_21 : decode cX7_findLeast 21 = .ok (.getfield 17, 3) := by decide +kernel
theorem dX7_findLeast_24 : decode cX7_findLeast 24 = .ok (.iconst 0, 1) := by decide +kernel
theorem dX7_findLeast_25 : decode cX7_findLeast 25 = .ok (.laload, 1) := by decide +kernel
theorem dX7_findLeast_26 : decode cX7_findLeast 26 = .ok (.goto 9, 3) := by decide +kernel
theorem dX7_findLeast_29 : decode cX7_findLeast 29 = .ok (.aload_n 0, 1) := by decide +kernel
theorem dX7_findLeast_30 : decode cX7_findLeast 30 = .ok (.getfield 17, 3) := by decide +kernel
theorem dX7_findLeast_33 : decode cX7_findLeast 33 = .ok (.iconst 1, 1) := by decide +kernel
theorem dX7_findLeast_34 : decode cX7_findLeast 34 = .ok (.laload, 1) := by decide +kernel
theorem dX7_findLeast_35 : decode cX7_findLeast 35 = .ok (.lstore_n 1, 1) := by decide +kernel
theorem dX7_findLeast_36 : decode cX7_findLeast 36 = .ok (.aload_n 0, 1) := by decide +kernel
theorem dX7_findLeast_37 : decode cX7_findLeast 37 = .ok (.getfield 17, 3) := by decide +kernel
theorem dX7_findLeast_40 : decode cX7_findLeast 40 = .ok (.iconst 2, 1) := by decide +kernel
theorem dX7_findLeast_41 : decode cX7_findLeast 41 = .ok (.laload, 1) := by decide +kernel
theorem dX7_findLeast_42 : decode cX7_findLeast 42 = .ok (.lload_n 1, 1) := by decide +kernel
theorem dX7_findLeast_43 : decode cX7_findLeast 43 = .ok (.lcmp, 1) := by decide +kernel
theorem dX7_findLeast_44 : decode cX7_findLeast 44 = .ok (.ifCond .le 12, 3) := by decide +kernel
theorem dX7_findLeast_47 : decode cX7_findLeast 47 = .ok (.aload_n 0, 1) := by decide +kernel
theorem dX7_findLeast_48 : decode cX7_findLeast 48 = .ok (.getfield 17, 3) := by decide +kernel
theorem dX7_findLeast_51 : decode cX7_findLeast 51 = .ok (.iconst 2, 1) := by decide +kernel
theorem dX7_findLeast_52 : decode cX7_findLeast 52 = .ok (.laload, 1) := by decide +kernel
theorem dX7_findLeast_53 : decode cX7_findLeast 53 = .ok (.goto 4, 3) := by decide +kernel
theorem dX7_findLeast_56 : decode cX7_findLeast 56 = .ok (.lload_n 1, 1) := by decide +kernel
theorem dX7_findLeast_57 : decode cX7_findLeast 57 = .ok (.lstore_n 1, 1) := by decide +kernel
theorem dX7_findLeast_58 : decode cX7_findLeast 58 = .ok (.aload_n 0, 1) := by decide +kernel
theorem dX7_findLeast_59 : decode cX7_findLeast 59 = .ok (.getfield 24, 3) := by decide +kernel
theorem dX7_findLeast_62 : decode cX7_findLeast 62 = .ok (.iconst 0, 1) := by decide +kernel
theorem dX7_findLeast_63 : decode cX7_findLeast 63 = .ok (.aload_n 0, 1) := by decide +kernel
theorem dX7_findLeast_64 : decode cX7_findLeast 64 = .ok (.iconst 0, 1) := by decide +kernel
theorem dX7_findLeast_65 : decode cX7_findLeast 65 = .ok (.lload_n 1, 1) := by decide +kernel
theorem dX7_findLeast_66 : decode cX7_findLeast 66 = .ok (.invokevirtual 128, 3) := by decide +kernel
theorem dX7_findLeast_69 : decode cX7_findLeast 69 = .ok (.lastore, 1) := by decide +kernel
theorem dX7_findLeast_70 : decode cX7_findLeast 70 = .ok (.aload_n 0, 1) := by decide +kernel
theorem dX7_findLeast_71 : decode cX7_findLeast 71 = .ok (.getfield 24, 3) := by decide +kernel
theorem dX7_findLeast_74 : decode cX7_findLeast 74 = .ok (.iconst 1, 1) := by decide +kernel
theorem dX7_findLeast_75 : decode cX7_findLeast 75 = .ok (.aload_n 0, 1) := by decide +kernel
theorem dX7_findLeast_76 : decode cX7_findLeast 76 = .ok (.iconst 1, 1) := by decide +kernel
theorem dX7_findLeast_77 : decode cX7_findLeast 77 = .ok (.lload_n 1, 1) := by decide +kernel
theorem dX7_findLeast_78 : decode cX7_findLeast 78 = .ok (.invokevirtual 128, 3) := by decide +kernel
theorem dX7_findLeast_81 : decode cX7_findLeast 81 = .ok (.lastore, 1) := by decide +kernel
theorem dX7_findLeast_82 : decode cX7_findLeast 82 = .ok (.aload_n 0, 1) := by decide +kernel
theorem dX7_findLeast_83 : decode cX7_findLeast 83 = .ok (.getfield 24, 3) := by decide +kernel
theorem dX7_findLeast_86 : decode cX7_findLeast 86 = .ok (.iconst 2, 1) := by decide +kernel
theorem dX7_findLeast_87 : decode cX7_findLeast 87 = .ok (.aload_n 0, 1) := by decide +kernel
theorem dX7_findLeast_88 : decode cX7_findLeast 88 = .ok (.iconst 2, 1) := by decide +kernel
theorem dX7_findLeast_89 : decode cX7_findLeast 89 = .ok (.lload_n 1, 1) := by decide +kernel
theorem dX7_findLeast_90 : decode cX7_findLeast 90 = .ok (.invokevirtual 128, 3) := by decide +kernel
theorem dX7_findLeast_93 : decode cX7_findLeast 93 = .ok (.lastore, 1) := by decide +kernel
theorem dX7_findLeast_94 : decode cX7_findLeast 94 = .ok (.aload_n 0, 1) := by decide +kernel
theorem dX7_findLeast_95 : decode cX7_findLeast 95 = .ok (.aload_n 0, 1) := by decide +kernel
theorem dX7_findLeast_96 : decode cX7_findLeast 96 = .ok (.getfield 24, 3) := by decide +kernel
theorem dX7_findLeast_99 : decode cX7_findLeast 99 = .ok (.iconst 0, 1) := by decide +kernel
theorem dX7_findLeast_100 : decode cX7_findLeast 100 = .ok (.laload, 1) := by decide +kernel
theorem dX7_findLeast_101 : decode cX7_findLeast 101 = .ok (.aload_n 0, 1) := by decide +kernel
theorem dX7_findLeast_102 : decode cX7_findLeast 102 = .ok (.getfield 24, 3) := by decide +kernel
theorem dX7_findLeast_105 : decode cX7_findLeast 105 = .ok (.iconst 1, 1) := by decide +kernel
theorem dX7_findLeast_106 : decode cX7_findLeast 106 = .ok (.laload, 1) := by decide +kernel
theorem dX7_findLeast_107 : decode cX7_findLeast 107 = .ok (.aload_n 0, 1) := by decide +kernel
theorem dX7_findLeast_108 : decode cX7_findLeast 108 = .ok (.getfield 24, 3) := by decide +kernel
theorem dX7_findLeast_111 : decode cX7_findLeast 111 = .ok (.iconst 2, 1) := by decide +kernel
theorem dX7_findLeast_112 : decode cX7_findLeast 112 = .ok (.laload, 1) := by decide +kernel
theorem dX7_findLeast_113 : decode cX7_findLeast 113 = .ok (.invokevirtual 131, 3) := by decide +kernel
theorem dX7_findLeast_116 : decode cX7_findLeast 116 = .ok (.aload_n 0, 1) := by decide +kernel
theorem dX7_findLeast_117 : decode cX7_findLeast 117 = .ok (.iconst 0, 1) := by decide +kernel
theorem dX7_findLeast_118 : decode cX7_findLeast 118 = .ok (.putfield 110, 3) := by decide +kernel
theorem dX7_findLeast_121 : decode cX7_findLeast 121 = .ok (.iconst 0, 1) := by decide +kernel
theorem dX7_findLeast_122 : decode cX7_findLeast 122 = .ok (.istore_n 3, 1) := by decide +kernel
theorem dX7_findLeast_123 : decode cX7_findLeast 123 = .ok (.iload_n 3, 1) := by decide +kernel
theorem dX7_findLeast_124 : decode cX7_findLeast 124 = .ok (.aload_n 0, 1) := by decide +kernel
theorem dX7_findLeast_125 : decode cX7_findLeast 125 = .ok (.getfield 36, 3) := by decide +kernel
theorem dX7_findLeast_128 : decode cX7_findLeast 128 = .ok (.iconst 0, 1) := by decide +kernel
theorem dX7_findLeast_129 : decode cX7_findLeast 129 = .ok (.iaload, 1) := by decide +kernel
theorem dX7_findLeast_130 : decode cX7_findLeast 130 = .ok (.if_icmp .ge 72, 3) := by decide +kernel
theorem dX7_findLeast_133 : decode cX7_findLeast 133 = .ok (.iconst 0, 1) := by decide +kernel
theorem dX7_findLeast_134 : decode cX7_findLeast 134 = .ok (.istore 4, 2) := by decide +kernel
theorem dX7_findLeast_136 : decode cX7_findLeast 136 = .ok (.iload 4, 2) := by decide +kernel
theorem dX7_findLeast_138 : decode cX7_findLeast 138 = .ok (.aload_n 0, 1) := by decide +kernel
theorem dX7_findLeast_139 : decode cX7_findLeast 139 = .ok (.getfield 36, 3) := by decide +kernel
theorem dX7_findLeast_142 : decode cX7_findLeast 142 = .ok (.iconst 1, 1) := by decide +kernel
theorem dX7_findLeast_143 : decode cX7_findLeast 143 = .ok (.iaload, 1) := by decide +kernel
theorem dX7_findLeast_144 : decode cX7_findLeast 144 = .ok (.if_icmp .ge 52, 3) := by decide +kernel
theorem dX7_findLeast_147 : decode cX7_findLeast 147 = .ok (.iconst 0, 1) := by decide +kernel
theorem dX7_findLeast_148 : decode cX7_findLeast 148 = .ok (.istore 5, 2) := by decide +kernel
theorem dX7_findLeast_150 : decode cX7_findLeast 150 = .ok (.iload 5, 2) := by decide +kernel
theorem dX7_findLeast_152 : decode cX7_findLeast 152 = .ok (.aload_n 0, 1) := by decide +kernel
theorem dX7_findLeast_153 : decode cX7_findLeast 153 = .ok (.getfield 36, 3) := by decide +kernel
theorem dX7_findLeast_156 : decode cX7_findLeast 156 = .ok (.iconst 2, 1) := by decide +kernel
theorem dX7_findLeast_157 : decode cX7_findLeast 157 = .ok (.iaload, 1) := by decide +kernel
theorem dX7_findLeast_158 : decode cX7_findLeast 158 = .ok (.if_icmp .ge 32, 3) := by decide +kernel
theorem dX7_findLeast_161 : decode cX7_findLeast 161 = .ok (.aload_n 0, 1) := by decide +kernel
theorem dX7_findLeast_162 : decode cX7_findLeast 162 = .ok (.iconst 3, 1) := by decide +kernel
theorem dX7_findLeast_163 : decode cX7_findLeast 163 = .ok (.iload_n 3, 1) := by decide +kernel
theorem dX7_findLeast_164 : decode cX7_findLeast 164 = .ok (.imul, 1) := by decide +kernel
theorem dX7_findLeast_165 : decode cX7_findLeast 165 = .ok (.sipush 1800, 3) := by decide +kernel
theorem dX7_findLeast_168 : decode cX7_findLeast 168 = .ok (.iconst 3, 1) := by decide +kernel
theorem dX7_findLeast_169 : decode cX7_findLeast 169 = .ok (.iload 4, 2) := by decide +kernel
theorem dX7_findLeast_171 : decode cX7_findLeast 171 = .ok (.imul, 1) := by decide +kernel
theorem dX7_findLeast_172 : decode cX7_findLeast 172 = .ok (.iadd, 1) := by decide +kernel
theorem dX7_findLeast_173 : decode cX7_findLeast 173 = .ok (.sipush 3600, 3) := by decide +kernel
theorem dX7_findLeast_176 : decode cX7_findLeast 176 = .ok (.iconst 3, 1) := by decide +kernel
theorem dX7_findLeast_177 : decode cX7_findLeast 177 = .ok (.iload 5, 2) := by decide +kernel
theorem dX7_findLeast_179 : decode cX7_findLeast 179 = .ok (.imul, 1) := by decide +kernel
theorem dX7_findLeast_180 : decode cX7_findLeast 180 = .ok (.iadd, 1) := by decide +kernel
theorem dX7_findLeast_181 : decode cX7_findLeast 181 = .ok (.invokevirtual 135, 3) := by decide +kernel
theorem dX7_findLeast_184 : decode cX7_findLeast 184 = .ok (.iinc 5 1, 3) := by decide +kernel
theorem dX7_findLeast_187 : decode cX7_findLeast 187 = .ok (.goto (-37), 3) := by decide +kernel
theorem dX7_findLeast_190 : decode cX7_findLeast 190 = .ok (.iinc 4 1, 3) := by decide +kernel
theorem dX7_findLeast_193 : decode cX7_findLeast 193 = .ok (.goto (-57), 3) := by decide +kernel
theorem dX7_findLeast_196 : decode cX7_findLeast 196 = .ok (.iinc 3 1, 3) := by decide +kernel
theorem dX7_findLeast_199 : decode cX7_findLeast 199 = .ok (.goto (-76), 3) := by decide +kernel
theorem dX7_findLeast_202 : decode cX7_findLeast 202 = .ok (.return_, 1) := by decide +kernel
theorem dX7_findLeastOf_0 : decode cX7_findLeastOf 0 = .ok (.aload_n 0, 1) := by decide +kernel
theorem dX7_findLeastOf_1 : decode cX7_findLeastOf 1 = .ok (.iload_n 1, 1) := by decide +kernel
theorem dX7_findLeastOf_2 : decode cX7_findLeastOf 2 = .ok (.invokevirtual 138, 3) := by decide +kernel
theorem dX7_findLeastOf_5 : decode cX7_findLeastOf 5 = .ok (.aload_n 0, 1) := by decide +kernel
theorem dX7_findLeastOf_6 : decode cX7_findLeastOf 6 = .ok (.invokevirtual 142, 3) := by decide +kernel
theorem dX7_findLeastOf_9 : decode cX7_findLeastOf 9 = .ok (.return_, 1) := by decide +kernel
theorem dX7_fits_0 : decode cX7_fits 0 = .ok (.iload_n 0, 1) := by decide +kernel
theorem dX7_fits_1 : decode cX7_fits 1 = .ok (.i2l, 1) := by decide +kernel
theorem dX7_fits_2 : decode cX7_fits 2 = .ok (.lconst 1, 1) := by decide +kernel
theorem dX7_fits_3 : decode cX7_fits 3 = .ok (.ldc2_w 145, 3) := by decide +kernel
theorem dX7_fits_6 : decode cX7_fits 6 = .ok (.invokestatic 147, 3) := by decide +kernel
theorem dX7_fits_9 : decode cX7_fits 9 = .ok (.ifCond .eq 75, 3) := by decide +kernel
theorem dX7_fits_12 : decode cX7_fits 12 = .ok (.iload_n 1, 1) := by decide +kernel
theorem dX7_fits_13 : decode cX7_fits 13 = .ok (.i2l, 1) := by decide +kernel
theorem dX7_fits_14 : decode cX7_fits 14 = .ok (.lconst 1, 1) := by decide +kernel
theorem dX7_fits_15 : decode cX7_fits 15 = .ok (.ldc2_w 145, 3) := by decide +kernel
theorem dX7_fits_18 : decode cX7_fits 18 = .ok (.invokestatic 147, 3) := by decide +kernel
theorem dX7_fits_21 : decode cX7_fits 21 = .ok (.ifCond .eq 63, 3) := by decide +kernel
theorem dX7_fits_24 : decode cX7_fits 24 = .ok (.iload_n 2, 1) := by decide +kernel
theorem dX7_fits_25 : decode cX7_fits 25 = .ok (.i2l, 1) := by decide +kernel
theorem dX7_fits_26 : decode cX7_fits 26 = .ok (.lconst 1, 1) := by decide +kernel
theorem dX7_fits_27 : decode cX7_fits 27 = .ok (.ldc2_w 145, 3) := by decide +kernel
theorem dX7_fits_30 : decode cX7_fits 30 = .ok (.invokestatic 147, 3) := by decide +kernel
theorem dX7_fits_33 : decode cX7_fits 33 = .ok (.ifCond .eq 51, 3) := by decide +kernel
theorem dX7_fits_36 : decode cX7_fits 36 = .ok (.iload_n 3, 1) := by decide +kernel
theorem dX7_fits_37 : decode cX7_fits 37 = .ok (.i2l, 1) := by decide +kernel
theorem dX7_fits_38 : decode cX7_fits 38 = .ok (.ldc2_w 151, 3) := by decide +kernel
theorem dX7_fits_41 : decode cX7_fits 41 = .ok (.ldc2_w 145, 3) := by decide +kernel
theorem dX7_fits_44 : decode cX7_fits 44 = .ok (.invokestatic 147, 3) := by decide +kernel
theorem dX7_fits_47 : decode cX7_fits 47 = .ok (.ifCond .eq 37, 3) := by decide +kernel
theorem dX7_fits_50 : decode cX7_fits 50 = .ok (.iload 4, 2) := by decide +kernel
theorem dX7_fits_52 : decode cX7_fits 52 = .ok (.i2l, 1) := by decide +kernel
theorem dX7_fits_53 : decode cX7_fits 53 = .ok (.ldc2_w 151, 3) := by decide +kernel
theorem dX7_fits_56 : decode cX7_fits 56 = .ok (.ldc2_w 145, 3) := by decide +kernel
theorem dX7_fits_59 : decode cX7_fits 59 = .ok (.invokestatic 147, 3) := by decide +kernel
theorem dX7_fits_62 : decode cX7_fits 62 = .ok (.ifCond .eq 22, 3) := by decide +kernel
theorem dX7_fits_65 : decode cX7_fits 65 = .ok (.iload 5, 2) := by decide +kernel
theorem dX7_fits_67 : decode cX7_fits 67 = .ok (.i2l, 1) := by decide +kernel
theorem dX7_fits_68 : decode cX7_fits 68 = .ok (.ldc2_w 151, 3) := by decide +kernel
theorem dX7_fits_71 : decode cX7_fits 71 = .ok (.ldc2_w 145, 3) := by decide +kernel
theorem dX7_fits_74 : decode cX7_fits 74 = .ok (.invokestatic 147, 3) := by decide +kernel
theorem dX7_fits_77 : decode cX7_fits 77 = .ok (.ifCond .eq 7, 3) := by decide +kernel
theorem dX7_fits_80 : decode cX7_fits 80 = .ok (.iconst 1, 1) := by decide +kernel
theorem dX7_fits_81 : decode cX7_fits 81 = .ok (.goto 4, 3) := by decide +kernel
theorem dX7_fits_84 : decode cX7_fits 84 = .ok (.iconst 0, 1) := by decide +kernel
theorem dX7_fits_85 : decode cX7_fits 85 = .ok (.istore 6, 2) := by decide +kernel
theorem dX7_fits_87 : decode cX7_fits 87 = .ok (.iload 6, 2) := by decide +kernel
theorem dX7_fits_89 : decode cX7_fits 89 = .ok (.ifCond .eq 61, 3) := by decide +kernel
theorem dX7_fits_92 : decode cX7_fits 92 = .ok (.iconst 4, 1) := by decide +kernel
theorem dX7_fits_93 : decode cX7_fits 93 = .ok (.iload_n 0, 1) := by decide +kernel
theorem dX7_fits_94 : decode cX7_fits 94 = .ok (.imul, 1) := by decide +kernel
theorem dX7_fits_95 : decode cX7_fits 95 = .ok (.iload_n 1, 1) := by decide +kernel
theorem dX7_fits_96 : decode cX7_fits 96 = .ok (.imul, 1) := by decide +kernel
theorem dX7_fits_97 : decode cX7_fits 97 = .ok (.iload 5, 2) := by decide +kernel
theorem dX7_fits_99 : decode cX7_fits 99 = .ok (.iload 5, 2) := by decide +kernel
theorem dX7_fits_101 : decode cX7_fits 101 = .ok (.imul, 1) := by decide +kernel
theorem dX7_fits_102 : decode cX7_fits 102 = .ok (.isub, 1) := by decide +kernel
theorem dX7_fits_103 : decode cX7_fits 103 = .ok (.ifCond .le 47, 3) := by decide +kernel
theorem dX7_fits_106 : decode cX7_fits 106 = .ok (.iconst 4, 1) := by decide +kernel
theorem dX7_fits_107 : decode cX7_fits 107 = .ok (.iload_n 0, 1) := by decide +kernel
theorem dX7_fits_108 : decode cX7_fits 108 = .ok (.imul, 1) := by decide +kernel
theorem dX7_fits_109 : decode cX7_fits 109 = .ok (.iload_n 1, 1) := by decide +kernel
theorem dX7_fits_110 : decode cX7_fits 110 = .ok (.imul, 1) := by decide +kernel
theorem dX7_fits_111 : decode cX7_fits 111 = .ok (.iload_n 2, 1) := by decide +kernel
theorem dX7_fits_112 : decode cX7_fits 112 = .ok (.imul, 1) := by decide +kernel
theorem dX7_fits_113 : decode cX7_fits 113 = .ok (.iload_n 3, 1) := by decide +kernel
theorem dX7_fits_114 : decode cX7_fits 114 = .ok (.iload 4, 2) := by decide +kernel
theorem dX7_fits_116 : decode cX7_fits 116 = .ok (.imul, 1) := by decide +kernel
theorem dX7_fits_117 : decode cX7_fits 117 = .ok (.iload 5, 2) := by decide +kernel
theorem dX7_fits_119 : decode cX7_fits 119 = .ok (.imul, 1) := by decide +kernel
theorem dX7_fits_120 : decode cX7_fits 120 = .ok (.iadd, 1) := by decide +kernel
theorem dX7_fits_121 : decode cX7_fits 121 = .ok (.iload_n 0, 1) := by decide +kernel
theorem dX7_fits_122 : decode cX7_fits 122 = .ok (.iload_n 3, 1) := by decide +kernel
theorem dX7_fits_123 : decode cX7_fits 123 = .ok (.imul, 1) := by decide +kernel
theorem dX7_fits_124 : decode cX7_fits 124 = .ok (.iload_n 3, 1) := by decide +kernel
theorem dX7_fits_125 : decode cX7_fits 125 = .ok (.imul, 1) := by decide +kernel
theorem dX7_fits_126 : decode cX7_fits 126 = .ok (.isub, 1) := by decide +kernel
theorem dX7_fits_127 : decode cX7_fits 127 = .ok (.iload_n 1, 1) := by decide +kernel
theorem dX7_fits_128 : decode cX7_fits 128 = .ok (.iload 4, 2) := by decide +kernel
theorem dX7_fits_130 : decode cX7_fits 130 = .ok (.imul, 1) := by decide +kernel
theorem dX7_fits_131 : decode cX7_fits 131 = .ok (.iload 4, 2) := by decide +kernel
theorem dX7_fits_133 : decode cX7_fits 133 = .ok (.imul, 1) := by decide +kernel
theorem dX7_fits_134 : decode cX7_fits 134 = .ok (.isub, 1) := by decide +kernel
theorem dX7_fits_135 : decode cX7_fits 135 = .ok (.iload_n 2, 1) := by decide +kernel
theorem dX7_fits_136 : decode cX7_fits 136 = .ok (.iload 5, 2) := by decide +kernel
theorem dX7_fits_138 : decode cX7_fits 138 = .ok (.imul, 1) := by decide +kernel
theorem dX7_fits_139 : decode cX7_fits 139 = .ok (.iload 5, 2) := by decide +kernel
theorem dX7_fits_141 : decode cX7_fits 141 = .ok (.imul, 1) := by decide +kernel
theorem dX7_fits_142 : decode cX7_fits 142 = .ok (.isub, 1) := by decide +kernel
theorem dX7_fits_143 : decode cX7_fits 143 = .ok (.ifCond .le 7, 3) := by decide +kernel
theorem dX7_fits_146 : decode cX7_fits 146 = .ok (.iconst 1, 1) := by decide +kernel
theorem dX7_fits_147 : decode cX7_fits 147 = .ok (.goto 4, 3) := by decide +kernel
theorem dX7_fits_150 : decode cX7_fits 150 = .ok (.iconst 0, 1) := by decide +kernel
theorem dX7_fits_151 : decode cX7_fits 151 = .ok (.ireturn, 1) := by decide +kernel
theorem dX7_become_0 : decode cX7_become 0 = .ok (.aload_n 0, 1) := by decide +kernel
theorem dX7_become_1 : decode cX7_become 1 = .ok (.getfield 7, 3) := by decide +kernel
theorem dX7_become_4 : decode cX7_become 4 = .ok (.bipush 6, 2) := by decide +kernel
theorem dX7_become_6 : decode cX7_become 6 = .ok (.iload_n 1, 1) := by decide +kernel
theorem dX7_become_7 : decode cX7_become 7 = .ok (.imul, 1) := by decide +kernel
theorem dX7_become_8 : decode cX7_become 8 = .ok (.iload_n 2, 1) := by decide +kernel
theorem dX7_become_9 : decode cX7_become 9 = .ok (.iastore, 1) := by decide +kernel
theorem dX7_become_10 : decode cX7_become 10 = .ok (.aload_n 0, 1) := by decide +kernel
theorem dX7_become_11 : decode cX7_become 11 = .ok (.getfield 7, 3) := by decide +kernel
theorem dX7_become_14 : decode cX7_become 14 = .ok (.bipush 6, 2) := by decide +kernel
theorem dX7_become_16 : decode cX7_become 16 = .ok (.iload_n 1, 1) := by decide +kernel
theorem dX7_become_17 : decode cX7_become 17 = .ok (.imul, 1) := by decide +kernel
theorem dX7_become_18 : decode cX7_become 18 = .ok (.iconst 1, 1) := by decide +kernel
theorem dX7_become_19 : decode cX7_become 19 = .ok (.iadd, 1) := by decide +kernel
theorem dX7_become_20 : decode cX7_become 20 = .ok (.iload_n 3, 1) := by decide +kernel
theorem dX7_become_21 : decode cX7_become 21 = .ok (.iastore, 1) := by decide +kernel
theorem dX7_become_22 : decode cX7_become 22 = .ok (.aload_n 0, 1) := by decide +kernel
theorem dX7_become_23 : decode cX7_become 23 = .ok (.getfield 7, 3) := by decide +kernel
theorem dX7_become_26 : decode cX7_become 26 = .ok (.bipush 6, 2) := by decide +kernel
theorem dX7_become_28 : decode cX7_become 28 = .ok (.iload_n 1, 1) := by decide +kernel
theorem dX7_become_29 : decode cX7_become 29 = .ok (.imul, 1) := by decide +kernel
theorem dX7_become_30 : decode cX7_become 30 = .ok (.iconst 2, 1) := by decide +kernel
theorem dX7_become_31 : decode cX7_become 31 = .ok (.iadd, 1) := by decide +kernel
theorem dX7_become_32 : decode cX7_become 32 = .ok (.iload 4, 2) := by decide +kernel
theorem dX7_become_34 : decode cX7_become 34 = .ok (.iastore, 1) := by decide +kernel
theorem dX7_become_35 : decode cX7_become 35 = .ok (.aload_n 0, 1) := by decide +kernel
theorem dX7_become_36 : decode cX7_become 36 = .ok (.getfield 7, 3) := by decide +kernel
theorem dX7_become_39 : decode cX7_become 39 = .ok (.bipush 6, 2) := by decide +kernel
theorem dX7_become_41 : decode cX7_become 41 = .ok (.iload_n 1, 1) := by decide +kernel
theorem dX7_become_42 : decode cX7_become 42 = .ok (.imul, 1) := by decide +kernel
theorem dX7_become_43 : decode cX7_become 43 = .ok (.iconst 3, 1) := by decide +kernel
theorem dX7_become_44 : decode cX7_become 44 = .ok (.iadd, 1) := by decide +kernel
theorem dX7_become_45 : decode cX7_become 45 = .ok (.iload 5, 2) := by decide +kernel
theorem dX7_become_47 : decode cX7_become 47 = .ok (.iastore, 1) := by decide +kernel
theorem dX7_become_48 : decode cX7_become 48 = .ok (.aload_n 0, 1) := by decide +kernel
theorem dX7_become_49 : decode cX7_become 49 = .ok (.getfield 7, 3) := by decide +kernel
theorem dX7_become_52 : decode cX7_become 52 = .ok (.bipush 6, 2) := by decide +kernel
theorem dX7_become_54 : decode cX7_become 54 = .ok (.iload_n 1, 1) := by decide +kernel
theorem dX7_become_55 : decode cX7_become 55 = .ok (.imul, 1) := by decide +kernel
theorem dX7_become_56 : decode cX7_become 56 = .ok (.iconst 4, 1) := by decide +kernel
theorem dX7_become_57 : decode cX7_become 57 = .ok (.iadd, 1) := by decide +kernel
theorem dX7_become_58 : decode cX7_become 58 = .ok (.iload 6, 2) := by decide +kernel
theorem dX7_become_60 : decode cX7_become 60 = .ok (.iastore, 1) := by decide +kernel
theorem dX7_become_61 : decode cX7_become 61 = .ok (.aload_n 0, 1) := by decide +kernel
theorem dX7_become_62 : decode cX7_become 62 = .ok (.getfield 7, 3) := by decide +kernel
theorem dX7_become_65 : decode cX7_become 65 = .ok (.bipush 6, 2) := by decide +kernel
theorem dX7_become_67 : decode cX7_become 67 = .ok (.iload_n 1, 1) := by decide +kernel
theorem dX7_become_68 : decode cX7_become 68 = .ok (.imul, 1) := by decide +kernel
theorem dX7_become_69 : decode cX7_become 69 = .ok (.iconst 5, 1) := by decide +kernel
theorem dX7_become_70 : decode cX7_become 70 = .ok (.iadd, 1) := by decide +kernel
theorem dX7_become_71 : decode cX7_become 71 = .ok (.iload 7, 2) := by decide +kernel
theorem dX7_become_73 : decode cX7_become 73 = .ok (.iastore, 1) := by decide +kernel
theorem dX7_become_74 : decode cX7_become 74 = .ok (.return_, 1) := by decide +kernel
theorem dX7_form_0 : decode cX7_form 0 = .ok (.iload_n 1, 1) := by decide +kernel
theorem dX7_form_1 : decode cX7_form 1 = .ok (.iload_n 2, 1) := by decide +kernel
theorem dX7_form_2 : decode cX7_form 2 = .ok (.iload_n 3, 1) := by decide +kernel
theorem dX7_form_3 : decode cX7_form 3 = .ok (.iload 4, 2) := by decide +kernel
theorem dX7_form_5 : decode cX7_form 5 = .ok (.iload 5, 2) := by decide +kernel
theorem dX7_form_7 : decode cX7_form 7 = .ok (.iload 6, 2) := by decide +kernel
theorem dX7_form_9 : decode cX7_form 9 = .ok (.invokestatic 153, 3) := by decide +kernel
theorem dX7_form_12 : decode cX7_form 12 = .ok (.ifCond .ne 6, 3) := by decide +kernel
theorem dX7_form_15 : decode cX7_form 15 = .ok (.ldc 157, 2) := by decide +kernel
theorem dX7_form_17 : decode cX7_form 17 = .ok (.ireturn, 1) := by decide +kernel
theorem dX7_form_18 : decode cX7_form 18 = .ok (.aload_n 0, 1) := by decide +kernel
theorem dX7_form_19 : decode cX7_form 19 = .ok (.getfield 158, 3) := by decide +kernel
theorem dX7_form_22 : decode cX7_form 22 = .ok (.bipush 12, 2) := by decide +kernel
theorem dX7_form_24 : decode cX7_form 24 = .ok (.if_icmp .ne 6, 3) := by decide +kernel
theorem dX7_form_27 : decode cX7_form 27 = .ok (.ldc 161, 2) := by decide +kernel
theorem dX7_form_29 : decode cX7_form 29 = .ok (.ireturn, 1) := by decide +kernel
theorem dX7_form_30 : decode cX7_form 30 = .ok (.aload_n 0, 1) := by decide +kernel
theorem dX7_form_31 : decode cX7_form 31 = .ok (.aload_n 0, 1) := by decide +kernel
theorem dX7_form_32 : decode cX7_form 32 = .ok (.getfield 158, 3) := by decide +kernel
theorem dX7_form_35 : decode cX7_form 35 = .ok (.iload_n 1, 1) := by decide +kernel
theorem dX7_form_36 : decode cX7_form 36 = .ok (.iload_n 2, 1) := by decide +kernel
theorem dX7_form_37 : decode cX7_form 37 = .ok (.iload_n 3, 1) := by decide +kernel
theorem dX7_form_38 : decode cX7_form 38 = .ok (.iload 4, 2) := by decide +kernel
theorem dX7_form_40 : decode cX7_form 40 = .ok (.iload 5, 2) := by decide +kernel
theorem dX7_form_42 : decode cX7_form 42 = .ok (.iload 6, 2) := by decide +kernel
theorem dX7_form_44 : decode cX7_form 44 = .ok (.invokevirtual 162, 3) := by decide +kernel
theorem dX7_form_47 : decode cX7_form 47 = .ok (.aload_n 0, 1) := by decide +kernel
theorem dX7_form_48 : decode cX7_form 48 = .ok (.dup, 1) := by decide +kernel
theorem dX7_form_49 : decode cX7_form 49 = .ok (.getfield 158, 3) := by decide +kernel
theorem dX7_form_52 : decode cX7_form 52 = .ok (.iconst 1, 1) := by decide +kernel
theorem dX7_form_53 : decode cX7_form 53 = .ok (.iadd, 1) := by decide +kernel
theorem dX7_form_54 : decode cX7_form 54 = .ok (.putfield 158, 3) := by decide +kernel
theorem dX7_form_57 : decode cX7_form 57 = .ok (.aload_n 0, 1) := by decide +kernel
theorem dX7_form_58 : decode cX7_form 58 = .ok (.getfield 158, 3) := by decide +kernel
theorem dX7_form_61 : decode cX7_form 61 = .ok (.iconst 1, 1) := by decide +kernel
theorem dX7_form_62 : decode cX7_form 62 = .ok (.isub, 1) := by decide +kernel
theorem dX7_form_63 : decode cX7_form 63 = .ok (.ireturn, 1) := by decide +kernel
theorem dX7_isForm_0 : decode cX7_isForm 0 = .ok (.iload_n 1, 1) := by decide +kernel
theorem dX7_isForm_1 : decode cX7_isForm 1 = .ok (.i2l, 1) := by decide +kernel
theorem dX7_isForm_2 : decode cX7_isForm 2 = .ok (.lconst 0, 1) := by decide +kernel
theorem dX7_isForm_3 : decode cX7_isForm 3 = .ok (.aload_n 0, 1) := by decide +kernel
theorem dX7_isForm_4 : decode cX7_isForm 4 = .ok (.getfield 158, 3) := by decide +kernel
theorem dX7_isForm_7 : decode cX7_isForm 7 = .ok (.iconst 1, 1) := by decide +kernel
theorem dX7_isForm_8 : decode cX7_isForm 8 = .ok (.isub, 1) := by decide +kernel
theorem dX7_isForm_9 : decode cX7_isForm 9 = .ok (.i2l, 1) := by decide +kernel
theorem dX7_isForm_10 : decode cX7_isForm 10 = .ok (.invokestatic 147, 3) := by decide +kernel
theorem dX7_isForm_13 : decode cX7_isForm 13 = .ok (.ireturn, 1) := by decide +kernel
theorem dX7_set_0 : decode cX7_set 0 = .ok (.aload_n 0, 1) := by decide +kernel
theorem dX7_set_1 : decode cX7_set 1 = .ok (.iload_n 1, 1) := by decide +kernel
theorem dX7_set_2 : decode cX7_set 2 = .ok (.invokevirtual 166, 3) := by decide +kernel
theorem dX7_set_5 : decode cX7_set 5 = .ok (.ifCond .ne 6, 3) := by decide +kernel
theorem dX7_set_8 : decode cX7_set 8 = .ok (.ldc 170, 2) := by decide +kernel
theorem dX7_set_10 : decode cX7_set 10 = .ok (.ireturn, 1) := by decide +kernel
theorem dX7_set_11 : decode cX7_set 11 = .ok (.iload_n 2, 1) := by decide +kernel
theorem dX7_set_12 : decode cX7_set 12 = .ok (.iload_n 3, 1) := by decide +kernel
theorem dX7_set_13 : decode cX7_set 13 = .ok (.iload 4, 2) := by decide +kernel
theorem dX7_set_15 : decode cX7_set 15 = .ok (.iload 5, 2) := by decide +kernel
theorem dX7_set_17 : decode cX7_set 17 = .ok (.iload 6, 2) := by decide +kernel
theorem dX7_set_19 : decode cX7_set 19 = .ok (.iload 7, 2) := by decide +kernel
theorem dX7_set_21 : decode cX7_set 21 = .ok (.invokestatic 153, 3) := by decide +kernel
theorem dX7_set_24 : decode cX7_set 24 = .ok (.ifCond .ne 6, 3) := by decide +kernel
theorem dX7_set_27 : decode cX7_set 27 = .ok (.ldc 157, 2) := by decide +kernel
theorem dX7_set_29 : decode cX7_set 29 = .ok (.ireturn, 1) := by decide +kernel
theorem dX7_set_30 : decode cX7_set 30 = .ok (.aload_n 0, 1) := by decide +kernel
theorem dX7_set_31 : decode cX7_set 31 = .ok (.iload_n 1, 1) := by decide +kernel
theorem dX7_set_32 : decode cX7_set 32 = .ok (.iload_n 2, 1) := by decide +kernel
theorem dX7_set_33 : decode cX7_set 33 = .ok (.iload_n 3, 1) := by decide +kernel
theorem dX7_set_34 : decode cX7_set 34 = .ok (.iload 4, 2) := by decide +kernel
theorem dX7_set_36 : decode cX7_set 36 = .ok (.iload 5, 2) := by decide +kernel
theorem dX7_set_38 : decode cX7_set 38 = .ok (.iload 6, 2) := by decide +kernel
theorem dX7_set_40 : decode cX7_set 40 = .ok (.iload 7, 2) := by decide +kernel
theorem dX7_set_42 : decode cX7_set 42 = .ok (.invokevirtual 162, 3) := by decide +kernel
theorem dX7_set_45 : decode cX7_set 45 = .ok (.iconst 1, 1) := by decide +kernel
theorem dX7_set_46 : decode cX7_set 46 = .ok (.ireturn, 1) := by decide +kernel
theorem dX7_drop_0 : decode cX7_drop 0 = .ok (.aload_n 0, 1) := by decide +kernel
theorem dX7_drop_1 : decode cX7_drop 1 = .ok (.getfield 158, 3) := by decide +kernel
theorem dX7_drop_4 : decode cX7_drop 4 = .ok (.ifCond .ne 6, 3) := by decide +kernel
theorem dX7_drop_7 : decode cX7_drop 7 = .ok (.ldc 171, 2) := by decide +kernel
theorem dX7_drop_9 : decode cX7_drop 9 = .ok (.ireturn, 1) := by decide +kernel
theorem dX7_drop_10 : decode cX7_drop 10 = .ok (.aload_n 0, 1) := by decide +kernel
theorem dX7_drop_11 : decode cX7_drop 11 = .ok (.dup, 1) := by decide +kernel
theorem dX7_drop_12 : decode cX7_drop 12 = .ok (.getfield 158, 3) := by decide +kernel
theorem dX7_drop_15 : decode cX7_drop 15 = .ok (.iconst 1, 1) := by decide +kernel
theorem dX7_drop_16 : decode cX7_drop 16 = .ok (.isub, 1) := by decide +kernel
theorem dX7_drop_17 : decode cX7_drop 17 = .ok (.putfield 158, 3) := by decide +kernel
theorem dX7_drop_20 : decode cX7_drop 20 = .ok (.aload_n 0, 1) := by decide +kernel
theorem dX7_drop_21 : decode cX7_drop 21 = .ok (.getfield 158, 3) := by decide +kernel
theorem dX7_drop_24 : decode cX7_drop 24 = .ok (.ireturn, 1) := by decide +kernel
theorem dX7_told_0 : decode cX7_told 0 = .ok (.aload_n 0, 1) := by decide +kernel
theorem dX7_told_1 : decode cX7_told 1 = .ok (.iload_n 1, 1) := by decide +kernel
theorem dX7_told_2 : decode cX7_told 2 = .ok (.invokevirtual 166, 3) := by decide +kernel
theorem dX7_told_5 : decode cX7_told 5 = .ok (.ifCond .ne 6, 3) := by decide +kernel
theorem dX7_told_8 : decode cX7_told 8 = .ok (.ldc 170, 2) := by decide +kernel
theorem dX7_told_10 : decode cX7_told 10 = .ok (.ireturn, 1) := by decide +kernel
theorem dX7_told_11 : decode cX7_told 11 = .ok (.iload_n 2, 1) := by decide +kernel
theorem dX7_told_12 : decode cX7_told 12 = .ok (.i2l, 1) := by decide +kernel
theorem dX7_told_13 : decode cX7_told 13 = .ok (.lconst 0, 1) := by decide +kernel
theorem dX7_told_14 : decode cX7_told 14 = .ok (.ldc2_w 172, 3) := by decide +kernel
theorem dX7_told_17 : decode cX7_told 17 = .ok (.invokestatic 147, 3) := by decide +kernel
theorem dX7_told_20 : decode cX7_told 20 = .ok (.ifCond .ne 6, 3) := by decide +kernel
theorem dX7_told_23 : decode cX7_told 23 = .ok (.ldc 157, 2) := by decide +kernel
theorem dX7_told_25 : decode cX7_told 25 = .ok (.ireturn, 1) := by decide +kernel
theorem dX7_told_26 : decode cX7_told 26 = .ok (.aload_n 0, 1) := by decide +kernel
theorem dX7_told_27 : decode cX7_told 27 = .ok (.iload_n 1, 1) := by decide +kernel
theorem dX7_told_28 : decode cX7_told 28 = .ok (.invokevirtual 138, 3) := by decide +kernel
theorem dX7_told_31 : decode cX7_told 31 = .ok (.iload_n 2, 1) := by decide +kernel
theorem dX7_told_32 : decode cX7_told 32 = .ok (.bipush 7, 2) := by decide +kernel
theorem dX7_told_34 : decode cX7_told 34 = .ok (.if_icmp .ge 29, 3) := by decide +kernel
theorem dX7_told_37 : decode cX7_told 37 = .ok (.iload_n 2, 1) := by decide +kernel
theorem dX7_told_38 : decode cX7_told 38 = .ok (.bipush 6, 2) := by decide +kernel
theorem dX7_told_40 : decode cX7_told 40 = .ok (.if_icmp .ge 17, 3) := by decide +kernel
theorem dX7_told_43 : decode cX7_told 43 = .ok (.aload_n 0, 1) := by decide +kernel
theorem dX7_told_44 : decode cX7_told 44 = .ok (.getfield 7, 3) := by decide +kernel
theorem dX7_told_47 : decode cX7_told 47 = .ok (.bipush 6, 2) := by decide +kernel
theorem dX7_told_49 : decode cX7_told 49 = .ok (.iload_n 1, 1) := by decide +kernel
theorem dX7_told_50 : decode cX7_told 50 = .ok (.imul, 1) := by decide +kernel
theorem dX7_told_51 : decode cX7_told 51 = .ok (.iload_n 2, 1) := by decide +kernel
theorem dX7_told_52 : decode cX7_told 52 = .ok (.iadd, 1) := by decide +kernel
theorem dX7_told_53 : decode cX7_told 53 = .ok (.iaload, 1) := by decide +kernel
theorem dX7_told_54 : decode cX7_told 54 = .ok (.goto 8, 3) := by decide +kernel
theorem dX7_told_57 : decode cX7_told 57 = .ok (.aload_n 0, 1) := by decide +kernel
theorem dX7_told_58 : decode cX7_told 58 = .ok (.invokevirtual 74, 3) := by decide +kernel
theorem dX7_told_61 : decode cX7_told 61 = .ok (.l2i, 1) := by decide +kernel
theorem dX7_told_62 : decode cX7_told 62 = .ok (.ireturn, 1) := by decide +kernel
theorem dX7_told_63 : decode cX7_told 63 = .ok (.aload_n 0, 1) := by decide +kernel
theorem dX7_told_64 : decode cX7_told 64 = .ok (.invokevirtual 142, 3) := by decide +kernel
theorem dX7_told_67 : decode cX7_told 67 = .ok (.iload_n 2, 1) := by decide +kernel
theorem dX7_told_68 : decode cX7_told 68 = .ok (.bipush 13, 2) := by decide +kernel
theorem dX7_told_70 : decode cX7_told 70 = .ok (.if_icmp .ge 16, 3) := by decide +kernel
theorem dX7_told_73 : decode cX7_told 73 = .ok (.aload_n 0, 1) := by decide +kernel
theorem dX7_told_74 : decode cX7_told 74 = .ok (.getfield 24, 3) := by decide +kernel
theorem dX7_told_77 : decode cX7_told 77 = .ok (.iload_n 2, 1) := by decide +kernel
theorem dX7_told_78 : decode cX7_told 78 = .ok (.bipush 7, 2) := by decide +kernel
theorem dX7_told_80 : decode cX7_told 80 = .ok (.isub, 1) := by decide +kernel
theorem dX7_told_81 : decode cX7_told 81 = .ok (.laload, 1) := by decide +kernel
theorem dX7_told_82 : decode cX7_told 82 = .ok (.l2i, 1) := by decide +kernel
theorem dX7_told_83 : decode cX7_told 83 = .ok (.goto 7, 3) := by decide +kernel
theorem dX7_told_86 : decode cX7_told 86 = .ok (.aload_n 0, 1) := by decide +kernel
theorem dX7_told_87 : decode cX7_told 87 = .ok (.getfield 110, 3) := by decide +kernel
theorem dX7_told_90 : decode cX7_told 90 = .ok (.ireturn, 1) := by decide +kernel
theorem dX7_value_0 : decode cX7_value 0 = .ok (.aload_n 0, 1) := by decide +kernel
theorem dX7_value_1 : decode cX7_value 1 = .ok (.iload_n 1, 1) := by decide +kernel
theorem dX7_value_2 : decode cX7_value 2 = .ok (.invokevirtual 166, 3) := by decide +kernel
theorem dX7_value_5 : decode cX7_value 5 = .ok (.ifCond .ne 6, 3) := by decide +kernel
theorem dX7_value_8 : decode cX7_value 8 = .ok (.ldc 170, 2) := by decide +kernel
theorem dX7_value_10 : decode cX7_value 10 = .ok (.ireturn, 1) := by decide +kernel
theorem dX7_value_11 : decode cX7_value 11 = .ok (.iload_n 2, 1) := by decide +kernel
theorem dX7_value_12 : decode cX7_value 12 = .ok (.i2l, 1) := by decide +kernel
theorem dX7_value_13 : decode cX7_value 13 = .ok (.ldc2_w 174, 3) := by decide +kernel
theorem dX7_value_16 : decode cX7_value 16 = .ok (.ldc2_w 176, 3) := by decide +kernel
theorem dX7_value_19 : decode cX7_value 19 = .ok (.invokestatic 147, 3) := by decide +kernel
theorem dX7_value_22 : decode cX7_value 22 = .ok (.ifCond .eq 32, 3) := by decide +kernel
theorem dX7_value_25 : decode cX7_value 25 = .ok (.iload_n 3, 1) := by decide +kernel
theorem dX7_value_26 : decode cX7_value 26 = .ok (.i2l, 1) := by decide +kernel
theorem dX7_value_27 : decode cX7_value 27 = .ok (.ldc2_w 174, 3) := by decide +kernel
theorem dX7_value_30 : decode cX7_value 30 = .ok (.ldc2_w 176, 3) := by decide +kernel
theorem dX7_value_33 : decode cX7_value 33 = .ok (.invokestatic 147, 3) := by decide +kernel
theorem dX7_value_36 : decode cX7_value 36 = .ok (.ifCond .eq 18, 3) := by decide +kernel
theorem dX7_value_39 : decode cX7_value 39 = .ok (.iload 4, 2) := by decide +kernel
theorem dX7_value_41 : decode cX7_value 41 = .ok (.i2l, 1) := by decide +kernel
theorem dX7_value_42 : decode cX7_value 42 = .ok (.ldc2_w 174, 3) := by decide +kernel
theorem dX7_value_45 : decode cX7_value 45 = .ok (.ldc2_w 176, 3) := by decide +kernel
theorem dX7_value_48 : decode cX7_value 48 = .ok (.invokestatic 147, 3) := by decide +kernel
theorem dX7_value_51 : decode cX7_value 51 = .ok (.ifCond .ne 6, 3) := by decide +kernel
theorem dX7_value_54 : decode cX7_value 54 = .ok (.ldc 157, 2) := by decide +kernel
theorem dX7_value_56 : decode cX7_value 56 = .ok (.ireturn, 1) := by decide +kernel
theorem dX7_value_57 : decode cX7_value 57 = .ok (.aload_n 0, 1) := by decide +kernel
theorem dX7_value_58 : decode cX7_value 58 = .ok (.iload_n 1, 1) := by decide +kernel
theorem dX7_value_59 : decode cX7_value 59 = .ok (.invokevirtual 138, 3) := by decide +kernel
theorem dX7_value_62 : decode cX7_value 62 = .ok (.aload_n 0, 1) := by decide +kernel
theorem dX7_value_63 : decode cX7_value 63 = .ok (.iload_n 2, 1) := by decide +kernel
theorem dX7_value_64 : decode cX7_value 64 = .ok (.i2l, 1) := by decide +kernel
theorem dX7_value_65 : decode cX7_value 65 = .ok (.iload_n 3, 1) := by decide +kernel
theorem dX7_value_66 : decode cX7_value 66 = .ok (.i2l, 1) := by decide +kernel
theorem dX7_value_67 : decode cX7_value 67 = .ok (.iload 4, 2) := by decide +kernel
theorem dX7_value_69 : decode cX7_value 69 = .ok (.i2l, 1) := by decide +kernel
theorem dX7_value_70 : decode cX7_value 70 = .ok (.invokevirtual 66, 3) := by decide +kernel
theorem dX7_value_73 : decode cX7_value 73 = .ok (.l2i, 1) := by decide +kernel
theorem dX7_value_74 : decode cX7_value 74 = .ok (.ireturn, 1) := by decide +kernel
theorem dX7_takenNow_0 : decode cX7_takenNow 0 = .ok (.aload_n 0, 1) := by decide +kernel
theorem dX7_takenNow_1 : decode cX7_takenNow 1 = .ok (.iconst 0, 1) := by decide +kernel
theorem dX7_takenNow_2 : decode cX7_takenNow 2 = .ok (.iload_n 1, 1) := by decide +kernel
theorem dX7_takenNow_3 : decode cX7_takenNow 3 = .ok (.i2l, 1) := by decide +kernel
theorem dX7_takenNow_4 : decode cX7_takenNow 4 = .ok (.invokevirtual 98, 3) := by decide +kernel
theorem dX7_takenNow_7 : decode cX7_takenNow 7 = .ok (.lstore_n 2, 1) := by decide +kernel
theorem dX7_takenNow_8 : decode cX7_takenNow 8 = .ok (.aload_n 0, 1) := by decide +kernel
theorem dX7_takenNow_9 : decode cX7_takenNow 9 = .ok (.iconst 1, 1) := by decide +kernel
theorem dX7_takenNow_10 : decode cX7_takenNow 10 = .ok (.iload_n 1, 1) := by decide +kernel
theorem dX7_takenNow_11 : decode cX7_takenNow 11 = .ok (.i2l, 1) := by decide +kernel
theorem dX7_takenNow_12 : decode cX7_takenNow 12 = .ok (.invokevirtual 98, 3) := by decide +kernel
theorem dX7_takenNow_15 : decode cX7_takenNow 15 = .ok (.lstore 4, 2) := by decide +kernel
theorem dX7_takenNow_17 : decode cX7_takenNow 17 = .ok (.aload_n 0, 1) := by decide +kernel
theorem dX7_takenNow_18 : decode cX7_takenNow 18 = .ok (.iconst 2, 1) := by decide +kernel
theorem dX7_takenNow_19 : decode cX7_takenNow 19 = .ok (.iload_n 1, 1) := by decide +kernel
theorem dX7_takenNow_20 : decode cX7_takenNow 20 = .ok (.i2l, 1) := by decide +kernel
theorem dX7_takenNow_21 : decode cX7_takenNow 21 = .ok (.invokevirtual 98, 3) := by decide +kernel
theorem dX7_takenNow_24 : decode cX7_takenNow 24 = .ok (.lstore 6, 2) := by decide +kernel
theorem dX7_takenNow_26 : decode cX7_takenNow 26 = .ok (.iconst 0, 1) := by decide +kernel
theorem dX7_takenNow_27 : decode cX7_takenNow 27 = .ok (.istore 8, 2) := by decide +kernel
theorem dX7_takenNow_29 : decode cX7_takenNow 29 = .ok (.lload_n 2, 1) := by decide +kernel
theorem dX7_takenNow_30 : decode cX7_takenNow 30 = .ok (.lneg, 1) := by decide +kernel
theorem dX7_takenNow_31 : decode cX7_takenNow 31 = .ok (.lstore 9, 2) := by decide +kernel
theorem dX7_takenNow_33 : decode cX7_takenNow 33 = .ok (.lload 9, 2) := by decide +kernel
theorem dX7_takenNow_35 : decode cX7_takenNow 35 = .ok (.lload_n 2, 1) := by decide +kernel
theorem dX7_takenNow_36 : decode cX7_takenNow 36 = .ok (.lcmp, 1) := by decide +kernel
theorem dX7_takenNow_37 : decode cX7_takenNow 37 = .ok (.ifCond .gt 82, 3) := by decide +kernel
theorem dX7_takenNow_40 : decode cX7_takenNow 40 = .ok (.lload 4, 2) := by decide +kernel
theorem dX7_takenNow_42 : decode cX7_takenNow 42 = .ok (.lneg, 1) := by decide +kernel
theorem dX7_takenNow_43 : decode cX7_takenNow 43 = .ok (.lstore 11, 2) := by decide +kernel
theorem dX7_takenNow_45 : decode cX7_takenNow 45 = .ok (.lload 11, 2) := by decide +kernel
theorem dX7_takenNow_47 : decode cX7_takenNow 47 = .ok (.lload 4, 2) := by decide +kernel
theorem dX7_takenNow_49 : decode cX7_takenNow 49 = .ok (.lcmp, 1) := by decide +kernel
theorem dX7_takenNow_50 : decode cX7_takenNow 50 = .ok (.ifCond .gt 60, 3) := by decide +kernel
theorem dX7_takenNow_53 : decode cX7_takenNow 53 = .ok (.lload 6, 2) := by decide +kernel
theorem dX7_takenNow_55 : decode cX7_takenNow 55 = .ok (.lneg, 1) := by decide +kernel
theorem dX7_takenNow_56 : decode cX7_takenNow 56 = .ok (.lstore 13, 2) := by decide +kernel
theorem dX7_takenNow_58 : decode cX7_takenNow 58 = .ok (.lload 13, 2) := by decide +kernel
theorem dX7_takenNow_60 : decode cX7_takenNow 60 = .ok (.lload 6, 2) := by decide +kernel
theorem dX7_takenNow_62 : decode cX7_takenNow 62 = .ok (.lcmp, 1) := by decide +kernel
theorem dX7_takenNow_63 : decode cX7_takenNow 63 = .ok (.ifCond .gt 38, 3) := by decide +kernel
theorem dX7_takenNow_66 : decode cX7_takenNow 66 = .ok (.iload 8, 2) := by decide +kernel
theorem dX7_takenNow_68 : decode cX7_takenNow 68 = .ok (.aload_n 0, 1) := by decide +kernel
theorem dX7_takenNow_69 : decode cX7_takenNow 69 = .ok (.lload 9, 2) := by decide +kernel
theorem dX7_takenNow_71 : decode cX7_takenNow 71 = .ok (.lload 11, 2) := by decide +kernel
theorem dX7_takenNow_73 : decode cX7_takenNow 73 = .ok (.lload 13, 2) := by decide +kernel
theorem dX7_takenNow_75 : decode cX7_takenNow 75 = .ok (.invokevirtual 66, 3) := by decide +kernel
theorem dX7_takenNow_78 : decode cX7_takenNow 78 = .ok (.iload_n 1, 1) := by decide +kernel
theorem dX7_takenNow_79 : decode cX7_takenNow 79 = .ok (.i2l, 1) := by decide +kernel
theorem dX7_takenNow_80 : decode cX7_takenNow 80 = .ok (.lcmp, 1) := by decide +kernel
theorem dX7_takenNow_81 : decode cX7_takenNow 81 = .ok (.ifCond .ne 7, 3) := by decide +kernel
theorem dX7_takenNow_84 : decode cX7_takenNow 84 = .ok (.iconst 1, 1) := by decide +kernel
theorem dX7_takenNow_85 : decode cX7_takenNow 85 = .ok (.goto 4, 3) := by decide +kernel
theorem dX7_takenNow_88 : decode cX7_takenNow 88 = .ok (.iconst 0, 1) := by decide +kernel
theorem dX7_takenNow_89 : decode cX7_takenNow 89 = .ok (.iadd, 1) := by decide +kernel
theorem dX7_takenNow_90 : decode cX7_takenNow 90 = .ok (.istore 8, 2) := by decide +kernel
theorem dX7_takenNow_92 : decode cX7_takenNow 92 = .ok (.lload 13, 2) := by decide +kernel
theorem dX7_takenNow_94 : decode cX7_takenNow 94 = .ok (.lconst 1, 1) := by decide +kernel
theorem dX7_takenNow_95 : decode cX7_takenNow 95 = .ok (.ladd, 1) := by decide +kernel
theorem dX7_takenNow_96 : decode cX7_takenNow 96 = .ok (.lstore 13, 2) := by decide +kernel
theorem dX7_takenNow_98 : decode cX7_takenNow 98 = .ok (.goto (-40), 3) := by decide +kernel
theorem dX7_takenNow_101 : decode cX7_takenNow 101 = .ok (.lload 11, 2) := by decide +kernel
theorem dX7_takenNow_103 : decode cX7_takenNow 103 = .ok (.lconst 1, 1) := by decide +kernel
theorem dX7_takenNow_104 : decode cX7_takenNow 104 = .ok (.ladd, 1) := by decide +kernel
theorem dX7_takenNow_105 : decode cX7_takenNow 105 = .ok (.lstore 11, 2) := by decide +kernel
theorem dX7_takenNow_107 : decode cX7_takenNow 107 = .ok (.goto (-62), 3) := by decide +kernel
theorem dX7_takenNow_110 : decode cX7_takenNow 110 = .ok (.lload 9, 2) := by decide +kernel
theorem dX7_takenNow_112 : decode cX7_takenNow 112 = .ok (.lconst 1, 1) := by decide +kernel
theorem dX7_takenNow_113 : decode cX7_takenNow 113 = .ok (.ladd, 1) := by decide +kernel
theorem dX7_takenNow_114 : decode cX7_takenNow 114 = .ok (.lstore 9, 2) := by decide +kernel
theorem dX7_takenNow_116 : decode cX7_takenNow 116 = .ok (.goto (-83), 3) := by decide +kernel
theorem dX7_takenNow_119 : decode cX7_takenNow 119 = .ok (.iload 8, 2) := by decide +kernel
theorem dX7_takenNow_121 : decode cX7_takenNow 121 = .ok (.ireturn, 1) := by decide +kernel
theorem dX7_taken_0 : decode cX7_taken 0 = .ok (.aload_n 0, 1) := by decide +kernel
theorem dX7_taken_1 : decode cX7_taken 1 = .ok (.iload_n 1, 1) := by decide +kernel
theorem dX7_taken_2 : decode cX7_taken 2 = .ok (.invokevirtual 166, 3) := by decide +kernel
theorem dX7_taken_5 : decode cX7_taken 5 = .ok (.ifCond .ne 6, 3) := by decide +kernel
theorem dX7_taken_8 : decode cX7_taken 8 = .ok (.ldc 170, 2) := by decide +kernel
theorem dX7_taken_10 : decode cX7_taken 10 = .ok (.ireturn, 1) := by decide +kernel
theorem dX7_taken_11 : decode cX7_taken 11 = .ok (.iload_n 2, 1) := by decide +kernel
theorem dX7_taken_12 : decode cX7_taken 12 = .ok (.i2l, 1) := by decide +kernel
theorem dX7_taken_13 : decode cX7_taken 13 = .ok (.lconst 0, 1) := by decide +kernel
theorem dX7_taken_14 : decode cX7_taken 14 = .ok (.ldc2_w 178, 3) := by decide +kernel
theorem dX7_taken_17 : decode cX7_taken 17 = .ok (.invokestatic 147, 3) := by decide +kernel
theorem dX7_taken_20 : decode cX7_taken 20 = .ok (.ifCond .ne 6, 3) := by decide +kernel
theorem dX7_taken_23 : decode cX7_taken 23 = .ok (.ldc 157, 2) := by decide +kernel
theorem dX7_taken_25 : decode cX7_taken 25 = .ok (.ireturn, 1) := by decide +kernel
theorem dX7_taken_26 : decode cX7_taken 26 = .ok (.aload_n 0, 1) := by decide +kernel
theorem dX7_taken_27 : decode cX7_taken 27 = .ok (.iload_n 1, 1) := by decide +kernel
theorem dX7_taken_28 : decode cX7_taken 28 = .ok (.invokevirtual 138, 3) := by decide +kernel
theorem dX7_taken_31 : decode cX7_taken 31 = .ok (.aload_n 0, 1) := by decide +kernel
theorem dX7_taken_32 : decode cX7_taken 32 = .ok (.invokevirtual 125, 3) := by decide +kernel
theorem dX7_taken_35 : decode cX7_taken 35 = .ok (.aload_n 0, 1) := by decide +kernel
theorem dX7_taken_36 : decode cX7_taken 36 = .ok (.iload_n 2, 1) := by decide +kernel
theorem dX7_taken_37 : decode cX7_taken 37 = .ok (.invokevirtual 180, 3) := by decide +kernel
theorem dX7_taken_40 : decode cX7_taken 40 = .ok (.ireturn, 1) := by decide +kernel
theorem dX7_least_0 : decode cX7_least 0 = .ok (.aload_n 0, 1) := by decide +kernel
theorem dX7_least_1 : decode cX7_least 1 = .ok (.iload_n 1, 1) := by decide +kernel
theorem dX7_least_2 : decode cX7_least 2 = .ok (.invokevirtual 166, 3) := by decide +kernel
theorem dX7_least_5 : decode cX7_least 5 = .ok (.ifCond .ne 6, 3) := by decide +kernel
theorem dX7_least_8 : decode cX7_least 8 = .ok (.ldc 170, 2) := by decide +kernel
theorem dX7_least_10 : decode cX7_least 10 = .ok (.ireturn, 1) := by decide +kernel
theorem dX7_least_11 : decode cX7_least 11 = .ok (.aload_n 0, 1) := by decide +kernel
theorem dX7_least_12 : decode cX7_least 12 = .ok (.iload_n 1, 1) := by decide +kernel
theorem dX7_least_13 : decode cX7_least 13 = .ok (.invokevirtual 184, 3) := by decide +kernel
theorem dX7_least_16 : decode cX7_least 16 = .ok (.aload_n 0, 1) := by decide +kernel
theorem dX7_least_17 : decode cX7_least 17 = .ok (.getfield 24, 3) := by decide +kernel
theorem dX7_least_20 : decode cX7_least 20 = .ok (.iconst 0, 1) := by decide +kernel
theorem dX7_least_21 : decode cX7_least 21 = .ok (.laload, 1) := by decide +kernel
theorem dX7_least_22 : decode cX7_least 22 = .ok (.l2i, 1) := by decide +kernel
theorem dX7_least_23 : decode cX7_least 23 = .ok (.ireturn, 1) := by decide +kernel
theorem dX7_same_0 : decode cX7_same 0 = .ok (.aload_n 0, 1) := by decide +kernel
theorem dX7_same_1 : decode cX7_same 1 = .ok (.iload_n 1, 1) := by decide +kernel
theorem dX7_same_2 : decode cX7_same 2 = .ok (.invokevirtual 166, 3) := by decide +kernel
theorem dX7_same_5 : decode cX7_same 5 = .ok (.ifCond .eq 11, 3) := by decide +kernel
theorem dX7_same_8 : decode cX7_same 8 = .ok (.aload_n 0, 1) := by decide +kernel
theorem dX7_same_9 : decode cX7_same 9 = .ok (.iload_n 2, 1) := by decide +kernel
theorem dX7_same_10 : decode cX7_same 10 = .ok (.invokevirtual 166, 3) := by decide +kernel
theorem dX7_same_13 : decode cX7_same 13 = .ok (.ifCond .ne 6, 3) := by decide +kernel
theorem dX7_same_16 : decode cX7_same 16 = .ok (.ldc 170, 2) := by decide +kernel
theorem dX7_same_18 : decode cX7_same 18 = .ok (.ireturn, 1) := by decide +kernel
theorem dX7_same_19 : decode cX7_same 19 = .ok (.aload_n 0, 1) := by decide +kernel
theorem dX7_same_20 : decode cX7_same 20 = .ok (.iload_n 1, 1) := by decide +kernel
theorem dX7_same_21 : decode cX7_same 21 = .ok (.invokevirtual 184, 3) := by decide +kernel
theorem dX7_same_24 : decode cX7_same 24 = .ok (.iconst 0, 1) := by decide +kernel
theorem dX7_same_25 : decode cX7_same 25 = .ok (.istore_n 3, 1) := by decide +kernel
theorem dX7_same_26 : decode cX7_same 26 = .ok (.iload_n 3, 1) := by decide +kernel
theorem dX7_same_27 : decode cX7_same 27 = .ok (.bipush 6, 2) := by decide +kernel
theorem dX7_same_29 : decode cX7_same 29 = .ok (.if_icmp .ge 21, 3) := by decide +kernel
theorem dX7_same_32 : decode cX7_same 32 = .ok (.aload_n 0, 1) := by decide +kernel
theorem dX7_same_33 : decode cX7_same 33 = .ok (.getfield 42, 3) := by decide +kernel
theorem dX7_same_36 : decode cX7_same 36 = .ok (.iload_n 3, 1) := by decide +kernel
theorem dX7_same_37 : decode cX7_same 37 = .ok (.aload_n 0, 1) := by decide +kernel
theorem dX7_same_38 : decode cX7_same 38 = .ok (.getfield 24, 3) := by decide +kernel
theorem dX7_same_41 : decode cX7_same 41 = .ok (.iload_n 3, 1) := by decide +kernel
theorem dX7_same_42 : decode cX7_same 42 = .ok (.laload, 1) := by decide +kernel
theorem dX7_same_43 : decode cX7_same 43 = .ok (.lastore, 1) := by decide +kernel
theorem dX7_same_44 : decode cX7_same 44 = .ok (.iinc 3 1, 3) := by decide +kernel
theorem dX7_same_47 : decode cX7_same 47 = .ok (.goto (-21), 3) := by decide +kernel
theorem dX7_same_50 : decode cX7_same 50 = .ok (.aload_n 0, 1) := by decide +kernel
theorem dX7_same_51 : decode cX7_same 51 = .ok (.iload_n 2, 1) := by decide +kernel
theorem dX7_same_52 : decode cX7_same 52 = .ok (.invokevirtual 184, 3) := by decide +kernel
theorem dX7_same_55 : decode cX7_same 55 = .ok (.iconst 1, 1) := by decide +kernel
theorem dX7_same_56 : decode cX7_same 56 = .ok (.istore_n 3, 1) := by decide +kernel
theorem dX7_same_57 : decode cX7_same 57 = .ok (.iconst 0, 1) := by decide +kernel
theorem dX7_same_58 : decode cX7_same 58 = .ok (.istore 4, 2) := by decide +kernel
theorem dX7_same_60 : decode cX7_same 60 = .ok (.iload 4, 2) := by decide +kernel
theorem dX7_same_62 : decode cX7_same 62 = .ok (.bipush 6, 2) := by decide +kernel
theorem dX7_same_64 : decode cX7_same 64 = .ok (.if_icmp .ge 37, 3) := by decide +kernel
theorem dX7_same_67 : decode cX7_same 67 = .ok (.iload_n 3, 1) := by decide +kernel
theorem dX7_same_68 : decode cX7_same 68 = .ok (.ifCond .eq 25, 3) := by decide +kernel
theorem dX7_same_71 : decode cX7_same 71 = .ok (.aload_n 0, 1) := by decide +kernel
theorem dX7_same_72 : decode cX7_same 72 = .ok (.getfield 42, 3) := by decide +kernel
theorem dX7_same_75 : decode cX7_same 75 = .ok (.iload 4, 2) := by decide +kernel
theorem dX7_same_77 : decode cX7_same 77 = .ok (.laload, 1) := by decide +kernel
theorem dX7_same_78 : decode cX7_same 78 = .ok (.aload_n 0, 1) := by decide +kernel
theorem dX7_same_79 : decode cX7_same 79 = .ok (.getfield 24, 3) := by decide +kernel
theorem dX7_same_82 : decode cX7_same 82 = .ok (.iload 4, 2) := by decide +kernel
theorem dX7_same_84 : decode cX7_same 84 = .ok (.laload, 1) := by decide +kernel
theorem dX7_same_85 : decode cX7_same 85 = .ok (.lcmp, 1) := by decide +kernel
theorem dX7_same_86 : decode cX7_same 86 = .ok (.ifCond .ne 7, 3) := by decide +kernel
theorem dX7_same_89 : decode cX7_same 89 = .ok (.iconst 1, 1) := by decide +kernel
theorem dX7_same_90 : decode cX7_same 90 = .ok (.goto 4, 3) := by decide +kernel
theorem dX7_same_93 : decode cX7_same 93 = .ok (.iconst 0, 1) := by decide +kernel
theorem dX7_same_94 : decode cX7_same 94 = .ok (.istore_n 3, 1) := by decide +kernel
theorem dX7_same_95 : decode cX7_same 95 = .ok (.iinc 4 1, 3) := by decide +kernel
theorem dX7_same_98 : decode cX7_same 98 = .ok (.goto (-38), 3) := by decide +kernel
theorem dX7_same_101 : decode cX7_same 101 = .ok (.iload_n 3, 1) := by decide +kernel
theorem dX7_same_102 : decode cX7_same 102 = .ok (.ifCond .eq 7, 3) := by decide +kernel
theorem dX7_same_105 : decode cX7_same 105 = .ok (.iconst 1, 1) := by decide +kernel
theorem dX7_same_106 : decode cX7_same 106 = .ok (.goto 4, 3) := by decide +kernel
theorem dX7_same_109 : decode cX7_same 109 = .ok (.iconst 0, 1) := by decide +kernel
theorem dX7_same_110 : decode cX7_same 110 = .ok (.ireturn, 1) := by decide +kernel
theorem dX7_table_0 : decode cX7_table 0 = .ok (.aload_n 0, 1) := by decide +kernel
theorem dX7_table_1 : decode cX7_table 1 = .ok (.iload_n 1, 1) := by decide +kernel
theorem dX7_table_2 : decode cX7_table 2 = .ok (.invokevirtual 166, 3) := by decide +kernel
theorem dX7_table_5 : decode cX7_table 5 = .ok (.ifCond .ne 6, 3) := by decide +kernel
theorem dX7_table_8 : decode cX7_table 8 = .ok (.ldc 170, 2) := by decide +kernel
theorem dX7_table_10 : decode cX7_table 10 = .ok (.ireturn, 1) := by decide +kernel
theorem dX7_table_11 : decode cX7_table 11 = .ok (.iload_n 2, 1) := by decide +kernel
theorem dX7_table_12 : decode cX7_table 12 = .ok (.i2l, 1) := by decide +kernel
theorem dX7_table_13 : decode cX7_table 13 = .ok (.lconst 0, 1) := by decide +kernel
theorem dX7_table_14 : decode cX7_table 14 = .ok (.ldc2_w 187, 3) := by decide +kernel
theorem dX7_table_17 : decode cX7_table 17 = .ok (.invokestatic 147, 3) := by decide +kernel
theorem dX7_table_20 : decode cX7_table 20 = .ok (.ifCond .ne 6, 3) := by decide +kernel
theorem dX7_table_23 : decode cX7_table 23 = .ok (.ldc 157, 2) := by decide +kernel
theorem dX7_table_25 : decode cX7_table 25 = .ok (.ireturn, 1) := by decide +kernel
theorem dX7_table_26 : decode cX7_table 26 = .ok (.aload_n 0, 1) := by decide +kernel
theorem dX7_table_27 : decode cX7_table 27 = .ok (.iload_n 1, 1) := by decide +kernel
theorem dX7_table_28 : decode cX7_table 28 = .ok (.invokevirtual 184, 3) := by decide +kernel
theorem dX7_table_31 : decode cX7_table 31 = .ok (.aload_n 0, 1) := by decide +kernel
theorem dX7_table_32 : decode cX7_table 32 = .ok (.getfield 27, 3) := by decide +kernel
theorem dX7_table_35 : decode cX7_table 35 = .ok (.iload_n 2, 1) := by decide +kernel
theorem dX7_table_36 : decode cX7_table 36 = .ok (.laload, 1) := by decide +kernel
theorem dX7_table_37 : decode cX7_table 37 = .ok (.l2i, 1) := by decide +kernel
theorem dX7_table_38 : decode cX7_table 38 = .ok (.ireturn, 1) := by decide +kernel
theorem dX7_turns_0 : decode cX7_turns 0 = .ok (.aload_n 0, 1) := by decide +kernel
theorem dX7_turns_1 : decode cX7_turns 1 = .ok (.iload_n 1, 1) := by decide +kernel
theorem dX7_turns_2 : decode cX7_turns 2 = .ok (.invokevirtual 166, 3) := by decide +kernel
theorem dX7_turns_5 : decode cX7_turns 5 = .ok (.ifCond .eq 11, 3) := by decide +kernel
theorem dX7_turns_8 : decode cX7_turns 8 = .ok (.aload_n 0, 1) := by decide +kernel
theorem dX7_turns_9 : decode cX7_turns 9 = .ok (.iload_n 2, 1) := by decide +kernel
theorem dX7_turns_10 : decode cX7_turns 10 = .ok (.invokevirtual 166, 3) := by decide +kernel
theorem dX7_turns_13 : decode cX7_turns 13 = .ok (.ifCond .ne 6, 3) := by decide +kernel
theorem dX7_turns_16 : decode cX7_turns 16 = .ok (.ldc 170, 2) := by decide +kernel
theorem dX7_turns_18 : decode cX7_turns 18 = .ok (.ireturn, 1) := by decide +kernel
theorem dX7_turns_19 : decode cX7_turns 19 = .ok (.iload_n 3, 1) := by decide +kernel
theorem dX7_turns_20 : decode cX7_turns 20 = .ok (.i2l, 1) := by decide +kernel
theorem dX7_turns_21 : decode cX7_turns 21 = .ok (.ldc2_w 189, 3) := by decide +kernel
theorem dX7_turns_24 : decode cX7_turns 24 = .ok (.ldc2_w 191, 3) := by decide +kernel
theorem dX7_turns_27 : decode cX7_turns 27 = .ok (.invokestatic 147, 3) := by decide +kernel
theorem dX7_turns_30 : decode cX7_turns 30 = .ok (.ifCond .eq 127, 3) := by decide +kernel
theorem dX7_turns_33 : decode cX7_turns 33 = .ok (.iload 4, 2) := by decide +kernel
theorem dX7_turns_35 : decode cX7_turns 35 = .ok (.i2l, 1) := by decide +kernel
theorem dX7_turns_36 : decode cX7_turns 36 = .ok (.ldc2_w 189, 3) := by decide +kernel
theorem dX7_turns_39 : decode cX7_turns 39 = .ok (.ldc2_w 191, 3) := by decide +kernel
theorem dX7_turns_42 : decode cX7_turns 42 = .ok (.invokestatic 147, 3) := by decide +kernel
theorem dX7_turns_45 : decode cX7_turns 45 = .ok (.ifCond .eq 112, 3) := by decide +kernel
theorem dX7_turns_48 : decode cX7_turns 48 = .ok (.iload 5, 2) := by decide +kernel
theorem dX7_turns_50 : decode cX7_turns 50 = .ok (.i2l, 1) := by decide +kernel
theorem dX7_turns_51 : decode cX7_turns 51 = .ok (.ldc2_w 189, 3) := by decide +kernel
theorem dX7_turns_54 : decode cX7_turns 54 = .ok (.ldc2_w 191, 3) := by decide +kernel
theorem dX7_turns_57 : decode cX7_turns 57 = .ok (.invokestatic 147, 3) := by decide +kernel
theorem dX7_turns_60 : decode cX7_turns 60 = .ok (.ifCond .eq 97, 3) := by decide +kernel
theorem dX7_turns_63 : decode cX7_turns 63 = .ok (.iload 6, 2) := by decide +kernel
theorem dX7_turns_65 : decode cX7_turns 65 = .ok (.i2l, 1) := by decide +kernel
theorem dX7_turns_66 : decode cX7_turns 66 = .ok (.ldc2_w 189, 3) := by decide +kernel
theorem dX7_turns_69 : decode cX7_turns 69 = .ok (.ldc2_w 191, 3) := by decide +kernel
theorem dX7_turns_72 : decode cX7_turns 72 = .ok (.invokestatic 147, 3) := by decide +kernel
theorem dX7_turns_75 : decode cX7_turns 75 = .ok (.ifCond .eq 82, 3) := by decide +kernel
theorem dX7_turns_78 : decode cX7_turns 78 = .ok (.iload 7, 2) := by decide +kernel
theorem dX7_turns_80 : decode cX7_turns 80 = .ok (.i2l, 1) := by decide +kernel
theorem dX7_turns_81 : decode cX7_turns 81 = .ok (.ldc2_w 189, 3) := by decide +kernel
theorem dX7_turns_84 : decode cX7_turns 84 = .ok (.ldc2_w 191, 3) := by decide +kernel
theorem dX7_turns_87 : decode cX7_turns 87 = .ok (.invokestatic 147, 3) := by decide +kernel
theorem dX7_turns_90 : decode cX7_turns 90 = .ok (.ifCond .eq 67, 3) := by decide +kernel
theorem dX7_turns_93 : decode cX7_turns 93 = .ok (.iload 8, 2) := by decide +kernel
theorem dX7_turns_95 : decode cX7_turns 95 = .ok (.i2l, 1) := by decide +kernel
theorem dX7_turns_96 : decode cX7_turns 96 = .ok (.ldc2_w 189, 3) := by decide +kernel
theorem dX7_turns_99 : decode cX7_turns 99 = .ok (.ldc2_w 191, 3) := by decide +kernel
theorem dX7_turns_102 : decode cX7_turns 102 = .ok (.invokestatic 147, 3) := by decide +kernel
theorem dX7_turns_105 : decode cX7_turns 105 = .ok (.ifCond .eq 52, 3) := by decide +kernel
theorem dX7_turns_108 : decode cX7_turns 108 = .ok (.iload 9, 2) := by decide +kernel
theorem dX7_turns_110 : decode cX7_turns 110 = .ok (.i2l, 1) := by decide +kernel
theorem dX7_turns_111 : decode cX7_turns 111 = .ok (.ldc2_w 189, 3) := by decide +kernel
theorem dX7_turns_114 : decode cX7_turns 114 = .ok (.ldc2_w 191, 3) := by decide +kernel
theorem dX7_turns_117 : decode cX7_turns 117 = .ok (.invokestatic 147, 3) := by decide +kernel
theorem dX7_turns_120 : decode cX7_turns 120 = .ok (.ifCond .eq 37, 3) := by decide +kernel
theorem dX7_turns_123 : decode cX7_turns 123 = .ok (.iload 10, 2) := by decide +kernel
theorem dX7_turns_125 : decode cX7_turns 125 = .ok (.i2l, 1) := by decide +kernel
theorem dX7_turns_126 : decode cX7_turns 126 = .ok (.ldc2_w 189, 3) := by decide +kernel
theorem dX7_turns_129 : decode cX7_turns 129 = .ok (.ldc2_w 191, 3) := by decide +kernel
theorem dX7_turns_132 : decode cX7_turns 132 = .ok (.invokestatic 147, 3) := by decide +kernel
theorem dX7_turns_135 : decode cX7_turns 135 = .ok (.ifCond .eq 22, 3) := by decide +kernel
theorem dX7_turns_138 : decode cX7_turns 138 = .ok (.iload 11, 2) := by decide +kernel
theorem dX7_turns_140 : decode cX7_turns 140 = .ok (.i2l, 1) := by decide +kernel
theorem dX7_turns_141 : decode cX7_turns 141 = .ok (.ldc2_w 189, 3) := by decide +kernel
theorem dX7_turns_144 : decode cX7_turns 144 = .ok (.ldc2_w 191, 3) := by decide +kernel
theorem dX7_turns_147 : decode cX7_turns 147 = .ok (.invokestatic 147, 3) := by decide +kernel
theorem dX7_turns_150 : decode cX7_turns 150 = .ok (.ifCond .eq 7, 3) := by decide +kernel
theorem dX7_turns_153 : decode cX7_turns 153 = .ok (.iconst 1, 1) := by decide +kernel
theorem dX7_turns_154 : decode cX7_turns 154 = .ok (.goto 4, 3) := by decide +kernel
theorem dX7_turns_157 : decode cX7_turns 157 = .ok (.iconst 0, 1) := by decide +kernel
theorem dX7_turns_158 : decode cX7_turns 158 = .ok (.istore 12, 2) := by decide +kernel
theorem dX7_turns_160 : decode cX7_turns 160 = .ok (.iload 12, 2) := by decide +kernel
theorem dX7_turns_162 : decode cX7_turns 162 = .ok (.ifCond .ne 6, 3) := by decide +kernel
theorem dX7_turns_165 : decode cX7_turns 165 = .ok (.ldc 157, 2) := by decide +kernel
theorem dX7_turns_167 : decode cX7_turns 167 = .ok (.ireturn, 1) := by decide +kernel
theorem dX7_turns_168 : decode cX7_turns 168 = .ok (.iload_n 3, 1) := by decide +kernel
theorem dX7_turns_169 : decode cX7_turns 169 = .ok (.iload 7, 2) := by decide +kernel
theorem dX7_turns_171 : decode cX7_turns 171 = .ok (.iload 11, 2) := by decide +kernel
theorem dX7_turns_173 : decode cX7_turns 173 = .ok (.imul, 1) := by decide +kernel
theorem dX7_turns_174 : decode cX7_turns 174 = .ok (.iload 8, 2) := by decide +kernel
theorem dX7_turns_176 : decode cX7_turns 176 = .ok (.iload 10, 2) := by decide +kernel
theorem dX7_turns_178 : decode cX7_turns 178 = .ok (.imul, 1) := by decide +kernel
theorem dX7_turns_179 : decode cX7_turns 179 = .ok (.isub, 1) := by decide +kernel
theorem dX7_turns_180 : decode cX7_turns 180 = .ok (.imul, 1) := by decide +kernel
theorem dX7_turns_181 : decode cX7_turns 181 = .ok (.iload 4, 2) := by decide +kernel
theorem dX7_turns_183 : decode cX7_turns 183 = .ok (.iload 8, 2) := by decide +kernel
theorem dX7_turns_185 : decode cX7_turns 185 = .ok (.iload 9, 2) := by decide +kernel
theorem dX7_turns_187 : decode cX7_turns 187 = .ok (.imul, 1) := by decide +kernel
theorem dX7_turns_188 : decode cX7_turns 188 = .ok (.iload 6, 2) := by decide +kernel
theorem dX7_turns_190 : decode cX7_turns 190 = .ok (.iload 11, 2) := by decide +kernel
theorem dX7_turns_192 : decode cX7_turns 192 = .ok (.imul, 1) := by decide +kernel
theorem dX7_turns_193 : decode cX7_turns 193 = .ok (.isub, 1) := by decide +kernel
theorem dX7_turns_194 : decode cX7_turns 194 = .ok (.imul, 1) := by decide +kernel
theorem dX7_turns_195 : decode cX7_turns 195 = .ok (.iadd, 1) := by decide +kernel
theorem dX7_turns_196 : decode cX7_turns 196 = .ok (.iload 5, 2) := by decide +kernel
theorem dX7_turns_198 : decode cX7_turns 198 = .ok (.iload 6, 2) := by decide +kernel
theorem dX7_turns_200 : decode cX7_turns 200 = .ok (.iload 10, 2) := by decide +kernel
theorem dX7_turns_202 : decode cX7_turns 202 = .ok (.imul, 1) := by decide +kernel
theorem dX7_turns_203 : decode cX7_turns 203 = .ok (.iload 7, 2) := by decide +kernel
theorem dX7_turns_205 : decode cX7_turns 205 = .ok (.iload 9, 2) := by decide +kernel
theorem dX7_turns_207 : decode cX7_turns 207 = .ok (.imul, 1) := by decide +kernel
theorem dX7_turns_208 : decode cX7_turns 208 = .ok (.isub, 1) := by decide +kernel
theorem dX7_turns_209 : decode cX7_turns 209 = .ok (.imul, 1) := by decide +kernel
theorem dX7_turns_210 : decode cX7_turns 210 = .ok (.iadd, 1) := by decide +kernel
theorem dX7_turns_211 : decode cX7_turns 211 = .ok (.istore 13, 2) := by decide +kernel
theorem dX7_turns_213 : decode cX7_turns 213 = .ok (.iload 13, 2) := by decide +kernel
theorem dX7_turns_215 : decode cX7_turns 215 = .ok (.iconst 1, 1) := by decide +kernel
theorem dX7_turns_216 : decode cX7_turns 216 = .ok (.if_icmp .eq 11, 3) := by decide +kernel
theorem dX7_turns_219 : decode cX7_turns 219 = .ok (.iload 13, 2) := by decide +kernel
theorem dX7_turns_221 : decode cX7_turns 221 = .ok (.iconst (-1), 1) := by decide +kernel
theorem dX7_turns_222 : decode cX7_turns 222 = .ok (.if_icmp .eq 5, 3) := by decide +kernel
theorem dX7_turns_225 : decode cX7_turns 225 = .ok (.iconst 0, 1) := by decide +kernel
theorem dX7_turns_226 : decode cX7_turns 226 = .ok (.ireturn, 1) := by decide +kernel
theorem dX7_turns_227 : decode cX7_turns 227 = .ok (.aload_n 0, 1) := by decide +kernel
theorem dX7_turns_228 : decode cX7_turns 228 = .ok (.iload_n 1, 1) := by decide +kernel
theorem dX7_turns_229 : decode cX7_turns 229 = .ok (.invokevirtual 138, 3) := by decide +kernel
theorem dX7_turns_232 : decode cX7_turns 232 = .ok (.aload_n 0, 1) := by decide +kernel
theorem dX7_turns_233 : decode cX7_turns 233 = .ok (.iload_n 3, 1) := by decide +kernel
theorem dX7_turns_234 : decode cX7_turns 234 = .ok (.i2l, 1) := by decide +kernel
theorem dX7_turns_235 : decode cX7_turns 235 = .ok (.iload 4, 2) := by decide +kernel
theorem dX7_turns_237 : decode cX7_turns 237 = .ok (.i2l, 1) := by decide +kernel
theorem dX7_turns_238 : decode cX7_turns 238 = .ok (.iload 5, 2) := by decide +kernel
theorem dX7_turns_240 : decode cX7_turns 240 = .ok (.i2l, 1) := by decide +kernel
theorem dX7_turns_241 : decode cX7_turns 241 = .ok (.invokevirtual 66, 3) := by decide +kernel
theorem dX7_turns_244 : decode cX7_turns 244 = .ok (.aload_n 0, 1) := by decide +kernel
theorem dX7_turns_245 : decode cX7_turns 245 = .ok (.getfield 7, 3) := by decide +kernel
theorem dX7_turns_248 : decode cX7_turns 248 = .ok (.bipush 6, 2) := by decide +kernel
theorem dX7_turns_250 : decode cX7_turns 250 = .ok (.iload_n 2, 1) := by decide +kernel
theorem dX7_turns_251 : decode cX7_turns 251 = .ok (.imul, 1) := by decide +kernel
theorem dX7_turns_252 : decode cX7_turns 252 = .ok (.iaload, 1) := by decide +kernel
theorem dX7_turns_253 : decode cX7_turns 253 = .ok (.i2l, 1) := by decide +kernel
theorem dX7_turns_254 : decode cX7_turns 254 = .ok (.lcmp, 1) := by decide +kernel
theorem dX7_turns_255 : decode cX7_turns 255 = .ok (.ifCond .ne 65, 3) := by decide +kernel
theorem dX7_turns_258 : decode cX7_turns 258 = .ok (.aload_n 0, 1) := by decide +kernel
theorem dX7_turns_259 : decode cX7_turns 259 = .ok (.iload 6, 2) := by decide +kernel
theorem dX7_turns_261 : decode cX7_turns 261 = .ok (.i2l, 1) := by decide +kernel
theorem dX7_turns_262 : decode cX7_turns 262 = .ok (.iload 7, 2) := by decide +kernel
theorem dX7_turns_264 : decode cX7_turns 264 = .ok (.i2l, 1) := by decide +kernel
theorem dX7_turns_265 : decode cX7_turns 265 = .ok (.iload 8, 2) := by decide +kernel
theorem dX7_turns_267 : decode cX7_turns 267 = .ok (.i2l, 1) := by decide +kernel
theorem dX7_turns_268 : decode cX7_turns 268 = .ok (.invokevirtual 66, 3) := by decide +kernel
theorem dX7_turns_271 : decode cX7_turns 271 = .ok (.aload_n 0, 1) := by decide +kernel
theorem dX7_turns_272 : decode cX7_turns 272 = .ok (.getfield 7, 3) := by decide +kernel
theorem dX7_turns_275 : decode cX7_turns 275 = .ok (.bipush 6, 2) := by decide +kernel
theorem dX7_turns_277 : decode cX7_turns 277 = .ok (.iload_n 2, 1) := by decide +kernel
theorem dX7_turns_278 : decode cX7_turns 278 = .ok (.imul, 1) := by decide +kernel
theorem dX7_turns_279 : decode cX7_turns 279 = .ok (.iconst 1, 1) := by decide +kernel
theorem dX7_turns_280 : decode cX7_turns 280 = .ok (.iadd, 1) := by decide +kernel
theorem dX7_turns_281 : decode cX7_turns 281 = .ok (.iaload, 1) := by decide +kernel
theorem dX7_turns_282 : decode cX7_turns 282 = .ok (.i2l, 1) := by decide +kernel
theorem dX7_turns_283 : decode cX7_turns 283 = .ok (.lcmp, 1) := by decide +kernel
theorem dX7_turns_284 : decode cX7_turns 284 = .ok (.ifCond .ne 36, 3) := by decide +kernel
theorem dX7_turns_287 : decode cX7_turns 287 = .ok (.aload_n 0, 1) := by decide +kernel
theorem dX7_turns_288 : decode cX7_turns 288 = .ok (.iload 9, 2) := by decide +kernel
theorem dX7_turns_290 : decode cX7_turns 290 = .ok (.i2l, 1) := by decide +kernel
theorem dX7_turns_291 : decode cX7_turns 291 = .ok (.iload 10, 2) := by decide +kernel
theorem dX7_turns_293 : decode cX7_turns 293 = .ok (.i2l, 1) := by decide +kernel
theorem dX7_turns_294 : decode cX7_turns 294 = .ok (.iload 11, 2) := by decide +kernel
theorem dX7_turns_296 : decode cX7_turns 296 = .ok (.i2l, 1) := by decide +kernel
theorem dX7_turns_297 : decode cX7_turns 297 = .ok (.invokevirtual 66, 3) := by decide +kernel
theorem dX7_turns_300 : decode cX7_turns 300 = .ok (.aload_n 0, 1) := by decide +kernel
theorem dX7_turns_301 : decode cX7_turns 301 = .ok (.getfield 7, 3) := by decide +kernel
theorem dX7_turns_304 : decode cX7_turns 304 = .ok (.bipush 6, 2) := by decide +kernel
theorem dX7_turns_306 : decode cX7_turns 306 = .ok (.iload_n 2, 1) := by decide +kernel
theorem dX7_turns_307 : decode cX7_turns 307 = .ok (.imul, 1) := by decide +kernel
theorem dX7_turns_308 : decode cX7_turns 308 = .ok (.iconst 2, 1) := by decide +kernel
theorem dX7_turns_309 : decode cX7_turns 309 = .ok (.iadd, 1) := by decide +kernel
theorem dX7_turns_310 : decode cX7_turns 310 = .ok (.iaload, 1) := by decide +kernel
theorem dX7_turns_311 : decode cX7_turns 311 = .ok (.i2l, 1) := by decide +kernel
theorem dX7_turns_312 : decode cX7_turns 312 = .ok (.lcmp, 1) := by decide +kernel
theorem dX7_turns_313 : decode cX7_turns 313 = .ok (.ifCond .ne 7, 3) := by decide +kernel
theorem dX7_turns_316 : decode cX7_turns 316 = .ok (.iconst 1, 1) := by decide +kernel
theorem dX7_turns_317 : decode cX7_turns 317 = .ok (.goto 4, 3) := by decide +kernel
theorem dX7_turns_320 : decode cX7_turns 320 = .ok (.iconst 0, 1) := by decide +kernel
theorem dX7_turns_321 : decode cX7_turns 321 = .ok (.istore 14, 2) := by decide +kernel
theorem dX7_turns_323 : decode cX7_turns 323 = .ok (.iload 14, 2) := by decide +kernel
theorem dX7_turns_325 : decode cX7_turns 325 = .ok (.ifCond .eq 119, 3) := by decide +kernel
theorem dX7_turns_328 : decode cX7_turns 328 = .ok (.aload_n 0, 1) := by decide +kernel
theorem dX7_turns_329 : decode cX7_turns 329 = .ok (.iload 6, 2) := by decide +kernel
theorem dX7_turns_331 : decode cX7_turns 331 = .ok (.i2l, 1) := by decide +kernel
theorem dX7_turns_332 : decode cX7_turns 332 = .ok (.iload 7, 2) := by decide +kernel
theorem dX7_turns_334 : decode cX7_turns 334 = .ok (.i2l, 1) := by decide +kernel
theorem dX7_turns_335 : decode cX7_turns 335 = .ok (.iload 8, 2) := by decide +kernel
theorem dX7_turns_337 : decode cX7_turns 337 = .ok (.i2l, 1) := by decide +kernel
theorem dX7_turns_338 : decode cX7_turns 338 = .ok (.iload 9, 2) := by decide +kernel
theorem dX7_turns_340 : decode cX7_turns 340 = .ok (.i2l, 1) := by decide +kernel
theorem dX7_turns_341 : decode cX7_turns 341 = .ok (.iload 10, 2) := by decide +kernel
theorem dX7_turns_343 : decode cX7_turns 343 = .ok (.i2l, 1) := by decide +kernel
theorem dX7_turns_344 : decode cX7_turns 344 = .ok (.iload 11, 2) := by decide +kernel
theorem dX7_turns_346 : decode cX7_turns 346 = .ok (.i2l, 1) := by decide +kernel
theorem dX7_turns_347 : decode cX7_turns 347 = .ok (.invokevirtual 106, 3) := by decide +kernel
theorem dX7_turns_350 : decode cX7_turns 350 = .ok (.aload_n 0, 1) := by decide +kernel
theorem dX7_turns_351 : decode cX7_turns 351 = .ok (.getfield 7, 3) := by decide +kernel
theorem dX7_turns_354 : decode cX7_turns 354 = .ok (.bipush 6, 2) := by decide +kernel
theorem dX7_turns_356 : decode cX7_turns 356 = .ok (.iload_n 2, 1) := by decide +kernel
theorem dX7_turns_357 : decode cX7_turns 357 = .ok (.imul, 1) := by decide +kernel
theorem dX7_turns_358 : decode cX7_turns 358 = .ok (.iconst 3, 1) := by decide +kernel
theorem dX7_turns_359 : decode cX7_turns 359 = .ok (.iadd, 1) := by decide +kernel
theorem dX7_turns_360 : decode cX7_turns 360 = .ok (.iaload, 1) := by decide +kernel
theorem dX7_turns_361 : decode cX7_turns 361 = .ok (.i2l, 1) := by decide +kernel
theorem dX7_turns_362 : decode cX7_turns 362 = .ok (.lcmp, 1) := by decide +kernel
theorem dX7_turns_363 : decode cX7_turns 363 = .ok (.ifCond .ne 81, 3) := by decide +kernel
theorem dX7_turns_366 : decode cX7_turns 366 = .ok (.aload_n 0, 1) := by decide +kernel
theorem dX7_turns_367 : decode cX7_turns 367 = .ok (.iload_n 3, 1) := by decide +kernel
theorem dX7_turns_368 : decode cX7_turns 368 = .ok (.i2l, 1) := by decide +kernel
theorem dX7_turns_369 : decode cX7_turns 369 = .ok (.iload 4, 2) := by decide +kernel
theorem dX7_turns_371 : decode cX7_turns 371 = .ok (.i2l, 1) := by decide +kernel
theorem dX7_turns_372 : decode cX7_turns 372 = .ok (.iload 5, 2) := by decide +kernel
theorem dX7_turns_374 : decode cX7_turns 374 = .ok (.i2l, 1) := by decide +kernel
theorem dX7_turns_375 : decode cX7_turns 375 = .ok (.iload 9, 2) := by decide +kernel
theorem dX7_turns_377 : decode cX7_turns 377 = .ok (.i2l, 1) := by decide +kernel
theorem dX7_turns_378 : decode cX7_turns 378 = .ok (.iload 10, 2) := by decide +kernel
theorem dX7_turns_380 : decode cX7_turns 380 = .ok (.i2l, 1) := by decide +kernel
theorem dX7_turns_381 : decode cX7_turns 381 = .ok (.iload 11, 2) := by decide +kernel
theorem dX7_turns_383 : decode cX7_turns 383 = .ok (.i2l, 1) := by decide +kernel
theorem dX7_turns_384 : decode cX7_turns 384 = .ok (.invokevirtual 106, 3) := by decide +kernel
theorem dX7_turns_387 : decode cX7_turns 387 = .ok (.aload_n 0, 1) := by decide +kernel
theorem dX7_turns_388 : decode cX7_turns 388 = .ok (.getfield 7, 3) := by decide +kernel
theorem dX7_turns_391 : decode cX7_turns 391 = .ok (.bipush 6, 2) := by decide +kernel
theorem dX7_turns_393 : decode cX7_turns 393 = .ok (.iload_n 2, 1) := by decide +kernel
theorem dX7_turns_394 : decode cX7_turns 394 = .ok (.imul, 1) := by decide +kernel
theorem dX7_turns_395 : decode cX7_turns 395 = .ok (.iconst 4, 1) := by decide +kernel
theorem dX7_turns_396 : decode cX7_turns 396 = .ok (.iadd, 1) := by decide +kernel
theorem dX7_turns_397 : decode cX7_turns 397 = .ok (.iaload, 1) := by decide +kernel
theorem dX7_turns_398 : decode cX7_turns 398 = .ok (.i2l, 1) := by decide +kernel
theorem dX7_turns_399 : decode cX7_turns 399 = .ok (.lcmp, 1) := by decide +kernel
theorem dX7_turns_400 : decode cX7_turns 400 = .ok (.ifCond .ne 44, 3) := by decide +kernel
theorem dX7_turns_403 : decode cX7_turns 403 = .ok (.aload_n 0, 1) := by decide +kernel
theorem dX7_turns_404 : decode cX7_turns 404 = .ok (.iload_n 3, 1) := by decide +kernel
theorem dX7_turns_405 : decode cX7_turns 405 = .ok (.i2l, 1) := by decide +kernel
theorem dX7_turns_406 : decode cX7_turns 406 = .ok (.iload 4, 2) := by decide +kernel
theorem dX7_turns_408 : decode cX7_turns 408 = .ok (.i2l, 1) := by decide +kernel
theorem dX7_turns_409 : decode cX7_turns 409 = .ok (.iload 5, 2) := by decide +kernel
theorem dX7_turns_411 : decode cX7_turns 411 = .ok (.i2l, 1) := by decide +kernel
theorem dX7_turns_412 : decode cX7_turns 412 = .ok (.iload 6, 2) := by decide +kernel
theorem dX7_turns_414 : decode cX7_turns 414 = .ok (.i2l, 1) := by decide +kernel
theorem dX7_turns_415 : decode cX7_turns 415 = .ok (.iload 7, 2) := by decide +kernel
theorem dX7_turns_417 : decode cX7_turns 417 = .ok (.i2l, 1) := by decide +kernel
theorem dX7_turns_418 : decode cX7_turns 418 = .ok (.iload 8, 2) := by decide +kernel
theorem dX7_turns_420 : decode cX7_turns 420 = .ok (.i2l, 1) := by decide +kernel
theorem dX7_turns_421 : decode cX7_turns 421 = .ok (.invokevirtual 106, 3) := by decide +kernel
theorem dX7_turns_424 : decode cX7_turns 424 = .ok (.aload_n 0, 1) := by decide +kernel
theorem dX7_turns_425 : decode cX7_turns 425 = .ok (.getfield 7, 3) := by decide +kernel
theorem dX7_turns_428 : decode cX7_turns 428 = .ok (.bipush 6, 2) := by decide +kernel
theorem dX7_turns_430 : decode cX7_turns 430 = .ok (.iload_n 2, 1) := by decide +kernel
theorem dX7_turns_431 : decode cX7_turns 431 = .ok (.imul, 1) := by decide +kernel
theorem dX7_turns_432 : decode cX7_turns 432 = .ok (.iconst 5, 1) := by decide +kernel
theorem dX7_turns_433 : decode cX7_turns 433 = .ok (.iadd, 1) := by decide +kernel
theorem dX7_turns_434 : decode cX7_turns 434 = .ok (.iaload, 1) := by decide +kernel
theorem dX7_turns_435 : decode cX7_turns 435 = .ok (.i2l, 1) := by decide +kernel
theorem dX7_turns_436 : decode cX7_turns 436 = .ok (.lcmp, 1) := by decide +kernel
theorem dX7_turns_437 : decode cX7_turns 437 = .ok (.ifCond .ne 7, 3) := by decide +kernel
theorem dX7_turns_440 : decode cX7_turns 440 = .ok (.iconst 1, 1) := by decide +kernel
theorem dX7_turns_441 : decode cX7_turns 441 = .ok (.goto 4, 3) := by decide +kernel
theorem dX7_turns_444 : decode cX7_turns 444 = .ok (.iconst 0, 1) := by decide +kernel
theorem dX7_turns_445 : decode cX7_turns 445 = .ok (.istore 14, 2) := by decide +kernel
theorem dX7_turns_447 : decode cX7_turns 447 = .ok (.iload 14, 2) := by decide +kernel
theorem dX7_turns_449 : decode cX7_turns 449 = .ok (.ifCond .eq 7, 3) := by decide +kernel
theorem dX7_turns_452 : decode cX7_turns 452 = .ok (.iconst 1, 1) := by decide +kernel
theorem dX7_turns_453 : decode cX7_turns 453 = .ok (.goto 4, 3) := by decide +kernel
theorem dX7_turns_456 : decode cX7_turns 456 = .ok (.iconst 0, 1) := by decide +kernel
theorem dX7_turns_457 : decode cX7_turns 457 = .ok (.ireturn, 1) := by decide +kernel
theorem dX7_count_0 : decode cX7_count 0 = .ok (.aload_n 0, 1) := by decide +kernel
theorem dX7_count_1 : decode cX7_count 1 = .ok (.getfield 158, 3) := by decide +kernel
theorem dX7_count_4 : decode cX7_count 4 = .ok (.ireturn, 1) := by decide +kernel
theorem dX7_prime_0 : decode cX7_prime 0 = .ok (.iload_n 1, 1) := by decide +kernel
theorem dX7_prime_1 : decode cX7_prime 1 = .ok (.iconst 3, 1) := by decide +kernel
theorem dX7_prime_2 : decode cX7_prime 2 = .ok (.if_icmp .eq 17, 3) := by decide +kernel
theorem dX7_prime_5 : decode cX7_prime 5 = .ok (.iload_n 1, 1) := by decide +kernel
theorem dX7_prime_6 : decode cX7_prime 6 = .ok (.iconst 5, 1) := by decide +kernel
theorem dX7_prime_7 : decode cX7_prime 7 = .ok (.if_icmp .eq 12, 3) := by decide +kernel
theorem dX7_prime_10 : decode cX7_prime 10 = .ok (.iload_n 1, 1) := by decide +kernel
theorem dX7_prime_11 : decode cX7_prime 11 = .ok (.bipush 7, 2) := by decide +kernel
theorem dX7_prime_13 : decode cX7_prime 13 = .ok (.if_icmp .eq 6, 3) := by decide +kernel
theorem dX7_prime_16 : decode cX7_prime 16 = .ok (.ldc 157, 2) := by decide +kernel
theorem dX7_prime_18 : decode cX7_prime 18 = .ok (.ireturn, 1) := by decide +kernel
theorem dX7_prime_19 : decode cX7_prime 19 = .ok (.aload_n 0, 1) := by decide +kernel
theorem dX7_prime_20 : decode cX7_prime 20 = .ok (.getfield 13, 3) := by decide +kernel
theorem dX7_prime_23 : decode cX7_prime 23 = .ok (.istore_n 2, 1) := by decide +kernel
theorem dX7_prime_24 : decode cX7_prime 24 = .ok (.aload_n 0, 1) := by decide +kernel
theorem dX7_prime_25 : decode cX7_prime 25 = .ok (.iload_n 1, 1) := by decide +kernel
theorem dX7_prime_26 : decode cX7_prime 26 = .ok (.putfield 13, 3) := by decide +kernel
theorem dX7_prime_29 : decode cX7_prime 29 = .ok (.iload_n 2, 1) := by decide +kernel
theorem dX7_prime_30 : decode cX7_prime 30 = .ok (.ireturn, 1) := by decide +kernel
theorem dX7_divides_0 : decode cX7_divides 0 = .ok (.aload_n 0, 1) := by decide +kernel
theorem dX7_divides_1 : decode cX7_divides 1 = .ok (.invokevirtual 74, 3) := by decide +kernel
theorem dX7_divides_4 : decode cX7_divides 4 = .ok (.aload_n 0, 1) := by decide +kernel
theorem dX7_divides_5 : decode cX7_divides 5 = .ok (.getfield 13, 3) := by decide +kernel
theorem dX7_divides_8 : decode cX7_divides 8 = .ok (.i2l, 1) := by decide +kernel
theorem dX7_divides_9 : decode cX7_divides 9 = .ok (.lrem, 1) := by decide +kernel
theorem dX7_divides_10 : decode cX7_divides 10 = .ok (.lconst 0, 1) := by decide +kernel
theorem dX7_divides_11 : decode cX7_divides 11 = .ok (.lcmp, 1) := by decide +kernel
theorem dX7_divides_12 : decode cX7_divides 12 = .ok (.ifCond .ne 7, 3) := by decide +kernel
theorem dX7_divides_15 : decode cX7_divides 15 = .ok (.iconst 1, 1) := by decide +kernel
theorem dX7_divides_16 : decode cX7_divides 16 = .ok (.goto 4, 3) := by decide +kernel
theorem dX7_divides_19 : decode cX7_divides 19 = .ok (.iconst 0, 1) := by decide +kernel
theorem dX7_divides_20 : decode cX7_divides 20 = .ok (.ireturn, 1) := by decide +kernel
theorem dX7_findLine_0 : decode cX7_findLine 0 = .ok (.iload_n 1, 1) := by decide +kernel
theorem dX7_findLine_1 : decode cX7_findLine 1 = .ok (.istore_n 2, 1) := by decide +kernel
theorem dX7_findLine_2 : decode cX7_findLine 2 = .ok (.iconst 0, 1) := by decide +kernel
theorem dX7_findLine_3 : decode cX7_findLine 3 = .ok (.istore_n 3, 1) := by decide +kernel
theorem dX7_findLine_4 : decode cX7_findLine 4 = .ok (.iconst 0, 1) := by decide +kernel
theorem dX7_findLine_5 : decode cX7_findLine 5 = .ok (.istore 4, 2) := by decide +kernel
theorem dX7_findLine_7 : decode cX7_findLine 7 = .ok (.iload 4, 2) := by decide +kernel
theorem dX7_findLine_9 : decode cX7_findLine 9 = .ok (.ifCond .ne 152, 3) := by decide +kernel
theorem dX7_findLine_12 : decode cX7_findLine 12 = .ok (.iinc 3 1, 3) := by decide +kernel
theorem dX7_findLine_15 : decode cX7_findLine 15 = .ok (.iload_n 3, 1) := by decide +kernel
theorem dX7_findLine_16 : decode cX7_findLine 16 = .ok (.aload_n 0, 1) := by decide +kernel
theorem dX7_findLine_17 : decode cX7_findLine 17 = .ok (.getfield 13, 3) := by decide +kernel
theorem dX7_findLine_20 : decode cX7_findLine 20 = .ok (.aload_n 0, 1) := by decide +kernel
theorem dX7_findLine_21 : decode cX7_findLine 21 = .ok (.getfield 13, 3) := by decide +kernel
theorem dX7_findLine_24 : decode cX7_findLine 24 = .ok (.imul, 1) := by decide +kernel
theorem dX7_findLine_25 : decode cX7_findLine 25 = .ok (.idiv, 1) := by decide +kernel
theorem dX7_findLine_26 : decode cX7_findLine 26 = .ok (.i2l, 1) := by decide +kernel
theorem dX7_findLine_27 : decode cX7_findLine 27 = .ok (.lstore 5, 2) := by decide +kernel
theorem dX7_findLine_29 : decode cX7_findLine 29 = .ok (.iload_n 3, 1) := by decide +kernel
theorem dX7_findLine_30 : decode cX7_findLine 30 = .ok (.aload_n 0, 1) := by decide +kernel
theorem dX7_findLine_31 : decode cX7_findLine 31 = .ok (.getfield 13, 3) := by decide +kernel
theorem dX7_findLine_34 : decode cX7_findLine 34 = .ok (.idiv, 1) := by decide +kernel
theorem dX7_findLine_35 : decode cX7_findLine 35 = .ok (.aload_n 0, 1) := by decide +kernel
theorem dX7_findLine_36 : decode cX7_findLine 36 = .ok (.getfield 13, 3) := by decide +kernel
theorem dX7_findLine_39 : decode cX7_findLine 39 = .ok (.irem, 1) := by decide +kernel
theorem dX7_findLine_40 : decode cX7_findLine 40 = .ok (.i2l, 1) := by decide +kernel
theorem dX7_findLine_41 : decode cX7_findLine 41 = .ok (.lstore 7, 2) := by decide +kernel
theorem dX7_findLine_43 : decode cX7_findLine 43 = .ok (.iload_n 3, 1) := by decide +kernel
theorem dX7_findLine_44 : decode cX7_findLine 44 = .ok (.aload_n 0, 1) := by decide +kernel
theorem dX7_findLine_45 : decode cX7_findLine 45 = .ok (.getfield 13, 3) := by decide +kernel
theorem dX7_findLine_48 : decode cX7_findLine 48 = .ok (.irem, 1) := by decide +kernel
theorem dX7_findLine_49 : decode cX7_findLine 49 = .ok (.i2l, 1) := by decide +kernel
theorem dX7_findLine_50 : decode cX7_findLine 50 = .ok (.lstore 9, 2) := by decide +kernel
theorem dX7_findLine_52 : decode cX7_findLine 52 = .ok (.lload 5, 2) := by decide +kernel
theorem dX7_findLine_54 : decode cX7_findLine 54 = .ok (.lconst 1, 1) := by decide +kernel
theorem dX7_findLine_55 : decode cX7_findLine 55 = .ok (.lcmp, 1) := by decide +kernel
theorem dX7_findLine_56 : decode cX7_findLine 56 = .ok (.ifCond .eq 31, 3) := by decide +kernel
theorem dX7_findLine_59 : decode cX7_findLine 59 = .ok (.lload 5, 2) := by decide +kernel
theorem dX7_findLine_61 : decode cX7_findLine 61 = .ok (.lconst 0, 1) := by decide +kernel
theorem dX7_findLine_62 : decode cX7_findLine 62 = .ok (.lcmp, 1) := by decide +kernel
theorem dX7_findLine_63 : decode cX7_findLine 63 = .ok (.ifCond .ne 28, 3) := by decide +kernel
theorem dX7_findLine_66 : decode cX7_findLine 66 = .ok (.lload 7, 2) := by decide +kernel
theorem dX7_findLine_68 : decode cX7_findLine 68 = .ok (.lconst 1, 1) := by decide +kernel
theorem dX7_findLine_69 : decode cX7_findLine 69 = .ok (.lcmp, 1) := by decide +kernel
theorem dX7_findLine_70 : decode cX7_findLine 70 = .ok (.ifCond .eq 17, 3) := by decide +kernel
theorem dX7_findLine_73 : decode cX7_findLine 73 = .ok (.lload 7, 2) := by decide +kernel
theorem dX7_findLine_75 : decode cX7_findLine 75 = .ok (.lconst 0, 1) := by decide +kernel
theorem dX7_findLine_76 : decode cX7_findLine 76 = .ok (.lcmp, 1) := by decide +kernel
theorem dX7_findLine_77 : decode cX7_findLine 77 = .ok (.ifCond .ne 14, 3) := by decide +kernel
theorem dX7_findLine_80 : decode cX7_findLine 80 = .ok (.lload 9, 2) := by decide +kernel
theorem dX7_findLine_82 : decode cX7_findLine 82 = .ok (.lconst 1, 1) := by decide +kernel
theorem dX7_findLine_83 : decode cX7_findLine 83 = .ok (.lcmp, 1) := by decide +kernel
theorem dX7_findLine_84 : decode cX7_findLine 84 = .ok (.ifCond .ne 7, 3) := by decide +kernel
theorem dX7_findLine_87 : decode cX7_findLine 87 = .ok (.iconst 1, 1) := by decide +kernel
theorem dX7_findLine_88 : decode cX7_findLine 88 = .ok (.goto 4, 3) := by decide +kernel
theorem dX7_findLine_91 : decode cX7_findLine 91 = .ok (.iconst 0, 1) := by decide +kernel
theorem dX7_findLine_92 : decode cX7_findLine 92 = .ok (.istore 11, 2) := by decide +kernel
theorem dX7_findLine_94 : decode cX7_findLine 94 = .ok (.iload 11, 2) := by decide +kernel
theorem dX7_findLine_96 : decode cX7_findLine 96 = .ok (.ifCond .eq 62, 3) := by decide +kernel
theorem dX7_findLine_99 : decode cX7_findLine 99 = .ok (.aload_n 0, 1) := by decide +kernel
theorem dX7_findLine_100 : decode cX7_findLine 100 = .ok (.lload 5, 2) := by decide +kernel
theorem dX7_findLine_102 : decode cX7_findLine 102 = .ok (.lload 7, 2) := by decide +kernel
theorem dX7_findLine_104 : decode cX7_findLine 104 = .ok (.lload 9, 2) := by decide +kernel
theorem dX7_findLine_106 : decode cX7_findLine 106 = .ok (.invokevirtual 66, 3) := by decide +kernel
theorem dX7_findLine_109 : decode cX7_findLine 109 = .ok (.aload_n 0, 1) := by decide +kernel
theorem dX7_findLine_110 : decode cX7_findLine 110 = .ok (.getfield 13, 3) := by decide +kernel
theorem dX7_findLine_113 : decode cX7_findLine 113 = .ok (.i2l, 1) := by decide +kernel
theorem dX7_findLine_114 : decode cX7_findLine 114 = .ok (.lrem, 1) := by decide +kernel
theorem dX7_findLine_115 : decode cX7_findLine 115 = .ok (.lconst 0, 1) := by decide +kernel
theorem dX7_findLine_116 : decode cX7_findLine 116 = .ok (.lcmp, 1) := by decide +kernel
theorem dX7_findLine_117 : decode cX7_findLine 117 = .ok (.ifCond .ne 41, 3) := by decide +kernel
theorem dX7_findLine_120 : decode cX7_findLine 120 = .ok (.iload_n 2, 1) := by decide +kernel
theorem dX7_findLine_121 : decode cX7_findLine 121 = .ok (.ifCond .ne 7, 3) := by decide +kernel
theorem dX7_findLine_124 : decode cX7_findLine 124 = .ok (.iconst 1, 1) := by decide +kernel
theorem dX7_findLine_125 : decode cX7_findLine 125 = .ok (.goto 4, 3) := by decide +kernel
theorem dX7_findLine_128 : decode cX7_findLine 128 = .ok (.iconst 0, 1) := by decide +kernel
theorem dX7_findLine_129 : decode cX7_findLine 129 = .ok (.istore 4, 2) := by decide +kernel
theorem dX7_findLine_131 : decode cX7_findLine 131 = .ok (.iinc 2 (-1), 3) := by decide +kernel
theorem dX7_findLine_134 : decode cX7_findLine 134 = .ok (.aload_n 0, 1) := by decide +kernel
theorem dX7_findLine_135 : decode cX7_findLine 135 = .ok (.getfield 45, 3) := by decide +kernel
theorem dX7_findLine_138 : decode cX7_findLine 138 = .ok (.iconst 0, 1) := by decide +kernel
theorem dX7_findLine_139 : decode cX7_findLine 139 = .ok (.lload 5, 2) := by decide +kernel
theorem dX7_findLine_141 : decode cX7_findLine 141 = .ok (.lastore, 1) := by decide +kernel
theorem dX7_findLine_142 : decode cX7_findLine 142 = .ok (.aload_n 0, 1) := by decide +kernel
theorem dX7_findLine_143 : decode cX7_findLine 143 = .ok (.getfield 45, 3) := by decide +kernel
theorem dX7_findLine_146 : decode cX7_findLine 146 = .ok (.iconst 1, 1) := by decide +kernel
theorem dX7_findLine_147 : decode cX7_findLine 147 = .ok (.lload 7, 2) := by decide +kernel
theorem dX7_findLine_149 : decode cX7_findLine 149 = .ok (.lastore, 1) := by decide +kernel
theorem dX7_findLine_150 : decode cX7_findLine 150 = .ok (.aload_n 0, 1) := by decide +kernel
theorem dX7_findLine_151 : decode cX7_findLine 151 = .ok (.getfield 45, 3) := by decide +kernel
theorem dX7_findLine_154 : decode cX7_findLine 154 = .ok (.iconst 2, 1) := by decide +kernel
theorem dX7_findLine_155 : decode cX7_findLine 155 = .ok (.lload 9, 2) := by decide +kernel
theorem dX7_findLine_157 : decode cX7_findLine 157 = .ok (.lastore, 1) := by decide +kernel
theorem dX7_findLine_158 : decode cX7_findLine 158 = .ok (.goto (-151), 3) := by decide +kernel
theorem dX7_findLine_161 : decode cX7_findLine 161 = .ok (.aload_n 0, 1) := by decide +kernel
theorem dX7_findLine_162 : decode cX7_findLine 162 = .ok (.iconst 0, 1) := by decide +kernel
theorem dX7_findLine_163 : decode cX7_findLine 163 = .ok (.putfield 193, 3) := by decide +kernel
theorem dX7_findLine_166 : decode cX7_findLine 166 = .ok (.aload_n 0, 1) := by decide +kernel
theorem dX7_findLine_167 : decode cX7_findLine 167 = .ok (.aload_n 0, 1) := by decide +kernel
theorem dX7_findLine_168 : decode cX7_findLine 168 = .ok (.getfield 45, 3) := by decide +kernel
theorem dX7_findLine_171 : decode cX7_findLine 171 = .ok (.iconst 0, 1) := by decide +kernel
theorem dX7_findLine_172 : decode cX7_findLine 172 = .ok (.laload, 1) := by decide +kernel
theorem dX7_findLine_173 : decode cX7_findLine 173 = .ok (.aload_n 0, 1) := by decide +kernel
theorem dX7_findLine_174 : decode cX7_findLine 174 = .ok (.getfield 45, 3) := by decide +kernel
theorem dX7_findLine_177 : decode cX7_findLine 177 = .ok (.iconst 1, 1) := by decide +kernel
theorem dX7_findLine_178 : decode cX7_findLine 178 = .ok (.laload, 1) := by decide +kernel
theorem dX7_findLine_179 : decode cX7_findLine 179 = .ok (.aload_n 0, 1) := by decide +kernel
theorem dX7_findLine_180 : decode cX7_findLine 180 = .ok (.getfield 45, 3) := by decide +kernel
theorem dX7_findLine_183 : decode cX7_findLine 183 = .ok (.iconst 2, 1) := by decide +kernel
theorem dX7_findLine_184 : decode cX7_findLine 184 = .ok (.laload, 1) := by decide +kernel
theorem dX7_findLine_185 : decode cX7_findLine 185 = .ok (.aload_n 0, 1) := by decide +kernel
theorem dX7_findLine_186 : decode cX7_findLine 186 = .ok (.getfield 193, 3) := by decide +kernel
theorem dX7_findLine_189 : decode cX7_findLine 189 = .ok (.ifCond .ne 7, 3) := by decide +kernel
theorem dX7_findLine_192 : decode cX7_findLine 192 = .ok (.lconst 1, 1) := by decide +kernel
theorem dX7_findLine_193 : decode cX7_findLine 193 = .ok (.goto 4, 3) := by decide +kernel
theorem dX7_findLine_196 : decode cX7_findLine 196 = .ok (.lconst 0, 1) := by decide +kernel
theorem dX7_findLine_197 : decode cX7_findLine 197 = .ok (.aload_n 0, 1) := by decide +kernel
theorem dX7_findLine_198 : decode cX7_findLine 198 = .ok (.getfield 193, 3) := by decide +kernel
theorem dX7_findLine_201 : decode cX7_findLine 201 = .ok (.iconst 1, 1) := by decide +kernel
theorem dX7_findLine_202 : decode cX7_findLine 202 = .ok (.if_icmp .ne 7, 3) := by decide +kernel
theorem dX7_findLine_205 : decode cX7_findLine 205 = .ok (.lconst 1, 1) := by decide +kernel
theorem dX7_findLine_206 : decode cX7_findLine 206 = .ok (.goto 4, 3) := by decide +kernel
theorem dX7_findLine_209 : decode cX7_findLine 209 = .ok (.lconst 0, 1) := by decide +kernel
theorem dX7_findLine_210 : decode cX7_findLine 210 = .ok (.aload_n 0, 1) := by decide +kernel
theorem dX7_findLine_211 : decode cX7_findLine 211 = .ok (.getfield 193, 3) := by decide +kernel
theorem dX7_findLine_214 : decode cX7_findLine 214 = .ok (.iconst 2, 1) := by decide +kernel
theorem dX7_findLine_215 : decode cX7_findLine 215 = .ok (.if_icmp .ne 7, 3) := by decide +kernel
theorem dX7_findLine_218 : decode cX7_findLine 218 = .ok (.lconst 1, 1) := by decide +kernel
theorem dX7_findLine_219 : decode cX7_findLine 219 = .ok (.goto 4, 3) := by decide +kernel
theorem dX7_findLine_222 : decode cX7_findLine 222 = .ok (.lconst 0, 1) := by decide +kernel
theorem dX7_findLine_223 : decode cX7_findLine 223 = .ok (.invokevirtual 106, 3) := by decide +kernel
theorem dX7_findLine_226 : decode cX7_findLine 226 = .ok (.aload_n 0, 1) := by decide +kernel
theorem dX7_findLine_227 : decode cX7_findLine 227 = .ok (.getfield 13, 3) := by decide +kernel
theorem dX7_findLine_230 : decode cX7_findLine 230 = .ok (.i2l, 1) := by decide +kernel
theorem dX7_findLine_231 : decode cX7_findLine 231 = .ok (.lrem, 1) := by decide +kernel
theorem dX7_findLine_232 : decode cX7_findLine 232 = .ok (.lconst 0, 1) := by decide +kernel
theorem dX7_findLine_233 : decode cX7_findLine 233 = .ok (.lcmp, 1) := by decide +kernel
theorem dX7_findLine_234 : decode cX7_findLine 234 = .ok (.ifCond .ne 16, 3) := by decide +kernel
theorem dX7_findLine_237 : decode cX7_findLine 237 = .ok (.aload_n 0, 1) := by decide +kernel
theorem dX7_findLine_238 : decode cX7_findLine 238 = .ok (.dup, 1) := by decide +kernel
theorem dX7_findLine_239 : decode cX7_findLine 239 = .ok (.getfield 193, 3) := by decide +kernel
theorem dX7_findLine_242 : decode cX7_findLine 242 = .ok (.iconst 1, 1) := by decide +kernel
theorem dX7_findLine_243 : decode cX7_findLine 243 = .ok (.iadd, 1) := by decide +kernel
theorem dX7_findLine_244 : decode cX7_findLine 244 = .ok (.putfield 193, 3) := by decide +kernel
theorem dX7_findLine_247 : decode cX7_findLine 247 = .ok (.goto (-81), 3) := by decide +kernel
theorem dX7_findLine_250 : decode cX7_findLine 250 = .ok (.aload_n 0, 1) := by decide +kernel
theorem dX7_findLine_251 : decode cX7_findLine 251 = .ok (.iconst 0, 1) := by decide +kernel
theorem dX7_findLine_252 : decode cX7_findLine 252 = .ok (.putfield 196, 3) := by decide +kernel
theorem dX7_findLine_255 : decode cX7_findLine 255 = .ok (.aload_n 0, 1) := by decide +kernel
theorem dX7_findLine_256 : decode cX7_findLine 256 = .ok (.aload_n 0, 1) := by decide +kernel
theorem dX7_findLine_257 : decode cX7_findLine 257 = .ok (.iconst 0, 1) := by decide +kernel
theorem dX7_findLine_258 : decode cX7_findLine 258 = .ok (.invokevirtual 199, 3) := by decide +kernel
theorem dX7_findLine_261 : decode cX7_findLine 261 = .ok (.aload_n 0, 1) := by decide +kernel
theorem dX7_findLine_262 : decode cX7_findLine 262 = .ok (.iconst 1, 1) := by decide +kernel
theorem dX7_findLine_263 : decode cX7_findLine 263 = .ok (.invokevirtual 199, 3) := by decide +kernel
theorem dX7_findLine_266 : decode cX7_findLine 266 = .ok (.aload_n 0, 1) := by decide +kernel
theorem dX7_findLine_267 : decode cX7_findLine 267 = .ok (.iconst 2, 1) := by decide +kernel
theorem dX7_findLine_268 : decode cX7_findLine 268 = .ok (.invokevirtual 199, 3) := by decide +kernel
theorem dX7_findLine_271 : decode cX7_findLine 271 = .ok (.invokevirtual 66, 3) := by decide +kernel
theorem dX7_findLine_274 : decode cX7_findLine 274 = .ok (.aload_n 0, 1) := by decide +kernel
theorem dX7_findLine_275 : decode cX7_findLine 275 = .ok (.getfield 13, 3) := by decide +kernel
theorem dX7_findLine_278 : decode cX7_findLine 278 = .ok (.aload_n 0, 1) := by decide +kernel
theorem dX7_findLine_279 : decode cX7_findLine 279 = .ok (.getfield 13, 3) := by decide +kernel
theorem dX7_findLine_282 : decode cX7_findLine 282 = .ok (.imul, 1) := by decide +kernel
theorem dX7_findLine_283 : decode cX7_findLine 283 = .ok (.i2l, 1) := by decide +kernel
theorem dX7_findLine_284 : decode cX7_findLine 284 = .ok (.lrem, 1) := by decide +kernel
theorem dX7_findLine_285 : decode cX7_findLine 285 = .ok (.lconst 0, 1) := by decide +kernel
theorem dX7_findLine_286 : decode cX7_findLine 286 = .ok (.lcmp, 1) := by decide +kernel
theorem dX7_findLine_287 : decode cX7_findLine 287 = .ok (.ifCond .eq 16, 3) := by decide +kernel
theorem dX7_findLine_290 : decode cX7_findLine 290 = .ok (.aload_n 0, 1) := by decide +kernel
theorem dX7_findLine_291 : decode cX7_findLine 291 = .ok (.dup, 1) := by decide +kernel
theorem dX7_findLine_292 : decode cX7_findLine 292 = .ok (.getfield 196, 3) := by decide +kernel
theorem dX7_findLine_295 : decode cX7_findLine 295 = .ok (.iconst 1, 1) := by decide +kernel
theorem dX7_findLine_296 : decode cX7_findLine 296 = .ok (.iadd, 1) := by decide +kernel
theorem dX7_findLine_297 : decode cX7_findLine 297 = .ok (.putfield 196, 3) := by decide +kernel
theorem dX7_findLine_300 : decode cX7_findLine 300 = .ok (.goto (-45), 3) := by decide +kernel
theorem dX7_findLine_303 : decode cX7_findLine 303 = .ok (.return_, 1) := by decide +kernel
theorem dX7_lined_0 : decode cX7_lined 0 = .ok (.aload_n 0, 1) := by decide +kernel
theorem dX7_lined_1 : decode cX7_lined 1 = .ok (.getfield 45, 3) := by decide +kernel
theorem dX7_lined_4 : decode cX7_lined 4 = .ok (.iload_n 1, 1) := by decide +kernel
theorem dX7_lined_5 : decode cX7_lined 5 = .ok (.laload, 1) := by decide +kernel
theorem dX7_lined_6 : decode cX7_lined 6 = .ok (.iload_n 1, 1) := by decide +kernel
theorem dX7_lined_7 : decode cX7_lined 7 = .ok (.aload_n 0, 1) := by decide +kernel
theorem dX7_lined_8 : decode cX7_lined 8 = .ok (.getfield 193, 3) := by decide +kernel
theorem dX7_lined_11 : decode cX7_lined 11 = .ok (.if_icmp .ne 17, 3) := by decide +kernel
theorem dX7_lined_14 : decode cX7_lined 14 = .ok (.aload_n 0, 1) := by decide +kernel
theorem dX7_lined_15 : decode cX7_lined 15 = .ok (.getfield 13, 3) := by decide +kernel
theorem dX7_lined_18 : decode cX7_lined 18 = .ok (.i2l, 1) := by decide +kernel
theorem dX7_lined_19 : decode cX7_lined 19 = .ok (.aload_n 0, 1) := by decide +kernel
theorem dX7_lined_20 : decode cX7_lined 20 = .ok (.getfield 196, 3) := by decide +kernel
theorem dX7_lined_23 : decode cX7_lined 23 = .ok (.i2l, 1) := by decide +kernel
theorem dX7_lined_24 : decode cX7_lined 24 = .ok (.lmul, 1) := by decide +kernel
theorem dX7_lined_25 : decode cX7_lined 25 = .ok (.goto 4, 3) := by decide +kernel
theorem dX7_lined_28 : decode cX7_lined 28 = .ok (.lconst 0, 1) := by decide +kernel
theorem dX7_lined_29 : decode cX7_lined 29 = .ok (.ladd, 1) := by decide +kernel
theorem dX7_lined_30 : decode cX7_lined 30 = .ok (.lreturn, 1) := by decide +kernel
theorem dX7_settle_0 : decode cX7_settle 0 = .ok (.iconst 0, 1) := by decide +kernel
theorem dX7_settle_1 : decode cX7_settle 1 = .ok (.istore_n 1, 1) := by decide +kernel
theorem dX7_settle_2 : decode cX7_settle 2 = .ok (.iload_n 1, 1) := by decide +kernel
theorem dX7_settle_3 : decode cX7_settle 3 = .ok (.iconst 3, 1) := by decide +kernel
theorem dX7_settle_4 : decode cX7_settle 4 = .ok (.if_icmp .ge 264, 3) := by decide +kernel
theorem dX7_settle_7 : decode cX7_settle 7 = .ok (.iconst 1, 1) := by decide +kernel
theorem dX7_settle_8 : decode cX7_settle 8 = .ok (.istore_n 2, 1) := by decide +kernel
theorem dX7_settle_9 : decode cX7_settle 9 = .ok (.iload_n 2, 1) := by decide +kernel
theorem dX7_settle_10 : decode cX7_settle 10 = .ok (.ifCond .eq 252, 3) := by decide +kernel
theorem dX7_settle_13 : decode cX7_settle 13 = .ok (.iconst (-1), 1) := by decide +kernel
theorem dX7_settle_14 : decode cX7_settle 14 = .ok (.istore_n 3, 1) := by decide +kernel
theorem dX7_settle_15 : decode cX7_settle 15 = .ok (.iload_n 1, 1) := by decide +kernel
theorem dX7_settle_16 : decode cX7_settle 16 = .ok (.istore 4, 2) := by decide +kernel
theorem dX7_settle_18 : decode cX7_settle 18 = .ok (.iload 4, 2) := by decide +kernel
theorem dX7_settle_20 : decode cX7_settle 20 = .ok (.iconst 4, 1) := by decide +kernel
theorem dX7_settle_21 : decode cX7_settle 21 = .ok (.if_icmp .ge 62, 3) := by decide +kernel
theorem dX7_settle_24 : decode cX7_settle 24 = .ok (.aload_n 0, 1) := by decide +kernel
theorem dX7_settle_25 : decode cX7_settle 25 = .ok (.getfield 48, 3) := by decide +kernel
theorem dX7_settle_28 : decode cX7_settle 28 = .ok (.iconst 3, 1) := by decide +kernel
theorem dX7_settle_29 : decode cX7_settle 29 = .ok (.iload 4, 2) := by decide +kernel
theorem dX7_settle_31 : decode cX7_settle 31 = .ok (.imul, 1) := by decide +kernel
theorem dX7_settle_32 : decode cX7_settle 32 = .ok (.iload_n 1, 1) := by decide +kernel
theorem dX7_settle_33 : decode cX7_settle 33 = .ok (.iadd, 1) := by decide +kernel
theorem dX7_settle_34 : decode cX7_settle 34 = .ok (.laload, 1) := by decide +kernel
theorem dX7_settle_35 : decode cX7_settle 35 = .ok (.invokestatic 203, 3) := by decide +kernel
theorem dX7_settle_38 : decode cX7_settle 38 = .ok (.lstore 5, 2) := by decide +kernel

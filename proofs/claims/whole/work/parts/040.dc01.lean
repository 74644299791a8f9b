theorem dX3_search_156 : decode cX3_search 156 = .ok (.if_icmp .ge 56, 3) := by decide +kernel
theorem dX3_search_159 : decode cX3_search 159 = .ok (.aload_n 0, 1) := by decide +kernel
theorem dX3_search_160 : decode cX3_search 160 = .ok (.getfield 19, 3) := by decide +kernel
theorem dX3_search_163 : decode cX3_search 163 = .ok (.iload_n 3, 1) := by decide +kernel
theorem dX3_search_164 : decode cX3_search 164 = .ok (.iaload, 1) := by decide +kernel
theorem dX3_search_165 : decode cX3_search 165 = .ok (.aload_n 0, 1) := by decide +kernel
theorem dX3_search_166 : decode cX3_search 166 = .ok (.getfield 25, 3) := by decide +kernel
theorem dX3_search_169 : decode cX3_search 169 = .ok (.iconst 2, 1) := by decide +kernel
theorem dX3_search_170 : decode cX3_search 170 = .ok (.iaload, 1) := by decide +kernel
theorem dX3_search_171 : decode cX3_search 171 = .ok (.if_icmp .ne 35, 3) := by decide +kernel
theorem dX3_search_174 : decode cX3_search 174 = .ok (.aload_n 0, 1) := by decide +kernel
theorem dX3_search_175 : decode cX3_search 175 = .ok (.getfield 16, 3) := by decide +kernel
theorem dX3_search_178 : decode cX3_search 178 = .ok (.iconst 3, 1) := by decide +kernel
theorem dX3_search_179 : decode cX3_search 179 = .ok (.iload_n 1, 1) := by decide +kernel
theorem dX3_search_180 : decode cX3_search 180 = .ok (.imul, 1) := by decide +kernel
theorem dX3_search_181 : decode cX3_search 181 = .ok (.iconst 3, 1) := by decide +kernel
theorem dX3_search_182 : decode cX3_search 182 = .ok (.iload_n 2, 1) := by decide +kernel
theorem dX3_search_183 : decode cX3_search 183 = .ok (.imul, 1) := by decide +kernel
theorem dX3_search_184 : decode cX3_search 184 = .ok (.iconst 3, 1) := by decide +kernel
theorem dX3_search_185 : decode cX3_search 185 = .ok (.iload_n 3, 1) := by decide +kernel
theorem dX3_search_186 : decode cX3_search 186 = .ok (.imul, 1) := by decide +kernel
theorem dX3_search_187 : decode cX3_search 187 = .ok (.invokestatic 77, 3) := by decide +kernel
theorem dX3_search_190 : decode cX3_search 190 = .ok (.ifCond .eq 16, 3) := by decide +kernel
theorem dX3_search_193 : decode cX3_search 193 = .ok (.aload_n 0, 1) := by decide +kernel
theorem dX3_search_194 : decode cX3_search 194 = .ok (.iconst 3, 1) := by decide +kernel
theorem dX3_search_195 : decode cX3_search 195 = .ok (.iload_n 1, 1) := by decide +kernel
theorem dX3_search_196 : decode cX3_search 196 = .ok (.imul, 1) := by decide +kernel
theorem dX3_search_197 : decode cX3_search 197 = .ok (.iconst 3, 1) := by decide +kernel
theorem dX3_search_198 : decode cX3_search 198 = .ok (.iload_n 2, 1) := by decide +kernel
theorem dX3_search_199 : decode cX3_search 199 = .ok (.imul, 1) := by decide +kernel
theorem dX3_search_200 : decode cX3_search 200 = .ok (.iconst 3, 1) := by decide +kernel
theorem dX3_search_201 : decode cX3_search 201 = .ok (.iload_n 3, 1) := by decide +kernel
theorem dX3_search_202 : decode cX3_search 202 = .ok (.imul, 1) := by decide +kernel
theorem dX3_search_203 : decode cX3_search 203 = .ok (.invokevirtual 83, 3) := by decide +kernel
theorem dX3_search_206 : decode cX3_search 206 = .ok (.iinc 3 1, 3) := by decide +kernel
theorem dX3_search_209 : decode cX3_search 209 = .ok (.goto (-71), 3) := by decide +kernel
theorem dX3_search_212 : decode cX3_search 212 = .ok (.iinc 2 1, 3) := by decide +kernel
theorem dX3_search_215 : decode cX3_search 215 = .ok (.goto (-100), 3) := by decide +kernel
theorem dX3_search_218 : decode cX3_search 218 = .ok (.iinc 1 1, 3) := by decide +kernel
theorem dX3_search_221 : decode cX3_search 221 = .ok (.goto (-114), 3) := by decide +kernel
theorem dX3_search_224 : decode cX3_search 224 = .ok (.return_, 1) := by decide +kernel
theorem dX3_consider_0 : decode cX3_consider 0 = .ok (.aload_n 0, 1) := by decide +kernel
theorem dX3_consider_1 : decode cX3_consider 1 = .ok (.getfield 7, 3) := by decide +kernel
theorem dX3_consider_4 : decode cX3_consider 4 = .ok (.aload_n 0, 1) := by decide +kernel
theorem dX3_consider_5 : decode cX3_consider 5 = .ok (.getfield 16, 3) := by decide +kernel
theorem dX3_consider_8 : decode cX3_consider 8 = .ok (.iload_n 2, 1) := by decide +kernel
theorem dX3_consider_9 : decode cX3_consider 9 = .ok (.iload_n 3, 1) := by decide +kernel
theorem dX3_consider_10 : decode cX3_consider 10 = .ok (.invokestatic 86, 3) := by decide +kernel
theorem dX3_consider_13 : decode cX3_consider 13 = .ok (.istore 4, 2) := by decide +kernel
theorem dX3_consider_15 : decode cX3_consider 15 = .ok (.aload_n 0, 1) := by decide +kernel
theorem dX3_consider_16 : decode cX3_consider 16 = .ok (.getfield 7, 3) := by decide +kernel
theorem dX3_consider_19 : decode cX3_consider 19 = .ok (.aload_n 0, 1) := by decide +kernel
theorem dX3_consider_20 : decode cX3_consider 20 = .ok (.getfield 16, 3) := by decide +kernel
theorem dX3_consider_23 : decode cX3_consider 23 = .ok (.iload_n 1, 1) := by decide +kernel
theorem dX3_consider_24 : decode cX3_consider 24 = .ok (.iload_n 3, 1) := by decide +kernel
theorem dX3_consider_25 : decode cX3_consider 25 = .ok (.invokestatic 86, 3) := by decide +kernel
theorem dX3_consider_28 : decode cX3_consider 28 = .ok (.istore 5, 2) := by decide +kernel
theorem dX3_consider_30 : decode cX3_consider 30 = .ok (.aload_n 0, 1) := by decide +kernel
theorem dX3_consider_31 : decode cX3_consider 31 = .ok (.getfield 7, 3) := by decide +kernel
theorem dX3_consider_34 : decode cX3_consider 34 = .ok (.aload_n 0, 1) := by decide +kernel
theorem dX3_consider_35 : decode cX3_consider 35 = .ok (.getfield 16, 3) := by decide +kernel
theorem dX3_consider_38 : decode cX3_consider 38 = .ok (.iload_n 1, 1) := by decide +kernel
theorem dX3_consider_39 : decode cX3_consider 39 = .ok (.iload_n 2, 1) := by decide +kernel
theorem dX3_consider_40 : decode cX3_consider 40 = .ok (.invokestatic 86, 3) := by decide +kernel
theorem dX3_consider_43 : decode cX3_consider 43 = .ok (.istore 6, 2) := by decide +kernel
theorem dX3_consider_45 : decode cX3_consider 45 = .ok (.aload_n 0, 1) := by decide +kernel
theorem dX3_consider_46 : decode cX3_consider 46 = .ok (.getfield 73, 3) := by decide +kernel
theorem dX3_consider_49 : decode cX3_consider 49 = .ok (.ifCond .ne 7, 3) := by decide +kernel
theorem dX3_consider_52 : decode cX3_consider 52 = .ok (.iconst (-1), 1) := by decide +kernel
theorem dX3_consider_53 : decode cX3_consider 53 = .ok (.goto 13, 3) := by decide +kernel
theorem dX3_consider_56 : decode cX3_consider 56 = .ok (.aload_n 0, 1) := by decide +kernel
theorem dX3_consider_57 : decode cX3_consider 57 = .ok (.iload 4, 2) := by decide +kernel
theorem dX3_consider_59 : decode cX3_consider 59 = .ok (.iload 5, 2) := by decide +kernel
theorem dX3_consider_61 : decode cX3_consider 61 = .ok (.iload 6, 2) := by decide +kernel
theorem dX3_consider_63 : decode cX3_consider 63 = .ok (.invokevirtual 90, 3) := by decide +kernel
theorem dX3_consider_66 : decode cX3_consider 66 = .ok (.istore 7, 2) := by decide +kernel
theorem dX3_consider_68 : decode cX3_consider 68 = .ok (.iload 7, 2) := by decide +kernel
theorem dX3_consider_70 : decode cX3_consider 70 = .ok (.ifCond .le 4, 3) := by decide +kernel
theorem dX3_consider_73 : decode cX3_consider 73 = .ok (.return_, 1) := by decide +kernel
theorem dX3_consider_74 : decode cX3_consider 74 = .ok (.iload 7, 2) := by decide +kernel
theorem dX3_consider_76 : decode cX3_consider 76 = .ok (.ifCond .ge 32, 3) := by decide +kernel
theorem dX3_consider_79 : decode cX3_consider 79 = .ok (.aload_n 0, 1) := by decide +kernel
theorem dX3_consider_80 : decode cX3_consider 80 = .ok (.getfield 25, 3) := by decide +kernel
theorem dX3_consider_83 : decode cX3_consider 83 = .ok (.iconst 3, 1) := by decide +kernel
theorem dX3_consider_84 : decode cX3_consider 84 = .ok (.iload 4, 2) := by decide +kernel
theorem dX3_consider_86 : decode cX3_consider 86 = .ok (.iastore, 1) := by decide +kernel
theorem dX3_consider_87 : decode cX3_consider 87 = .ok (.aload_n 0, 1) := by decide +kernel
theorem dX3_consider_88 : decode cX3_consider 88 = .ok (.getfield 25, 3) := by decide +kernel
theorem dX3_consider_91 : decode cX3_consider 91 = .ok (.iconst 4, 1) := by decide +kernel
theorem dX3_consider_92 : decode cX3_consider 92 = .ok (.iload 5, 2) := by decide +kernel
theorem dX3_consider_94 : decode cX3_consider 94 = .ok (.iastore, 1) := by decide +kernel
theorem dX3_consider_95 : decode cX3_consider 95 = .ok (.aload_n 0, 1) := by decide +kernel
theorem dX3_consider_96 : decode cX3_consider 96 = .ok (.getfield 25, 3) := by decide +kernel
theorem dX3_consider_99 : decode cX3_consider 99 = .ok (.iconst 5, 1) := by decide +kernel
theorem dX3_consider_100 : decode cX3_consider 100 = .ok (.iload 6, 2) := by decide +kernel
theorem dX3_consider_102 : decode cX3_consider 102 = .ok (.iastore, 1) := by decide +kernel
theorem dX3_consider_103 : decode cX3_consider 103 = .ok (.aload_n 0, 1) := by decide +kernel
theorem dX3_consider_104 : decode cX3_consider 104 = .ok (.iconst 0, 1) := by decide +kernel
theorem dX3_consider_105 : decode cX3_consider 105 = .ok (.putfield 73, 3) := by decide +kernel
theorem dX3_consider_108 : decode cX3_consider 108 = .ok (.aload_n 0, 1) := by decide +kernel
theorem dX3_consider_109 : decode cX3_consider 109 = .ok (.getfield 73, 3) := by decide +kernel
theorem dX3_consider_112 : decode cX3_consider 112 = .ok (.ifCond .eq 13, 3) := by decide +kernel
theorem dX3_consider_115 : decode cX3_consider 115 = .ok (.aload_n 0, 1) := by decide +kernel
theorem dX3_consider_116 : decode cX3_consider 116 = .ok (.iload_n 1, 1) := by decide +kernel
theorem dX3_consider_117 : decode cX3_consider 117 = .ok (.iload_n 2, 1) := by decide +kernel
theorem dX3_consider_118 : decode cX3_consider 118 = .ok (.iload_n 3, 1) := by decide +kernel
theorem dX3_consider_119 : decode cX3_consider 119 = .ok (.invokevirtual 94, 3) := by decide +kernel
theorem dX3_consider_122 : decode cX3_consider 122 = .ok (.ifCond .eq 46, 3) := by decide +kernel
theorem dX3_consider_125 : decode cX3_consider 125 = .ok (.aload_n 0, 1) := by decide +kernel
theorem dX3_consider_126 : decode cX3_consider 126 = .ok (.getfield 22, 3) := by decide +kernel
theorem dX3_consider_129 : decode cX3_consider 129 = .ok (.iload_n 1, 1) := by decide +kernel
theorem dX3_consider_130 : decode cX3_consider 130 = .ok (.aload_n 0, 1) := by decide +kernel
theorem dX3_consider_131 : decode cX3_consider 131 = .ok (.getfield 28, 3) := by decide +kernel
theorem dX3_consider_134 : decode cX3_consider 134 = .ok (.iconst 0, 1) := by decide +kernel
theorem dX3_consider_135 : decode cX3_consider 135 = .ok (.iconst 3, 1) := by decide +kernel
theorem dX3_consider_136 : decode cX3_consider 136 = .ok (.invokestatic 31, 3) := by decide +kernel
theorem dX3_consider_139 : decode cX3_consider 139 = .ok (.aload_n 0, 1) := by decide +kernel
theorem dX3_consider_140 : decode cX3_consider 140 = .ok (.getfield 22, 3) := by decide +kernel
theorem dX3_consider_143 : decode cX3_consider 143 = .ok (.iload_n 2, 1) := by decide +kernel
theorem dX3_consider_144 : decode cX3_consider 144 = .ok (.aload_n 0, 1) := by decide +kernel
theorem dX3_consider_145 : decode cX3_consider 145 = .ok (.getfield 28, 3) := by decide +kernel
theorem dX3_consider_148 : decode cX3_consider 148 = .ok (.iconst 3, 1) := by decide +kernel
theorem dX3_consider_149 : decode cX3_consider 149 = .ok (.iconst 3, 1) := by decide +kernel
theorem dX3_consider_150 : decode cX3_consider 150 = .ok (.invokestatic 31, 3) := by decide +kernel
theorem dX3_consider_153 : decode cX3_consider 153 = .ok (.aload_n 0, 1) := by decide +kernel
theorem dX3_consider_154 : decode cX3_consider 154 = .ok (.getfield 22, 3) := by decide +kernel
theorem dX3_consider_157 : decode cX3_consider 157 = .ok (.iload_n 3, 1) := by decide +kernel
theorem dX3_consider_158 : decode cX3_consider 158 = .ok (.aload_n 0, 1) := by decide +kernel
theorem dX3_consider_159 : decode cX3_consider 159 = .ok (.getfield 28, 3) := by decide +kernel
theorem dX3_consider_162 : decode cX3_consider 162 = .ok (.bipush 6, 2) := by decide +kernel
theorem dX3_consider_164 : decode cX3_consider 164 = .ok (.iconst 3, 1) := by decide +kernel
theorem dX3_consider_165 : decode cX3_consider 165 = .ok (.invokestatic 31, 3) := by decide +kernel
theorem dX3_consider_168 : decode cX3_consider 168 = .ok (.aload_n 0, 1) := by decide +kernel
theorem dX3_consider_169 : decode cX3_consider 169 = .ok (.dup, 1) := by decide +kernel
theorem dX3_consider_170 : decode cX3_consider 170 = .ok (.getfield 73, 3) := by decide +kernel
theorem dX3_consider_173 : decode cX3_consider 173 = .ok (.iconst 1, 1) := by decide +kernel
theorem dX3_consider_174 : decode cX3_consider 174 = .ok (.iadd, 1) := by decide +kernel
theorem dX3_consider_175 : decode cX3_consider 175 = .ok (.putfield 73, 3) := by decide +kernel
theorem dX3_consider_178 : decode cX3_consider 178 = .ok (.return_, 1) := by decide +kernel
theorem dX3_compareTouches_0 : decode cX3_compareTouches 0 = .ok (.iload_n 1, 1) := by decide +kernel
theorem dX3_compareTouches_1 : decode cX3_compareTouches 1 = .ok (.aload_n 0, 1) := by decide +kernel
theorem dX3_compareTouches_2 : decode cX3_compareTouches 2 = .ok (.getfield 25, 3) := by decide +kernel
theorem dX3_compareTouches_5 : decode cX3_compareTouches 5 = .ok (.iconst 3, 1) := by decide +kernel
theorem dX3_compareTouches_6 : decode cX3_compareTouches 6 = .ok (.iaload, 1) := by decide +kernel
theorem dX3_compareTouches_7 : decode cX3_compareTouches 7 = .ok (.if_icmp .eq 14, 3) := by decide +kernel
theorem dX3_compareTouches_10 : decode cX3_compareTouches 10 = .ok (.iload_n 1, 1) := by decide +kernel
theorem dX3_compareTouches_11 : decode cX3_compareTouches 11 = .ok (.aload_n 0, 1) := by decide +kernel
theorem dX3_compareTouches_12 : decode cX3_compareTouches 12 = .ok (.getfield 25, 3) := by decide +kernel
theorem dX3_compareTouches_15 : decode cX3_compareTouches 15 = .ok (.iconst 3, 1) := by decide +kernel
theorem dX3_compareTouches_16 : decode cX3_compareTouches 16 = .ok (.iaload, 1) := by decide +kernel
theorem dX3_compareTouches_17 : decode cX3_compareTouches 17 = .ok (.invokestatic 98, 3) := by decide +kernel
theorem dX3_compareTouches_20 : decode cX3_compareTouches 20 = .ok (.ireturn, 1) := by decide +kernel
theorem dX3_compareTouches_21 : decode cX3_compareTouches 21 = .ok (.iload_n 2, 1) := by decide +kernel
theorem dX3_compareTouches_22 : decode cX3_compareTouches 22 = .ok (.aload_n 0, 1) := by decide +kernel
theorem dX3_compareTouches_23 : decode cX3_compareTouches 23 = .ok (.getfield 25, 3) := by decide +kernel
theorem dX3_compareTouches_26 : decode cX3_compareTouches 26 = .ok (.iconst 4, 1) := by decide +kernel
theorem dX3_compareTouches_27 : decode cX3_compareTouches 27 = .ok (.iaload, 1) := by decide +kernel
theorem dX3_compareTouches_28 : decode cX3_compareTouches 28 = .ok (.if_icmp .eq 16, 3) := by decide +kernel
theorem dX3_compareTouches_31 : decode cX3_compareTouches 31 = .ok (.iload_n 2, 1) := by decide +kernel
theorem dX3_compareTouches_32 : decode cX3_compareTouches 32 = .ok (.aload_n 0, 1) := by decide +kernel
theorem dX3_compareTouches_33 : decode cX3_compareTouches 33 = .ok (.getfield 25, 3) := by decide +kernel
theorem dX3_compareTouches_36 : decode cX3_compareTouches 36 = .ok (.iconst 4, 1) := by decide +kernel
theorem dX3_compareTouches_37 : decode cX3_compareTouches 37 = .ok (.iaload, 1) := by decide +kernel
theorem dX3_compareTouches_38 : decode cX3_compareTouches 38 = .ok (.invokestatic 98, 3) := by decide +kernel
theorem dX3_compareTouches_41 : decode cX3_compareTouches 41 = .ok (.goto 13, 3) := by decide +kernel
theorem dX3_compareTouches_44 : decode cX3_compareTouches 44 = .ok (.iload_n 3, 1) := by decide +kernel
theorem dX3_compareTouches_45 : decode cX3_compareTouches 45 = .ok (.aload_n 0, 1) := by decide +kernel
theorem dX3_compareTouches_46 : decode cX3_compareTouches 46 = .ok (.getfield 25, 3) := by decide +kernel
theorem dX3_compareTouches_49 : decode cX3_compareTouches 49 = .ok (.iconst 5, 1) := by decide +kernel
theorem dX3_compareTouches_50 : decode cX3_compareTouches 50 = .ok (.iaload, 1) := by decide +kernel
theorem dX3_compareTouches_51 : decode cX3_compareTouches 51 = .ok (.invokestatic 98, 3) := by decide +kernel
theorem dX3_compareTouches_54 : decode cX3_compareTouches 54 = .ok (.ireturn, 1) := by decide +kernel
theorem dX3_isAhead_0 : decode cX3_isAhead 0 = .ok (.iconst 0, 1) := by decide +kernel
theorem dX3_isAhead_1 : decode cX3_isAhead 1 = .ok (.istore 4, 2) := by decide +kernel
theorem dX3_isAhead_3 : decode cX3_isAhead 3 = .ok (.iload 4, 2) := by decide +kernel
theorem dX3_isAhead_5 : decode cX3_isAhead 5 = .ok (.bipush 9, 2) := by decide +kernel
theorem dX3_isAhead_7 : decode cX3_isAhead 7 = .ok (.if_icmp .ge 77, 3) := by decide +kernel
theorem dX3_isAhead_10 : decode cX3_isAhead 10 = .ok (.iload 4, 2) := by decide +kernel
theorem dX3_isAhead_12 : decode cX3_isAhead 12 = .ok (.iconst 3, 1) := by decide +kernel
theorem dX3_isAhead_13 : decode cX3_isAhead 13 = .ok (.if_icmp .ge 7, 3) := by decide +kernel
theorem dX3_isAhead_16 : decode cX3_isAhead 16 = .ok (.iload_n 1, 1) := by decide +kernel
theorem dX3_isAhead_17 : decode cX3_isAhead 17 = .ok (.goto 15, 3) := by decide +kernel
theorem dX3_isAhead_20 : decode cX3_isAhead 20 = .ok (.iload 4, 2) := by decide +kernel
theorem dX3_isAhead_22 : decode cX3_isAhead 22 = .ok (.bipush 6, 2) := by decide +kernel
theorem dX3_isAhead_24 : decode cX3_isAhead 24 = .ok (.if_icmp .ge 7, 3) := by decide +kernel
theorem dX3_isAhead_27 : decode cX3_isAhead 27 = .ok (.iload_n 2, 1) := by decide +kernel
theorem dX3_isAhead_28 : decode cX3_isAhead 28 = .ok (.goto 4, 3) := by decide +kernel
theorem dX3_isAhead_31 : decode cX3_isAhead 31 = .ok (.iload_n 3, 1) := by decide +kernel
theorem dX3_isAhead_32 : decode cX3_isAhead 32 = .ok (.istore 5, 2) := by decide +kernel
theorem dX3_isAhead_34 : decode cX3_isAhead 34 = .ok (.aload_n 0, 1) := by decide +kernel
theorem dX3_isAhead_35 : decode cX3_isAhead 35 = .ok (.getfield 22, 3) := by decide +kernel
theorem dX3_isAhead_38 : decode cX3_isAhead 38 = .ok (.iload 5, 2) := by decide +kernel
theorem dX3_isAhead_40 : decode cX3_isAhead 40 = .ok (.iload 4, 2) := by decide +kernel
theorem dX3_isAhead_42 : decode cX3_isAhead 42 = .ok (.iconst 3, 1) := by decide +kernel
theorem dX3_isAhead_43 : decode cX3_isAhead 43 = .ok (.irem, 1) := by decide +kernel
theorem dX3_isAhead_44 : decode cX3_isAhead 44 = .ok (.iadd, 1) := by decide +kernel
theorem dX3_isAhead_45 : decode cX3_isAhead 45 = .ok (.iaload, 1) := by decide +kernel
theorem dX3_isAhead_46 : decode cX3_isAhead 46 = .ok (.istore 6, 2) := by decide +kernel
theorem dX3_isAhead_48 : decode cX3_isAhead 48 = .ok (.iload 6, 2) := by decide +kernel
theorem dX3_isAhead_50 : decode cX3_isAhead 50 = .ok (.aload_n 0, 1) := by decide +kernel
theorem dX3_isAhead_51 : decode cX3_isAhead 51 = .ok (.getfield 28, 3) := by decide +kernel
theorem dX3_isAhead_54 : decode cX3_isAhead 54 = .ok (.iload 4, 2) := by decide +kernel
theorem dX3_isAhead_56 : decode cX3_isAhead 56 = .ok (.iaload, 1) := by decide +kernel
theorem dX3_isAhead_57 : decode cX3_isAhead 57 = .ok (.if_icmp .eq 21, 3) := by decide +kernel
theorem dX3_isAhead_60 : decode cX3_isAhead 60 = .ok (.iload 6, 2) := by decide +kernel
theorem dX3_isAhead_62 : decode cX3_isAhead 62 = .ok (.aload_n 0, 1) := by decide +kernel
theorem dX3_isAhead_63 : decode cX3_isAhead 63 = .ok (.getfield 28, 3) := by decide +kernel
theorem dX3_isAhead_66 : decode cX3_isAhead 66 = .ok (.iload 4, 2) := by decide +kernel
theorem dX3_isAhead_68 : decode cX3_isAhead 68 = .ok (.iaload, 1) := by decide +kernel
theorem dX3_isAhead_69 : decode cX3_isAhead 69 = .ok (.if_icmp .ge 7, 3) := by decide +kernel
theorem dX3_isAhead_72 : decode cX3_isAhead 72 = .ok (.iconst 1, 1) := by decide +kernel
theorem dX3_isAhead_73 : decode cX3_isAhead 73 = .ok (.goto 4, 3) := by decide +kernel
theorem dX3_isAhead_76 : decode cX3_isAhead 76 = .ok (.iconst 0, 1) := by decide +kernel
theorem dX3_isAhead_77 : decode cX3_isAhead 77 = .ok (.ireturn, 1) := by decide +kernel
theorem dX3_isAhead_78 : decode cX3_isAhead 78 = .ok (.iinc 4 1, 3) := by decide +kernel
theorem dX3_isAhead_81 : decode cX3_isAhead 81 = .ok (.goto (-78), 3) := by decide +kernel
theorem dX3_isAhead_84 : decode cX3_isAhead 84 = .ok (.iconst 0, 1) := by decide +kernel
theorem dX3_isAhead_85 : decode cX3_isAhead 85 = .ok (.ireturn, 1) := by decide +kernel
theorem dX4_isForm_0 : decode cX4_isForm 0 = .ok (.iconst 0, 1) := by decide +kernel
theorem dX4_isForm_1 : decode cX4_isForm 1 = .ok (.istore_n 1, 1) := by decide +kernel
theorem dX4_isForm_2 : decode cX4_isForm 2 = .ok (.iload_n 1, 1) := by decide +kernel
theorem dX4_isForm_3 : decode cX4_isForm 3 = .ok (.iconst 3, 1) := by decide +kernel
theorem dX4_isForm_4 : decode cX4_isForm 4 = .ok (.if_icmp .ge 38, 3) := by decide +kernel
theorem dX4_isForm_7 : decode cX4_isForm 7 = .ok (.aload_n 0, 1) := by decide +kernel
theorem dX4_isForm_8 : decode cX4_isForm 8 = .ok (.iload_n 1, 1) := by decide +kernel
theorem dX4_isForm_9 : decode cX4_isForm 9 = .ok (.iaload, 1) := by decide +kernel
theorem dX4_isForm_10 : decode cX4_isForm 10 = .ok (.iconst 1, 1) := by decide +kernel
theorem dX4_isForm_11 : decode cX4_isForm 11 = .ok (.bipush 12, 2) := by decide +kernel
theorem dX4_isForm_13 : decode cX4_isForm 13 = .ok (.invokestatic 7, 3) := by decide +kernel
theorem dX4_isForm_16 : decode cX4_isForm 16 = .ok (.ifCond .ne 18, 3) := by decide +kernel
theorem dX4_isForm_19 : decode cX4_isForm 19 = .ok (.aload_n 0, 1) := by decide +kernel
theorem dX4_isForm_20 : decode cX4_isForm 20 = .ok (.iconst 3, 1) := by decide +kernel
theorem dX4_isForm_21 : decode cX4_isForm 21 = .ok (.iload_n 1, 1) := by decide +kernel
theorem dX4_isForm_22 : decode cX4_isForm 22 = .ok (.iadd, 1) := by decide +kernel
theorem dX4_isForm_23 : decode cX4_isForm 23 = .ok (.iaload, 1) := by decide +kernel
theorem dX4_isForm_24 : decode cX4_isForm 24 = .ok (.bipush (-12), 2) := by decide +kernel
theorem dX4_isForm_26 : decode cX4_isForm 26 = .ok (.bipush 12, 2) := by decide +kernel
theorem dX4_isForm_28 : decode cX4_isForm 28 = .ok (.invokestatic 7, 3) := by decide +kernel
theorem dX4_isForm_31 : decode cX4_isForm 31 = .ok (.ifCond .eq 5, 3) := by decide +kernel
theorem dX4_isForm_34 : decode cX4_isForm 34 = .ok (.iconst 0, 1) := by decide +kernel
theorem dX4_isForm_35 : decode cX4_isForm 35 = .ok (.ireturn, 1) := by decide +kernel
theorem dX4_isForm_36 : decode cX4_isForm 36 = .ok (.iinc 1 1, 3) := by decide +kernel
theorem dX4_isForm_39 : decode cX4_isForm 39 = .ok (.goto (-37), 3) := by decide +kernel
theorem dX4_isForm_42 : decode cX4_isForm 42 = .ok (.iconst 4, 1) := by decide +kernel
theorem dX4_isForm_43 : decode cX4_isForm 43 = .ok (.aload_n 0, 1) := by decide +kernel
theorem dX4_isForm_44 : decode cX4_isForm 44 = .ok (.iconst 0, 1) := by decide +kernel
theorem dX4_isForm_45 : decode cX4_isForm 45 = .ok (.iaload, 1) := by decide +kernel
theorem dX4_isForm_46 : decode cX4_isForm 46 = .ok (.imul, 1) := by decide +kernel
theorem dX4_isForm_47 : decode cX4_isForm 47 = .ok (.aload_n 0, 1) := by decide +kernel
theorem dX4_isForm_48 : decode cX4_isForm 48 = .ok (.iconst 1, 1) := by decide +kernel
theorem dX4_isForm_49 : decode cX4_isForm 49 = .ok (.iaload, 1) := by decide +kernel
theorem dX4_isForm_50 : decode cX4_isForm 50 = .ok (.imul, 1) := by decide +kernel
theorem dX4_isForm_51 : decode cX4_isForm 51 = .ok (.aload_n 0, 1) := by decide +kernel
theorem dX4_isForm_52 : decode cX4_isForm 52 = .ok (.iconst 5, 1) := by decide +kernel
theorem dX4_isForm_53 : decode cX4_isForm 53 = .ok (.iaload, 1) := by decide +kernel
theorem dX4_isForm_54 : decode cX4_isForm 54 = .ok (.aload_n 0, 1) := by decide +kernel
theorem dX4_isForm_55 : decode cX4_isForm 55 = .ok (.iconst 5, 1) := by decide +kernel
theorem dX4_isForm_56 : decode cX4_isForm 56 = .ok (.iaload, 1) := by decide +kernel
theorem dX4_isForm_57 : decode cX4_isForm 57 = .ok (.imul, 1) := by decide +kernel
theorem dX4_isForm_58 : decode cX4_isForm 58 = .ok (.isub, 1) := by decide +kernel
theorem dX4_isForm_59 : decode cX4_isForm 59 = .ok (.ifCond .le 14, 3) := by decide +kernel
theorem dX4_isForm_62 : decode cX4_isForm 62 = .ok (.aload_n 0, 1) := by decide +kernel
theorem dX4_isForm_63 : decode cX4_isForm 63 = .ok (.invokestatic 13, 3) := by decide +kernel
theorem dX4_isForm_66 : decode cX4_isForm 66 = .ok (.ifCond .le 7, 3) := by decide +kernel
theorem dX4_isForm_69 : decode cX4_isForm 69 = .ok (.iconst 1, 1) := by decide +kernel
theorem dX4_isForm_70 : decode cX4_isForm 70 = .ok (.goto 4, 3) := by decide +kernel
theorem dX4_isForm_73 : decode cX4_isForm 73 = .ok (.iconst 0, 1) := by decide +kernel
theorem dX4_isForm_74 : decode cX4_isForm 74 = .ok (.ireturn, 1) := by decide +kernel
theorem dX4_discOf_0 : decode cX4_discOf 0 = .ok (.iconst 4, 1) := by decide +kernel
theorem dX4_discOf_1 : decode cX4_discOf 1 = .ok (.aload_n 0, 1) := by decide +kernel
theorem dX4_discOf_2 : decode cX4_discOf 2 = .ok (.iconst 0, 1) := by decide +kernel
theorem dX4_discOf_3 : decode cX4_discOf 3 = .ok (.iaload, 1) := by decide +kernel
theorem dX4_discOf_4 : decode cX4_discOf 4 = .ok (.imul, 1) := by decide +kernel
theorem dX4_discOf_5 : decode cX4_discOf 5 = .ok (.aload_n 0, 1) := by decide +kernel
theorem dX4_discOf_6 : decode cX4_discOf 6 = .ok (.iconst 1, 1) := by decide +kernel
theorem dX4_discOf_7 : decode cX4_discOf 7 = .ok (.iaload, 1) := by decide +kernel
theorem dX4_discOf_8 : decode cX4_discOf 8 = .ok (.imul, 1) := by decide +kernel
theorem dX4_discOf_9 : decode cX4_discOf 9 = .ok (.aload_n 0, 1) := by decide +kernel
theorem dX4_discOf_10 : decode cX4_discOf 10 = .ok (.iconst 2, 1) := by decide +kernel
theorem dX4_discOf_11 : decode cX4_discOf 11 = .ok (.iaload, 1) := by decide +kernel
theorem dX4_discOf_12 : decode cX4_discOf 12 = .ok (.imul, 1) := by decide +kernel
theorem dX4_discOf_13 : decode cX4_discOf 13 = .ok (.aload_n 0, 1) := by decide +kernel
theorem dX4_discOf_14 : decode cX4_discOf 14 = .ok (.iconst 3, 1) := by decide +kernel
theorem dX4_discOf_15 : decode cX4_discOf 15 = .ok (.iaload, 1) := by decide +kernel
theorem dX4_discOf_16 : decode cX4_discOf 16 = .ok (.aload_n 0, 1) := by decide +kernel
theorem dX4_discOf_17 : decode cX4_discOf 17 = .ok (.iconst 4, 1) := by decide +kernel
theorem dX4_discOf_18 : decode cX4_discOf 18 = .ok (.iaload, 1) := by decide +kernel
theorem dX4_discOf_19 : decode cX4_discOf 19 = .ok (.imul, 1) := by decide +kernel
theorem dX4_discOf_20 : decode cX4_discOf 20 = .ok (.aload_n 0, 1) := by decide +kernel
theorem dX4_discOf_21 : decode cX4_discOf 21 = .ok (.iconst 5, 1) := by decide +kernel
theorem dX4_discOf_22 : decode cX4_discOf 22 = .ok (.iaload, 1) := by decide +kernel
theorem dX4_discOf_23 : decode cX4_discOf 23 = .ok (.imul, 1) := by decide +kernel
theorem dX4_discOf_24 : decode cX4_discOf 24 = .ok (.iadd, 1) := by decide +kernel
theorem dX4_discOf_25 : decode cX4_discOf 25 = .ok (.aload_n 0, 1) := by decide +kernel
theorem dX4_discOf_26 : decode cX4_discOf 26 = .ok (.iconst 0, 1) := by decide +kernel
theorem dX4_discOf_27 : decode cX4_discOf 27 = .ok (.iaload, 1) := by decide +kernel
theorem dX4_discOf_28 : decode cX4_discOf 28 = .ok (.aload_n 0, 1) := by decide +kernel
theorem dX4_discOf_29 : decode cX4_discOf 29 = .ok (.iconst 3, 1) := by decide +kernel
theorem dX4_discOf_30 : decode cX4_discOf 30 = .ok (.iaload, 1) := by decide +kernel
theorem dX4_discOf_31 : decode cX4_discOf 31 = .ok (.imul, 1) := by decide +kernel
theorem dX4_discOf_32 : decode cX4_discOf 32 = .ok (.aload_n 0, 1) := by decide +kernel
theorem dX4_discOf_33 : decode cX4_discOf 33 = .ok (.iconst 3, 1) := by decide +kernel
theorem dX4_discOf_34 : decode cX4_discOf 34 = .ok (.iaload, 1) := by decide +kernel
theorem dX4_discOf_35 : decode cX4_discOf 35 = .ok (.imul, 1) := by decide +kernel
theorem dX4_discOf_36 : decode cX4_discOf 36 = .ok (.isub, 1) := by decide +kernel
theorem dX4_discOf_37 : decode cX4_discOf 37 = .ok (.aload_n 0, 1) := by decide +kernel
theorem dX4_discOf_38 : decode cX4_discOf 38 = .ok (.iconst 1, 1) := by decide +kernel
theorem dX4_discOf_39 : decode cX4_discOf 39 = .ok (.iaload, 1) := by decide +kernel
theorem dX4_discOf_40 : decode cX4_discOf 40 = .ok (.aload_n 0, 1) := by decide +kernel
theorem dX4_discOf_41 : decode cX4_discOf 41 = .ok (.iconst 4, 1) := by decide +kernel
theorem dX4_discOf_42 : decode cX4_discOf 42 = .ok (.iaload, 1) := by decide +kernel
theorem dX4_discOf_43 : decode cX4_discOf 43 = .ok (.imul, 1) := by decide +kernel
theorem dX4_discOf_44 : decode cX4_discOf 44 = .ok (.aload_n 0, 1) := by decide +kernel
theorem dX4_discOf_45 : decode cX4_discOf 45 = .ok (.iconst 4, 1) := by decide +kernel
theorem dX4_discOf_46 : decode cX4_discOf 46 = .ok (.iaload, 1) := by decide +kernel
theorem dX4_discOf_47 : decode cX4_discOf 47 = .ok (.imul, 1) := by decide +kernel
theorem dX4_discOf_48 : decode cX4_discOf 48 = .ok (.isub, 1) := by decide +kernel
theorem dX4_discOf_49 : decode cX4_discOf 49 = .ok (.aload_n 0, 1) := by decide +kernel
theorem dX4_discOf_50 : decode cX4_discOf 50 = .ok (.iconst 2, 1) := by decide +kernel
theorem dX4_discOf_51 : decode cX4_discOf 51 = .ok (.iaload, 1) := by decide +kernel
theorem dX4_discOf_52 : decode cX4_discOf 52 = .ok (.aload_n 0, 1) := by decide +kernel
theorem dX4_discOf_53 : decode cX4_discOf 53 = .ok (.iconst 5, 1) := by decide +kernel
theorem dX4_discOf_54 : decode cX4_discOf 54 = .ok (.iaload, 1) := by decide +kernel
theorem dX4_discOf_55 : decode cX4_discOf 55 = .ok (.imul, 1) := by decide +kernel
theorem dX4_discOf_56 : decode cX4_discOf 56 = .ok (.aload_n 0, 1) := by decide +kernel
theorem dX4_discOf_57 : decode cX4_discOf 57 = .ok (.iconst 5, 1) := by decide +kernel
theorem dX4_discOf_58 : decode cX4_discOf 58 = .ok (.iaload, 1) := by decide +kernel
theorem dX4_discOf_59 : decode cX4_discOf 59 = .ok (.imul, 1) := by decide +kernel
theorem dX4_discOf_60 : decode cX4_discOf 60 = .ok (.isub, 1) := by decide +kernel
theorem dX4_discOf_61 : decode cX4_discOf 61 = .ok (.ireturn, 1) := by decide +kernel
theorem dX4_at_0 : decode cX4_at 0 = .ok (.iload_n 1, 1) := by decide +kernel
theorem dX4_at_1 : decode cX4_at 1 = .ok (.aload_n 0, 1) := by decide +kernel
theorem dX4_at_2 : decode cX4_at 2 = .ok (.iconst 0, 1) := by decide +kernel
theorem dX4_at_3 : decode cX4_at 3 = .ok (.iaload, 1) := by decide +kernel
theorem dX4_at_4 : decode cX4_at 4 = .ok (.iload_n 1, 1) := by decide +kernel
theorem dX4_at_5 : decode cX4_at 5 = .ok (.imul, 1) := by decide +kernel
theorem dX4_at_6 : decode cX4_at 6 = .ok (.aload_n 0, 1) := by decide +kernel
theorem dX4_at_7 : decode cX4_at 7 = .ok (.iconst 5, 1) := by decide +kernel
theorem dX4_at_8 : decode cX4_at 8 = .ok (.iaload, 1) := by decide +kernel
theorem dX4_at_9 : decode cX4_at 9 = .ok (.iload_n 2, 1) := by decide +kernel
theorem dX4_at_10 : decode cX4_at 10 = .ok (.imul, 1) := by decide +kernel
theorem dX4_at_11 : decode cX4_at 11 = .ok (.iadd, 1) := by decide +kernel
theorem dX4_at_12 : decode cX4_at 12 = .ok (.aload_n 0, 1) := by decide +kernel
theorem dX4_at_13 : decode cX4_at 13 = .ok (.iconst 4, 1) := by decide +kernel
theorem dX4_at_14 : decode cX4_at 14 = .ok (.iaload, 1) := by decide +kernel
theorem dX4_at_15 : decode cX4_at 15 = .ok (.iload_n 3, 1) := by decide +kernel
theorem dX4_at_16 : decode cX4_at 16 = .ok (.imul, 1) := by decide +kernel
theorem dX4_at_17 : decode cX4_at 17 = .ok (.iadd, 1) := by decide +kernel
theorem dX4_at_18 : decode cX4_at 18 = .ok (.imul, 1) := by decide +kernel
theorem dX4_at_19 : decode cX4_at 19 = .ok (.iload_n 2, 1) := by decide +kernel
theorem dX4_at_20 : decode cX4_at 20 = .ok (.aload_n 0, 1) := by decide +kernel
theorem dX4_at_21 : decode cX4_at 21 = .ok (.iconst 1, 1) := by decide +kernel
theorem dX4_at_22 : decode cX4_at 22 = .ok (.iaload, 1) := by decide +kernel
theorem dX4_at_23 : decode cX4_at 23 = .ok (.iload_n 2, 1) := by decide +kernel
theorem dX4_at_24 : decode cX4_at 24 = .ok (.imul, 1) := by decide +kernel
theorem dX4_at_25 : decode cX4_at 25 = .ok (.aload_n 0, 1) := by decide +kernel
theorem dX4_at_26 : decode cX4_at 26 = .ok (.iconst 3, 1) := by decide +kernel
theorem dX4_at_27 : decode cX4_at 27 = .ok (.iaload, 1) := by decide +kernel
theorem dX4_at_28 : decode cX4_at 28 = .ok (.iload_n 3, 1) := by decide +kernel
theorem dX4_at_29 : decode cX4_at 29 = .ok (.imul, 1) := by decide +kernel
theorem dX4_at_30 : decode cX4_at 30 = .ok (.iadd, 1) := by decide +kernel
theorem dX4_at_31 : decode cX4_at 31 = .ok (.imul, 1) := by decide +kernel
theorem dX4_at_32 : decode cX4_at 32 = .ok (.iadd, 1) := by decide +kernel
theorem dX4_at_33 : decode cX4_at 33 = .ok (.aload_n 0, 1) := by decide +kernel
theorem dX4_at_34 : decode cX4_at 34 = .ok (.iconst 2, 1) := by decide +kernel
theorem dX4_at_35 : decode cX4_at 35 = .ok (.iaload, 1) := by decide +kernel
theorem dX4_at_36 : decode cX4_at 36 = .ok (.iload_n 3, 1) := by decide +kernel
theorem dX4_at_37 : decode cX4_at 37 = .ok (.imul, 1) := by decide +kernel
theorem dX4_at_38 : decode cX4_at 38 = .ok (.iload_n 3, 1) := by decide +kernel
theorem dX4_at_39 : decode cX4_at 39 = .ok (.imul, 1) := by decide +kernel
theorem dX4_at_40 : decode cX4_at 40 = .ok (.iadd, 1) := by decide +kernel
theorem dX4_at_41 : decode cX4_at 41 = .ok (.ireturn, 1) := by decide +kernel
theorem dX4_atRow_0 : decode cX4_atRow 0 = .ok (.aload_n 0, 1) := by decide +kernel
theorem dX4_atRow_1 : decode cX4_atRow 1 = .ok (.aload_n 1, 1) := by decide +kernel
theorem dX4_atRow_2 : decode cX4_atRow 2 = .ok (.iload_n 2, 1) := by decide +kernel
theorem dX4_atRow_3 : decode cX4_atRow 3 = .ok (.iaload, 1) := by decide +kernel
theorem dX4_atRow_4 : decode cX4_atRow 4 = .ok (.aload_n 1, 1) := by decide +kernel
theorem dX4_atRow_5 : decode cX4_atRow 5 = .ok (.iload_n 2, 1) := by decide +kernel
theorem dX4_atRow_6 : decode cX4_atRow 6 = .ok (.iconst 1, 1) := by decide +kernel
theorem dX4_atRow_7 : decode cX4_atRow 7 = .ok (.iadd, 1) := by decide +kernel
theorem dX4_atRow_8 : decode cX4_atRow 8 = .ok (.iaload, 1) := by decide +kernel
theorem dX4_atRow_9 : decode cX4_atRow 9 = .ok (.aload_n 1, 1) := by decide +kernel
theorem dX4_atRow_10 : decode cX4_atRow 10 = .ok (.iload_n 2, 1) := by decide +kernel
theorem dX4_atRow_11 : decode cX4_atRow 11 = .ok (.iconst 2, 1) := by decide +kernel
theorem dX4_atRow_12 : decode cX4_atRow 12 = .ok (.iadd, 1) := by decide +kernel
theorem dX4_atRow_13 : decode cX4_atRow 13 = .ok (.iaload, 1) := by decide +kernel
theorem dX4_atRow_14 : decode cX4_atRow 14 = .ok (.invokestatic 19, 3) := by decide +kernel
theorem dX4_atRow_17 : decode cX4_atRow 17 = .ok (.ireturn, 1) := by decide +kernel
theorem dX4_touchUnit_0 : decode cX4_touchUnit 0 = .ok (.iload_n 3, 1) := by decide +kernel
theorem dX4_touchUnit_1 : decode cX4_touchUnit 1 = .ok (.iconst 1, 1) := by decide +kernel
theorem dX4_touchUnit_2 : decode cX4_touchUnit 2 = .ok (.iadd, 1) := by decide +kernel
theorem dX4_touchUnit_3 : decode cX4_touchUnit 3 = .ok (.iconst 3, 1) := by decide +kernel
theorem dX4_touchUnit_4 : decode cX4_touchUnit 4 = .ok (.irem, 1) := by decide +kernel
theorem dX4_touchUnit_5 : decode cX4_touchUnit 5 = .ok (.istore 4, 2) := by decide +kernel
theorem dX4_touchUnit_7 : decode cX4_touchUnit 7 = .ok (.iload_n 3, 1) := by decide +kernel
theorem dX4_touchUnit_8 : decode cX4_touchUnit 8 = .ok (.iconst 2, 1) := by decide +kernel
theorem dX4_touchUnit_9 : decode cX4_touchUnit 9 = .ok (.iadd, 1) := by decide +kernel
theorem dX4_touchUnit_10 : decode cX4_touchUnit 10 = .ok (.iconst 3, 1) := by decide +kernel
theorem dX4_touchUnit_11 : decode cX4_touchUnit 11 = .ok (.irem, 1) := by decide +kernel
theorem dX4_touchUnit_12 : decode cX4_touchUnit 12 = .ok (.istore 5, 2) := by decide +kernel
theorem dX4_touchUnit_14 : decode cX4_touchUnit 14 = .ok (.iconst 2, 1) := by decide +kernel
theorem dX4_touchUnit_15 : decode cX4_touchUnit 15 = .ok (.aload_n 0, 1) := by decide +kernel
theorem dX4_touchUnit_16 : decode cX4_touchUnit 16 = .ok (.iload_n 3, 1) := by decide +kernel
theorem dX4_touchUnit_17 : decode cX4_touchUnit 17 = .ok (.iaload, 1) := by decide +kernel
theorem dX4_touchUnit_18 : decode cX4_touchUnit 18 = .ok (.imul, 1) := by decide +kernel
theorem dX4_touchUnit_19 : decode cX4_touchUnit 19 = .ok (.aload_n 1, 1) := by decide +kernel
theorem dX4_touchUnit_20 : decode cX4_touchUnit 20 = .ok (.iload_n 2, 1) := by decide +kernel
theorem dX4_touchUnit_21 : decode cX4_touchUnit 21 = .ok (.iload_n 3, 1) := by decide +kernel
theorem dX4_touchUnit_22 : decode cX4_touchUnit 22 = .ok (.iadd, 1) := by decide +kernel
theorem dX4_touchUnit_23 : decode cX4_touchUnit 23 = .ok (.iaload, 1) := by decide +kernel
theorem dX4_touchUnit_24 : decode cX4_touchUnit 24 = .ok (.imul, 1) := by decide +kernel
theorem dX4_touchUnit_25 : decode cX4_touchUnit 25 = .ok (.aload_n 0, 1) := by decide +kernel
theorem dX4_touchUnit_26 : decode cX4_touchUnit 26 = .ok (.iconst 3, 1) := by decide +kernel
theorem dX4_touchUnit_27 : decode cX4_touchUnit 27 = .ok (.iload 5, 2) := by decide +kernel
theorem dX4_touchUnit_29 : decode cX4_touchUnit 29 = .ok (.iadd, 1) := by decide +kernel
theorem dX4_touchUnit_30 : decode cX4_touchUnit 30 = .ok (.iaload, 1) := by decide +kernel
theorem dX4_touchUnit_31 : decode cX4_touchUnit 31 = .ok (.aload_n 1, 1) := by decide +kernel
theorem dX4_touchUnit_32 : decode cX4_touchUnit 32 = .ok (.iload_n 2, 1) := by decide +kernel
theorem dX4_touchUnit_33 : decode cX4_touchUnit 33 = .ok (.iload 4, 2) := by decide +kernel
theorem dX4_touchUnit_35 : decode cX4_touchUnit 35 = .ok (.iadd, 1) := by decide +kernel
theorem dX4_touchUnit_36 : decode cX4_touchUnit 36 = .ok (.iaload, 1) := by decide +kernel
theorem dX4_touchUnit_37 : decode cX4_touchUnit 37 = .ok (.imul, 1) := by decide +kernel
theorem dX4_touchUnit_38 : decode cX4_touchUnit 38 = .ok (.iadd, 1) := by decide +kernel
theorem dX4_touchUnit_39 : decode cX4_touchUnit 39 = .ok (.aload_n 0, 1) := by decide +kernel
theorem dX4_touchUnit_40 : decode cX4_touchUnit 40 = .ok (.iconst 3, 1) := by decide +kernel
theorem dX4_touchUnit_41 : decode cX4_touchUnit 41 = .ok (.iload 4, 2) := by decide +kernel
theorem dX4_touchUnit_43 : decode cX4_touchUnit 43 = .ok (.iadd, 1) := by decide +kernel
theorem dX4_touchUnit_44 : decode cX4_touchUnit 44 = .ok (.iaload, 1) := by decide +kernel
theorem dX4_touchUnit_45 : decode cX4_touchUnit 45 = .ok (.aload_n 1, 1) := by decide +kernel
theorem dX4_touchUnit_46 : decode cX4_touchUnit 46 = .ok (.iload_n 2, 1) := by decide +kernel
theorem dX4_touchUnit_47 : decode cX4_touchUnit 47 = .ok (.iload 5, 2) := by decide +kernel
theorem dX4_touchUnit_49 : decode cX4_touchUnit 49 = .ok (.iadd, 1) := by decide +kernel
theorem dX4_touchUnit_50 : decode cX4_touchUnit 50 = .ok (.iaload, 1) := by decide +kernel
theorem dX4_touchUnit_51 : decode cX4_touchUnit 51 = .ok (.imul, 1) := by decide +kernel
theorem dX4_touchUnit_52 : decode cX4_touchUnit 52 = .ok (.iadd, 1) := by decide +kernel
theorem dX4_touchUnit_53 : decode cX4_touchUnit 53 = .ok (.ireturn, 1) := by decide +kernel
theorem dX4_touch_0 : decode cX4_touch 0 = .ok (.aload_n 1, 1) := by decide +kernel
theorem dX4_touch_1 : decode cX4_touch 1 = .ok (.iload_n 2, 1) := by decide +kernel
theorem dX4_touch_2 : decode cX4_touch 2 = .ok (.iaload, 1) := by decide +kernel
theorem dX4_touch_3 : decode cX4_touch 3 = .ok (.istore 4, 2) := by decide +kernel
theorem dX4_touch_5 : decode cX4_touch 5 = .ok (.aload_n 1, 1) := by decide +kernel
theorem dX4_touch_6 : decode cX4_touch 6 = .ok (.iload_n 2, 1) := by decide +kernel
theorem dX4_touch_7 : decode cX4_touch 7 = .ok (.iconst 1, 1) := by decide +kernel
theorem dX4_touch_8 : decode cX4_touch 8 = .ok (.iadd, 1) := by decide +kernel
theorem dX4_touch_9 : decode cX4_touch 9 = .ok (.iaload, 1) := by decide +kernel
theorem dX4_touch_10 : decode cX4_touch 10 = .ok (.istore 5, 2) := by decide +kernel
theorem dX4_touch_12 : decode cX4_touch 12 = .ok (.aload_n 1, 1) := by decide +kernel
theorem dX4_touch_13 : decode cX4_touch 13 = .ok (.iload_n 2, 1) := by decide +kernel
theorem dX4_touch_14 : decode cX4_touch 14 = .ok (.iconst 2, 1) := by decide +kernel
theorem dX4_touch_15 : decode cX4_touch 15 = .ok (.iadd, 1) := by decide +kernel
theorem dX4_touch_16 : decode cX4_touch 16 = .ok (.iaload, 1) := by decide +kernel
theorem dX4_touch_17 : decode cX4_touch 17 = .ok (.istore 6, 2) := by decide +kernel
theorem dX4_touch_19 : decode cX4_touch 19 = .ok (.aload_n 1, 1) := by decide +kernel
theorem dX4_touch_20 : decode cX4_touch 20 = .ok (.iload_n 3, 1) := by decide +kernel
theorem dX4_touch_21 : decode cX4_touch 21 = .ok (.iaload, 1) := by decide +kernel
theorem dX4_touch_22 : decode cX4_touch 22 = .ok (.iconst 2, 1) := by decide +kernel
theorem dX4_touch_23 : decode cX4_touch 23 = .ok (.aload_n 0, 1) := by decide +kernel
theorem dX4_touch_24 : decode cX4_touch 24 = .ok (.iconst 0, 1) := by decide +kernel
theorem dX4_touch_25 : decode cX4_touch 25 = .ok (.iaload, 1) := by decide +kernel
theorem dX4_touch_26 : decode cX4_touch 26 = .ok (.imul, 1) := by decide +kernel
theorem dX4_touch_27 : decode cX4_touch 27 = .ok (.iload 4, 2) := by decide +kernel
theorem dX4_touch_29 : decode cX4_touch 29 = .ok (.imul, 1) := by decide +kernel
theorem dX4_touch_30 : decode cX4_touch 30 = .ok (.aload_n 0, 1) := by decide +kernel
theorem dX4_touch_31 : decode cX4_touch 31 = .ok (.iconst 5, 1) := by decide +kernel
theorem dX4_touch_32 : decode cX4_touch 32 = .ok (.iaload, 1) := by decide +kernel
theorem dX4_touch_33 : decode cX4_touch 33 = .ok (.iload 5, 2) := by decide +kernel
theorem dX4_touch_35 : decode cX4_touch 35 = .ok (.imul, 1) := by decide +kernel
theorem dX4_touch_36 : decode cX4_touch 36 = .ok (.iadd, 1) := by decide +kernel
theorem dX4_touch_37 : decode cX4_touch 37 = .ok (.aload_n 0, 1) := by decide +kernel
theorem dX4_touch_38 : decode cX4_touch 38 = .ok (.iconst 4, 1) := by decide +kernel
theorem dX4_touch_39 : decode cX4_touch 39 = .ok (.iaload, 1) := by decide +kernel
theorem dX4_touch_40 : decode cX4_touch 40 = .ok (.iload 6, 2) := by decide +kernel
theorem dX4_touch_42 : decode cX4_touch 42 = .ok (.imul, 1) := by decide +kernel
theorem dX4_touch_43 : decode cX4_touch 43 = .ok (.iadd, 1) := by decide +kernel
theorem dX4_touch_44 : decode cX4_touch 44 = .ok (.imul, 1) := by decide +kernel
theorem dX4_touch_45 : decode cX4_touch 45 = .ok (.aload_n 1, 1) := by decide +kernel
theorem dX4_touch_46 : decode cX4_touch 46 = .ok (.iload_n 3, 1) := by decide +kernel
theorem dX4_touch_47 : decode cX4_touch 47 = .ok (.iconst 1, 1) := by decide +kernel
theorem dX4_touch_48 : decode cX4_touch 48 = .ok (.iadd, 1) := by decide +kernel
theorem dX4_touch_49 : decode cX4_touch 49 = .ok (.iaload, 1) := by decide +kernel
theorem dX4_touch_50 : decode cX4_touch 50 = .ok (.iconst 2, 1) := by decide +kernel
theorem dX4_touch_51 : decode cX4_touch 51 = .ok (.aload_n 0, 1) := by decide +kernel
theorem dX4_touch_52 : decode cX4_touch 52 = .ok (.iconst 1, 1) := by decide +kernel
theorem dX4_touch_53 : decode cX4_touch 53 = .ok (.iaload, 1) := by decide +kernel
theorem dX4_touch_54 : decode cX4_touch 54 = .ok (.imul, 1) := by decide +kernel
theorem dX4_touch_55 : decode cX4_touch 55 = .ok (.iload 5, 2) := by decide +kernel
theorem dX4_touch_57 : decode cX4_touch 57 = .ok (.imul, 1) := by decide +kernel
theorem dX4_touch_58 : decode cX4_touch 58 = .ok (.aload_n 0, 1) := by decide +kernel
theorem dX4_touch_59 : decode cX4_touch 59 = .ok (.iconst 3, 1) := by decide +kernel
theorem dX4_touch_60 : decode cX4_touch 60 = .ok (.iaload, 1) := by decide +kernel
theorem dX4_touch_61 : decode cX4_touch 61 = .ok (.iload 6, 2) := by decide +kernel
theorem dX4_touch_63 : decode cX4_touch 63 = .ok (.imul, 1) := by decide +kernel
theorem dX4_touch_64 : decode cX4_touch 64 = .ok (.iadd, 1) := by decide +kernel
theorem dX4_touch_65 : decode cX4_touch 65 = .ok (.aload_n 0, 1) := by decide +kernel
theorem dX4_touch_66 : decode cX4_touch 66 = .ok (.iconst 5, 1) := by decide +kernel
theorem dX4_touch_67 : decode cX4_touch 67 = .ok (.iaload, 1) := by decide +kernel
theorem dX4_touch_68 : decode cX4_touch 68 = .ok (.iload 4, 2) := by decide +kernel
theorem dX4_touch_70 : decode cX4_touch 70 = .ok (.imul, 1) := by decide +kernel
theorem dX4_touch_71 : decode cX4_touch 71 = .ok (.iadd, 1) := by decide +kernel
theorem dX4_touch_72 : decode cX4_touch 72 = .ok (.imul, 1) := by decide +kernel
theorem dX4_touch_73 : decode cX4_touch 73 = .ok (.iadd, 1) := by decide +kernel
theorem dX4_touch_74 : decode cX4_touch 74 = .ok (.aload_n 1, 1) := by decide +kernel
theorem dX4_touch_75 : decode cX4_touch 75 = .ok (.iload_n 3, 1) := by decide +kernel
theorem dX4_touch_76 : decode cX4_touch 76 = .ok (.iconst 2, 1) := by decide +kernel
theorem dX4_touch_77 : decode cX4_touch 77 = .ok (.iadd, 1) := by decide +kernel
theorem dX4_touch_78 : decode cX4_touch 78 = .ok (.iaload, 1) := by decide +kernel
theorem dX4_touch_79 : decode cX4_touch 79 = .ok (.iconst 2, 1) := by decide +kernel
theorem dX4_touch_80 : decode cX4_touch 80 = .ok (.aload_n 0, 1) := by decide +kernel
theorem dX4_touch_81 : decode cX4_touch 81 = .ok (.iconst 2, 1) := by decide +kernel
theorem dX4_touch_82 : decode cX4_touch 82 = .ok (.iaload, 1) := by decide +kernel
theorem dX4_touch_83 : decode cX4_touch 83 = .ok (.imul, 1) := by decide +kernel
theorem dX4_touch_84 : decode cX4_touch 84 = .ok (.iload 6, 2) := by decide +kernel
theorem dX4_touch_86 : decode cX4_touch 86 = .ok (.imul, 1) := by decide +kernel
theorem dX4_touch_87 : decode cX4_touch 87 = .ok (.aload_n 0, 1) := by decide +kernel
theorem dX4_touch_88 : decode cX4_touch 88 = .ok (.iconst 3, 1) := by decide +kernel
theorem dX4_touch_89 : decode cX4_touch 89 = .ok (.iaload, 1) := by decide +kernel
theorem dX4_touch_90 : decode cX4_touch 90 = .ok (.iload 5, 2) := by decide +kernel
theorem dX4_touch_92 : decode cX4_touch 92 = .ok (.imul, 1) := by decide +kernel
theorem dX4_touch_93 : decode cX4_touch 93 = .ok (.iadd, 1) := by decide +kernel
theorem dX4_touch_94 : decode cX4_touch 94 = .ok (.aload_n 0, 1) := by decide +kernel
theorem dX4_touch_95 : decode cX4_touch 95 = .ok (.iconst 4, 1) := by decide +kernel
theorem dX4_touch_96 : decode cX4_touch 96 = .ok (.iaload, 1) := by decide +kernel
theorem dX4_touch_97 : decode cX4_touch 97 = .ok (.iload 4, 2) := by decide +kernel
theorem dX4_touch_99 : decode cX4_touch 99 = .ok (.imul, 1) := by decide +kernel
theorem dX4_touch_100 : decode cX4_touch 100 = .ok (.iadd, 1) := by decide +kernel
theorem dX4_touch_101 : decode cX4_touch 101 = .ok (.imul, 1) := by decide +kernel
theorem dX4_touch_102 : decode cX4_touch 102 = .ok (.iadd, 1) := by decide +kernel
theorem dX4_touch_103 : decode cX4_touch 103 = .ok (.ireturn, 1) := by decide +kernel
theorem dX4_turn_0 : decode cX4_turn 0 = .ok (.iconst 0, 1) := by decide +kernel
theorem dX4_turn_1 : decode cX4_turn 1 = .ok (.istore_n 3, 1) := by decide +kernel
theorem dX4_turn_2 : decode cX4_turn 2 = .ok (.iload_n 3, 1) := by decide +kernel
theorem dX4_turn_3 : decode cX4_turn 3 = .ok (.iconst 3, 1) := by decide +kernel
theorem dX4_turn_4 : decode cX4_turn 4 = .ok (.if_icmp .ge 20, 3) := by decide +kernel
theorem dX4_turn_7 : decode cX4_turn 7 = .ok (.aload_n 2, 1) := by decide +kernel
theorem dX4_turn_8 : decode cX4_turn 8 = .ok (.iload_n 3, 1) := by decide +kernel
theorem dX4_turn_9 : decode cX4_turn 9 = .ok (.aload_n 0, 1) := by decide +kernel
theorem dX4_turn_10 : decode cX4_turn 10 = .ok (.aload_n 1, 1) := by decide +kernel
theorem dX4_turn_11 : decode cX4_turn 11 = .ok (.iconst 3, 1) := by decide +kernel
theorem dX4_turn_12 : decode cX4_turn 12 = .ok (.iload_n 3, 1) := by decide +kernel
theorem dX4_turn_13 : decode cX4_turn 13 = .ok (.imul, 1) := by decide +kernel
theorem dX4_turn_14 : decode cX4_turn 14 = .ok (.invokestatic 23, 3) := by decide +kernel
theorem dX4_turn_17 : decode cX4_turn 17 = .ok (.iastore, 1) := by decide +kernel
theorem dX4_turn_18 : decode cX4_turn 18 = .ok (.iinc 3 1, 3) := by decide +kernel
theorem dX4_turn_21 : decode cX4_turn 21 = .ok (.goto (-19), 3) := by decide +kernel
theorem dX4_turn_24 : decode cX4_turn 24 = .ok (.aload_n 2, 1) := by decide +kernel
theorem dX4_turn_25 : decode cX4_turn 25 = .ok (.iconst 3, 1) := by decide +kernel
theorem dX4_turn_26 : decode cX4_turn 26 = .ok (.aload_n 0, 1) := by decide +kernel
theorem dX4_turn_27 : decode cX4_turn 27 = .ok (.aload_n 1, 1) := by decide +kernel
theorem dX4_turn_28 : decode cX4_turn 28 = .ok (.iconst 3, 1) := by decide +kernel
theorem dX4_turn_29 : decode cX4_turn 29 = .ok (.bipush 6, 2) := by decide +kernel
theorem dX4_turn_31 : decode cX4_turn 31 = .ok (.invokestatic 27, 3) := by decide +kernel
theorem dX4_turn_34 : decode cX4_turn 34 = .ok (.iastore, 1) := by decide +kernel
theorem dX4_turn_35 : decode cX4_turn 35 = .ok (.aload_n 2, 1) := by decide +kernel
theorem dX4_turn_36 : decode cX4_turn 36 = .ok (.iconst 4, 1) := by decide +kernel
theorem dX4_turn_37 : decode cX4_turn 37 = .ok (.aload_n 0, 1) := by decide +kernel
theorem dX4_turn_38 : decode cX4_turn 38 = .ok (.aload_n 1, 1) := by decide +kernel
theorem dX4_turn_39 : decode cX4_turn 39 = .ok (.iconst 0, 1) := by decide +kernel
theorem dX4_turn_40 : decode cX4_turn 40 = .ok (.bipush 6, 2) := by decide +kernel
theorem dX4_turn_42 : decode cX4_turn 42 = .ok (.invokestatic 27, 3) := by decide +kernel
theorem dX4_turn_45 : decode cX4_turn 45 = .ok (.iastore, 1) := by decide +kernel
theorem dX4_turn_46 : decode cX4_turn 46 = .ok (.aload_n 2, 1) := by decide +kernel
theorem dX4_turn_47 : decode cX4_turn 47 = .ok (.iconst 5, 1) := by decide +kernel
theorem dX4_turn_48 : decode cX4_turn 48 = .ok (.aload_n 0, 1) := by decide +kernel
theorem dX4_turn_49 : decode cX4_turn 49 = .ok (.aload_n 1, 1) := by decide +kernel
theorem dX4_turn_50 : decode cX4_turn 50 = .ok (.iconst 0, 1) := by decide +kernel
theorem dX4_turn_51 : decode cX4_turn 51 = .ok (.iconst 3, 1) := by decide +kernel
theorem dX4_turn_52 : decode cX4_turn 52 = .ok (.invokestatic 27, 3) := by decide +kernel
theorem dX4_turn_55 : decode cX4_turn 55 = .ok (.iastore, 1) := by decide +kernel
theorem dX4_turn_56 : decode cX4_turn 56 = .ok (.return_, 1) := by decide +kernel
theorem dX4_areAlike_0 : decode cX4_areAlike 0 = .ok (.iconst 0, 1) := by decide +kernel
theorem dX4_areAlike_1 : decode cX4_areAlike 1 = .ok (.istore_n 2, 1) := by decide +kernel
theorem dX4_areAlike_2 : decode cX4_areAlike 2 = .ok (.iload_n 2, 1) := by decide +kernel
theorem dX4_areAlike_3 : decode cX4_areAlike 3 = .ok (.bipush 6, 2) := by decide +kernel
theorem dX4_areAlike_5 : decode cX4_areAlike 5 = .ok (.if_icmp .ge 20, 3) := by decide +kernel
theorem dX4_areAlike_8 : decode cX4_areAlike 8 = .ok (.aload_n 0, 1) := by decide +kernel
theorem dX4_areAlike_9 : decode cX4_areAlike 9 = .ok (.iload_n 2, 1) := by decide +kernel
theorem dX4_areAlike_10 : decode cX4_areAlike 10 = .ok (.iaload, 1) := by decide +kernel
theorem dX4_areAlike_11 : decode cX4_areAlike 11 = .ok (.aload_n 1, 1) := by decide +kernel
theorem dX4_areAlike_12 : decode cX4_areAlike 12 = .ok (.iload_n 2, 1) := by decide +kernel
theorem dX4_areAlike_13 : decode cX4_areAlike 13 = .ok (.iaload, 1) := by decide +kernel
theorem dX4_areAlike_14 : decode cX4_areAlike 14 = .ok (.if_icmp .eq 5, 3) := by decide +kernel
theorem dX4_areAlike_17 : decode cX4_areAlike 17 = .ok (.iconst 0, 1) := by decide +kernel
theorem dX4_areAlike_18 : decode cX4_areAlike 18 = .ok (.ireturn, 1) := by decide +kernel
theorem dX4_areAlike_19 : decode cX4_areAlike 19 = .ok (.iinc 2 1, 3) := by decide +kernel
theorem dX4_areAlike_22 : decode cX4_areAlike 22 = .ok (.goto (-20), 3) := by decide +kernel
theorem dX4_areAlike_25 : decode cX4_areAlike 25 = .ok (.iconst 1, 1) := by decide +kernel
theorem dX4_areAlike_26 : decode cX4_areAlike 26 = .ok (.ireturn, 1) := by decide +kernel
theorem dX5_timesOf_0 : decode cX5_timesOf 0 = .ok (.aload_n 0, 1) := by decide +kernel
theorem dX5_timesOf_1 : decode cX5_timesOf 1 = .ok (.invokestatic 7, 3) := by decide +kernel
theorem dX5_timesOf_4 : decode cX5_timesOf 4 = .ok (.istore_n 2, 1) := by decide +kernel
theorem dX5_timesOf_5 : decode cX5_timesOf 5 = .ok (.iload_n 2, 1) := by decide +kernel
theorem dX5_timesOf_6 : decode cX5_timesOf 6 = .ok (.ifCond .gt 5, 3) := by decide +kernel
theorem dX5_timesOf_9 : decode cX5_timesOf 9 = .ok (.iconst 0, 1) := by decide +kernel
theorem dX5_timesOf_10 : decode cX5_timesOf 10 = .ok (.ireturn, 1) := by decide +kernel
theorem dX5_timesOf_11 : decode cX5_timesOf 11 = .ok (.iload_n 1, 1) := by decide +kernel
theorem dX5_timesOf_12 : decode cX5_timesOf 12 = .ok (.iconst 4, 1) := by decide +kernel
theorem dX5_timesOf_13 : decode cX5_timesOf 13 = .ok (.aload_n 0, 1) := by decide +kernel
theorem dX5_timesOf_14 : decode cX5_timesOf 14 = .ok (.iconst 0, 1) := by decide +kernel
theorem dX5_timesOf_15 : decode cX5_timesOf 15 = .ok (.iaload, 1) := by decide +kernel
theorem dX5_timesOf_16 : decode cX5_timesOf 16 = .ok (.imul, 1) := by decide +kernel
theorem dX5_timesOf_17 : decode cX5_timesOf 17 = .ok (.aload_n 0, 1) := by decide +kernel
theorem dX5_timesOf_18 : decode cX5_timesOf 18 = .ok (.iconst 2, 1) := by decide +kernel
theorem dX5_timesOf_19 : decode cX5_timesOf 19 = .ok (.iaload, 1) := by decide +kernel
theorem dX5_timesOf_20 : decode cX5_timesOf 20 = .ok (.imul, 1) := by decide +kernel
theorem dX5_timesOf_21 : decode cX5_timesOf 21 = .ok (.aload_n 0, 1) := by decide +kernel
theorem dX5_timesOf_22 : decode cX5_timesOf 22 = .ok (.iconst 4, 1) := by decide +kernel
theorem dX5_timesOf_23 : decode cX5_timesOf 23 = .ok (.iaload, 1) := by decide +kernel
theorem dX5_timesOf_24 : decode cX5_timesOf 24 = .ok (.aload_n 0, 1) := by decide +kernel
theorem dX5_timesOf_25 : decode cX5_timesOf 25 = .ok (.iconst 4, 1) := by decide +kernel
theorem dX5_timesOf_26 : decode cX5_timesOf 26 = .ok (.iaload, 1) := by decide +kernel
theorem dX5_timesOf_27 : decode cX5_timesOf 27 = .ok (.imul, 1) := by decide +kernel
theorem dX5_timesOf_28 : decode cX5_timesOf 28 = .ok (.isub, 1) := by decide +kernel
theorem dX5_timesOf_29 : decode cX5_timesOf 29 = .ok (.imul, 1) := by decide +kernel
theorem dX5_timesOf_30 : decode cX5_timesOf 30 = .ok (.iload_n 2, 1) := by decide +kernel
theorem dX5_timesOf_31 : decode cX5_timesOf 31 = .ok (.idiv, 1) := by decide +kernel
theorem dX5_timesOf_32 : decode cX5_timesOf 32 = .ok (.invokestatic 13, 3) := by decide +kernel
theorem dX5_timesOf_35 : decode cX5_timesOf 35 = .ok (.istore_n 3, 1) := by decide +kernel
theorem dX5_timesOf_36 : decode cX5_timesOf 36 = .ok (.iload_n 1, 1) := by decide +kernel
theorem dX5_timesOf_37 : decode cX5_timesOf 37 = .ok (.iconst 4, 1) := by decide +kernel
theorem dX5_timesOf_38 : decode cX5_timesOf 38 = .ok (.aload_n 0, 1) := by decide +kernel
theorem dX5_timesOf_39 : decode cX5_timesOf 39 = .ok (.iconst 0, 1) := by decide +kernel
theorem dX5_timesOf_40 : decode cX5_timesOf 40 = .ok (.iaload, 1) := by decide +kernel
theorem dX5_timesOf_41 : decode cX5_timesOf 41 = .ok (.imul, 1) := by decide +kernel
theorem dX5_timesOf_42 : decode cX5_timesOf 42 = .ok (.aload_n 0, 1) := by decide +kernel
theorem dX5_timesOf_43 : decode cX5_timesOf 43 = .ok (.iconst 1, 1) := by decide +kernel
theorem dX5_timesOf_44 : decode cX5_timesOf 44 = .ok (.iaload, 1) := by decide +kernel
theorem dX5_timesOf_45 : decode cX5_timesOf 45 = .ok (.imul, 1) := by decide +kernel
theorem dX5_timesOf_46 : decode cX5_timesOf 46 = .ok (.aload_n 0, 1) := by decide +kernel
theorem dX5_timesOf_47 : decode cX5_timesOf 47 = .ok (.iconst 5, 1) := by decide +kernel
theorem dX5_timesOf_48 : decode cX5_timesOf 48 = .ok (.iaload, 1) := by decide +kernel
theorem dX5_timesOf_49 : decode cX5_timesOf 49 = .ok (.aload_n 0, 1) := by decide +kernel
theorem dX5_timesOf_50 : decode cX5_timesOf 50 = .ok (.iconst 5, 1) := by decide +kernel
theorem dX5_timesOf_51 : decode cX5_timesOf 51 = .ok (.iaload, 1) := by decide +kernel
theorem dX5_timesOf_52 : decode cX5_timesOf 52 = .ok (.imul, 1) := by decide +kernel
theorem dX5_timesOf_53 : decode cX5_timesOf 53 = .ok (.isub, 1) := by decide +kernel
theorem dX5_timesOf_54 : decode cX5_timesOf 54 = .ok (.imul, 1) := by decide +kernel
theorem dX5_timesOf_55 : decode cX5_timesOf 55 = .ok (.iload_n 2, 1) := by decide +kernel
theorem dX5_timesOf_56 : decode cX5_timesOf 56 = .ok (.idiv, 1) := by decide +kernel
theorem dX5_timesOf_57 : decode cX5_timesOf 57 = .ok (.invokestatic 13, 3) := by decide +kernel
theorem dX5_timesOf_60 : decode cX5_timesOf 60 = .ok (.istore 4, 2) := by decide +kernel
theorem dX5_timesOf_62 : decode cX5_timesOf 62 = .ok (.iconst 0, 1) := by decide +kernel
theorem dX5_timesOf_63 : decode cX5_timesOf 63 = .ok (.istore 5, 2) := by decide +kernel
theorem dX5_timesOf_65 : decode cX5_timesOf 65 = .ok (.iload 4, 2) := by decide +kernel
theorem dX5_timesOf_67 : decode cX5_timesOf 67 = .ok (.ineg, 1) := by decide +kernel
theorem dX5_timesOf_68 : decode cX5_timesOf 68 = .ok (.istore 6, 2) := by decide +kernel
theorem dX5_timesOf_70 : decode cX5_timesOf 70 = .ok (.iload 6, 2) := by decide +kernel
theorem dX5_timesOf_72 : decode cX5_timesOf 72 = .ok (.iload 4, 2) := by decide +kernel
theorem dX5_timesOf_74 : decode cX5_timesOf 74 = .ok (.if_icmp .gt 39, 3) := by decide +kernel
theorem dX5_timesOf_77 : decode cX5_timesOf 77 = .ok (.iload_n 3, 1) := by decide +kernel
theorem dX5_timesOf_78 : decode cX5_timesOf 78 = .ok (.ineg, 1) := by decide +kernel
theorem dX5_timesOf_79 : decode cX5_timesOf 79 = .ok (.istore 7, 2) := by decide +kernel
theorem dX5_timesOf_81 : decode cX5_timesOf 81 = .ok (.iload 7, 2) := by decide +kernel
theorem dX5_timesOf_83 : decode cX5_timesOf 83 = .ok (.iload_n 3, 1) := by decide +kernel
theorem dX5_timesOf_84 : decode cX5_timesOf 84 = .ok (.if_icmp .gt 23, 3) := by decide +kernel
theorem dX5_timesOf_87 : decode cX5_timesOf 87 = .ok (.iload 5, 2) := by decide +kernel
theorem dX5_timesOf_89 : decode cX5_timesOf 89 = .ok (.aload_n 0, 1) := by decide +kernel
theorem dX5_timesOf_90 : decode cX5_timesOf 90 = .ok (.iload_n 1, 1) := by decide +kernel
theorem dX5_timesOf_91 : decode cX5_timesOf 91 = .ok (.iload 7, 2) := by decide +kernel
theorem dX5_timesOf_93 : decode cX5_timesOf 93 = .ok (.iload 6, 2) := by decide +kernel
theorem dX5_timesOf_95 : decode cX5_timesOf 95 = .ok (.invokestatic 19, 3) := by decide +kernel
theorem dX5_timesOf_98 : decode cX5_timesOf 98 = .ok (.iadd, 1) := by decide +kernel
theorem dX5_timesOf_99 : decode cX5_timesOf 99 = .ok (.istore 5, 2) := by decide +kernel
theorem dX5_timesOf_101 : decode cX5_timesOf 101 = .ok (.iinc 7 1, 3) := by decide +kernel
theorem dX5_timesOf_104 : decode cX5_timesOf 104 = .ok (.goto (-23), 3) := by decide +kernel
theorem dX5_timesOf_107 : decode cX5_timesOf 107 = .ok (.iinc 6 1, 3) := by decide +kernel
theorem dX5_timesOf_110 : decode cX5_timesOf 110 = .ok (.goto (-40), 3) := by decide +kernel
theorem dX5_timesOf_113 : decode cX5_timesOf 113 = .ok (.iload 5, 2) := by decide +kernel
theorem dX5_timesOf_115 : decode cX5_timesOf 115 = .ok (.ireturn, 1) := by decide +kernel
theorem dX5_timesAt_0 : decode cX5_timesAt 0 = .ok (.iconst 2, 1) := by decide +kernel
theorem dX5_timesAt_1 : decode cX5_timesAt 1 = .ok (.aload_n 0, 1) := by decide +kernel
theorem dX5_timesAt_2 : decode cX5_timesAt 2 = .ok (.iconst 0, 1) := by decide +kernel
theorem dX5_timesAt_3 : decode cX5_timesAt 3 = .ok (.iaload, 1) := by decide +kernel
theorem dX5_timesAt_4 : decode cX5_timesAt 4 = .ok (.imul, 1) := by decide +kernel
theorem dX5_timesAt_5 : decode cX5_timesAt 5 = .ok (.istore 4, 2) := by decide +kernel
theorem dX5_timesAt_7 : decode cX5_timesAt 7 = .ok (.aload_n 0, 1) := by decide +kernel
theorem dX5_timesAt_8 : decode cX5_timesAt 8 = .ok (.iconst 5, 1) := by decide +kernel
theorem dX5_timesAt_9 : decode cX5_timesAt 9 = .ok (.iaload, 1) := by decide +kernel
theorem dX5_timesAt_10 : decode cX5_timesAt 10 = .ok (.iload_n 2, 1) := by decide +kernel
theorem dX5_timesAt_11 : decode cX5_timesAt 11 = .ok (.imul, 1) := by decide +kernel
theorem dX5_timesAt_12 : decode cX5_timesAt 12 = .ok (.aload_n 0, 1) := by decide +kernel
theorem dX5_timesAt_13 : decode cX5_timesAt 13 = .ok (.iconst 4, 1) := by decide +kernel
theorem dX5_timesAt_14 : decode cX5_timesAt 14 = .ok (.iaload, 1) := by decide +kernel
theorem dX5_timesAt_15 : decode cX5_timesAt 15 = .ok (.iload_n 3, 1) := by decide +kernel
theorem dX5_timesAt_16 : decode cX5_timesAt 16 = .ok (.imul, 1) := by decide +kernel
theorem dX5_timesAt_17 : decode cX5_timesAt 17 = .ok (.iadd, 1) := by decide +kernel
theorem dX5_timesAt_18 : decode cX5_timesAt 18 = .ok (.istore 5, 2) := by decide +kernel
theorem dX5_timesAt_20 : decode cX5_timesAt 20 = .ok (.iload 5, 2) := by decide +kernel
theorem dX5_timesAt_22 : decode cX5_timesAt 22 = .ok (.iload 5, 2) := by decide +kernel
theorem dX5_timesAt_24 : decode cX5_timesAt 24 = .ok (.imul, 1) := by decide +kernel
theorem dX5_timesAt_25 : decode cX5_timesAt 25 = .ok (.iconst 2, 1) := by decide +kernel
theorem dX5_timesAt_26 : decode cX5_timesAt 26 = .ok (.iload 4, 2) := by decide +kernel
theorem dX5_timesAt_28 : decode cX5_timesAt 28 = .ok (.imul, 1) := by decide +kernel
theorem dX5_timesAt_29 : decode cX5_timesAt 29 = .ok (.aload_n 0, 1) := by decide +kernel
theorem dX5_timesAt_30 : decode cX5_timesAt 30 = .ok (.iconst 0, 1) := by decide +kernel
theorem dX5_timesAt_31 : decode cX5_timesAt 31 = .ok (.iload_n 2, 1) := by decide +kernel
theorem dX5_timesAt_32 : decode cX5_timesAt 32 = .ok (.iload_n 3, 1) := by decide +kernel
theorem dX5_timesAt_33 : decode cX5_timesAt 33 = .ok (.invokestatic 23, 3) := by decide +kernel
theorem dX5_timesAt_36 : decode cX5_timesAt 36 = .ok (.iload_n 1, 1) := by decide +kernel
theorem dX5_timesAt_37 : decode cX5_timesAt 37 = .ok (.isub, 1) := by decide +kernel
theorem dX5_timesAt_38 : decode cX5_timesAt 38 = .ok (.imul, 1) := by decide +kernel
theorem dX5_timesAt_39 : decode cX5_timesAt 39 = .ok (.isub, 1) := by decide +kernel
theorem dX5_timesAt_40 : decode cX5_timesAt 40 = .ok (.istore 6, 2) := by decide +kernel
theorem dX5_timesAt_42 : decode cX5_timesAt 42 = .ok (.iload 4, 2) := by decide +kernel
theorem dX5_timesAt_44 : decode cX5_timesAt 44 = .ok (.ifCond .le 8, 3) := by decide +kernel
theorem dX5_timesAt_47 : decode cX5_timesAt 47 = .ok (.iload 6, 2) := by decide +kernel
theorem dX5_timesAt_49 : decode cX5_timesAt 49 = .ok (.ifCond .ge 5, 3) := by decide +kernel
theorem dX5_timesAt_52 : decode cX5_timesAt 52 = .ok (.iconst 0, 1) := by decide +kernel
theorem dX5_timesAt_53 : decode cX5_timesAt 53 = .ok (.ireturn, 1) := by decide +kernel
theorem dX5_timesAt_54 : decode cX5_timesAt 54 = .ok (.iload 6, 2) := by decide +kernel
theorem dX5_timesAt_56 : decode cX5_timesAt 56 = .ok (.invokestatic 13, 3) := by decide +kernel
theorem dX5_timesAt_59 : decode cX5_timesAt 59 = .ok (.istore 7, 2) := by decide +kernel
theorem dX5_timesAt_61 : decode cX5_timesAt 61 = .ok (.iload 7, 2) := by decide +kernel
theorem dX5_timesAt_63 : decode cX5_timesAt 63 = .ok (.iload 7, 2) := by decide +kernel
theorem dX5_timesAt_65 : decode cX5_timesAt 65 = .ok (.imul, 1) := by decide +kernel
theorem dX5_timesAt_66 : decode cX5_timesAt 66 = .ok (.iload 6, 2) := by decide +kernel
theorem dX5_timesAt_68 : decode cX5_timesAt 68 = .ok (.if_icmp .eq 5, 3) := by decide +kernel
theorem dX5_timesAt_71 : decode cX5_timesAt 71 = .ok (.iconst 0, 1) := by decide +kernel
theorem dX5_timesAt_72 : decode cX5_timesAt 72 = .ok (.ireturn, 1) := by decide +kernel
theorem dX5_timesAt_73 : decode cX5_timesAt 73 = .ok (.iload 7, 2) := by decide +kernel
theorem dX5_timesAt_75 : decode cX5_timesAt 75 = .ok (.iload 5, 2) := by decide +kernel
theorem dX5_timesAt_77 : decode cX5_timesAt 77 = .ok (.isub, 1) := by decide +kernel
theorem dX5_timesAt_78 : decode cX5_timesAt 78 = .ok (.iload 4, 2) := by decide +kernel
theorem dX5_timesAt_80 : decode cX5_timesAt 80 = .ok (.irem, 1) := by decide +kernel
theorem dX5_timesAt_81 : decode cX5_timesAt 81 = .ok (.ifCond .ne 7, 3) := by decide +kernel
theorem dX5_timesAt_84 : decode cX5_timesAt 84 = .ok (.iconst 1, 1) := by decide +kernel
theorem dX5_timesAt_85 : decode cX5_timesAt 85 = .ok (.goto 4, 3) := by decide +kernel
theorem dX5_timesAt_88 : decode cX5_timesAt 88 = .ok (.iconst 0, 1) := by decide +kernel
theorem dX5_timesAt_89 : decode cX5_timesAt 89 = .ok (.istore 8, 2) := by decide +kernel
theorem dX5_timesAt_91 : decode cX5_timesAt 91 = .ok (.iload 7, 2) := by decide +kernel
theorem dX5_timesAt_93 : decode cX5_timesAt 93 = .ok (.ifCond .eq 17, 3) := by decide +kernel
theorem dX5_timesAt_96 : decode cX5_timesAt 96 = .ok (.iload 7, 2) := by decide +kernel
theorem dX5_timesAt_98 : decode cX5_timesAt 98 = .ok (.iload 5, 2) := by decide +kernel
theorem dX5_timesAt_100 : decode cX5_timesAt 100 = .ok (.iadd, 1) := by decide +kernel
theorem dX5_timesAt_101 : decode cX5_timesAt 101 = .ok (.iload 4, 2) := by decide +kernel
theorem dX5_timesAt_103 : decode cX5_timesAt 103 = .ok (.irem, 1) := by decide +kernel
theorem dX5_timesAt_104 : decode cX5_timesAt 104 = .ok (.ifCond .ne 6, 3) := by decide +kernel
theorem dX5_timesAt_107 : decode cX5_timesAt 107 = .ok (.iinc 8 1, 3) := by decide +kernel
theorem dX5_timesAt_110 : decode cX5_timesAt 110 = .ok (.iload 8, 2) := by decide +kernel
theorem dX5_timesAt_112 : decode cX5_timesAt 112 = .ok (.ireturn, 1) := by decide +kernel
theorem dX5_rootOf_0 : decode cX5_rootOf 0 = .ok (.iconst 0, 1) := by decide +kernel
theorem dX5_rootOf_1 : decode cX5_rootOf 1 = .ok (.istore_n 1, 1) := by decide +kernel
theorem dX5_rootOf_2 : decode cX5_rootOf 2 = .ok (.sipush 16384, 3) := by decide +kernel
theorem dX5_rootOf_5 : decode cX5_rootOf 5 = .ok (.istore_n 2, 1) := by decide +kernel
theorem dX5_rootOf_6 : decode cX5_rootOf 6 = .ok (.iload_n 2, 1) := by decide +kernel
theorem dX5_rootOf_7 : decode cX5_rootOf 7 = .ok (.ifCond .le 25, 3) := by decide +kernel
theorem dX5_rootOf_10 : decode cX5_rootOf 10 = .ok (.iload_n 1, 1) := by decide +kernel
theorem dX5_rootOf_11 : decode cX5_rootOf 11 = .ok (.iload_n 2, 1) := by decide +kernel
theorem dX5_rootOf_12 : decode cX5_rootOf 12 = .ok (.iadd, 1) := by decide +kernel
theorem dX5_rootOf_13 : decode cX5_rootOf 13 = .ok (.iload_n 1, 1) := by decide +kernel
theorem dX5_rootOf_14 : decode cX5_rootOf 14 = .ok (.iload_n 2, 1) := by decide +kernel
theorem dX5_rootOf_15 : decode cX5_rootOf 15 = .ok (.iadd, 1) := by decide +kernel
theorem dX5_rootOf_16 : decode cX5_rootOf 16 = .ok (.imul, 1) := by decide +kernel
theorem dX5_rootOf_17 : decode cX5_rootOf 17 = .ok (.iload_n 0, 1) := by decide +kernel
theorem dX5_rootOf_18 : decode cX5_rootOf 18 = .ok (.if_icmp .gt 7, 3) := by decide +kernel
theorem dX5_rootOf_21 : decode cX5_rootOf 21 = .ok (.iload_n 1, 1) := by decide +kernel
theorem dX5_rootOf_22 : decode cX5_rootOf 22 = .ok (.iload_n 2, 1) := by decide +kernel
theorem dX5_rootOf_23 : decode cX5_rootOf 23 = .ok (.iadd, 1) := by decide +kernel
theorem dX5_rootOf_24 : decode cX5_rootOf 24 = .ok (.istore_n 1, 1) := by decide +kernel
theorem dX5_rootOf_25 : decode cX5_rootOf 25 = .ok (.iload_n 2, 1) := by decide +kernel
theorem dX5_rootOf_26 : decode cX5_rootOf 26 = .ok (.iconst 1, 1) := by decide +kernel
theorem dX5_rootOf_27 : decode cX5_rootOf 27 = .ok (.ishr, 1) := by decide +kernel
theorem dX5_rootOf_28 : decode cX5_rootOf 28 = .ok (.istore_n 2, 1) := by decide +kernel
theorem dX5_rootOf_29 : decode cX5_rootOf 29 = .ok (.goto (-23), 3) := by decide +kernel
theorem dX5_rootOf_32 : decode cX5_rootOf 32 = .ok (.iload_n 1, 1) := by decide +kernel
theorem dX5_rootOf_33 : decode cX5_rootOf 33 = .ok (.ireturn, 1) := by decide +kernel
theorem dX6_init_0 : decode cX6_init 0 = .ok (.aload_n 0, 1) := by decide +kernel
theorem dX6_init_1 : decode cX6_init 1 = .ok (.invokespecial 1, 3) := by decide +kernel
theorem dX6_init_4 : decode cX6_init 4 = .ok (.aload_n 0, 1) := by decide +kernel
theorem dX6_init_5 : decode cX6_init 5 = .ok (.bipush 12, 2) := by decide +kernel
theorem dX6_init_7 : decode cX6_init 7 = .ok (.anewarray 9, 3) := by decide +kernel
theorem dX6_init_10 : decode cX6_init 10 = .ok (.putfield 11, 3) := by decide +kernel
theorem dX6_init_13 : decode cX6_init 13 = .ok (.iconst 0, 1) := by decide +kernel
theorem dX6_init_14 : decode cX6_init 14 = .ok (.istore_n 1, 1) := by decide +kernel
theorem dX6_init_15 : decode cX6_init 15 = .ok (.iload_n 1, 1) := by decide +kernel
theorem dX6_init_16 : decode cX6_init 16 = .ok (.bipush 12, 2) := by decide +kernel
theorem dX6_init_18 : decode cX6_init 18 = .ok (.if_icmp .ge 22, 3) := by decide +kernel
theorem dX6_init_21 : decode cX6_init 21 = .ok (.aload_n 0, 1) := by decide +kernel
theorem dX6_init_22 : decode cX6_init 22 = .ok (.getfield 11, 3) := by decide +kernel
theorem dX6_init_25 : decode cX6_init 25 = .ok (.iload_n 1, 1) := by decide +kernel
theorem dX6_init_26 : decode cX6_init 26 = .ok (.new 9, 3) := by decide +kernel
theorem dX6_init_29 : decode cX6_init 29 = .ok (.dup, 1) := by decide +kernel
theorem dX6_init_30 : decode cX6_init 30 = .ok (.invokespecial 15, 3) := by decide +kernel
theorem dX6_init_33 : decode cX6_init 33 = .ok (.aastore, 1) := by decide +kernel
theorem dX6_init_34 : decode cX6_init 34 = .ok (.iinc 1 1, 3) := by decide +kernel
theorem dX6_init_37 : decode cX6_init 37 = .ok (.goto (-22), 3) := by decide +kernel
theorem dX6_init_40 : decode cX6_init 40 = .ok (.aload_n 0, 1) := by decide +kernel
theorem dX6_init_41 : decode cX6_init 41 = .ok (.new 16, 3) := by decide +kernel
theorem dX6_init_44 : decode cX6_init 44 = .ok (.dup, 1) := by decide +kernel
theorem dX6_init_45 : decode cX6_init 45 = .ok (.invokespecial 18, 3) := by decide +kernel
theorem dX6_init_48 : decode cX6_init 48 = .ok (.putfield 19, 3) := by decide +kernel
theorem dX6_init_51 : decode cX6_init 51 = .ok (.aload_n 0, 1) := by decide +kernel
theorem dX6_init_52 : decode cX6_init 52 = .ok (.new 23, 3) := by decide +kernel
theorem dX6_init_55 : decode cX6_init 55 = .ok (.dup, 1) := by decide +kernel
theorem dX6_init_56 : decode cX6_init 56 = .ok (.invokespecial 25, 3) := by decide +kernel
theorem dX6_init_59 : decode cX6_init 59 = .ok (.putfield 26, 3) := by decide +kernel
theorem dX6_init_62 : decode cX6_init 62 = .ok (.aload_n 0, 1) := by decide +kernel
theorem dX6_init_63 : decode cX6_init 63 = .ok (.bipush 6, 2) := by decide +kernel
theorem dX6_init_65 : decode cX6_init 65 = .ok (.newarray .int, 2) := by decide +kernel
theorem dX6_init_67 : decode cX6_init 67 = .ok (.putfield 30, 3) := by decide +kernel
theorem dX6_init_70 : decode cX6_init 70 = .ok (.aload_n 0, 1) := by decide +kernel
theorem dX6_init_71 : decode cX6_init 71 = .ok (.bipush 9, 2) := by decide +kernel
theorem dX6_init_73 : decode cX6_init 73 = .ok (.newarray .int, 2) := by decide +kernel
theorem dX6_init_75 : decode cX6_init 75 = .ok (.putfield 34, 3) := by decide +kernel
theorem dX6_init_78 : decode cX6_init 78 = .ok (.aload_n 0, 1) := by decide +kernel
theorem dX6_init_79 : decode cX6_init 79 = .ok (.bipush 6, 2) := by decide +kernel
theorem dX6_init_81 : decode cX6_init 81 = .ok (.newarray .int, 2) := by decide +kernel
theorem dX6_init_83 : decode cX6_init 83 = .ok (.putfield 37, 3) := by decide +kernel
theorem dX6_init_86 : decode cX6_init 86 = .ok (.aload_n 0, 1) := by decide +kernel
theorem dX6_init_87 : decode cX6_init 87 = .ok (.iconst 0, 1) := by decide +kernel
theorem dX6_init_88 : decode cX6_init 88 = .ok (.putfield 40, 3) := by decide +kernel
theorem dX6_init_91 : decode cX6_init 91 = .ok (.aload_n 0, 1) := by decide +kernel
theorem dX6_init_92 : decode cX6_init 92 = .ok (.iconst 3, 1) := by decide +kernel
theorem dX6_init_93 : decode cX6_init 93 = .ok (.putfield 44, 3) := by decide +kernel
theorem dX6_init_96 : decode cX6_init 96 = .ok (.return_, 1) := by decide +kernel
theorem dX6_form_0 : decode cX6_form 0 = .ok (.aload_n 0, 1) := by decide +kernel
theorem dX6_form_1 : decode cX6_form 1 = .ok (.iload_n 1, 1) := by decide +kernel
theorem dX6_form_2 : decode cX6_form 2 = .ok (.iload_n 2, 1) := by decide +kernel
theorem dX6_form_3 : decode cX6_form 3 = .ok (.iload_n 3, 1) := by decide +kernel
theorem dX6_form_4 : decode cX6_form 4 = .ok (.iload 4, 2) := by decide +kernel
theorem dX6_form_6 : decode cX6_form 6 = .ok (.iload 5, 2) := by decide +kernel
theorem dX6_form_8 : decode cX6_form 8 = .ok (.iload 6, 2) := by decide +kernel
theorem dX6_form_10 : decode cX6_form 10 = .ok (.invokevirtual 47, 3) := by decide +kernel
theorem dX6_form_13 : decode cX6_form 13 = .ok (.aload_n 0, 1) := by decide +kernel
theorem dX6_form_14 : decode cX6_form 14 = .ok (.getfield 30, 3) := by decide +kernel
theorem dX6_form_17 : decode cX6_form 17 = .ok (.invokestatic 51, 3) := by decide +kernel
theorem dX6_form_20 : decode cX6_form 20 = .ok (.ifCond .ne 6, 3) := by decide +kernel
theorem dX6_form_23 : decode cX6_form 23 = .ok (.ldc 57, 2) := by decide +kernel
theorem dX6_form_25 : decode cX6_form 25 = .ok (.ireturn, 1) := by decide +kernel
theorem dX6_form_26 : decode cX6_form 26 = .ok (.aload_n 0, 1) := by decide +kernel
theorem dX6_form_27 : decode cX6_form 27 = .ok (.getfield 40, 3) := by decide +kernel
theorem dX6_form_30 : decode cX6_form 30 = .ok (.bipush 12, 2) := by decide +kernel
theorem dX6_form_32 : decode cX6_form 32 = .ok (.if_icmp .lt 6, 3) := by decide +kernel
theorem dX6_form_35 : decode cX6_form 35 = .ok (.ldc 58, 2) := by decide +kernel
theorem dX6_form_37 : decode cX6_form 37 = .ok (.ireturn, 1) := by decide +kernel
theorem dX6_form_38 : decode cX6_form 38 = .ok (.aload_n 0, 1) := by decide +kernel
theorem dX6_form_39 : decode cX6_form 39 = .ok (.getfield 11, 3) := by decide +kernel
theorem dX6_form_42 : decode cX6_form 42 = .ok (.aload_n 0, 1) := by decide +kernel
theorem dX6_form_43 : decode cX6_form 43 = .ok (.getfield 40, 3) := by decide +kernel
theorem dX6_form_46 : decode cX6_form 46 = .ok (.aaload, 1) := by decide +kernel
theorem dX6_form_47 : decode cX6_form 47 = .ok (.aload_n 0, 1) := by decide +kernel
theorem dX6_form_48 : decode cX6_form 48 = .ok (.getfield 30, 3) := by decide +kernel
theorem dX6_form_51 : decode cX6_form 51 = .ok (.aload_n 0, 1) := by decide +kernel
theorem dX6_form_52 : decode cX6_form 52 = .ok (.getfield 19, 3) := by decide +kernel
theorem dX6_form_55 : decode cX6_form 55 = .ok (.invokevirtual 59, 3) := by decide +kernel
theorem dX6_form_58 : decode cX6_form 58 = .ok (.aload_n 0, 1) := by decide +kernel
theorem dX6_form_59 : decode cX6_form 59 = .ok (.dup, 1) := by decide +kernel
theorem dX6_form_60 : decode cX6_form 60 = .ok (.getfield 40, 3) := by decide +kernel
theorem dX6_form_63 : decode cX6_form 63 = .ok (.iconst 1, 1) := by decide +kernel
theorem dX6_form_64 : decode cX6_form 64 = .ok (.iadd, 1) := by decide +kernel
theorem dX6_form_65 : decode cX6_form 65 = .ok (.putfield 40, 3) := by decide +kernel
theorem dX6_form_68 : decode cX6_form 68 = .ok (.aload_n 0, 1) := by decide +kernel
theorem dX6_form_69 : decode cX6_form 69 = .ok (.getfield 40, 3) := by decide +kernel
theorem dX6_form_72 : decode cX6_form 72 = .ok (.iconst 1, 1) := by decide +kernel
theorem dX6_form_73 : decode cX6_form 73 = .ok (.isub, 1) := by decide +kernel
theorem dX6_form_74 : decode cX6_form 74 = .ok (.ireturn, 1) := by decide +kernel
theorem dX6_set_0 : decode cX6_set 0 = .ok (.aload_n 0, 1) := by decide +kernel
theorem dX6_set_1 : decode cX6_set 1 = .ok (.iload_n 1, 1) := by decide +kernel
theorem dX6_set_2 : decode cX6_set 2 = .ok (.invokevirtual 63, 3) := by decide +kernel
theorem dX6_set_5 : decode cX6_set 5 = .ok (.ifCond .eq 6, 3) := by decide +kernel
theorem dX6_set_8 : decode cX6_set 8 = .ok (.ldc 67, 2) := by decide +kernel
theorem dX6_set_10 : decode cX6_set 10 = .ok (.ireturn, 1) := by decide +kernel
theorem dX6_set_11 : decode cX6_set 11 = .ok (.aload_n 0, 1) := by decide +kernel
theorem dX6_set_12 : decode cX6_set 12 = .ok (.iload_n 2, 1) := by decide +kernel
theorem dX6_set_13 : decode cX6_set 13 = .ok (.iload_n 3, 1) := by decide +kernel
theorem dX6_set_14 : decode cX6_set 14 = .ok (.iload 4, 2) := by decide +kernel
theorem dX6_set_16 : decode cX6_set 16 = .ok (.iload 5, 2) := by decide +kernel
theorem dX6_set_18 : decode cX6_set 18 = .ok (.iload 6, 2) := by decide +kernel
theorem dX6_set_20 : decode cX6_set 20 = .ok (.iload 7, 2) := by decide +kernel
theorem dX6_set_22 : decode cX6_set 22 = .ok (.invokevirtual 47, 3) := by decide +kernel
theorem dX6_set_25 : decode cX6_set 25 = .ok (.aload_n 0, 1) := by decide +kernel
theorem dX6_set_26 : decode cX6_set 26 = .ok (.getfield 30, 3) := by decide +kernel
theorem dX6_set_29 : decode cX6_set 29 = .ok (.invokestatic 51, 3) := by decide +kernel
theorem dX6_set_32 : decode cX6_set 32 = .ok (.ifCond .ne 6, 3) := by decide +kernel
theorem dX6_set_35 : decode cX6_set 35 = .ok (.ldc 57, 2) := by decide +kernel
theorem dX6_set_37 : decode cX6_set 37 = .ok (.ireturn, 1) := by decide +kernel
theorem dX6_set_38 : decode cX6_set 38 = .ok (.aload_n 0, 1) := by decide +kernel
theorem dX6_set_39 : decode cX6_set 39 = .ok (.getfield 11, 3) := by decide +kernel
theorem dX6_set_42 : decode cX6_set 42 = .ok (.iload_n 1, 1) := by decide +kernel
theorem dX6_set_43 : decode cX6_set 43 = .ok (.aaload, 1) := by decide +kernel
theorem dX6_set_44 : decode cX6_set 44 = .ok (.aload_n 0, 1) := by decide +kernel
theorem dX6_set_45 : decode cX6_set 45 = .ok (.getfield 30, 3) := by decide +kernel
theorem dX6_set_48 : decode cX6_set 48 = .ok (.aload_n 0, 1) := by decide +kernel
theorem dX6_set_49 : decode cX6_set 49 = .ok (.getfield 19, 3) := by decide +kernel
theorem dX6_set_52 : decode cX6_set 52 = .ok (.invokevirtual 59, 3) := by decide +kernel
theorem dX6_set_55 : decode cX6_set 55 = .ok (.iconst 1, 1) := by decide +kernel
theorem dX6_set_56 : decode cX6_set 56 = .ok (.ireturn, 1) := by decide +kernel
theorem dX6_drop_0 : decode cX6_drop 0 = .ok (.aload_n 0, 1) := by decide +kernel
theorem dX6_drop_1 : decode cX6_drop 1 = .ok (.getfield 40, 3) := by decide +kernel
theorem dX6_drop_4 : decode cX6_drop 4 = .ok (.ifCond .ne 6, 3) := by decide +kernel
theorem dX6_drop_7 : decode cX6_drop 7 = .ok (.ldc 68, 2) := by decide +kernel
theorem dX6_drop_9 : decode cX6_drop 9 = .ok (.ireturn, 1) := by decide +kernel
theorem dX6_drop_10 : decode cX6_drop 10 = .ok (.aload_n 0, 1) := by decide +kernel
theorem dX6_drop_11 : decode cX6_drop 11 = .ok (.dup, 1) := by decide +kernel
theorem dX6_drop_12 : decode cX6_drop 12 = .ok (.getfield 40, 3) := by decide +kernel
theorem dX6_drop_15 : decode cX6_drop 15 = .ok (.iconst 1, 1) := by decide +kernel
theorem dX6_drop_16 : decode cX6_drop 16 = .ok (.isub, 1) := by decide +kernel
theorem dX6_drop_17 : decode cX6_drop 17 = .ok (.putfield 40, 3) := by decide +kernel
theorem dX6_drop_20 : decode cX6_drop 20 = .ok (.aload_n 0, 1) := by decide +kernel
theorem dX6_drop_21 : decode cX6_drop 21 = .ok (.getfield 40, 3) := by decide +kernel
theorem dX6_drop_24 : decode cX6_drop 24 = .ok (.ireturn, 1) := by decide +kernel
theorem dX6_told_0 : decode cX6_told 0 = .ok (.aload_n 0, 1) := by decide +kernel
theorem dX6_told_1 : decode cX6_told 1 = .ok (.iload_n 1, 1) := by decide +kernel
theorem dX6_told_2 : decode cX6_told 2 = .ok (.invokevirtual 63, 3) := by decide +kernel
theorem dX6_told_5 : decode cX6_told 5 = .ok (.ifCond .eq 6, 3) := by decide +kernel
theorem dX6_told_8 : decode cX6_told 8 = .ok (.ldc 67, 2) := by decide +kernel
theorem dX6_told_10 : decode cX6_told 10 = .ok (.ireturn, 1) := by decide +kernel
theorem dX6_told_11 : decode cX6_told 11 = .ok (.iload_n 2, 1) := by decide +kernel
theorem dX6_told_12 : decode cX6_told 12 = .ok (.iconst 0, 1) := by decide +kernel
theorem dX6_told_13 : decode cX6_told 13 = .ok (.bipush 13, 2) := by decide +kernel
theorem dX6_told_15 : decode cX6_told 15 = .ok (.invokestatic 69, 3) := by decide +kernel
theorem dX6_told_18 : decode cX6_told 18 = .ok (.ifCond .eq 6, 3) := by decide +kernel
theorem dX6_told_21 : decode cX6_told 21 = .ok (.ldc 57, 2) := by decide +kernel
theorem dX6_told_23 : decode cX6_told 23 = .ok (.ireturn, 1) := by decide +kernel
theorem dX6_told_24 : decode cX6_told 24 = .ok (.aload_n 0, 1) := by decide +kernel
theorem dX6_told_25 : decode cX6_told 25 = .ok (.getfield 11, 3) := by decide +kernel
theorem dX6_told_28 : decode cX6_told 28 = .ok (.iload_n 1, 1) := by decide +kernel
theorem dX6_told_29 : decode cX6_told 29 = .ok (.aaload, 1) := by decide +kernel
theorem dX6_told_30 : decode cX6_told 30 = .ok (.astore_n 3, 1) := by decide +kernel
theorem dX6_told_31 : decode cX6_told 31 = .ok (.iload_n 2, 1) := by decide +kernel
theorem dX6_told_32 : decode cX6_told 32 = .ok (.bipush 6, 2) := by decide +kernel
theorem dX6_told_34 : decode cX6_told 34 = .ok (.if_icmp .ge 10, 3) := by decide +kernel
theorem dX6_told_37 : decode cX6_told 37 = .ok (.aload_n 3, 1) := by decide +kernel
theorem dX6_told_38 : decode cX6_told 38 = .ok (.getfield 73, 3) := by decide +kernel
theorem dX6_told_41 : decode cX6_told 41 = .ok (.iload_n 2, 1) := by decide +kernel
theorem dX6_told_42 : decode cX6_told 42 = .ok (.iaload, 1) := by decide +kernel
theorem dX6_told_43 : decode cX6_told 43 = .ok (.ireturn, 1) := by decide +kernel
theorem dX6_told_44 : decode cX6_told 44 = .ok (.iload_n 2, 1) := by decide +kernel
theorem dX6_told_45 : decode cX6_told 45 = .ok (.bipush 6, 2) := by decide +kernel
theorem dX6_told_47 : decode cX6_told 47 = .ok (.if_icmp .ne 8, 3) := by decide +kernel
theorem dX6_told_50 : decode cX6_told 50 = .ok (.aload_n 3, 1) := by decide +kernel
theorem dX6_told_51 : decode cX6_told 51 = .ok (.getfield 76, 3) := by decide +kernel
theorem dX6_told_54 : decode cX6_told 54 = .ok (.ireturn, 1) := by decide +kernel
theorem dX6_told_55 : decode cX6_told 55 = .ok (.iload_n 2, 1) := by decide +kernel
theorem dX6_told_56 : decode cX6_told 56 = .ok (.bipush 13, 2) := by decide +kernel
theorem dX6_told_58 : decode cX6_told 58 = .ok (.if_icmp .ge 15, 3) := by decide +kernel
theorem dX6_told_61 : decode cX6_told 61 = .ok (.aload_n 3, 1) := by decide +kernel
theorem dX6_told_62 : decode cX6_told 62 = .ok (.getfield 79, 3) := by decide +kernel
theorem dX6_told_65 : decode cX6_told 65 = .ok (.iload_n 2, 1) := by decide +kernel
theorem dX6_told_66 : decode cX6_told 66 = .ok (.bipush 7, 2) := by decide +kernel
theorem dX6_told_68 : decode cX6_told 68 = .ok (.isub, 1) := by decide +kernel
theorem dX6_told_69 : decode cX6_told 69 = .ok (.iaload, 1) := by decide +kernel
theorem dX6_told_70 : decode cX6_told 70 = .ok (.goto 7, 3) := by decide +kernel
theorem dX6_told_73 : decode cX6_told 73 = .ok (.aload_n 3, 1) := by decide +kernel
theorem dX6_told_74 : decode cX6_told 74 = .ok (.getfield 82, 3) := by decide +kernel
theorem dX6_told_77 : decode cX6_told 77 = .ok (.ireturn, 1) := by decide +kernel
theorem dX6_value_0 : decode cX6_value 0 = .ok (.aload_n 0, 1) := by decide +kernel
theorem dX6_value_1 : decode cX6_value 1 = .ok (.iload_n 1, 1) := by decide +kernel
theorem dX6_value_2 : decode cX6_value 2 = .ok (.invokevirtual 63, 3) := by decide +kernel
theorem dX6_value_5 : decode cX6_value 5 = .ok (.ifCond .eq 6, 3) := by decide +kernel
theorem dX6_value_8 : decode cX6_value 8 = .ok (.ldc 67, 2) := by decide +kernel
theorem dX6_value_10 : decode cX6_value 10 = .ok (.ireturn, 1) := by decide +kernel
theorem dX6_value_11 : decode cX6_value 11 = .ok (.iload_n 2, 1) := by decide +kernel
theorem dX6_value_12 : decode cX6_value 12 = .ok (.sipush (-1000), 3) := by decide +kernel
theorem dX6_value_15 : decode cX6_value 15 = .ok (.sipush 1000, 3) := by decide +kernel
theorem dX6_value_18 : decode cX6_value 18 = .ok (.invokestatic 69, 3) := by decide +kernel
theorem dX6_value_21 : decode cX6_value 21 = .ok (.ifCond .ne 30, 3) := by decide +kernel
theorem dX6_value_24 : decode cX6_value 24 = .ok (.iload_n 3, 1) := by decide +kernel
theorem dX6_value_25 : decode cX6_value 25 = .ok (.sipush (-1000), 3) := by decide +kernel
theorem dX6_value_28 : decode cX6_value 28 = .ok (.sipush 1000, 3) := by decide +kernel
theorem dX6_value_31 : decode cX6_value 31 = .ok (.invokestatic 69, 3) := by decide +kernel
theorem dX6_value_34 : decode cX6_value 34 = .ok (.ifCond .ne 17, 3) := by decide +kernel
theorem dX6_value_37 : decode cX6_value 37 = .ok (.iload 4, 2) := by decide +kernel
theorem dX6_value_39 : decode cX6_value 39 = .ok (.sipush (-1000), 3) := by decide +kernel
theorem dX6_value_42 : decode cX6_value 42 = .ok (.sipush 1000, 3) := by decide +kernel
theorem dX6_value_45 : decode cX6_value 45 = .ok (.invokestatic 69, 3) := by decide +kernel
theorem dX6_value_48 : decode cX6_value 48 = .ok (.ifCond .eq 6, 3) := by decide +kernel
theorem dX6_value_51 : decode cX6_value 51 = .ok (.ldc 57, 2) := by decide +kernel
theorem dX6_value_53 : decode cX6_value 53 = .ok (.ireturn, 1) := by decide +kernel
theorem dX6_value_54 : decode cX6_value 54 = .ok (.aload_n 0, 1) := by decide +kernel
theorem dX6_value_55 : decode cX6_value 55 = .ok (.getfield 11, 3) := by decide +kernel
theorem dX6_value_58 : decode cX6_value 58 = .ok (.iload_n 1, 1) := by decide +kernel
theorem dX6_value_59 : decode cX6_value 59 = .ok (.aaload, 1) := by decide +kernel
theorem dX6_value_60 : decode cX6_value 60 = .ok (.getfield 73, 3) := by decide +kernel
theorem dX6_value_63 : decode cX6_value 63 = .ok (.iload_n 2, 1) := by decide +kernel
theorem dX6_value_64 : decode cX6_value 64 = .ok (.iload_n 3, 1) := by decide +kernel
theorem dX6_value_65 : decode cX6_value 65 = .ok (.iload 4, 2) := by decide +kernel
theorem dX6_value_67 : decode cX6_value 67 = .ok (.invokestatic 85, 3) := by decide +kernel
theorem dX6_value_70 : decode cX6_value 70 = .ok (.ireturn, 1) := by decide +kernel
theorem dX6_taken_0 : decode cX6_taken 0 = .ok (.aload_n 0, 1) := by decide +kernel
theorem dX6_taken_1 : decode cX6_taken 1 = .ok (.iload_n 1, 1) := by decide +kernel
theorem dX6_taken_2 : decode cX6_taken 2 = .ok (.invokevirtual 63, 3) := by decide +kernel
theorem dX6_taken_5 : decode cX6_taken 5 = .ok (.ifCond .eq 6, 3) := by decide +kernel
theorem dX6_taken_8 : decode cX6_taken 8 = .ok (.ldc 67, 2) := by decide +kernel
theorem dX6_taken_10 : decode cX6_taken 10 = .ok (.ireturn, 1) := by decide +kernel
theorem dX6_taken_11 : decode cX6_taken 11 = .ok (.iload_n 2, 1) := by decide +kernel
theorem dX6_taken_12 : decode cX6_taken 12 = .ok (.iconst 0, 1) := by decide +kernel
theorem dX6_taken_13 : decode cX6_taken 13 = .ok (.bipush 100, 2) := by decide +kernel
theorem dX6_taken_15 : decode cX6_taken 15 = .ok (.invokestatic 69, 3) := by decide +kernel
theorem dX6_taken_18 : decode cX6_taken 18 = .ok (.ifCond .eq 6, 3) := by decide +kernel
theorem dX6_taken_21 : decode cX6_taken 21 = .ok (.ldc 57, 2) := by decide +kernel
theorem dX6_taken_23 : decode cX6_taken 23 = .ok (.ireturn, 1) := by decide +kernel
theorem dX6_taken_24 : decode cX6_taken 24 = .ok (.aload_n 0, 1) := by decide +kernel
theorem dX6_taken_25 : decode cX6_taken 25 = .ok (.getfield 11, 3) := by decide +kernel
theorem dX6_taken_28 : decode cX6_taken 28 = .ok (.iload_n 1, 1) := by decide +kernel
theorem dX6_taken_29 : decode cX6_taken 29 = .ok (.aaload, 1) := by decide +kernel
theorem dX6_taken_30 : decode cX6_taken 30 = .ok (.getfield 79, 3) := by decide +kernel
theorem dX6_taken_33 : decode cX6_taken 33 = .ok (.iload_n 2, 1) := by decide +kernel
theorem dX6_taken_34 : decode cX6_taken 34 = .ok (.invokestatic 89, 3) := by decide +kernel
theorem dX6_taken_37 : decode cX6_taken 37 = .ok (.ireturn, 1) := by decide +kernel
theorem dX6_least_0 : decode cX6_least 0 = .ok (.aload_n 0, 1) := by decide +kernel
theorem dX6_least_1 : decode cX6_least 1 = .ok (.iload_n 1, 1) := by decide +kernel
theorem dX6_least_2 : decode cX6_least 2 = .ok (.invokevirtual 63, 3) := by decide +kernel
theorem dX6_least_5 : decode cX6_least 5 = .ok (.ifCond .eq 8, 3) := by decide +kernel
theorem dX6_least_8 : decode cX6_least 8 = .ok (.ldc 67, 2) := by decide +kernel
theorem dX6_least_10 : decode cX6_least 10 = .ok (.goto 14, 3) := by decide +kernel
theorem dX6_least_13 : decode cX6_least 13 = .ok (.aload_n 0, 1) := by decide +kernel
theorem dX6_least_14 : decode cX6_least 14 = .ok (.getfield 11, 3) := by decide +kernel
theorem dX6_least_17 : decode cX6_least 17 = .ok (.iload_n 1, 1) := by decide +kernel
theorem dX6_least_18 : decode cX6_least 18 = .ok (.aaload, 1) := by decide +kernel
theorem dX6_least_19 : decode cX6_least 19 = .ok (.getfield 79, 3) := by decide +kernel
theorem dX6_least_22 : decode cX6_least 22 = .ok (.iconst 0, 1) := by decide +kernel
theorem dX6_least_23 : decode cX6_least 23 = .ok (.iaload, 1) := by decide +kernel
theorem dX6_least_24 : decode cX6_least 24 = .ok (.ireturn, 1) := by decide +kernel
theorem dX6_same_0 : decode cX6_same 0 = .ok (.aload_n 0, 1) := by decide +kernel
theorem dX6_same_1 : decode cX6_same 1 = .ok (.iload_n 1, 1) := by decide +kernel
theorem dX6_same_2 : decode cX6_same 2 = .ok (.invokevirtual 63, 3) := by decide +kernel
theorem dX6_same_5 : decode cX6_same 5 = .ok (.ifCond .ne 11, 3) := by decide +kernel
theorem dX6_same_8 : decode cX6_same 8 = .ok (.aload_n 0, 1) := by decide +kernel
theorem dX6_same_9 : decode cX6_same 9 = .ok (.iload_n 2, 1) := by decide +kernel
theorem dX6_same_10 : decode cX6_same 10 = .ok (.invokevirtual 63, 3) := by decide +kernel
theorem dX6_same_13 : decode cX6_same 13 = .ok (.ifCond .eq 6, 3) := by decide +kernel
theorem dX6_same_16 : decode cX6_same 16 = .ok (.ldc 67, 2) := by decide +kernel
theorem dX6_same_18 : decode cX6_same 18 = .ok (.ireturn, 1) := by decide +kernel
theorem dX6_same_19 : decode cX6_same 19 = .ok (.aload_n 0, 1) := by decide +kernel
theorem dX6_same_20 : decode cX6_same 20 = .ok (.getfield 11, 3) := by decide +kernel
theorem dX6_same_23 : decode cX6_same 23 = .ok (.iload_n 1, 1) := by decide +kernel
theorem dX6_same_24 : decode cX6_same 24 = .ok (.aaload, 1) := by decide +kernel
theorem dX6_same_25 : decode cX6_same 25 = .ok (.getfield 79, 3) := by decide +kernel
theorem dX6_same_28 : decode cX6_same 28 = .ok (.aload_n 0, 1) := by decide +kernel
theorem dX6_same_29 : decode cX6_same 29 = .ok (.getfield 11, 3) := by decide +kernel
theorem dX6_same_32 : decode cX6_same 32 = .ok (.iload_n 2, 1) := by decide +kernel
theorem dX6_same_33 : decode cX6_same 33 = .ok (.aaload, 1) := by decide +kernel
theorem dX6_same_34 : decode cX6_same 34 = .ok (.getfield 79, 3) := by decide +kernel
theorem dX6_same_37 : decode cX6_same 37 = .ok (.invokestatic 95, 3) := by decide +kernel
theorem dX6_same_40 : decode cX6_same 40 = .ok (.ifCond .eq 7, 3) := by decide +kernel
theorem dX6_same_43 : decode cX6_same 43 = .ok (.iconst 1, 1) := by decide +kernel
theorem dX6_same_44 : decode cX6_same 44 = .ok (.goto 4, 3) := by decide +kernel
theorem dX6_same_47 : decode cX6_same 47 = .ok (.iconst 0, 1) := by decide +kernel
theorem dX6_same_48 : decode cX6_same 48 = .ok (.ireturn, 1) := by decide +kernel
theorem dX6_table_0 : decode cX6_table 0 = .ok (.aload_n 0, 1) := by decide +kernel
theorem dX6_table_1 : decode cX6_table 1 = .ok (.iload_n 1, 1) := by decide +kernel
theorem dX6_table_2 : decode cX6_table 2 = .ok (.invokevirtual 63, 3) := by decide +kernel
theorem dX6_table_5 : decode cX6_table 5 = .ok (.ifCond .eq 6, 3) := by decide +kernel
theorem dX6_table_8 : decode cX6_table 8 = .ok (.ldc 67, 2) := by decide +kernel
theorem dX6_table_10 : decode cX6_table 10 = .ok (.ireturn, 1) := by decide +kernel
theorem dX6_table_11 : decode cX6_table 11 = .ok (.iload_n 2, 1) := by decide +kernel
theorem dX6_table_12 : decode cX6_table 12 = .ok (.iconst 0, 1) := by decide +kernel
theorem dX6_table_13 : decode cX6_table 13 = .ok (.bipush 8, 2) := by decide +kernel
theorem dX6_table_15 : decode cX6_table 15 = .ok (.invokestatic 69, 3) := by decide +kernel
theorem dX6_table_18 : decode cX6_table 18 = .ok (.ifCond .eq 8, 3) := by decide +kernel
theorem dX6_table_21 : decode cX6_table 21 = .ok (.ldc 57, 2) := by decide +kernel
theorem dX6_table_23 : decode cX6_table 23 = .ok (.goto 14, 3) := by decide +kernel
theorem dX6_table_26 : decode cX6_table 26 = .ok (.aload_n 0, 1) := by decide +kernel
theorem dX6_table_27 : decode cX6_table 27 = .ok (.getfield 11, 3) := by decide +kernel
theorem dX6_table_30 : decode cX6_table 30 = .ok (.iload_n 1, 1) := by decide +kernel
theorem dX6_table_31 : decode cX6_table 31 = .ok (.aaload, 1) := by decide +kernel
theorem dX6_table_32 : decode cX6_table 32 = .ok (.getfield 99, 3) := by decide +kernel
theorem dX6_table_35 : decode cX6_table 35 = .ok (.iload_n 2, 1) := by decide +kernel
theorem dX6_table_36 : decode cX6_table 36 = .ok (.iaload, 1) := by decide +kernel
theorem dX6_table_37 : decode cX6_table 37 = .ok (.ireturn, 1) := by decide +kernel
theorem dX6_turns_0 : decode cX6_turns 0 = .ok (.aload_n 0, 1) := by decide +kernel
theorem dX6_turns_1 : decode cX6_turns 1 = .ok (.iload_n 1, 1) := by decide +kernel
theorem dX6_turns_2 : decode cX6_turns 2 = .ok (.invokevirtual 63, 3) := by decide +kernel
theorem dX6_turns_5 : decode cX6_turns 5 = .ok (.ifCond .ne 11, 3) := by decide +kernel
theorem dX6_turns_8 : decode cX6_turns 8 = .ok (.aload_n 0, 1) := by decide +kernel
theorem dX6_turns_9 : decode cX6_turns 9 = .ok (.iload_n 2, 1) := by decide +kernel
theorem dX6_turns_10 : decode cX6_turns 10 = .ok (.invokevirtual 63, 3) := by decide +kernel
theorem dX6_turns_13 : decode cX6_turns 13 = .ok (.ifCond .eq 6, 3) := by decide +kernel
theorem dX6_turns_16 : decode cX6_turns 16 = .ok (.ldc 67, 2) := by decide +kernel
theorem dX6_turns_18 : decode cX6_turns 18 = .ok (.ireturn, 1) := by decide +kernel
theorem dX6_turns_19 : decode cX6_turns 19 = .ok (.aload_n 0, 1) := by decide +kernel
theorem dX6_turns_20 : decode cX6_turns 20 = .ok (.iconst 0, 1) := by decide +kernel
theorem dX6_turns_21 : decode cX6_turns 21 = .ok (.iload_n 3, 1) := by decide +kernel
theorem dX6_turns_22 : decode cX6_turns 22 = .ok (.iload 4, 2) := by decide +kernel
theorem dX6_turns_24 : decode cX6_turns 24 = .ok (.iload 5, 2) := by decide +kernel
theorem dX6_turns_26 : decode cX6_turns 26 = .ok (.invokevirtual 102, 3) := by decide +kernel
theorem dX6_turns_29 : decode cX6_turns 29 = .ok (.aload_n 0, 1) := by decide +kernel
theorem dX6_turns_30 : decode cX6_turns 30 = .ok (.iconst 1, 1) := by decide +kernel
theorem dX6_turns_31 : decode cX6_turns 31 = .ok (.iload 6, 2) := by decide +kernel
theorem dX6_turns_33 : decode cX6_turns 33 = .ok (.iload 7, 2) := by decide +kernel
theorem dX6_turns_35 : decode cX6_turns 35 = .ok (.iload 8, 2) := by decide +kernel
theorem dX6_turns_37 : decode cX6_turns 37 = .ok (.invokevirtual 102, 3) := by decide +kernel
theorem dX6_turns_40 : decode cX6_turns 40 = .ok (.aload_n 0, 1) := by decide +kernel
theorem dX6_turns_41 : decode cX6_turns 41 = .ok (.iconst 2, 1) := by decide +kernel
theorem dX6_turns_42 : decode cX6_turns 42 = .ok (.iload 9, 2) := by decide +kernel
theorem dX6_turns_44 : decode cX6_turns 44 = .ok (.iload 10, 2) := by decide +kernel
theorem dX6_turns_46 : decode cX6_turns 46 = .ok (.iload 11, 2) := by decide +kernel
theorem dX6_turns_48 : decode cX6_turns 48 = .ok (.invokevirtual 102, 3) := by decide +kernel
theorem dX6_turns_51 : decode cX6_turns 51 = .ok (.iconst 0, 1) := by decide +kernel
theorem dX6_turns_52 : decode cX6_turns 52 = .ok (.istore 12, 2) := by decide +kernel
theorem dX6_turns_54 : decode cX6_turns 54 = .ok (.iload 12, 2) := by decide +kernel
theorem dX6_turns_56 : decode cX6_turns 56 = .ok (.bipush 9, 2) := by decide +kernel
theorem dX6_turns_58 : decode cX6_turns 58 = .ok (.if_icmp .ge 29, 3) := by decide +kernel
theorem dX6_turns_61 : decode cX6_turns 61 = .ok (.aload_n 0, 1) := by decide +kernel
theorem dX6_turns_62 : decode cX6_turns 62 = .ok (.getfield 34, 3) := by decide +kernel
theorem dX6_turns_65 : decode cX6_turns 65 = .ok (.iload 12, 2) := by decide +kernel
theorem dX6_turns_67 : decode cX6_turns 67 = .ok (.iaload, 1) := by decide +kernel
theorem dX6_turns_68 : decode cX6_turns 68 = .ok (.bipush (-20), 2) := by decide +kernel
theorem dX6_turns_70 : decode cX6_turns 70 = .ok (.bipush 20, 2) := by decide +kernel
theorem dX6_turns_72 : decode cX6_turns 72 = .ok (.invokestatic 69, 3) := by decide +kernel
theorem dX6_turns_75 : decode cX6_turns 75 = .ok (.ifCond .eq 6, 3) := by decide +kernel
theorem dX6_turns_78 : decode cX6_turns 78 = .ok (.ldc 57, 2) := by decide +kernel
theorem dX6_turns_80 : decode cX6_turns 80 = .ok (.ireturn, 1) := by decide +kernel
theorem dX6_turns_81 : decode cX6_turns 81 = .ok (.iinc 12 1, 3) := by decide +kernel
theorem dX6_turns_84 : decode cX6_turns 84 = .ok (.goto (-30), 3) := by decide +kernel
theorem dX6_turns_87 : decode cX6_turns 87 = .ok (.aload_n 0, 1) := by decide +kernel
theorem dX6_turns_88 : decode cX6_turns 88 = .ok (.getfield 34, 3) := by decide +kernel
theorem dX6_turns_91 : decode cX6_turns 91 = .ok (.iconst 0, 1) := by decide +kernel
theorem dX6_turns_92 : decode cX6_turns 92 = .ok (.iconst 3, 1) := by decide +kernel
theorem dX6_turns_93 : decode cX6_turns 93 = .ok (.bipush 6, 2) := by decide +kernel
theorem dX6_turns_95 : decode cX6_turns 95 = .ok (.invokestatic 106, 3) := by decide +kernel
theorem dX6_turns_98 : decode cX6_turns 98 = .ok (.ifCond .ne 5, 3) := by decide +kernel
theorem dX6_turns_101 : decode cX6_turns 101 = .ok (.iconst 0, 1) := by decide +kernel
theorem dX6_turns_102 : decode cX6_turns 102 = .ok (.ireturn, 1) := by decide +kernel
theorem dX6_turns_103 : decode cX6_turns 103 = .ok (.aload_n 0, 1) := by decide +kernel
theorem dX6_turns_104 : decode cX6_turns 104 = .ok (.getfield 11, 3) := by decide +kernel
theorem dX6_turns_107 : decode cX6_turns 107 = .ok (.iload_n 1, 1) := by decide +kernel
theorem dX6_turns_108 : decode cX6_turns 108 = .ok (.aaload, 1) := by decide +kernel
theorem dX6_turns_109 : decode cX6_turns 109 = .ok (.getfield 73, 3) := by decide +kernel
theorem dX6_turns_112 : decode cX6_turns 112 = .ok (.aload_n 0, 1) := by decide +kernel
theorem dX6_turns_113 : decode cX6_turns 113 = .ok (.getfield 34, 3) := by decide +kernel
theorem dX6_turns_116 : decode cX6_turns 116 = .ok (.aload_n 0, 1) := by decide +kernel
theorem dX6_turns_117 : decode cX6_turns 117 = .ok (.getfield 37, 3) := by decide +kernel
theorem dX6_turns_120 : decode cX6_turns 120 = .ok (.invokestatic 110, 3) := by decide +kernel
theorem dX6_turns_123 : decode cX6_turns 123 = .ok (.aload_n 0, 1) := by decide +kernel
theorem dX6_turns_124 : decode cX6_turns 124 = .ok (.getfield 37, 3) := by decide +kernel
theorem dX6_turns_127 : decode cX6_turns 127 = .ok (.aload_n 0, 1) := by decide +kernel
theorem dX6_turns_128 : decode cX6_turns 128 = .ok (.getfield 11, 3) := by decide +kernel
theorem dX6_turns_131 : decode cX6_turns 131 = .ok (.iload_n 2, 1) := by decide +kernel
theorem dX6_turns_132 : decode cX6_turns 132 = .ok (.aaload, 1) := by decide +kernel
theorem dX6_turns_133 : decode cX6_turns 133 = .ok (.getfield 73, 3) := by decide +kernel
theorem dX6_turns_136 : decode cX6_turns 136 = .ok (.invokestatic 95, 3) := by decide +kernel
theorem dX6_turns_139 : decode cX6_turns 139 = .ok (.ifCond .eq 7, 3) := by decide +kernel
theorem dX6_turns_142 : decode cX6_turns 142 = .ok (.iconst 1, 1) := by decide +kernel
theorem dX6_turns_143 : decode cX6_turns 143 = .ok (.goto 4, 3) := by decide +kernel
theorem dX6_turns_146 : decode cX6_turns 146 = .ok (.iconst 0, 1) := by decide +kernel
theorem dX6_turns_147 : decode cX6_turns 147 = .ok (.ireturn, 1) := by decide +kernel
theorem dX6_count_0 : decode cX6_count 0 = .ok (.aload_n 0, 1) := by decide +kernel
theorem dX6_count_1 : decode cX6_count 1 = .ok (.getfield 40, 3) := by decide +kernel
theorem dX6_count_4 : decode cX6_count 4 = .ok (.ireturn, 1) := by decide +kernel
theorem dX6_prime_0 : decode cX6_prime 0 = .ok (.iload_n 1, 1) := by decide +kernel
theorem dX6_prime_1 : decode cX6_prime 1 = .ok (.iconst 3, 1) := by decide +kernel
theorem dX6_prime_2 : decode cX6_prime 2 = .ok (.if_icmp .eq 17, 3) := by decide +kernel
theorem dX6_prime_5 : decode cX6_prime 5 = .ok (.iload_n 1, 1) := by decide +kernel
theorem dX6_prime_6 : decode cX6_prime 6 = .ok (.iconst 5, 1) := by decide +kernel
theorem dX6_prime_7 : decode cX6_prime 7 = .ok (.if_icmp .eq 12, 3) := by decide +kernel
theorem dX6_prime_10 : decode cX6_prime 10 = .ok (.iload_n 1, 1) := by decide +kernel
theorem dX6_prime_11 : decode cX6_prime 11 = .ok (.bipush 7, 2) := by decide +kernel
theorem dX6_prime_13 : decode cX6_prime 13 = .ok (.if_icmp .eq 6, 3) := by decide +kernel
theorem dX6_prime_16 : decode cX6_prime 16 = .ok (.ldc 57, 2) := by decide +kernel
theorem dX6_prime_18 : decode cX6_prime 18 = .ok (.ireturn, 1) := by decide +kernel
theorem dX6_prime_19 : decode cX6_prime 19 = .ok (.aload_n 0, 1) := by decide +kernel
theorem dX6_prime_20 : decode cX6_prime 20 = .ok (.getfield 44, 3) := by decide +kernel
theorem dX6_prime_23 : decode cX6_prime 23 = .ok (.istore_n 2, 1) := by decide +kernel
theorem dX6_prime_24 : decode cX6_prime 24 = .ok (.aload_n 0, 1) := by decide +kernel
theorem dX6_prime_25 : decode cX6_prime 25 = .ok (.iload_n 1, 1) := by decide +kernel
theorem dX6_prime_26 : decode cX6_prime 26 = .ok (.putfield 44, 3) := by decide +kernel
theorem dX6_prime_29 : decode cX6_prime 29 = .ok (.iload_n 2, 1) := by decide +kernel
theorem dX6_prime_30 : decode cX6_prime 30 = .ok (.ireturn, 1) := by decide +kernel
theorem dX6_line_0 : decode cX6_line 0 = .ok (.aload_n 0, 1) := by decide +kernel
theorem dX6_line_1 : decode cX6_line 1 = .ok (.iload_n 1, 1) := by decide +kernel
theorem dX6_line_2 : decode cX6_line 2 = .ok (.iload_n 2, 1) := by decide +kernel
theorem dX6_line_3 : decode cX6_line 3 = .ok (.iload_n 3, 1) := by decide +kernel
theorem dX6_line_4 : decode cX6_line 4 = .ok (.iconst 4, 1) := by decide +kernel
theorem dX6_line_5 : decode cX6_line 5 = .ok (.invokevirtual 114, 3) := by decide +kernel
theorem dX6_line_8 : decode cX6_line 8 = .ok (.istore 4, 2) := by decide +kernel
theorem dX6_line_10 : decode cX6_line 10 = .ok (.iload 4, 2) := by decide +kernel
theorem dX6_line_12 : decode cX6_line 12 = .ok (.ifCond .eq 6, 3) := by decide +kernel
theorem dX6_line_15 : decode cX6_line 15 = .ok (.iload 4, 2) := by decide +kernel
theorem dX6_line_17 : decode cX6_line 17 = .ok (.ireturn, 1) := by decide +kernel
theorem dX6_line_18 : decode cX6_line 18 = .ok (.aload_n 0, 1) := by decide +kernel
theorem dX6_line_19 : decode cX6_line 19 = .ok (.getfield 26, 3) := by decide +kernel
theorem dX6_line_22 : decode cX6_line 22 = .ok (.aload_n 0, 1) := by decide +kernel
theorem dX6_line_23 : decode cX6_line 23 = .ok (.getfield 11, 3) := by decide +kernel
theorem dX6_line_26 : decode cX6_line 26 = .ok (.iload_n 1, 1) := by decide +kernel
theorem dX6_line_27 : decode cX6_line 27 = .ok (.aaload, 1) := by decide +kernel
theorem dX6_line_28 : decode cX6_line 28 = .ok (.getfield 73, 3) := by decide +kernel
theorem dX6_line_31 : decode cX6_line 31 = .ok (.aload_n 0, 1) := by decide +kernel
theorem dX6_line_32 : decode cX6_line 32 = .ok (.getfield 44, 3) := by decide +kernel
theorem dX6_line_35 : decode cX6_line 35 = .ok (.invokevirtual 118, 3) := by decide +kernel
theorem dX6_line_38 : decode cX6_line 38 = .ok (.aload_n 0, 1) := by decide +kernel
theorem dX6_line_39 : decode cX6_line 39 = .ok (.getfield 26, 3) := by decide +kernel
theorem dX6_line_42 : decode cX6_line 42 = .ok (.iload_n 2, 1) := by decide +kernel
theorem dX6_line_43 : decode cX6_line 43 = .ok (.invokevirtual 122, 3) := by decide +kernel
theorem dX6_line_46 : decode cX6_line 46 = .ok (.iload_n 3, 1) := by decide +kernel
theorem dX6_line_47 : decode cX6_line 47 = .ok (.iconst 3, 1) := by decide +kernel
theorem dX6_line_48 : decode cX6_line 48 = .ok (.if_icmp .ge 13, 3) := by decide +kernel
theorem dX6_line_51 : decode cX6_line 51 = .ok (.aload_n 0, 1) := by decide +kernel
theorem dX6_line_52 : decode cX6_line 52 = .ok (.getfield 26, 3) := by decide +kernel
theorem dX6_line_55 : decode cX6_line 55 = .ok (.iload_n 2, 1) := by decide +kernel
theorem dX6_line_56 : decode cX6_line 56 = .ok (.iload_n 3, 1) := by decide +kernel
theorem dX6_line_57 : decode cX6_line 57 = .ok (.invokevirtual 126, 3) := by decide +kernel
theorem dX6_line_60 : decode cX6_line 60 = .ok (.ireturn, 1) := by decide +kernel
theorem dX6_line_61 : decode cX6_line 61 = .ok (.iload_n 3, 1) := by decide +kernel
theorem dX6_line_62 : decode cX6_line 62 = .ok (.iconst 3, 1) := by decide +kernel
theorem dX6_line_63 : decode cX6_line 63 = .ok (.if_icmp .ne 13, 3) := by decide +kernel
theorem dX6_line_66 : decode cX6_line 66 = .ok (.aload_n 0, 1) := by decide +kernel
theorem dX6_line_67 : decode cX6_line 67 = .ok (.getfield 26, 3) := by decide +kernel
theorem dX6_line_70 : decode cX6_line 70 = .ok (.getfield 130, 3) := by decide +kernel
theorem dX6_line_73 : decode cX6_line 73 = .ok (.goto 10, 3) := by decide +kernel
theorem dX6_line_76 : decode cX6_line 76 = .ok (.aload_n 0, 1) := by decide +kernel
theorem dX6_line_77 : decode cX6_line 77 = .ok (.getfield 26, 3) := by decide +kernel
theorem dX6_line_80 : decode cX6_line 80 = .ok (.getfield 133, 3) := by decide +kernel
theorem dX6_line_83 : decode cX6_line 83 = .ok (.ireturn, 1) := by decide +kernel
theorem dX6_neighbour_0 : decode cX6_neighbour 0 = .ok (.aload_n 0, 1) := by decide +kernel
theorem dX6_neighbour_1 : decode cX6_neighbour 1 = .ok (.iload_n 1, 1) := by decide +kernel
theorem dX6_neighbour_2 : decode cX6_neighbour 2 = .ok (.iload_n 2, 1) := by decide +kernel
theorem dX6_neighbour_3 : decode cX6_neighbour 3 = .ok (.iload_n 3, 1) := by decide +kernel
theorem dX6_neighbour_4 : decode cX6_neighbour 4 = .ok (.iconst 5, 1) := by decide +kernel
theorem dX6_neighbour_5 : decode cX6_neighbour 5 = .ok (.invokevirtual 114, 3) := by decide +kernel
theorem dX6_neighbour_8 : decode cX6_neighbour 8 = .ok (.istore 4, 2) := by decide +kernel
theorem dX6_neighbour_10 : decode cX6_neighbour 10 = .ok (.iload 4, 2) := by decide +kernel
theorem dX6_neighbour_12 : decode cX6_neighbour 12 = .ok (.ifCond .eq 6, 3) := by decide +kernel
theorem dX6_neighbour_15 : decode cX6_neighbour 15 = .ok (.iload 4, 2) := by decide +kernel
theorem dX6_neighbour_17 : decode cX6_neighbour 17 = .ok (.ireturn, 1) := by decide +kernel
theorem dX6_neighbour_18 : decode cX6_neighbour 18 = .ok (.aload_n 0, 1) := by decide +kernel
theorem dX6_neighbour_19 : decode cX6_neighbour 19 = .ok (.getfield 26, 3) := by decide +kernel
theorem dX6_neighbour_22 : decode cX6_neighbour 22 = .ok (.aload_n 0, 1) := by decide +kernel
theorem dX6_neighbour_23 : decode cX6_neighbour 23 = .ok (.getfield 11, 3) := by decide +kernel
theorem dX6_neighbour_26 : decode cX6_neighbour 26 = .ok (.iload_n 1, 1) := by decide +kernel
theorem dX6_neighbour_27 : decode cX6_neighbour 27 = .ok (.aaload, 1) := by decide +kernel
theorem dX6_neighbour_28 : decode cX6_neighbour 28 = .ok (.getfield 73, 3) := by decide +kernel
theorem dX6_neighbour_31 : decode cX6_neighbour 31 = .ok (.aload_n 0, 1) := by decide +kernel
theorem dX6_neighbour_32 : decode cX6_neighbour 32 = .ok (.getfield 44, 3) := by decide +kernel
theorem dX6_neighbour_35 : decode cX6_neighbour 35 = .ok (.invokevirtual 118, 3) := by decide +kernel
theorem dX6_neighbour_38 : decode cX6_neighbour 38 = .ok (.aload_n 0, 1) := by decide +kernel
theorem dX6_neighbour_39 : decode cX6_neighbour 39 = .ok (.getfield 26, 3) := by decide +kernel
theorem dX6_neighbour_42 : decode cX6_neighbour 42 = .ok (.iload_n 2, 1) := by decide +kernel
theorem dX6_neighbour_43 : decode cX6_neighbour 43 = .ok (.invokevirtual 122, 3) := by decide +kernel
theorem dX6_neighbour_46 : decode cX6_neighbour 46 = .ok (.aload_n 0, 1) := by decide +kernel
theorem dX6_neighbour_47 : decode cX6_neighbour 47 = .ok (.getfield 26, 3) := by decide +kernel
theorem dX6_neighbour_50 : decode cX6_neighbour 50 = .ok (.invokevirtual 136, 3) := by decide +kernel
theorem dX6_neighbour_53 : decode cX6_neighbour 53 = .ok (.aload_n 0, 1) := by decide +kernel
theorem dX6_neighbour_54 : decode cX6_neighbour 54 = .ok (.getfield 19, 3) := by decide +kernel
theorem dX6_neighbour_57 : decode cX6_neighbour 57 = .ok (.aload_n 0, 1) := by decide +kernel
theorem dX6_neighbour_58 : decode cX6_neighbour 58 = .ok (.getfield 26, 3) := by decide +kernel
theorem dX6_neighbour_61 : decode cX6_neighbour 61 = .ok (.getfield 139, 3) := by decide +kernel
theorem dX6_neighbour_64 : decode cX6_neighbour 64 = .ok (.invokevirtual 142, 3) := by decide +kernel
theorem dX6_neighbour_67 : decode cX6_neighbour 67 = .ok (.aload_n 0, 1) := by decide +kernel
theorem dX6_neighbour_68 : decode cX6_neighbour 68 = .ok (.getfield 19, 3) := by decide +kernel
theorem dX6_neighbour_71 : decode cX6_neighbour 71 = .ok (.getfield 146, 3) := by decide +kernel
theorem dX6_neighbour_74 : decode cX6_neighbour 74 = .ok (.iload_n 3, 1) := by decide +kernel
theorem dX6_neighbour_75 : decode cX6_neighbour 75 = .ok (.iaload, 1) := by decide +kernel
theorem dX6_neighbour_76 : decode cX6_neighbour 76 = .ok (.ireturn, 1) := by decide +kernel
theorem dX6_kin_0 : decode cX6_kin 0 = .ok (.aload_n 0, 1) := by decide +kernel
theorem dX6_kin_1 : decode cX6_kin 1 = .ok (.iload_n 1, 1) := by decide +kernel
theorem dX6_kin_2 : decode cX6_kin 2 = .ok (.invokevirtual 63, 3) := by decide +kernel
theorem dX6_kin_5 : decode cX6_kin 5 = .ok (.ifCond .eq 8, 3) := by decide +kernel
theorem dX6_kin_8 : decode cX6_kin 8 = .ok (.ldc 67, 2) := by decide +kernel
theorem dX6_kin_10 : decode cX6_kin 10 = .ok (.goto 8, 3) := by decide +kernel
theorem dX6_kin_13 : decode cX6_kin 13 = .ok (.aload_n 0, 1) := by decide +kernel
theorem dX6_kin_14 : decode cX6_kin 14 = .ok (.iload_n 1, 1) := by decide +kernel
theorem dX6_kin_15 : decode cX6_kin 15 = .ok (.invokevirtual 149, 3) := by decide +kernel
theorem dX6_kin_18 : decode cX6_kin 18 = .ok (.ireturn, 1) := by decide +kernel
theorem dX6_kind_0 : decode cX6_kind 0 = .ok (.aload_n 0, 1) := by decide +kernel
theorem dX6_kind_1 : decode cX6_kind 1 = .ok (.iload_n 1, 1) := by decide +kernel
theorem dX6_kind_2 : decode cX6_kind 2 = .ok (.invokevirtual 63, 3) := by decide +kernel
theorem dX6_kind_5 : decode cX6_kind 5 = .ok (.ifCond .eq 6, 3) := by decide +kernel
theorem dX6_kind_8 : decode cX6_kind 8 = .ok (.ldc 67, 2) := by decide +kernel
theorem dX6_kind_10 : decode cX6_kind 10 = .ok (.ireturn, 1) := by decide +kernel
theorem dX6_kind_11 : decode cX6_kind 11 = .ok (.iload_n 3, 1) := by decide +kernel
theorem dX6_kind_12 : decode cX6_kind 12 = .ok (.iconst 0, 1) := by decide +kernel
theorem dX6_kind_13 : decode cX6_kind 13 = .ok (.bipush 6, 2) := by decide +kernel
theorem dX6_kind_15 : decode cX6_kind 15 = .ok (.invokestatic 69, 3) := by decide +kernel
theorem dX6_kind_18 : decode cX6_kind 18 = .ok (.ifCond .eq 6, 3) := by decide +kernel
theorem dX6_kind_21 : decode cX6_kind 21 = .ok (.ldc 57, 2) := by decide +kernel
theorem dX6_kind_23 : decode cX6_kind 23 = .ok (.ireturn, 1) := by decide +kernel
theorem dX6_kind_24 : decode cX6_kind 24 = .ok (.aload_n 0, 1) := by decide +kernel
theorem dX6_kind_25 : decode cX6_kind 25 = .ok (.iload_n 1, 1) := by decide +kernel
theorem dX6_kind_26 : decode cX6_kind 26 = .ok (.invokevirtual 149, 3) := by decide +kernel
theorem dX6_kind_29 : decode cX6_kind 29 = .ok (.istore 4, 2) := by decide +kernel
theorem dX6_kind_31 : decode cX6_kind 31 = .ok (.iload 4, 2) := by decide +kernel
theorem dX6_kind_33 : decode cX6_kind 33 = .ok (.ifCond .ge 6, 3) := by decide +kernel
theorem dX6_kind_36 : decode cX6_kind 36 = .ok (.iload 4, 2) := by decide +kernel
theorem dX6_kind_38 : decode cX6_kind 38 = .ok (.ireturn, 1) := by decide +kernel
theorem dX6_kind_39 : decode cX6_kind 39 = .ok (.iload_n 2, 1) := by decide +kernel
theorem dX6_kind_40 : decode cX6_kind 40 = .ok (.iconst 0, 1) := by decide +kernel
theorem dX6_kind_41 : decode cX6_kind 41 = .ok (.iload 4, 2) := by decide +kernel
theorem dX6_kind_43 : decode cX6_kind 43 = .ok (.iconst 1, 1) := by decide +kernel
theorem dX6_kind_44 : decode cX6_kind 44 = .ok (.isub, 1) := by decide +kernel
theorem dX6_kind_45 : decode cX6_kind 45 = .ok (.invokestatic 69, 3) := by decide +kernel
theorem dX6_kind_48 : decode cX6_kind 48 = .ok (.ifCond .eq 6, 3) := by decide +kernel
theorem dX6_kind_51 : decode cX6_kind 51 = .ok (.ldc 67, 2) := by decide +kernel
theorem dX6_kind_53 : decode cX6_kind 53 = .ok (.ireturn, 1) := by decide +kernel
theorem dX6_kind_54 : decode cX6_kind 54 = .ok (.aload_n 0, 1) := by decide +kernel
theorem dX6_kind_55 : decode cX6_kind 55 = .ok (.getfield 11, 3) := by decide +kernel
theorem dX6_kind_58 : decode cX6_kind 58 = .ok (.iload_n 1, 1) := by decide +kernel
theorem dX6_kind_59 : decode cX6_kind 59 = .ok (.aaload, 1) := by decide +kernel
theorem dX6_kind_60 : decode cX6_kind 60 = .ok (.getfield 153, 3) := by decide +kernel
theorem dX6_kind_63 : decode cX6_kind 63 = .ok (.astore 5, 2) := by decide +kernel
theorem dX6_kind_65 : decode cX6_kind 65 = .ok (.iload_n 3, 1) := by decide +kernel
theorem dX6_kind_66 : decode cX6_kind 66 = .ok (.bipush 6, 2) := by decide +kernel
theorem dX6_kind_68 : decode cX6_kind 68 = .ok (.if_icmp .ge 15, 3) := by decide +kernel
theorem dX6_kind_71 : decode cX6_kind 71 = .ok (.aload 5, 2) := by decide +kernel
theorem dX6_kind_73 : decode cX6_kind 73 = .ok (.getfield 157, 3) := by decide +kernel
theorem dX6_kind_76 : decode cX6_kind 76 = .ok (.iload_n 2, 1) := by decide +kernel
theorem dX6_kind_77 : decode cX6_kind 77 = .ok (.aaload, 1) := by decide +kernel
theorem dX6_kind_78 : decode cX6_kind 78 = .ok (.iload_n 3, 1) := by decide +kernel
theorem dX6_kind_79 : decode cX6_kind 79 = .ok (.iaload, 1) := by decide +kernel
theorem dX6_kind_80 : decode cX6_kind 80 = .ok (.goto 10, 3) := by decide +kernel

theorem dL_low_0 : decode cL_low 0 = .ok (.iload_n 0, 1) := by decide +kernel
theorem dL_low_1 : decode cL_low 1 = .ok (.ldc 9, 2) := by decide +kernel
theorem dL_low_3 : decode cL_low 3 = .ok (.iand, 1) := by decide +kernel
theorem dL_low_4 : decode cL_low 4 = .ok (.iload_n 1, 1) := by decide +kernel
theorem dL_low_5 : decode cL_low 5 = .ok (.irem, 1) := by decide +kernel
theorem dL_low_6 : decode cL_low 6 = .ok (.ireturn, 1) := by decide +kernel
theorem dL_bodies_0 : decode cL_bodies 0 = .ok (.iconst 0, 1) := by decide +kernel
theorem dL_bodies_1 : decode cL_bodies 1 = .ok (.istore_n 3, 1) := by decide +kernel
theorem dL_bodies_2 : decode cL_bodies 2 = .ok (.iconst 0, 1) := by decide +kernel
theorem dL_bodies_3 : decode cL_bodies 3 = .ok (.istore 4, 2) := by decide +kernel
theorem dL_bodies_5 : decode cL_bodies 5 = .ok (.iload 4, 2) := by decide +kernel
theorem dL_bodies_7 : decode cL_bodies 7 = .ok (.aload_n 2, 1) := by decide +kernel
theorem dL_bodies_8 : decode cL_bodies 8 = .ok (.bipush 6, 2) := by decide +kernel
theorem dL_bodies_10 : decode cL_bodies 10 = .ok (.iaload, 1) := by decide +kernel
theorem dL_bodies_11 : decode cL_bodies 11 = .ok (.if_icmp .ge 53, 3) := by decide +kernel
theorem dL_bodies_14 : decode cL_bodies 14 = .ok (.aload_n 1, 1) := by decide +kernel
theorem dL_bodies_15 : decode cL_bodies 15 = .ok (.iconst 3, 1) := by decide +kernel
theorem dL_bodies_16 : decode cL_bodies 16 = .ok (.iload_n 3, 1) := by decide +kernel
theorem dL_bodies_17 : decode cL_bodies 17 = .ok (.imul, 1) := by decide +kernel
theorem dL_bodies_18 : decode cL_bodies 18 = .ok (.aload_n 0, 1) := by decide +kernel
theorem dL_bodies_19 : decode cL_bodies 19 = .ok (.iconst 4, 1) := by decide +kernel
theorem dL_bodies_20 : decode cL_bodies 20 = .ok (.iload 4, 2) := by decide +kernel
theorem dL_bodies_22 : decode cL_bodies 22 = .ok (.imul, 1) := by decide +kernel
theorem dL_bodies_23 : decode cL_bodies 23 = .ok (.iaload, 1) := by decide +kernel
theorem dL_bodies_24 : decode cL_bodies 24 = .ok (.iastore, 1) := by decide +kernel
theorem dL_bodies_25 : decode cL_bodies 25 = .ok (.aload_n 1, 1) := by decide +kernel
theorem dL_bodies_26 : decode cL_bodies 26 = .ok (.iconst 3, 1) := by decide +kernel
theorem dL_bodies_27 : decode cL_bodies 27 = .ok (.iload_n 3, 1) := by decide +kernel
theorem dL_bodies_28 : decode cL_bodies 28 = .ok (.imul, 1) := by decide +kernel
theorem dL_bodies_29 : decode cL_bodies 29 = .ok (.iconst 1, 1) := by decide +kernel
theorem dL_bodies_30 : decode cL_bodies 30 = .ok (.iadd, 1) := by decide +kernel
theorem dL_bodies_31 : decode cL_bodies 31 = .ok (.aload_n 0, 1) := by decide +kernel
theorem dL_bodies_32 : decode cL_bodies 32 = .ok (.iconst 4, 1) := by decide +kernel
theorem dL_bodies_33 : decode cL_bodies 33 = .ok (.iload 4, 2) := by decide +kernel
theorem dL_bodies_35 : decode cL_bodies 35 = .ok (.imul, 1) := by decide +kernel
theorem dL_bodies_36 : decode cL_bodies 36 = .ok (.iconst 1, 1) := by decide +kernel
theorem dL_bodies_37 : decode cL_bodies 37 = .ok (.iadd, 1) := by decide +kernel
theorem dL_bodies_38 : decode cL_bodies 38 = .ok (.iaload, 1) := by decide +kernel
theorem dL_bodies_39 : decode cL_bodies 39 = .ok (.iastore, 1) := by decide +kernel
theorem dL_bodies_40 : decode cL_bodies 40 = .ok (.aload_n 1, 1) := by decide +kernel
theorem dL_bodies_41 : decode cL_bodies 41 = .ok (.iconst 3, 1) := by decide +kernel
theorem dL_bodies_42 : decode cL_bodies 42 = .ok (.iload_n 3, 1) := by decide +kernel
theorem dL_bodies_43 : decode cL_bodies 43 = .ok (.imul, 1) := by decide +kernel
theorem dL_bodies_44 : decode cL_bodies 44 = .ok (.iconst 2, 1) := by decide +kernel
theorem dL_bodies_45 : decode cL_bodies 45 = .ok (.iadd, 1) := by decide +kernel
theorem dL_bodies_46 : decode cL_bodies 46 = .ok (.aload_n 0, 1) := by decide +kernel
theorem dL_bodies_47 : decode cL_bodies 47 = .ok (.iconst 4, 1) := by decide +kernel
theorem dL_bodies_48 : decode cL_bodies 48 = .ok (.iload 4, 2) := by decide +kernel
theorem dL_bodies_50 : decode cL_bodies 50 = .ok (.imul, 1) := by decide +kernel
theorem dL_bodies_51 : decode cL_bodies 51 = .ok (.iconst 2, 1) := by decide +kernel
theorem dL_bodies_52 : decode cL_bodies 52 = .ok (.iadd, 1) := by decide +kernel
theorem dL_bodies_53 : decode cL_bodies 53 = .ok (.iaload, 1) := by decide +kernel
theorem dL_bodies_54 : decode cL_bodies 54 = .ok (.iastore, 1) := by decide +kernel
theorem dL_bodies_55 : decode cL_bodies 55 = .ok (.iinc 3 1, 3) := by decide +kernel
theorem dL_bodies_58 : decode cL_bodies 58 = .ok (.iinc 4 1, 3) := by decide +kernel
theorem dL_bodies_61 : decode cL_bodies 61 = .ok (.goto (-56), 3) := by decide +kernel
theorem dL_bodies_64 : decode cL_bodies 64 = .ok (.iconst 0, 1) := by decide +kernel
theorem dL_bodies_65 : decode cL_bodies 65 = .ok (.istore 4, 2) := by decide +kernel
theorem dL_bodies_67 : decode cL_bodies 67 = .ok (.iload 4, 2) := by decide +kernel
theorem dL_bodies_69 : decode cL_bodies 69 = .ok (.bipush 36, 2) := by decide +kernel
theorem dL_bodies_71 : decode cL_bodies 71 = .ok (.if_icmp .ge 169, 3) := by decide +kernel
theorem dL_bodies_74 : decode cL_bodies 74 = .ok (.iload 4, 2) := by decide +kernel
theorem dL_bodies_76 : decode cL_bodies 76 = .ok (.bipush 6, 2) := by decide +kernel
theorem dL_bodies_78 : decode cL_bodies 78 = .ok (.idiv, 1) := by decide +kernel
theorem dL_bodies_79 : decode cL_bodies 79 = .ok (.istore 5, 2) := by decide +kernel
theorem dL_bodies_81 : decode cL_bodies 81 = .ok (.iload 4, 2) := by decide +kernel
theorem dL_bodies_83 : decode cL_bodies 83 = .ok (.bipush 6, 2) := by decide +kernel
theorem dL_bodies_85 : decode cL_bodies 85 = .ok (.irem, 1) := by decide +kernel
theorem dL_bodies_86 : decode cL_bodies 86 = .ok (.istore 6, 2) := by decide +kernel
theorem dL_bodies_88 : decode cL_bodies 88 = .ok (.iload 5, 2) := by decide +kernel
theorem dL_bodies_90 : decode cL_bodies 90 = .ok (.iload 6, 2) := by decide +kernel
theorem dL_bodies_92 : decode cL_bodies 92 = .ok (.if_icmp .ge 142, 3) := by decide +kernel
theorem dL_bodies_95 : decode cL_bodies 95 = .ok (.iload 6, 2) := by decide +kernel
theorem dL_bodies_97 : decode cL_bodies 97 = .ok (.aload_n 2, 1) := by decide +kernel
theorem dL_bodies_98 : decode cL_bodies 98 = .ok (.bipush 6, 2) := by decide +kernel
theorem dL_bodies_100 : decode cL_bodies 100 = .ok (.iaload, 1) := by decide +kernel
theorem dL_bodies_101 : decode cL_bodies 101 = .ok (.if_icmp .ge 133, 3) := by decide +kernel
theorem dL_bodies_104 : decode cL_bodies 104 = .ok (.aload_n 0, 1) := by decide +kernel
theorem dL_bodies_105 : decode cL_bodies 105 = .ok (.iconst 4, 1) := by decide +kernel
theorem dL_bodies_106 : decode cL_bodies 106 = .ok (.iload 5, 2) := by decide +kernel
theorem dL_bodies_108 : decode cL_bodies 108 = .ok (.imul, 1) := by decide +kernel
theorem dL_bodies_109 : decode cL_bodies 109 = .ok (.iconst 3, 1) := by decide +kernel
theorem dL_bodies_110 : decode cL_bodies 110 = .ok (.iadd, 1) := by decide +kernel
theorem dL_bodies_111 : decode cL_bodies 111 = .ok (.iaload, 1) := by decide +kernel
theorem dL_bodies_112 : decode cL_bodies 112 = .ok (.aload_n 0, 1) := by decide +kernel
theorem dL_bodies_113 : decode cL_bodies 113 = .ok (.iconst 4, 1) := by decide +kernel
theorem dL_bodies_114 : decode cL_bodies 114 = .ok (.iload 6, 2) := by decide +kernel
theorem dL_bodies_116 : decode cL_bodies 116 = .ok (.imul, 1) := by decide +kernel
theorem dL_bodies_117 : decode cL_bodies 117 = .ok (.iconst 3, 1) := by decide +kernel
theorem dL_bodies_118 : decode cL_bodies 118 = .ok (.iadd, 1) := by decide +kernel
theorem dL_bodies_119 : decode cL_bodies 119 = .ok (.iaload, 1) := by decide +kernel
theorem dL_bodies_120 : decode cL_bodies 120 = .ok (.iadd, 1) := by decide +kernel
theorem dL_bodies_121 : decode cL_bodies 121 = .ok (.iconst 2, 1) := by decide +kernel
theorem dL_bodies_122 : decode cL_bodies 122 = .ok (.if_icmp .ne 112, 3) := by decide +kernel
theorem dL_bodies_125 : decode cL_bodies 125 = .ok (.aload_n 0, 1) := by decide +kernel
theorem dL_bodies_126 : decode cL_bodies 126 = .ok (.iconst 4, 1) := by decide +kernel
theorem dL_bodies_127 : decode cL_bodies 127 = .ok (.iload 5, 2) := by decide +kernel
theorem dL_bodies_129 : decode cL_bodies 129 = .ok (.imul, 1) := by decide +kernel
theorem dL_bodies_130 : decode cL_bodies 130 = .ok (.iconst 1, 1) := by decide +kernel
theorem dL_bodies_131 : decode cL_bodies 131 = .ok (.iadd, 1) := by decide +kernel
theorem dL_bodies_132 : decode cL_bodies 132 = .ok (.iaload, 1) := by decide +kernel
theorem dL_bodies_133 : decode cL_bodies 133 = .ok (.aload_n 0, 1) := by decide +kernel
theorem dL_bodies_134 : decode cL_bodies 134 = .ok (.iconst 4, 1) := by decide +kernel
theorem dL_bodies_135 : decode cL_bodies 135 = .ok (.iload 6, 2) := by decide +kernel
theorem dL_bodies_137 : decode cL_bodies 137 = .ok (.imul, 1) := by decide +kernel
theorem dL_bodies_138 : decode cL_bodies 138 = .ok (.iconst 1, 1) := by decide +kernel
theorem dL_bodies_139 : decode cL_bodies 139 = .ok (.iadd, 1) := by decide +kernel
theorem dL_bodies_140 : decode cL_bodies 140 = .ok (.iaload, 1) := by decide +kernel
theorem dL_bodies_141 : decode cL_bodies 141 = .ok (.imul, 1) := by decide +kernel
theorem dL_bodies_142 : decode cL_bodies 142 = .ok (.sipush 200, 3) := by decide +kernel
theorem dL_bodies_145 : decode cL_bodies 145 = .ok (.if_icmp .lt 89, 3) := by decide +kernel
theorem dL_bodies_148 : decode cL_bodies 148 = .ok (.aload_n 0, 1) := by decide +kernel
theorem dL_bodies_149 : decode cL_bodies 149 = .ok (.iconst 4, 1) := by decide +kernel
theorem dL_bodies_150 : decode cL_bodies 150 = .ok (.iload 5, 2) := by decide +kernel
theorem dL_bodies_152 : decode cL_bodies 152 = .ok (.imul, 1) := by decide +kernel
theorem dL_bodies_153 : decode cL_bodies 153 = .ok (.iaload, 1) := by decide +kernel
theorem dL_bodies_154 : decode cL_bodies 154 = .ok (.istore 7, 2) := by decide +kernel
theorem dL_bodies_156 : decode cL_bodies 156 = .ok (.aload_n 0, 1) := by decide +kernel
theorem dL_bodies_157 : decode cL_bodies 157 = .ok (.iconst 4, 1) := by decide +kernel
theorem dL_bodies_158 : decode cL_bodies 158 = .ok (.iload 6, 2) := by decide +kernel
theorem dL_bodies_160 : decode cL_bodies 160 = .ok (.imul, 1) := by decide +kernel
theorem dL_bodies_161 : decode cL_bodies 161 = .ok (.iaload, 1) := by decide +kernel
theorem dL_bodies_162 : decode cL_bodies 162 = .ok (.istore 8, 2) := by decide +kernel
theorem dL_bodies_164 : decode cL_bodies 164 = .ok (.aload_n 1, 1) := by decide +kernel
theorem dL_bodies_165 : decode cL_bodies 165 = .ok (.iconst 3, 1) := by decide +kernel
theorem dL_bodies_166 : decode cL_bodies 166 = .ok (.iload_n 3, 1) := by decide +kernel
theorem dL_bodies_167 : decode cL_bodies 167 = .ok (.imul, 1) := by decide +kernel
theorem dL_bodies_168 : decode cL_bodies 168 = .ok (.iload 7, 2) := by decide +kernel
theorem dL_bodies_170 : decode cL_bodies 170 = .ok (.iload 8, 2) := by decide +kernel
theorem dL_bodies_172 : decode cL_bodies 172 = .ok (.if_icmp .ge 14, 3) := by decide +kernel
theorem dL_bodies_175 : decode cL_bodies 175 = .ok (.iload 8, 2) := by decide +kernel
theorem dL_bodies_177 : decode cL_bodies 177 = .ok (.iload 8, 2) := by decide +kernel
theorem dL_bodies_179 : decode cL_bodies 179 = .ok (.iadd, 1) := by decide +kernel
theorem dL_bodies_180 : decode cL_bodies 180 = .ok (.iload 7, 2) := by decide +kernel
theorem dL_bodies_182 : decode cL_bodies 182 = .ok (.isub, 1) := by decide +kernel
theorem dL_bodies_183 : decode cL_bodies 183 = .ok (.goto 11, 3) := by decide +kernel
theorem dL_bodies_186 : decode cL_bodies 186 = .ok (.iload 7, 2) := by decide +kernel
theorem dL_bodies_188 : decode cL_bodies 188 = .ok (.iload 7, 2) := by decide +kernel
theorem dL_bodies_190 : decode cL_bodies 190 = .ok (.iadd, 1) := by decide +kernel
theorem dL_bodies_191 : decode cL_bodies 191 = .ok (.iload 8, 2) := by decide +kernel
theorem dL_bodies_193 : decode cL_bodies 193 = .ok (.isub, 1) := by decide +kernel
theorem dL_bodies_194 : decode cL_bodies 194 = .ok (.iastore, 1) := by decide +kernel
theorem dL_bodies_195 : decode cL_bodies 195 = .ok (.aload_n 1, 1) := by decide +kernel
theorem dL_bodies_196 : decode cL_bodies 196 = .ok (.iconst 3, 1) := by decide +kernel
theorem dL_bodies_197 : decode cL_bodies 197 = .ok (.iload_n 3, 1) := by decide +kernel
theorem dL_bodies_198 : decode cL_bodies 198 = .ok (.imul, 1) := by decide +kernel
theorem dL_bodies_199 : decode cL_bodies 199 = .ok (.iconst 1, 1) := by decide +kernel
theorem dL_bodies_200 : decode cL_bodies 200 = .ok (.iadd, 1) := by decide +kernel
theorem dL_bodies_201 : decode cL_bodies 201 = .ok (.aload_n 0, 1) := by decide +kernel
theorem dL_bodies_202 : decode cL_bodies 202 = .ok (.iconst 4, 1) := by decide +kernel
theorem dL_bodies_203 : decode cL_bodies 203 = .ok (.iload 5, 2) := by decide +kernel
theorem dL_bodies_205 : decode cL_bodies 205 = .ok (.imul, 1) := by decide +kernel
theorem dL_bodies_206 : decode cL_bodies 206 = .ok (.iconst 1, 1) := by decide +kernel
theorem dL_bodies_207 : decode cL_bodies 207 = .ok (.iadd, 1) := by decide +kernel
theorem dL_bodies_208 : decode cL_bodies 208 = .ok (.iaload, 1) := by decide +kernel
theorem dL_bodies_209 : decode cL_bodies 209 = .ok (.aload_n 0, 1) := by decide +kernel
theorem dL_bodies_210 : decode cL_bodies 210 = .ok (.iconst 4, 1) := by decide +kernel
theorem dL_bodies_211 : decode cL_bodies 211 = .ok (.iload 6, 2) := by decide +kernel
theorem dL_bodies_213 : decode cL_bodies 213 = .ok (.imul, 1) := by decide +kernel
theorem dL_bodies_214 : decode cL_bodies 214 = .ok (.iconst 1, 1) := by decide +kernel
theorem dL_bodies_215 : decode cL_bodies 215 = .ok (.iadd, 1) := by decide +kernel
theorem dL_bodies_216 : decode cL_bodies 216 = .ok (.iaload, 1) := by decide +kernel
theorem dL_bodies_217 : decode cL_bodies 217 = .ok (.imul, 1) := by decide +kernel
theorem dL_bodies_218 : decode cL_bodies 218 = .ok (.sipush 200, 3) := by decide +kernel
theorem dL_bodies_221 : decode cL_bodies 221 = .ok (.idiv, 1) := by decide +kernel
theorem dL_bodies_222 : decode cL_bodies 222 = .ok (.iastore, 1) := by decide +kernel
theorem dL_bodies_223 : decode cL_bodies 223 = .ok (.aload_n 1, 1) := by decide +kernel
theorem dL_bodies_224 : decode cL_bodies 224 = .ok (.iconst 3, 1) := by decide +kernel
theorem dL_bodies_225 : decode cL_bodies 225 = .ok (.iload_n 3, 1) := by decide +kernel
theorem dL_bodies_226 : decode cL_bodies 226 = .ok (.imul, 1) := by decide +kernel
theorem dL_bodies_227 : decode cL_bodies 227 = .ok (.iconst 2, 1) := by decide +kernel
theorem dL_bodies_228 : decode cL_bodies 228 = .ok (.iadd, 1) := by decide +kernel
theorem dL_bodies_229 : decode cL_bodies 229 = .ok (.iconst 0, 1) := by decide +kernel
theorem dL_bodies_230 : decode cL_bodies 230 = .ok (.iastore, 1) := by decide +kernel
theorem dL_bodies_231 : decode cL_bodies 231 = .ok (.iinc 3 1, 3) := by decide +kernel
theorem dL_bodies_234 : decode cL_bodies 234 = .ok (.iinc 4 1, 3) := by decide +kernel
theorem dL_bodies_237 : decode cL_bodies 237 = .ok (.goto (-170), 3) := by decide +kernel
theorem dL_bodies_240 : decode cL_bodies 240 = .ok (.aload_n 2, 1) := by decide +kernel
theorem dL_bodies_241 : decode cL_bodies 241 = .ok (.bipush 8, 2) := by decide +kernel
theorem dL_bodies_243 : decode cL_bodies 243 = .ok (.iload_n 3, 1) := by decide +kernel
theorem dL_bodies_244 : decode cL_bodies 244 = .ok (.iastore, 1) := by decide +kernel
theorem dL_bodies_245 : decode cL_bodies 245 = .ok (.return_, 1) := by decide +kernel
theorem dL_place_0 : decode cL_place 0 = .ok (.iload_n 1, 1) := by decide +kernel
theorem dL_place_1 : decode cL_place 1 = .ok (.iload_n 2, 1) := by decide +kernel
theorem dL_place_2 : decode cL_place 2 = .ok (.iload_n 3, 1) := by decide +kernel
theorem dL_place_3 : decode cL_place 3 = .ok (.imul, 1) := by decide +kernel
theorem dL_place_4 : decode cL_place 4 = .ok (.iadd, 1) := by decide +kernel
theorem dL_place_5 : decode cL_place 5 = .ok (.istore 4, 2) := by decide +kernel
theorem dL_place_7 : decode cL_place 7 = .ok (.iload 4, 2) := by decide +kernel
theorem dL_place_9 : decode cL_place 9 = .ok (.ifCond .ge 7, 3) := by decide +kernel
theorem dL_place_12 : decode cL_place 12 = .ok (.iconst 0, 1) := by decide +kernel
theorem dL_place_13 : decode cL_place 13 = .ok (.goto 9, 3) := by decide +kernel
theorem dL_place_16 : decode cL_place 16 = .ok (.iload 4, 2) := by decide +kernel
theorem dL_place_18 : decode cL_place 18 = .ok (.aload_n 0, 1) := by decide +kernel
theorem dL_place_19 : decode cL_place 19 = .ok (.iload_n 3, 1) := by decide +kernel
theorem dL_place_20 : decode cL_place 20 = .ok (.iaload, 1) := by decide +kernel
theorem dL_place_21 : decode cL_place 21 = .ok (.irem, 1) := by decide +kernel
theorem dL_place_22 : decode cL_place 22 = .ok (.ireturn, 1) := by decide +kernel
theorem dL_heard_0 : decode cL_heard 0 = .ok (.iconst 0, 1) := by decide +kernel
theorem dL_heard_1 : decode cL_heard 1 = .ok (.istore 6, 2) := by decide +kernel
theorem dL_heard_3 : decode cL_heard 3 = .ok (.iconst 0, 1) := by decide +kernel
theorem dL_heard_4 : decode cL_heard 4 = .ok (.istore 7, 2) := by decide +kernel
theorem dL_heard_6 : decode cL_heard 6 = .ok (.iload 7, 2) := by decide +kernel
theorem dL_heard_8 : decode cL_heard 8 = .ok (.aload_n 1, 1) := by decide +kernel
theorem dL_heard_9 : decode cL_heard 9 = .ok (.bipush 8, 2) := by decide +kernel
theorem dL_heard_11 : decode cL_heard 11 = .ok (.iaload, 1) := by decide +kernel
theorem dL_heard_12 : decode cL_heard 12 = .ok (.if_icmp .ge 98, 3) := by decide +kernel
theorem dL_heard_15 : decode cL_heard 15 = .ok (.iload_n 3, 1) := by decide +kernel
theorem dL_heard_16 : decode cL_heard 16 = .ok (.aload_n 1, 1) := by decide +kernel
theorem dL_heard_17 : decode cL_heard 17 = .ok (.iconst 4, 1) := by decide +kernel
theorem dL_heard_18 : decode cL_heard 18 = .ok (.iaload, 1) := by decide +kernel
theorem dL_heard_19 : decode cL_heard 19 = .ok (.if_icmp .lt 91, 3) := by decide +kernel
theorem dL_heard_22 : decode cL_heard 22 = .ok (.aload_n 0, 1) := by decide +kernel
theorem dL_heard_23 : decode cL_heard 23 = .ok (.iconst 3, 1) := by decide +kernel
theorem dL_heard_24 : decode cL_heard 24 = .ok (.iload 7, 2) := by decide +kernel
theorem dL_heard_26 : decode cL_heard 26 = .ok (.imul, 1) := by decide +kernel
theorem dL_heard_27 : decode cL_heard 27 = .ok (.iconst 2, 1) := by decide +kernel
theorem dL_heard_28 : decode cL_heard 28 = .ok (.iadd, 1) := by decide +kernel
theorem dL_heard_29 : decode cL_heard 29 = .ok (.iaload, 1) := by decide +kernel
theorem dL_heard_30 : decode cL_heard 30 = .ok (.iload 4, 2) := by decide +kernel
theorem dL_heard_32 : decode cL_heard 32 = .ok (.if_icmp .ne 38, 3) := by decide +kernel
theorem dL_heard_35 : decode cL_heard 35 = .ok (.aload_n 0, 1) := by decide +kernel
theorem dL_heard_36 : decode cL_heard 36 = .ok (.iconst 3, 1) := by decide +kernel
theorem dL_heard_37 : decode cL_heard 37 = .ok (.iload 7, 2) := by decide +kernel
theorem dL_heard_39 : decode cL_heard 39 = .ok (.imul, 1) := by decide +kernel
theorem dL_heard_40 : decode cL_heard 40 = .ok (.iconst 1, 1) := by decide +kernel
theorem dL_heard_41 : decode cL_heard 41 = .ok (.iadd, 1) := by decide +kernel
theorem dL_heard_42 : decode cL_heard 42 = .ok (.iaload, 1) := by decide +kernel
theorem dL_heard_43 : decode cL_heard 43 = .ok (.aload_n 1, 1) := by decide +kernel
theorem dL_heard_44 : decode cL_heard 44 = .ok (.iconst 5, 1) := by decide +kernel
theorem dL_heard_45 : decode cL_heard 45 = .ok (.iaload, 1) := by decide +kernel
theorem dL_heard_46 : decode cL_heard 46 = .ok (.if_icmp .lt 24, 3) := by decide +kernel
theorem dL_heard_49 : decode cL_heard 49 = .ok (.aload_n 1, 1) := by decide +kernel
theorem dL_heard_50 : decode cL_heard 50 = .ok (.aload_n 0, 1) := by decide +kernel
theorem dL_heard_51 : decode cL_heard 51 = .ok (.iconst 3, 1) := by decide +kernel
theorem dL_heard_52 : decode cL_heard 52 = .ok (.iload 7, 2) := by decide +kernel
theorem dL_heard_54 : decode cL_heard 54 = .ok (.imul, 1) := by decide +kernel
theorem dL_heard_55 : decode cL_heard 55 = .ok (.iaload, 1) := by decide +kernel
theorem dL_heard_56 : decode cL_heard 56 = .ok (.iload 4, 2) := by decide +kernel
theorem dL_heard_58 : decode cL_heard 58 = .ok (.iload_n 2, 1) := by decide +kernel
theorem dL_heard_59 : decode cL_heard 59 = .ok (.invokestatic 10, 3) := by decide +kernel
theorem dL_heard_62 : decode cL_heard 62 = .ok (.iload_n 3, 1) := by decide +kernel
theorem dL_heard_63 : decode cL_heard 63 = .ok (.if_icmp .ne 7, 3) := by decide +kernel
theorem dL_heard_66 : decode cL_heard 66 = .ok (.iconst 1, 1) := by decide +kernel
theorem dL_heard_67 : decode cL_heard 67 = .ok (.goto 4, 3) := by decide +kernel
theorem dL_heard_70 : decode cL_heard 70 = .ok (.iconst 0, 1) := by decide +kernel
theorem dL_heard_71 : decode cL_heard 71 = .ok (.istore 8, 2) := by decide +kernel
theorem dL_heard_73 : decode cL_heard 73 = .ok (.iload 6, 2) := by decide +kernel
theorem dL_heard_75 : decode cL_heard 75 = .ok (.iload 8, 2) := by decide +kernel
theorem dL_heard_77 : decode cL_heard 77 = .ok (.ifCond .eq 23, 3) := by decide +kernel
theorem dL_heard_80 : decode cL_heard 80 = .ok (.iload 5, 2) := by decide +kernel
theorem dL_heard_82 : decode cL_heard 82 = .ok (.ifCond .eq 7, 3) := by decide +kernel
theorem dL_heard_85 : decode cL_heard 85 = .ok (.iconst 1, 1) := by decide +kernel
theorem dL_heard_86 : decode cL_heard 86 = .ok (.goto 15, 3) := by decide +kernel
theorem dL_heard_89 : decode cL_heard 89 = .ok (.aload_n 0, 1) := by decide +kernel
theorem dL_heard_90 : decode cL_heard 90 = .ok (.iconst 3, 1) := by decide +kernel
theorem dL_heard_91 : decode cL_heard 91 = .ok (.iload 7, 2) := by decide +kernel
theorem dL_heard_93 : decode cL_heard 93 = .ok (.imul, 1) := by decide +kernel
theorem dL_heard_94 : decode cL_heard 94 = .ok (.iconst 1, 1) := by decide +kernel
theorem dL_heard_95 : decode cL_heard 95 = .ok (.iadd, 1) := by decide +kernel
theorem dL_heard_96 : decode cL_heard 96 = .ok (.iaload, 1) := by decide +kernel
theorem dL_heard_97 : decode cL_heard 97 = .ok (.goto 4, 3) := by decide +kernel
theorem dL_heard_100 : decode cL_heard 100 = .ok (.iconst 0, 1) := by decide +kernel
theorem dL_heard_101 : decode cL_heard 101 = .ok (.iadd, 1) := by decide +kernel
theorem dL_heard_102 : decode cL_heard 102 = .ok (.istore 6, 2) := by decide +kernel
theorem dL_heard_104 : decode cL_heard 104 = .ok (.iinc 7 1, 3) := by decide +kernel
theorem dL_heard_107 : decode cL_heard 107 = .ok (.goto (-101), 3) := by decide +kernel
theorem dL_heard_110 : decode cL_heard 110 = .ok (.iload 6, 2) := by decide +kernel
theorem dL_heard_112 : decode cL_heard 112 = .ok (.ireturn, 1) := by decide +kernel
theorem dL_fit_0 : decode cL_fit 0 = .ok (.aload_n 1, 1) := by decide +kernel
theorem dL_fit_1 : decode cL_fit 1 = .ok (.iload_n 2, 1) := by decide +kernel
theorem dL_fit_2 : decode cL_fit 2 = .ok (.iload_n 3, 1) := by decide +kernel
theorem dL_fit_3 : decode cL_fit 3 = .ok (.iload 4, 2) := by decide +kernel
theorem dL_fit_5 : decode cL_fit 5 = .ok (.invokestatic 10, 3) := by decide +kernel
theorem dL_fit_8 : decode cL_fit 8 = .ok (.istore 5, 2) := by decide +kernel
theorem dL_fit_10 : decode cL_fit 10 = .ok (.iload 5, 2) := by decide +kernel
theorem dL_fit_12 : decode cL_fit 12 = .ok (.aload_n 1, 1) := by decide +kernel
theorem dL_fit_13 : decode cL_fit 13 = .ok (.iconst 4, 1) := by decide +kernel
theorem dL_fit_14 : decode cL_fit 14 = .ok (.iaload, 1) := by decide +kernel
theorem dL_fit_15 : decode cL_fit 15 = .ok (.if_icmp .ge 7, 3) := by decide +kernel
theorem dL_fit_18 : decode cL_fit 18 = .ok (.iconst 2, 1) := by decide +kernel
theorem dL_fit_19 : decode cL_fit 19 = .ok (.goto 22, 3) := by decide +kernel
theorem dL_fit_22 : decode cL_fit 22 = .ok (.aload_n 0, 1) := by decide +kernel
theorem dL_fit_23 : decode cL_fit 23 = .ok (.aload_n 1, 1) := by decide +kernel
theorem dL_fit_24 : decode cL_fit 24 = .ok (.iload 4, 2) := by decide +kernel
theorem dL_fit_26 : decode cL_fit 26 = .ok (.iload 5, 2) := by decide +kernel
theorem dL_fit_28 : decode cL_fit 28 = .ok (.iload_n 3, 1) := by decide +kernel
theorem dL_fit_29 : decode cL_fit 29 = .ok (.iconst 0, 1) := by decide +kernel
theorem dL_fit_30 : decode cL_fit 30 = .ok (.invokestatic 16, 3) := by decide +kernel
theorem dL_fit_33 : decode cL_fit 33 = .ok (.ifCond .le 7, 3) := by decide +kernel
theorem dL_fit_36 : decode cL_fit 36 = .ok (.iconst 1, 1) := by decide +kernel
theorem dL_fit_37 : decode cL_fit 37 = .ok (.goto 4, 3) := by decide +kernel
theorem dL_fit_40 : decode cL_fit 40 = .ok (.iconst 0, 1) := by decide +kernel
theorem dL_fit_41 : decode cL_fit 41 = .ok (.ireturn, 1) := by decide +kernel
theorem dL_told_0 : decode cL_told 0 = .ok (.iconst 0, 1) := by decide +kernel
theorem dL_told_1 : decode cL_told 1 = .ok (.istore 4, 2) := by decide +kernel
theorem dL_told_3 : decode cL_told 3 = .ok (.iconst 0, 1) := by decide +kernel
theorem dL_told_4 : decode cL_told 4 = .ok (.istore 5, 2) := by decide +kernel
theorem dL_told_6 : decode cL_told 6 = .ok (.iload 5, 2) := by decide +kernel
theorem dL_told_8 : decode cL_told 8 = .ok (.aload_n 1, 1) := by decide +kernel
theorem dL_told_9 : decode cL_told 9 = .ok (.bipush 7, 2) := by decide +kernel
theorem dL_told_11 : decode cL_told 11 = .ok (.iaload, 1) := by decide +kernel
theorem dL_told_12 : decode cL_told 12 = .ok (.if_icmp .ge 43, 3) := by decide +kernel
theorem dL_told_15 : decode cL_told 15 = .ok (.aload_n 0, 1) := by decide +kernel
theorem dL_told_16 : decode cL_told 16 = .ok (.aload_n 1, 1) := by decide +kernel
theorem dL_told_17 : decode cL_told 17 = .ok (.iload_n 2, 1) := by decide +kernel
theorem dL_told_18 : decode cL_told 18 = .ok (.iload_n 3, 1) := by decide +kernel
theorem dL_told_19 : decode cL_told 19 = .ok (.iload 5, 2) := by decide +kernel
theorem dL_told_21 : decode cL_told 21 = .ok (.invokestatic 20, 3) := by decide +kernel
theorem dL_told_24 : decode cL_told 24 = .ok (.istore 6, 2) := by decide +kernel
theorem dL_told_26 : decode cL_told 26 = .ok (.iload 6, 2) := by decide +kernel
theorem dL_told_28 : decode cL_told 28 = .ok (.ifCond .ne 5, 3) := by decide +kernel
theorem dL_told_31 : decode cL_told 31 = .ok (.iconst 0, 1) := by decide +kernel
theorem dL_told_32 : decode cL_told 32 = .ok (.ireturn, 1) := by decide +kernel
theorem dL_told_33 : decode cL_told 33 = .ok (.iload 4, 2) := by decide +kernel
theorem dL_told_35 : decode cL_told 35 = .ok (.iload 6, 2) := by decide +kernel
theorem dL_told_37 : decode cL_told 37 = .ok (.iconst 1, 1) := by decide +kernel
theorem dL_told_38 : decode cL_told 38 = .ok (.if_icmp .ne 7, 3) := by decide +kernel
theorem dL_told_41 : decode cL_told 41 = .ok (.iconst 1, 1) := by decide +kernel
theorem dL_told_42 : decode cL_told 42 = .ok (.goto 4, 3) := by decide +kernel
theorem dL_told_45 : decode cL_told 45 = .ok (.iconst 0, 1) := by decide +kernel
theorem dL_told_46 : decode cL_told 46 = .ok (.iadd, 1) := by decide +kernel
theorem dL_told_47 : decode cL_told 47 = .ok (.istore 4, 2) := by decide +kernel
theorem dL_told_49 : decode cL_told 49 = .ok (.iinc 5 1, 3) := by decide +kernel
theorem dL_told_52 : decode cL_told 52 = .ok (.goto (-46), 3) := by decide +kernel
theorem dL_told_55 : decode cL_told 55 = .ok (.iload 4, 2) := by decide +kernel
theorem dL_told_57 : decode cL_told 57 = .ok (.ireturn, 1) := by decide +kernel
theorem dL_isTrue_0 : decode cL_isTrue 0 = .ok (.iconst 0, 1) := by decide +kernel
theorem dL_isTrue_1 : decode cL_isTrue 1 = .ok (.istore 4, 2) := by decide +kernel
theorem dL_isTrue_3 : decode cL_isTrue 3 = .ok (.iload 4, 2) := by decide +kernel
theorem dL_isTrue_5 : decode cL_isTrue 5 = .ok (.aload_n 1, 1) := by decide +kernel
theorem dL_isTrue_6 : decode cL_isTrue 6 = .ok (.bipush 8, 2) := by decide +kernel
theorem dL_isTrue_8 : decode cL_isTrue 8 = .ok (.iaload, 1) := by decide +kernel
theorem dL_isTrue_9 : decode cL_isTrue 9 = .ok (.if_icmp .ge 33, 3) := by decide +kernel
theorem dL_isTrue_12 : decode cL_isTrue 12 = .ok (.aload_n 0, 1) := by decide +kernel
theorem dL_isTrue_13 : decode cL_isTrue 13 = .ok (.iconst 3, 1) := by decide +kernel
theorem dL_isTrue_14 : decode cL_isTrue 14 = .ok (.iload 4, 2) := by decide +kernel
theorem dL_isTrue_16 : decode cL_isTrue 16 = .ok (.imul, 1) := by decide +kernel
theorem dL_isTrue_17 : decode cL_isTrue 17 = .ok (.iaload, 1) := by decide +kernel
theorem dL_isTrue_18 : decode cL_isTrue 18 = .ok (.iload_n 2, 1) := by decide +kernel
theorem dL_isTrue_19 : decode cL_isTrue 19 = .ok (.if_icmp .ne 17, 3) := by decide +kernel
theorem dL_isTrue_22 : decode cL_isTrue 22 = .ok (.aload_n 0, 1) := by decide +kernel
theorem dL_isTrue_23 : decode cL_isTrue 23 = .ok (.iconst 3, 1) := by decide +kernel
theorem dL_isTrue_24 : decode cL_isTrue 24 = .ok (.iload 4, 2) := by decide +kernel
theorem dL_isTrue_26 : decode cL_isTrue 26 = .ok (.imul, 1) := by decide +kernel
theorem dL_isTrue_27 : decode cL_isTrue 27 = .ok (.iconst 2, 1) := by decide +kernel
theorem dL_isTrue_28 : decode cL_isTrue 28 = .ok (.iadd, 1) := by decide +kernel
theorem dL_isTrue_29 : decode cL_isTrue 29 = .ok (.iaload, 1) := by decide +kernel
theorem dL_isTrue_30 : decode cL_isTrue 30 = .ok (.iload_n 3, 1) := by decide +kernel
theorem dL_isTrue_31 : decode cL_isTrue 31 = .ok (.if_icmp .ne 5, 3) := by decide +kernel
theorem dL_isTrue_34 : decode cL_isTrue 34 = .ok (.iconst 1, 1) := by decide +kernel
theorem dL_isTrue_35 : decode cL_isTrue 35 = .ok (.ireturn, 1) := by decide +kernel
theorem dL_isTrue_36 : decode cL_isTrue 36 = .ok (.iinc 4 1, 3) := by decide +kernel
theorem dL_isTrue_39 : decode cL_isTrue 39 = .ok (.goto (-36), 3) := by decide +kernel
theorem dL_isTrue_42 : decode cL_isTrue 42 = .ok (.iconst 0, 1) := by decide +kernel
theorem dL_isTrue_43 : decode cL_isTrue 43 = .ok (.ireturn, 1) := by decide +kernel
theorem dL_targets_0 : decode cL_targets 0 = .ok (.aload_n 3, 1) := by decide +kernel
theorem dL_targets_1 : decode cL_targets 1 = .ok (.bipush 8, 2) := by decide +kernel
theorem dL_targets_3 : decode cL_targets 3 = .ok (.iaload, 1) := by decide +kernel
theorem dL_targets_4 : decode cL_targets 4 = .ok (.aload_n 3, 1) := by decide +kernel
theorem dL_targets_5 : decode cL_targets 5 = .ok (.bipush 6, 2) := by decide +kernel
theorem dL_targets_7 : decode cL_targets 7 = .ok (.iaload, 1) := by decide +kernel
theorem dL_targets_8 : decode cL_targets 8 = .ok (.isub, 1) := by decide +kernel
theorem dL_targets_9 : decode cL_targets 9 = .ok (.istore 4, 2) := by decide +kernel
theorem dL_targets_11 : decode cL_targets 11 = .ok (.iconst 0, 1) := by decide +kernel
theorem dL_targets_12 : decode cL_targets 12 = .ok (.istore 5, 2) := by decide +kernel
theorem dL_targets_14 : decode cL_targets 14 = .ok (.iconst 0, 1) := by decide +kernel
theorem dL_targets_15 : decode cL_targets 15 = .ok (.istore 6, 2) := by decide +kernel
theorem dL_targets_17 : decode cL_targets 17 = .ok (.iload 6, 2) := by decide +kernel
theorem dL_targets_19 : decode cL_targets 19 = .ok (.aload_n 3, 1) := by decide +kernel
theorem dL_targets_20 : decode cL_targets 20 = .ok (.bipush 6, 2) := by decide +kernel
theorem dL_targets_22 : decode cL_targets 22 = .ok (.iaload, 1) := by decide +kernel
theorem dL_targets_23 : decode cL_targets 23 = .ok (.if_icmp .ge 282, 3) := by decide +kernel
theorem dL_targets_26 : decode cL_targets 26 = .ok (.iconst 0, 1) := by decide +kernel
theorem dL_targets_27 : decode cL_targets 27 = .ok (.istore 7, 2) := by decide +kernel
theorem dL_targets_29 : decode cL_targets 29 = .ok (.iconst 0, 1) := by decide +kernel
theorem dL_targets_30 : decode cL_targets 30 = .ok (.istore 8, 2) := by decide +kernel
theorem dL_targets_32 : decode cL_targets 32 = .ok (.iload 5, 2) := by decide +kernel
theorem dL_targets_34 : decode cL_targets 34 = .ok (.aload_n 1, 1) := by decide +kernel
theorem dL_targets_35 : decode cL_targets 35 = .ok (.iconst 4, 1) := by decide +kernel
theorem dL_targets_36 : decode cL_targets 36 = .ok (.iload 6, 2) := by decide +kernel
theorem dL_targets_38 : decode cL_targets 38 = .ok (.imul, 1) := by decide +kernel
theorem dL_targets_39 : decode cL_targets 39 = .ok (.iconst 3, 1) := by decide +kernel
theorem dL_targets_40 : decode cL_targets 40 = .ok (.iadd, 1) := by decide +kernel
theorem dL_targets_41 : decode cL_targets 41 = .ok (.iaload, 1) := by decide +kernel
theorem dL_targets_42 : decode cL_targets 42 = .ok (.iadd, 1) := by decide +kernel
theorem dL_targets_43 : decode cL_targets 43 = .ok (.istore 5, 2) := by decide +kernel
theorem dL_targets_45 : decode cL_targets 45 = .ok (.iconst 0, 1) := by decide +kernel
theorem dL_targets_46 : decode cL_targets 46 = .ok (.istore 9, 2) := by decide +kernel
theorem dL_targets_48 : decode cL_targets 48 = .ok (.iload 9, 2) := by decide +kernel
theorem dL_targets_50 : decode cL_targets 50 = .ok (.aload_n 3, 1) := by decide +kernel
theorem dL_targets_51 : decode cL_targets 51 = .ok (.bipush 7, 2) := by decide +kernel
theorem dL_targets_53 : decode cL_targets 53 = .ok (.iaload, 1) := by decide +kernel
theorem dL_targets_54 : decode cL_targets 54 = .ok (.if_icmp .ge 59, 3) := by decide +kernel
theorem dL_targets_57 : decode cL_targets 57 = .ok (.iload 7, 2) := by decide +kernel
theorem dL_targets_59 : decode cL_targets 59 = .ok (.aload_n 1, 1) := by decide +kernel
theorem dL_targets_60 : decode cL_targets 60 = .ok (.iconst 4, 1) := by decide +kernel
theorem dL_targets_61 : decode cL_targets 61 = .ok (.iload 6, 2) := by decide +kernel
theorem dL_targets_63 : decode cL_targets 63 = .ok (.imul, 1) := by decide +kernel
theorem dL_targets_64 : decode cL_targets 64 = .ok (.iconst 1, 1) := by decide +kernel
theorem dL_targets_65 : decode cL_targets 65 = .ok (.iadd, 1) := by decide +kernel
theorem dL_targets_66 : decode cL_targets 66 = .ok (.iaload, 1) := by decide +kernel
theorem dL_targets_67 : decode cL_targets 67 = .ok (.aload_n 3, 1) := by decide +kernel
theorem dL_targets_68 : decode cL_targets 68 = .ok (.iconst 5, 1) := by decide +kernel
theorem dL_targets_69 : decode cL_targets 69 = .ok (.iaload, 1) := by decide +kernel
theorem dL_targets_70 : decode cL_targets 70 = .ok (.if_icmp .lt 33, 3) := by decide +kernel
theorem dL_targets_73 : decode cL_targets 73 = .ok (.aload_n 3, 1) := by decide +kernel
theorem dL_targets_74 : decode cL_targets 74 = .ok (.aload_n 1, 1) := by decide +kernel
theorem dL_targets_75 : decode cL_targets 75 = .ok (.iconst 4, 1) := by decide +kernel
theorem dL_targets_76 : decode cL_targets 76 = .ok (.iload 6, 2) := by decide +kernel
theorem dL_targets_78 : decode cL_targets 78 = .ok (.imul, 1) := by decide +kernel
theorem dL_targets_79 : decode cL_targets 79 = .ok (.iaload, 1) := by decide +kernel
theorem dL_targets_80 : decode cL_targets 80 = .ok (.aload_n 1, 1) := by decide +kernel
theorem dL_targets_81 : decode cL_targets 81 = .ok (.iconst 4, 1) := by decide +kernel
theorem dL_targets_82 : decode cL_targets 82 = .ok (.iload 6, 2) := by decide +kernel
theorem dL_targets_84 : decode cL_targets 84 = .ok (.imul, 1) := by decide +kernel
theorem dL_targets_85 : decode cL_targets 85 = .ok (.iconst 2, 1) := by decide +kernel
theorem dL_targets_86 : decode cL_targets 86 = .ok (.iadd, 1) := by decide +kernel
theorem dL_targets_87 : decode cL_targets 87 = .ok (.iaload, 1) := by decide +kernel
theorem dL_targets_88 : decode cL_targets 88 = .ok (.iload 9, 2) := by decide +kernel
theorem dL_targets_90 : decode cL_targets 90 = .ok (.invokestatic 10, 3) := by decide +kernel
theorem dL_targets_93 : decode cL_targets 93 = .ok (.aload_n 3, 1) := by decide +kernel
theorem dL_targets_94 : decode cL_targets 94 = .ok (.iconst 4, 1) := by decide +kernel
theorem dL_targets_95 : decode cL_targets 95 = .ok (.iaload, 1) := by decide +kernel
theorem dL_targets_96 : decode cL_targets 96 = .ok (.if_icmp .ge 7, 3) := by decide +kernel
theorem dL_targets_99 : decode cL_targets 99 = .ok (.iconst 1, 1) := by decide +kernel
theorem dL_targets_100 : decode cL_targets 100 = .ok (.goto 4, 3) := by decide +kernel
theorem dL_targets_103 : decode cL_targets 103 = .ok (.iconst 0, 1) := by decide +kernel
theorem dL_targets_104 : decode cL_targets 104 = .ok (.iadd, 1) := by decide +kernel
theorem dL_targets_105 : decode cL_targets 105 = .ok (.istore 7, 2) := by decide +kernel
theorem dL_targets_107 : decode cL_targets 107 = .ok (.iinc 9 1, 3) := by decide +kernel
theorem dL_targets_110 : decode cL_targets 110 = .ok (.goto (-62), 3) := by decide +kernel
theorem dL_targets_113 : decode cL_targets 113 = .ok (.iconst 0, 1) := by decide +kernel
theorem dL_targets_114 : decode cL_targets 114 = .ok (.istore 9, 2) := by decide +kernel
theorem dL_targets_116 : decode cL_targets 116 = .ok (.iload 9, 2) := by decide +kernel
theorem dL_targets_118 : decode cL_targets 118 = .ok (.iload 4, 2) := by decide +kernel
theorem dL_targets_120 : decode cL_targets 120 = .ok (.if_icmp .ge 43, 3) := by decide +kernel
theorem dL_targets_123 : decode cL_targets 123 = .ok (.iload 8, 2) := by decide +kernel
theorem dL_targets_125 : decode cL_targets 125 = .ok (.aload_n 0, 1) := by decide +kernel
theorem dL_targets_126 : decode cL_targets 126 = .ok (.iload 9, 2) := by decide +kernel
theorem dL_targets_128 : decode cL_targets 128 = .ok (.iconst 2, 1) := by decide +kernel
theorem dL_targets_129 : decode cL_targets 129 = .ok (.invokevirtual 24, 3) := by decide +kernel
theorem dL_targets_132 : decode cL_targets 132 = .ok (.iload 6, 2) := by decide +kernel
theorem dL_targets_134 : decode cL_targets 134 = .ok (.if_icmp .eq 15, 3) := by decide +kernel
theorem dL_targets_137 : decode cL_targets 137 = .ok (.aload_n 0, 1) := by decide +kernel
theorem dL_targets_138 : decode cL_targets 138 = .ok (.iload 9, 2) := by decide +kernel
theorem dL_targets_140 : decode cL_targets 140 = .ok (.iconst 3, 1) := by decide +kernel
theorem dL_targets_141 : decode cL_targets 141 = .ok (.invokevirtual 24, 3) := by decide +kernel
theorem dL_targets_144 : decode cL_targets 144 = .ok (.iload 6, 2) := by decide +kernel
theorem dL_targets_146 : decode cL_targets 146 = .ok (.if_icmp .ne 7, 3) := by decide +kernel
theorem dL_targets_149 : decode cL_targets 149 = .ok (.iconst 1, 1) := by decide +kernel
theorem dL_targets_150 : decode cL_targets 150 = .ok (.goto 4, 3) := by decide +kernel
theorem dL_targets_153 : decode cL_targets 153 = .ok (.iconst 0, 1) := by decide +kernel
theorem dL_targets_154 : decode cL_targets 154 = .ok (.iadd, 1) := by decide +kernel
theorem dL_targets_155 : decode cL_targets 155 = .ok (.istore 8, 2) := by decide +kernel
theorem dL_targets_157 : decode cL_targets 157 = .ok (.iinc 9 1, 3) := by decide +kernel
theorem dL_targets_160 : decode cL_targets 160 = .ok (.goto (-44), 3) := by decide +kernel
theorem dL_targets_163 : decode cL_targets 163 = .ok (.aload_n 0, 1) := by decide +kernel
theorem dL_targets_164 : decode cL_targets 164 = .ok (.iload 6, 2) := by decide +kernel
theorem dL_targets_166 : decode cL_targets 166 = .ok (.iconst 0, 1) := by decide +kernel
theorem dL_targets_167 : decode cL_targets 167 = .ok (.invokevirtual 30, 3) := by decide +kernel
theorem dL_targets_170 : decode cL_targets 170 = .ok (.aload_n 1, 1) := by decide +kernel
theorem dL_targets_171 : decode cL_targets 171 = .ok (.iconst 4, 1) := by decide +kernel
theorem dL_targets_172 : decode cL_targets 172 = .ok (.iload 6, 2) := by decide +kernel
theorem dL_targets_174 : decode cL_targets 174 = .ok (.imul, 1) := by decide +kernel
theorem dL_targets_175 : decode cL_targets 175 = .ok (.iaload, 1) := by decide +kernel
theorem dL_targets_176 : decode cL_targets 176 = .ok (.if_icmp .ne 121, 3) := by decide +kernel
theorem dL_targets_179 : decode cL_targets 179 = .ok (.aload_n 0, 1) := by decide +kernel
theorem dL_targets_180 : decode cL_targets 180 = .ok (.iload 6, 2) := by decide +kernel
theorem dL_targets_182 : decode cL_targets 182 = .ok (.iconst 1, 1) := by decide +kernel
theorem dL_targets_183 : decode cL_targets 183 = .ok (.invokevirtual 30, 3) := by decide +kernel
theorem dL_targets_186 : decode cL_targets 186 = .ok (.aload_n 1, 1) := by decide +kernel
theorem dL_targets_187 : decode cL_targets 187 = .ok (.iconst 4, 1) := by decide +kernel
theorem dL_targets_188 : decode cL_targets 188 = .ok (.iload 6, 2) := by decide +kernel
theorem dL_targets_190 : decode cL_targets 190 = .ok (.imul, 1) := by decide +kernel
theorem dL_targets_191 : decode cL_targets 191 = .ok (.iconst 1, 1) := by decide +kernel
theorem dL_targets_192 : decode cL_targets 192 = .ok (.iadd, 1) := by decide +kernel
theorem dL_targets_193 : decode cL_targets 193 = .ok (.iaload, 1) := by decide +kernel
theorem dL_targets_194 : decode cL_targets 194 = .ok (.if_icmp .ne 103, 3) := by decide +kernel
theorem dL_targets_197 : decode cL_targets 197 = .ok (.aload_n 0, 1) := by decide +kernel
theorem dL_targets_198 : decode cL_targets 198 = .ok (.iload 6, 2) := by decide +kernel
theorem dL_targets_200 : decode cL_targets 200 = .ok (.iconst 2, 1) := by decide +kernel
theorem dL_targets_201 : decode cL_targets 201 = .ok (.invokevirtual 30, 3) := by decide +kernel
theorem dL_targets_204 : decode cL_targets 204 = .ok (.aload_n 1, 1) := by decide +kernel
theorem dL_targets_205 : decode cL_targets 205 = .ok (.iconst 4, 1) := by decide +kernel
theorem dL_targets_206 : decode cL_targets 206 = .ok (.iload 6, 2) := by decide +kernel
theorem dL_targets_208 : decode cL_targets 208 = .ok (.imul, 1) := by decide +kernel
theorem dL_targets_209 : decode cL_targets 209 = .ok (.iconst 2, 1) := by decide +kernel
theorem dL_targets_210 : decode cL_targets 210 = .ok (.iadd, 1) := by decide +kernel
theorem dL_targets_211 : decode cL_targets 211 = .ok (.iaload, 1) := by decide +kernel
theorem dL_targets_212 : decode cL_targets 212 = .ok (.iconst 5, 1) := by decide +kernel
theorem dL_targets_213 : decode cL_targets 213 = .ok (.iadd, 1) := by decide +kernel
theorem dL_targets_214 : decode cL_targets 214 = .ok (.if_icmp .ne 83, 3) := by decide +kernel
theorem dL_targets_217 : decode cL_targets 217 = .ok (.aload_n 0, 1) := by decide +kernel
theorem dL_targets_218 : decode cL_targets 218 = .ok (.iload 6, 2) := by decide +kernel
theorem dL_targets_220 : decode cL_targets 220 = .ok (.iconst 3, 1) := by decide +kernel
theorem dL_targets_221 : decode cL_targets 221 = .ok (.invokevirtual 30, 3) := by decide +kernel
theorem dL_targets_224 : decode cL_targets 224 = .ok (.aload_n 1, 1) := by decide +kernel
theorem dL_targets_225 : decode cL_targets 225 = .ok (.iconst 4, 1) := by decide +kernel
theorem dL_targets_226 : decode cL_targets 226 = .ok (.iload 6, 2) := by decide +kernel
theorem dL_targets_228 : decode cL_targets 228 = .ok (.imul, 1) := by decide +kernel
theorem dL_targets_229 : decode cL_targets 229 = .ok (.iconst 3, 1) := by decide +kernel
theorem dL_targets_230 : decode cL_targets 230 = .ok (.iadd, 1) := by decide +kernel
theorem dL_targets_231 : decode cL_targets 231 = .ok (.iaload, 1) := by decide +kernel
theorem dL_targets_232 : decode cL_targets 232 = .ok (.if_icmp .ne 65, 3) := by decide +kernel
theorem dL_targets_235 : decode cL_targets 235 = .ok (.aload_n 0, 1) := by decide +kernel
theorem dL_targets_236 : decode cL_targets 236 = .ok (.iload 6, 2) := by decide +kernel
theorem dL_targets_238 : decode cL_targets 238 = .ok (.iconst 4, 1) := by decide +kernel
theorem dL_targets_239 : decode cL_targets 239 = .ok (.invokevirtual 30, 3) := by decide +kernel
theorem dL_targets_242 : decode cL_targets 242 = .ok (.aload_n 2, 1) := by decide +kernel
theorem dL_targets_243 : decode cL_targets 243 = .ok (.aload_n 3, 1) := by decide +kernel
theorem dL_targets_244 : decode cL_targets 244 = .ok (.aload_n 1, 1) := by decide +kernel
theorem dL_targets_245 : decode cL_targets 245 = .ok (.iconst 4, 1) := by decide +kernel
theorem dL_targets_246 : decode cL_targets 246 = .ok (.iload 6, 2) := by decide +kernel
theorem dL_targets_248 : decode cL_targets 248 = .ok (.imul, 1) := by decide +kernel
theorem dL_targets_249 : decode cL_targets 249 = .ok (.iaload, 1) := by decide +kernel
theorem dL_targets_250 : decode cL_targets 250 = .ok (.aload_n 1, 1) := by decide +kernel
theorem dL_targets_251 : decode cL_targets 251 = .ok (.iconst 4, 1) := by decide +kernel
theorem dL_targets_252 : decode cL_targets 252 = .ok (.iload 6, 2) := by decide +kernel
theorem dL_targets_254 : decode cL_targets 254 = .ok (.imul, 1) := by decide +kernel
theorem dL_targets_255 : decode cL_targets 255 = .ok (.iconst 2, 1) := by decide +kernel
theorem dL_targets_256 : decode cL_targets 256 = .ok (.iadd, 1) := by decide +kernel
theorem dL_targets_257 : decode cL_targets 257 = .ok (.iaload, 1) := by decide +kernel
theorem dL_targets_258 : decode cL_targets 258 = .ok (.invokestatic 33, 3) := by decide +kernel
theorem dL_targets_261 : decode cL_targets 261 = .ok (.ifCond .le 7, 3) := by decide +kernel
theorem dL_targets_264 : decode cL_targets 264 = .ok (.iconst 1, 1) := by decide +kernel
theorem dL_targets_265 : decode cL_targets 265 = .ok (.goto 4, 3) := by decide +kernel
theorem dL_targets_268 : decode cL_targets 268 = .ok (.iconst 0, 1) := by decide +kernel
theorem dL_targets_269 : decode cL_targets 269 = .ok (.if_icmp .ne 28, 3) := by decide +kernel
theorem dL_targets_272 : decode cL_targets 272 = .ok (.aload_n 0, 1) := by decide +kernel
theorem dL_targets_273 : decode cL_targets 273 = .ok (.iload 6, 2) := by decide +kernel
theorem dL_targets_275 : decode cL_targets 275 = .ok (.iconst 5, 1) := by decide +kernel
theorem dL_targets_276 : decode cL_targets 276 = .ok (.invokevirtual 30, 3) := by decide +kernel
theorem dL_targets_279 : decode cL_targets 279 = .ok (.iload 7, 2) := by decide +kernel
theorem dL_targets_281 : decode cL_targets 281 = .ok (.if_icmp .ne 16, 3) := by decide +kernel
theorem dL_targets_284 : decode cL_targets 284 = .ok (.aload_n 0, 1) := by decide +kernel
theorem dL_targets_285 : decode cL_targets 285 = .ok (.iload 6, 2) := by decide +kernel
theorem dL_targets_287 : decode cL_targets 287 = .ok (.bipush 6, 2) := by decide +kernel
theorem dL_targets_289 : decode cL_targets 289 = .ok (.invokevirtual 30, 3) := by decide +kernel
theorem dL_targets_292 : decode cL_targets 292 = .ok (.iload 8, 2) := by decide +kernel
theorem dL_targets_294 : decode cL_targets 294 = .ok (.if_icmp .eq 5, 3) := by decide +kernel
theorem dL_targets_297 : decode cL_targets 297 = .ok (.iconst 0, 1) := by decide +kernel
theorem dL_targets_298 : decode cL_targets 298 = .ok (.ireturn, 1) := by decide +kernel
theorem dL_targets_299 : decode cL_targets 299 = .ok (.iinc 6 1, 3) := by decide +kernel
theorem dL_targets_302 : decode cL_targets 302 = .ok (.goto (-285), 3) := by decide +kernel
theorem dL_targets_305 : decode cL_targets 305 = .ok (.iconst (-1), 1) := by decide +kernel
theorem dL_targets_306 : decode cL_targets 306 = .ok (.istore 6, 2) := by decide +kernel
theorem dL_targets_308 : decode cL_targets 308 = .ok (.iconst 0, 1) := by decide +kernel
theorem dL_targets_309 : decode cL_targets 309 = .ok (.istore 7, 2) := by decide +kernel
theorem dL_targets_311 : decode cL_targets 311 = .ok (.iload 7, 2) := by decide +kernel
theorem dL_targets_313 : decode cL_targets 313 = .ok (.iload 4, 2) := by decide +kernel
theorem dL_targets_315 : decode cL_targets 315 = .ok (.if_icmp .ge 163, 3) := by decide +kernel
theorem dL_targets_318 : decode cL_targets 318 = .ok (.iconst 3, 1) := by decide +kernel
theorem dL_targets_319 : decode cL_targets 319 = .ok (.aload_n 3, 1) := by decide +kernel
theorem dL_targets_320 : decode cL_targets 320 = .ok (.bipush 6, 2) := by decide +kernel
theorem dL_targets_322 : decode cL_targets 322 = .ok (.iaload, 1) := by decide +kernel
theorem dL_targets_323 : decode cL_targets 323 = .ok (.iload 7, 2) := by decide +kernel
theorem dL_targets_325 : decode cL_targets 325 = .ok (.iadd, 1) := by decide +kernel
theorem dL_targets_326 : decode cL_targets 326 = .ok (.imul, 1) := by decide +kernel
theorem dL_targets_327 : decode cL_targets 327 = .ok (.istore 8, 2) := by decide +kernel
theorem dL_targets_329 : decode cL_targets 329 = .ok (.aload_n 0, 1) := by decide +kernel
theorem dL_targets_330 : decode cL_targets 330 = .ok (.iload 7, 2) := by decide +kernel
theorem dL_targets_332 : decode cL_targets 332 = .ok (.iconst 2, 1) := by decide +kernel
theorem dL_targets_333 : decode cL_targets 333 = .ok (.invokevirtual 24, 3) := by decide +kernel
theorem dL_targets_336 : decode cL_targets 336 = .ok (.istore 9, 2) := by decide +kernel
theorem dL_targets_338 : decode cL_targets 338 = .ok (.aload_n 0, 1) := by decide +kernel
theorem dL_targets_339 : decode cL_targets 339 = .ok (.iload 7, 2) := by decide +kernel
theorem dL_targets_341 : decode cL_targets 341 = .ok (.iconst 3, 1) := by decide +kernel
theorem dL_targets_342 : decode cL_targets 342 = .ok (.invokevirtual 24, 3) := by decide +kernel
theorem dL_targets_345 : decode cL_targets 345 = .ok (.istore 10, 2) := by decide +kernel
theorem dL_targets_347 : decode cL_targets 347 = .ok (.iload 9, 2) := by decide +kernel
theorem dL_targets_349 : decode cL_targets 349 = .ok (.ifCond .lt 111, 3) := by decide +kernel
theorem dL_targets_352 : decode cL_targets 352 = .ok (.iload 10, 2) := by decide +kernel
theorem dL_targets_354 : decode cL_targets 354 = .ok (.aload_n 3, 1) := by decide +kernel
theorem dL_targets_355 : decode cL_targets 355 = .ok (.bipush 6, 2) := by decide +kernel
theorem dL_targets_357 : decode cL_targets 357 = .ok (.iaload, 1) := by decide +kernel
theorem dL_targets_358 : decode cL_targets 358 = .ok (.if_icmp .ge 102, 3) := by decide +kernel
theorem dL_targets_361 : decode cL_targets 361 = .ok (.iload 9, 2) := by decide +kernel
theorem dL_targets_363 : decode cL_targets 363 = .ok (.iload 10, 2) := by decide +kernel
theorem dL_targets_365 : decode cL_targets 365 = .ok (.if_icmp .ge 95, 3) := by decide +kernel
theorem dL_targets_368 : decode cL_targets 368 = .ok (.bipush 6, 2) := by decide +kernel
theorem dL_targets_370 : decode cL_targets 370 = .ok (.iload 9, 2) := by decide +kernel
theorem dL_targets_372 : decode cL_targets 372 = .ok (.imul, 1) := by decide +kernel
theorem dL_targets_373 : decode cL_targets 373 = .ok (.iload 10, 2) := by decide +kernel
theorem dL_targets_375 : decode cL_targets 375 = .ok (.iadd, 1) := by decide +kernel
theorem dL_targets_376 : decode cL_targets 376 = .ok (.iload 6, 2) := by decide +kernel
theorem dL_targets_378 : decode cL_targets 378 = .ok (.if_icmp .le 82, 3) := by decide +kernel
theorem dL_targets_381 : decode cL_targets 381 = .ok (.aload_n 1, 1) := by decide +kernel
theorem dL_targets_382 : decode cL_targets 382 = .ok (.iconst 4, 1) := by decide +kernel
theorem dL_targets_383 : decode cL_targets 383 = .ok (.iload 9, 2) := by decide +kernel
theorem dL_targets_385 : decode cL_targets 385 = .ok (.imul, 1) := by decide +kernel
theorem dL_targets_386 : decode cL_targets 386 = .ok (.iconst 3, 1) := by decide +kernel
theorem dL_targets_387 : decode cL_targets 387 = .ok (.iadd, 1) := by decide +kernel
theorem dL_targets_388 : decode cL_targets 388 = .ok (.iaload, 1) := by decide +kernel
theorem dL_targets_389 : decode cL_targets 389 = .ok (.aload_n 1, 1) := by decide +kernel
theorem dL_targets_390 : decode cL_targets 390 = .ok (.iconst 4, 1) := by decide +kernel
theorem dL_targets_391 : decode cL_targets 391 = .ok (.iload 10, 2) := by decide +kernel
theorem dL_targets_393 : decode cL_targets 393 = .ok (.imul, 1) := by decide +kernel
theorem dL_targets_394 : decode cL_targets 394 = .ok (.iconst 3, 1) := by decide +kernel
theorem dL_targets_395 : decode cL_targets 395 = .ok (.iadd, 1) := by decide +kernel
theorem dL_targets_396 : decode cL_targets 396 = .ok (.iaload, 1) := by decide +kernel
theorem dL_targets_397 : decode cL_targets 397 = .ok (.iadd, 1) := by decide +kernel
theorem dL_targets_398 : decode cL_targets 398 = .ok (.iconst 2, 1) := by decide +kernel
theorem dL_targets_399 : decode cL_targets 399 = .ok (.if_icmp .ne 61, 3) := by decide +kernel
theorem dL_targets_402 : decode cL_targets 402 = .ok (.aload_n 0, 1) := by decide +kernel
theorem dL_targets_403 : decode cL_targets 403 = .ok (.iload 7, 2) := by decide +kernel
theorem dL_targets_405 : decode cL_targets 405 = .ok (.iconst 0, 1) := by decide +kernel
theorem dL_targets_406 : decode cL_targets 406 = .ok (.invokevirtual 24, 3) := by decide +kernel
theorem dL_targets_409 : decode cL_targets 409 = .ok (.aload_n 2, 1) := by decide +kernel
theorem dL_targets_410 : decode cL_targets 410 = .ok (.iload 8, 2) := by decide +kernel
theorem dL_targets_412 : decode cL_targets 412 = .ok (.iaload, 1) := by decide +kernel
theorem dL_targets_413 : decode cL_targets 413 = .ok (.if_icmp .ne 47, 3) := by decide +kernel
theorem dL_targets_416 : decode cL_targets 416 = .ok (.aload_n 0, 1) := by decide +kernel
theorem dL_targets_417 : decode cL_targets 417 = .ok (.iload 7, 2) := by decide +kernel
theorem dL_targets_419 : decode cL_targets 419 = .ok (.iconst 1, 1) := by decide +kernel
theorem dL_targets_420 : decode cL_targets 420 = .ok (.invokevirtual 24, 3) := by decide +kernel
theorem dL_targets_423 : decode cL_targets 423 = .ok (.aload_n 2, 1) := by decide +kernel
theorem dL_targets_424 : decode cL_targets 424 = .ok (.iload 8, 2) := by decide +kernel
theorem dL_targets_426 : decode cL_targets 426 = .ok (.iconst 1, 1) := by decide +kernel
theorem dL_targets_427 : decode cL_targets 427 = .ok (.iadd, 1) := by decide +kernel
theorem dL_targets_428 : decode cL_targets 428 = .ok (.iaload, 1) := by decide +kernel
theorem dL_targets_429 : decode cL_targets 429 = .ok (.if_icmp .ne 31, 3) := by decide +kernel
theorem dL_targets_432 : decode cL_targets 432 = .ok (.aload_n 0, 1) := by decide +kernel
theorem dL_targets_433 : decode cL_targets 433 = .ok (.iload 7, 2) := by decide +kernel
theorem dL_targets_435 : decode cL_targets 435 = .ok (.iconst 4, 1) := by decide +kernel
theorem dL_targets_436 : decode cL_targets 436 = .ok (.invokevirtual 24, 3) := by decide +kernel
theorem dL_targets_439 : decode cL_targets 439 = .ok (.aload_n 2, 1) := by decide +kernel
theorem dL_targets_440 : decode cL_targets 440 = .ok (.aload_n 3, 1) := by decide +kernel
theorem dL_targets_441 : decode cL_targets 441 = .ok (.aload_n 2, 1) := by decide +kernel
theorem dL_targets_442 : decode cL_targets 442 = .ok (.iload 8, 2) := by decide +kernel
theorem dL_targets_444 : decode cL_targets 444 = .ok (.iaload, 1) := by decide +kernel
theorem dL_targets_445 : decode cL_targets 445 = .ok (.iconst 0, 1) := by decide +kernel
theorem dL_targets_446 : decode cL_targets 446 = .ok (.invokestatic 33, 3) := by decide +kernel
theorem dL_targets_449 : decode cL_targets 449 = .ok (.ifCond .le 7, 3) := by decide +kernel
theorem dL_targets_452 : decode cL_targets 452 = .ok (.iconst 1, 1) := by decide +kernel
theorem dL_targets_453 : decode cL_targets 453 = .ok (.goto 4, 3) := by decide +kernel
theorem dL_targets_456 : decode cL_targets 456 = .ok (.iconst 0, 1) := by decide +kernel
theorem dL_targets_457 : decode cL_targets 457 = .ok (.if_icmp .eq 5, 3) := by decide +kernel
theorem dL_targets_460 : decode cL_targets 460 = .ok (.iconst 0, 1) := by decide +kernel
theorem dL_targets_461 : decode cL_targets 461 = .ok (.ireturn, 1) := by decide +kernel
theorem dL_targets_462 : decode cL_targets 462 = .ok (.bipush 6, 2) := by decide +kernel
theorem dL_targets_464 : decode cL_targets 464 = .ok (.iload 9, 2) := by decide +kernel
theorem dL_targets_466 : decode cL_targets 466 = .ok (.imul, 1) := by decide +kernel
theorem dL_targets_467 : decode cL_targets 467 = .ok (.iload 10, 2) := by decide +kernel
theorem dL_targets_469 : decode cL_targets 469 = .ok (.iadd, 1) := by decide +kernel
theorem dL_targets_470 : decode cL_targets 470 = .ok (.istore 6, 2) := by decide +kernel
theorem dL_targets_472 : decode cL_targets 472 = .ok (.iinc 7 1, 3) := by decide +kernel
theorem dL_targets_475 : decode cL_targets 475 = .ok (.goto (-164), 3) := by decide +kernel
theorem dL_targets_478 : decode cL_targets 478 = .ok (.aload_n 0, 1) := by decide +kernel
theorem dL_targets_479 : decode cL_targets 479 = .ok (.iload 4, 2) := by decide +kernel
theorem dL_targets_481 : decode cL_targets 481 = .ok (.iconst 0, 1) := by decide +kernel
theorem dL_targets_482 : decode cL_targets 482 = .ok (.invokevirtual 24, 3) := by decide +kernel
theorem dL_targets_485 : decode cL_targets 485 = .ok (.bipush (-4), 2) := by decide +kernel
theorem dL_targets_487 : decode cL_targets 487 = .ok (.if_icmp .ne 88, 3) := by decide +kernel
theorem dL_targets_490 : decode cL_targets 490 = .ok (.aload_n 0, 1) := by decide +kernel
theorem dL_targets_491 : decode cL_targets 491 = .ok (.iconst 0, 1) := by decide +kernel
theorem dL_targets_492 : decode cL_targets 492 = .ok (.invokevirtual 37, 3) := by decide +kernel
theorem dL_targets_495 : decode cL_targets 495 = .ok (.aload_n 3, 1) := by decide +kernel
theorem dL_targets_496 : decode cL_targets 496 = .ok (.bipush 6, 2) := by decide +kernel
theorem dL_targets_498 : decode cL_targets 498 = .ok (.iaload, 1) := by decide +kernel
theorem dL_targets_499 : decode cL_targets 499 = .ok (.if_icmp .ne 76, 3) := by decide +kernel
theorem dL_targets_502 : decode cL_targets 502 = .ok (.aload_n 0, 1) := by decide +kernel
theorem dL_targets_503 : decode cL_targets 503 = .ok (.iconst 1, 1) := by decide +kernel
theorem dL_targets_504 : decode cL_targets 504 = .ok (.invokevirtual 37, 3) := by decide +kernel
theorem dL_targets_507 : decode cL_targets 507 = .ok (.iload 5, 2) := by decide +kernel
theorem dL_targets_509 : decode cL_targets 509 = .ok (.if_icmp .ne 66, 3) := by decide +kernel
theorem dL_targets_512 : decode cL_targets 512 = .ok (.aload_n 0, 1) := by decide +kernel
theorem dL_targets_513 : decode cL_targets 513 = .ok (.iconst 2, 1) := by decide +kernel
theorem dL_targets_514 : decode cL_targets 514 = .ok (.invokevirtual 37, 3) := by decide +kernel
theorem dL_targets_517 : decode cL_targets 517 = .ok (.iload 4, 2) := by decide +kernel
theorem dL_targets_519 : decode cL_targets 519 = .ok (.if_icmp .ne 56, 3) := by decide +kernel
theorem dL_targets_522 : decode cL_targets 522 = .ok (.aload_n 0, 1) := by decide +kernel
theorem dL_targets_523 : decode cL_targets 523 = .ok (.iconst 3, 1) := by decide +kernel
theorem dL_targets_524 : decode cL_targets 524 = .ok (.invokevirtual 37, 3) := by decide +kernel
theorem dL_targets_527 : decode cL_targets 527 = .ok (.aload_n 3, 1) := by decide +kernel
theorem dL_targets_528 : decode cL_targets 528 = .ok (.bipush 7, 2) := by decide +kernel
theorem dL_targets_530 : decode cL_targets 530 = .ok (.iaload, 1) := by decide +kernel
theorem dL_targets_531 : decode cL_targets 531 = .ok (.if_icmp .ne 44, 3) := by decide +kernel
theorem dL_targets_534 : decode cL_targets 534 = .ok (.aload_n 0, 1) := by decide +kernel
theorem dL_targets_535 : decode cL_targets 535 = .ok (.bipush 14, 2) := by decide +kernel
theorem dL_targets_537 : decode cL_targets 537 = .ok (.invokevirtual 37, 3) := by decide +kernel
theorem dL_targets_540 : decode cL_targets 540 = .ok (.aload_n 3, 1) := by decide +kernel
theorem dL_targets_541 : decode cL_targets 541 = .ok (.iconst 4, 1) := by decide +kernel
theorem dL_targets_542 : decode cL_targets 542 = .ok (.iaload, 1) := by decide +kernel
theorem dL_targets_543 : decode cL_targets 543 = .ok (.if_icmp .ne 32, 3) := by decide +kernel
theorem dL_targets_546 : decode cL_targets 546 = .ok (.aload_n 0, 1) := by decide +kernel
theorem dL_targets_547 : decode cL_targets 547 = .ok (.bipush 15, 2) := by decide +kernel
theorem dL_targets_549 : decode cL_targets 549 = .ok (.invokevirtual 37, 3) := by decide +kernel
theorem dL_targets_552 : decode cL_targets 552 = .ok (.aload_n 3, 1) := by decide +kernel
theorem dL_targets_553 : decode cL_targets 553 = .ok (.iconst 5, 1) := by decide +kernel
theorem dL_targets_554 : decode cL_targets 554 = .ok (.iaload, 1) := by decide +kernel
theorem dL_targets_555 : decode cL_targets 555 = .ok (.if_icmp .ne 20, 3) := by decide +kernel
theorem dL_targets_558 : decode cL_targets 558 = .ok (.aload_n 0, 1) := by decide +kernel
theorem dL_targets_559 : decode cL_targets 559 = .ok (.aload_n 3, 1) := by decide +kernel
theorem dL_targets_560 : decode cL_targets 560 = .ok (.bipush 6, 2) := by decide +kernel
theorem dL_targets_562 : decode cL_targets 562 = .ok (.iaload, 1) := by decide +kernel
theorem dL_targets_563 : decode cL_targets 563 = .ok (.iconst 0, 1) := by decide +kernel
theorem dL_targets_564 : decode cL_targets 564 = .ok (.invokevirtual 30, 3) := by decide +kernel
theorem dL_targets_567 : decode cL_targets 567 = .ok (.iconst (-1), 1) := by decide +kernel
theorem dL_targets_568 : decode cL_targets 568 = .ok (.if_icmp .ne 7, 3) := by decide +kernel
theorem dL_targets_571 : decode cL_targets 571 = .ok (.iconst 1, 1) := by decide +kernel
theorem dL_targets_572 : decode cL_targets 572 = .ok (.goto 4, 3) := by decide +kernel
theorem dL_targets_575 : decode cL_targets 575 = .ok (.iconst 0, 1) := by decide +kernel
theorem dL_targets_576 : decode cL_targets 576 = .ok (.ireturn, 1) := by decide +kernel
theorem dL_echoes_0 : decode cL_echoes 0 = .ok (.iconst 0, 1) := by decide +kernel
theorem dL_echoes_1 : decode cL_echoes 1 = .ok (.istore_n 3, 1) := by decide +kernel
theorem dL_echoes_2 : decode cL_echoes 2 = .ok (.iconst 0, 1) := by decide +kernel
theorem dL_echoes_3 : decode cL_echoes 3 = .ok (.istore 4, 2) := by decide +kernel
theorem dL_echoes_5 : decode cL_echoes 5 = .ok (.iconst 0, 1) := by decide +kernel
theorem dL_echoes_6 : decode cL_echoes 6 = .ok (.istore 5, 2) := by decide +kernel
theorem dL_echoes_8 : decode cL_echoes 8 = .ok (.iconst 0, 1) := by decide +kernel
theorem dL_echoes_9 : decode cL_echoes 9 = .ok (.istore 6, 2) := by decide +kernel
theorem dL_echoes_11 : decode cL_echoes 11 = .ok (.iload 6, 2) := by decide +kernel
theorem dL_echoes_13 : decode cL_echoes 13 = .ok (.aload_n 2, 1) := by decide +kernel
theorem dL_echoes_14 : decode cL_echoes 14 = .ok (.bipush 7, 2) := by decide +kernel
theorem dL_echoes_16 : decode cL_echoes 16 = .ok (.iaload, 1) := by decide +kernel
theorem dL_echoes_17 : decode cL_echoes 17 = .ok (.if_icmp .ge 243, 3) := by decide +kernel
theorem dL_echoes_20 : decode cL_echoes 20 = .ok (.iconst 0, 1) := by decide +kernel
theorem dL_echoes_21 : decode cL_echoes 21 = .ok (.istore 7, 2) := by decide +kernel
theorem dL_echoes_23 : decode cL_echoes 23 = .ok (.iconst 0, 1) := by decide +kernel
theorem dL_echoes_24 : decode cL_echoes 24 = .ok (.istore 8, 2) := by decide +kernel
theorem dL_echoes_26 : decode cL_echoes 26 = .ok (.iload 8, 2) := by decide +kernel
theorem dL_echoes_28 : decode cL_echoes 28 = .ok (.aload_n 2, 1) := by decide +kernel
theorem dL_echoes_29 : decode cL_echoes 29 = .ok (.iload 6, 2) := by decide +kernel
theorem dL_echoes_31 : decode cL_echoes 31 = .ok (.iaload, 1) := by decide +kernel
theorem dL_echoes_32 : decode cL_echoes 32 = .ok (.if_icmp .ge 118, 3) := by decide +kernel
theorem dL_echoes_35 : decode cL_echoes 35 = .ok (.bipush (-5), 2) := by decide +kernel
theorem dL_echoes_37 : decode cL_echoes 37 = .ok (.istore 9, 2) := by decide +kernel
theorem dL_echoes_39 : decode cL_echoes 39 = .ok (.iload 9, 2) := by decide +kernel
theorem dL_echoes_41 : decode cL_echoes 41 = .ok (.bipush 6, 2) := by decide +kernel
theorem dL_echoes_43 : decode cL_echoes 43 = .ok (.if_icmp .ge 101, 3) := by decide +kernel
theorem dL_echoes_46 : decode cL_echoes 46 = .ok (.aload_n 1, 1) := by decide +kernel
theorem dL_echoes_47 : decode cL_echoes 47 = .ok (.aload_n 2, 1) := by decide +kernel
theorem dL_echoes_48 : decode cL_echoes 48 = .ok (.iload 6, 2) := by decide +kernel
theorem dL_echoes_50 : decode cL_echoes 50 = .ok (.iload 8, 2) := by decide +kernel
theorem dL_echoes_52 : decode cL_echoes 52 = .ok (.iload 9, 2) := by decide +kernel
theorem dL_echoes_54 : decode cL_echoes 54 = .ok (.iconst 0, 1) := by decide +kernel
theorem dL_echoes_55 : decode cL_echoes 55 = .ok (.invokestatic 16, 3) := by decide +kernel
theorem dL_echoes_58 : decode cL_echoes 58 = .ok (.istore 10, 2) := by decide +kernel
theorem dL_echoes_60 : decode cL_echoes 60 = .ok (.iload 10, 2) := by decide +kernel
theorem dL_echoes_62 : decode cL_echoes 62 = .ok (.ifCond .le 76, 3) := by decide +kernel
theorem dL_echoes_65 : decode cL_echoes 65 = .ok (.aload_n 0, 1) := by decide +kernel
theorem dL_echoes_66 : decode cL_echoes 66 = .ok (.iload 6, 2) := by decide +kernel
theorem dL_echoes_68 : decode cL_echoes 68 = .ok (.iload 7, 2) := by decide +kernel
theorem dL_echoes_70 : decode cL_echoes 70 = .ok (.iconst 0, 1) := by decide +kernel
theorem dL_echoes_71 : decode cL_echoes 71 = .ok (.invokevirtual 41, 3) := by decide +kernel
theorem dL_echoes_74 : decode cL_echoes 74 = .ok (.iload 8, 2) := by decide +kernel
theorem dL_echoes_76 : decode cL_echoes 76 = .ok (.if_icmp .ne 57, 3) := by decide +kernel
theorem dL_echoes_79 : decode cL_echoes 79 = .ok (.aload_n 0, 1) := by decide +kernel
theorem dL_echoes_80 : decode cL_echoes 80 = .ok (.iload 6, 2) := by decide +kernel
theorem dL_echoes_82 : decode cL_echoes 82 = .ok (.iload 7, 2) := by decide +kernel
theorem dL_echoes_84 : decode cL_echoes 84 = .ok (.iconst 1, 1) := by decide +kernel
theorem dL_echoes_85 : decode cL_echoes 85 = .ok (.invokevirtual 41, 3) := by decide +kernel
theorem dL_echoes_88 : decode cL_echoes 88 = .ok (.iload 9, 2) := by decide +kernel
theorem dL_echoes_90 : decode cL_echoes 90 = .ok (.iconst 5, 1) := by decide +kernel
theorem dL_echoes_91 : decode cL_echoes 91 = .ok (.iadd, 1) := by decide +kernel
theorem dL_echoes_92 : decode cL_echoes 92 = .ok (.if_icmp .ne 41, 3) := by decide +kernel
theorem dL_echoes_95 : decode cL_echoes 95 = .ok (.aload_n 0, 1) := by decide +kernel
theorem dL_echoes_96 : decode cL_echoes 96 = .ok (.iload 6, 2) := by decide +kernel
theorem dL_echoes_98 : decode cL_echoes 98 = .ok (.iload 7, 2) := by decide +kernel
theorem dL_echoes_100 : decode cL_echoes 100 = .ok (.iconst 2, 1) := by decide +kernel
theorem dL_echoes_101 : decode cL_echoes 101 = .ok (.invokevirtual 41, 3) := by decide +kernel
theorem dL_echoes_104 : decode cL_echoes 104 = .ok (.iload 10, 2) := by decide +kernel
theorem dL_echoes_106 : decode cL_echoes 106 = .ok (.if_icmp .ne 27, 3) := by decide +kernel
theorem dL_echoes_109 : decode cL_echoes 109 = .ok (.aload_n 0, 1) := by decide +kernel
theorem dL_echoes_110 : decode cL_echoes 110 = .ok (.iload 6, 2) := by decide +kernel
theorem dL_echoes_112 : decode cL_echoes 112 = .ok (.iload 7, 2) := by decide +kernel
theorem dL_echoes_114 : decode cL_echoes 114 = .ok (.iconst 3, 1) := by decide +kernel
theorem dL_echoes_115 : decode cL_echoes 115 = .ok (.invokevirtual 41, 3) := by decide +kernel
theorem dL_echoes_118 : decode cL_echoes 118 = .ok (.aload_n 1, 1) := by decide +kernel
theorem dL_echoes_119 : decode cL_echoes 119 = .ok (.aload_n 2, 1) := by decide +kernel
theorem dL_echoes_120 : decode cL_echoes 120 = .ok (.iload 6, 2) := by decide +kernel
theorem dL_echoes_122 : decode cL_echoes 122 = .ok (.iload 8, 2) := by decide +kernel
theorem dL_echoes_124 : decode cL_echoes 124 = .ok (.iload 9, 2) := by decide +kernel
theorem dL_echoes_126 : decode cL_echoes 126 = .ok (.iconst 1, 1) := by decide +kernel
theorem dL_echoes_127 : decode cL_echoes 127 = .ok (.invokestatic 16, 3) := by decide +kernel
theorem dL_echoes_130 : decode cL_echoes 130 = .ok (.if_icmp .eq 5, 3) := by decide +kernel
theorem dL_echoes_133 : decode cL_echoes 133 = .ok (.iconst 0, 1) := by decide +kernel
theorem dL_echoes_134 : decode cL_echoes 134 = .ok (.ireturn, 1) := by decide +kernel
theorem dL_echoes_135 : decode cL_echoes 135 = .ok (.iinc 7 1, 3) := by decide +kernel
theorem dL_echoes_138 : decode cL_echoes 138 = .ok (.iinc 9 1, 3) := by decide +kernel
theorem dL_echoes_141 : decode cL_echoes 141 = .ok (.goto (-102), 3) := by decide +kernel
theorem dL_echoes_144 : decode cL_echoes 144 = .ok (.iinc 8 1, 3) := by decide +kernel
theorem dL_echoes_147 : decode cL_echoes 147 = .ok (.goto (-121), 3) := by decide +kernel
theorem dL_echoes_150 : decode cL_echoes 150 = .ok (.iload_n 3, 1) := by decide +kernel
theorem dL_echoes_151 : decode cL_echoes 151 = .ok (.iload 7, 2) := by decide +kernel
theorem dL_echoes_153 : decode cL_echoes 153 = .ok (.iadd, 1) := by decide +kernel
theorem dL_echoes_154 : decode cL_echoes 154 = .ok (.istore_n 3, 1) := by decide +kernel
theorem dL_echoes_155 : decode cL_echoes 155 = .ok (.iconst 0, 1) := by decide +kernel
theorem dL_echoes_156 : decode cL_echoes 156 = .ok (.istore 8, 2) := by decide +kernel
theorem dL_echoes_158 : decode cL_echoes 158 = .ok (.iload 8, 2) := by decide +kernel
theorem dL_echoes_160 : decode cL_echoes 160 = .ok (.aload_n 2, 1) := by decide +kernel
theorem dL_echoes_161 : decode cL_echoes 161 = .ok (.bipush 8, 2) := by decide +kernel
theorem dL_echoes_163 : decode cL_echoes 163 = .ok (.iaload, 1) := by decide +kernel
theorem dL_echoes_164 : decode cL_echoes 164 = .ok (.if_icmp .ge 59, 3) := by decide +kernel
theorem dL_echoes_167 : decode cL_echoes 167 = .ok (.iload 4, 2) := by decide +kernel
theorem dL_echoes_169 : decode cL_echoes 169 = .ok (.aload_n 1, 1) := by decide +kernel
theorem dL_echoes_170 : decode cL_echoes 170 = .ok (.iconst 3, 1) := by decide +kernel
theorem dL_echoes_171 : decode cL_echoes 171 = .ok (.iload 8, 2) := by decide +kernel
theorem dL_echoes_173 : decode cL_echoes 173 = .ok (.imul, 1) := by decide +kernel
theorem dL_echoes_174 : decode cL_echoes 174 = .ok (.iconst 1, 1) := by decide +kernel
theorem dL_echoes_175 : decode cL_echoes 175 = .ok (.iadd, 1) := by decide +kernel
theorem dL_echoes_176 : decode cL_echoes 176 = .ok (.iaload, 1) := by decide +kernel
theorem dL_echoes_177 : decode cL_echoes 177 = .ok (.aload_n 2, 1) := by decide +kernel
theorem dL_echoes_178 : decode cL_echoes 178 = .ok (.iconst 5, 1) := by decide +kernel
theorem dL_echoes_179 : decode cL_echoes 179 = .ok (.iaload, 1) := by decide +kernel
theorem dL_echoes_180 : decode cL_echoes 180 = .ok (.if_icmp .lt 33, 3) := by decide +kernel
theorem dL_echoes_183 : decode cL_echoes 183 = .ok (.aload_n 2, 1) := by decide +kernel
theorem dL_echoes_184 : decode cL_echoes 184 = .ok (.aload_n 1, 1) := by decide +kernel
theorem dL_echoes_185 : decode cL_echoes 185 = .ok (.iconst 3, 1) := by decide +kernel
theorem dL_echoes_186 : decode cL_echoes 186 = .ok (.iload 8, 2) := by decide +kernel
theorem dL_echoes_188 : decode cL_echoes 188 = .ok (.imul, 1) := by decide +kernel
theorem dL_echoes_189 : decode cL_echoes 189 = .ok (.iaload, 1) := by decide +kernel
theorem dL_echoes_190 : decode cL_echoes 190 = .ok (.aload_n 1, 1) := by decide +kernel
theorem dL_echoes_191 : decode cL_echoes 191 = .ok (.iconst 3, 1) := by decide +kernel
theorem dL_echoes_192 : decode cL_echoes 192 = .ok (.iload 8, 2) := by decide +kernel
theorem dL_echoes_194 : decode cL_echoes 194 = .ok (.imul, 1) := by decide +kernel
theorem dL_echoes_195 : decode cL_echoes 195 = .ok (.iconst 2, 1) := by decide +kernel
theorem dL_echoes_196 : decode cL_echoes 196 = .ok (.iadd, 1) := by decide +kernel
theorem dL_echoes_197 : decode cL_echoes 197 = .ok (.iaload, 1) := by decide +kernel
theorem dL_echoes_198 : decode cL_echoes 198 = .ok (.iload 6, 2) := by decide +kernel
theorem dL_echoes_200 : decode cL_echoes 200 = .ok (.invokestatic 10, 3) := by decide +kernel
theorem dL_echoes_203 : decode cL_echoes 203 = .ok (.aload_n 2, 1) := by decide +kernel
theorem dL_echoes_204 : decode cL_echoes 204 = .ok (.iconst 4, 1) := by decide +kernel
theorem dL_echoes_205 : decode cL_echoes 205 = .ok (.iaload, 1) := by decide +kernel
theorem dL_echoes_206 : decode cL_echoes 206 = .ok (.if_icmp .ge 7, 3) := by decide +kernel
theorem dL_echoes_209 : decode cL_echoes 209 = .ok (.iconst 1, 1) := by decide +kernel
theorem dL_echoes_210 : decode cL_echoes 210 = .ok (.goto 4, 3) := by decide +kernel
theorem dL_echoes_213 : decode cL_echoes 213 = .ok (.iconst 0, 1) := by decide +kernel
theorem dL_echoes_214 : decode cL_echoes 214 = .ok (.iadd, 1) := by decide +kernel
theorem dL_echoes_215 : decode cL_echoes 215 = .ok (.istore 4, 2) := by decide +kernel
theorem dL_echoes_217 : decode cL_echoes 217 = .ok (.iinc 8 1, 3) := by decide +kernel
theorem dL_echoes_220 : decode cL_echoes 220 = .ok (.goto (-62), 3) := by decide +kernel
theorem dL_echoes_223 : decode cL_echoes 223 = .ok (.aload_n 0, 1) := by decide +kernel
theorem dL_echoes_224 : decode cL_echoes 224 = .ok (.iload 6, 2) := by decide +kernel
theorem dL_echoes_226 : decode cL_echoes 226 = .ok (.iload 7, 2) := by decide +kernel
theorem dL_echoes_228 : decode cL_echoes 228 = .ok (.iconst 0, 1) := by decide +kernel
theorem dL_echoes_229 : decode cL_echoes 229 = .ok (.invokevirtual 41, 3) := by decide +kernel
theorem dL_echoes_232 : decode cL_echoes 232 = .ok (.bipush (-4), 2) := by decide +kernel
theorem dL_echoes_234 : decode cL_echoes 234 = .ok (.if_icmp .ne 18, 3) := by decide +kernel
theorem dL_echoes_237 : decode cL_echoes 237 = .ok (.aload_n 0, 1) := by decide +kernel
theorem dL_echoes_238 : decode cL_echoes 238 = .ok (.iconst 4, 1) := by decide +kernel
theorem dL_echoes_239 : decode cL_echoes 239 = .ok (.iload 6, 2) := by decide +kernel
theorem dL_echoes_241 : decode cL_echoes 241 = .ok (.iadd, 1) := by decide +kernel
theorem dL_echoes_242 : decode cL_echoes 242 = .ok (.invokevirtual 37, 3) := by decide +kernel
theorem dL_echoes_245 : decode cL_echoes 245 = .ok (.aload_n 2, 1) := by decide +kernel
theorem dL_echoes_246 : decode cL_echoes 246 = .ok (.iload 6, 2) := by decide +kernel
theorem dL_echoes_248 : decode cL_echoes 248 = .ok (.iaload, 1) := by decide +kernel
theorem dL_echoes_249 : decode cL_echoes 249 = .ok (.if_icmp .eq 5, 3) := by decide +kernel
theorem dL_echoes_252 : decode cL_echoes 252 = .ok (.iconst 0, 1) := by decide +kernel
theorem dL_echoes_253 : decode cL_echoes 253 = .ok (.ireturn, 1) := by decide +kernel
theorem dL_echoes_254 : decode cL_echoes 254 = .ok (.iinc 6 1, 3) := by decide +kernel
theorem dL_echoes_257 : decode cL_echoes 257 = .ok (.goto (-246), 3) := by decide +kernel
theorem dL_echoes_260 : decode cL_echoes 260 = .ok (.iconst 0, 1) := by decide +kernel
theorem dL_echoes_261 : decode cL_echoes 261 = .ok (.istore 6, 2) := by decide +kernel
theorem dL_echoes_263 : decode cL_echoes 263 = .ok (.iload 6, 2) := by decide +kernel
theorem dL_echoes_265 : decode cL_echoes 265 = .ok (.aload_n 2, 1) := by decide +kernel
theorem dL_echoes_266 : decode cL_echoes 266 = .ok (.bipush 8, 2) := by decide +kernel
theorem dL_echoes_268 : decode cL_echoes 268 = .ok (.iaload, 1) := by decide +kernel
theorem dL_echoes_269 : decode cL_echoes 269 = .ok (.if_icmp .ge 33, 3) := by decide +kernel
theorem dL_echoes_272 : decode cL_echoes 272 = .ok (.iload 5, 2) := by decide +kernel
theorem dL_echoes_274 : decode cL_echoes 274 = .ok (.aload_n 1, 1) := by decide +kernel
theorem dL_echoes_275 : decode cL_echoes 275 = .ok (.iconst 3, 1) := by decide +kernel
theorem dL_echoes_276 : decode cL_echoes 276 = .ok (.iload 6, 2) := by decide +kernel
theorem dL_echoes_278 : decode cL_echoes 278 = .ok (.imul, 1) := by decide +kernel
theorem dL_echoes_279 : decode cL_echoes 279 = .ok (.iconst 1, 1) := by decide +kernel
theorem dL_echoes_280 : decode cL_echoes 280 = .ok (.iadd, 1) := by decide +kernel
theorem dL_echoes_281 : decode cL_echoes 281 = .ok (.iaload, 1) := by decide +kernel
theorem dL_echoes_282 : decode cL_echoes 282 = .ok (.aload_n 2, 1) := by decide +kernel
theorem dL_echoes_283 : decode cL_echoes 283 = .ok (.iconst 5, 1) := by decide +kernel
theorem dL_echoes_284 : decode cL_echoes 284 = .ok (.iaload, 1) := by decide +kernel
theorem dL_echoes_285 : decode cL_echoes 285 = .ok (.if_icmp .ge 7, 3) := by decide +kernel
theorem dL_echoes_288 : decode cL_echoes 288 = .ok (.iconst 1, 1) := by decide +kernel
theorem dL_echoes_289 : decode cL_echoes 289 = .ok (.goto 4, 3) := by decide +kernel
theorem dL_echoes_292 : decode cL_echoes 292 = .ok (.iconst 0, 1) := by decide +kernel
theorem dL_echoes_293 : decode cL_echoes 293 = .ok (.iadd, 1) := by decide +kernel
theorem dL_echoes_294 : decode cL_echoes 294 = .ok (.istore 5, 2) := by decide +kernel
theorem dL_echoes_296 : decode cL_echoes 296 = .ok (.iinc 6 1, 3) := by decide +kernel
theorem dL_echoes_299 : decode cL_echoes 299 = .ok (.goto (-36), 3) := by decide +kernel
theorem dL_echoes_302 : decode cL_echoes 302 = .ok (.aload_n 0, 1) := by decide +kernel
theorem dL_echoes_303 : decode cL_echoes 303 = .ok (.bipush 8, 2) := by decide +kernel
theorem dL_echoes_305 : decode cL_echoes 305 = .ok (.invokevirtual 37, 3) := by decide +kernel
theorem dL_echoes_308 : decode cL_echoes 308 = .ok (.iload_n 3, 1) := by decide +kernel
theorem dL_echoes_309 : decode cL_echoes 309 = .ok (.if_icmp .ne 52, 3) := by decide +kernel
theorem dL_echoes_312 : decode cL_echoes 312 = .ok (.aload_n 0, 1) := by decide +kernel
theorem dL_echoes_313 : decode cL_echoes 313 = .ok (.bipush 9, 2) := by decide +kernel
theorem dL_echoes_315 : decode cL_echoes 315 = .ok (.invokevirtual 37, 3) := by decide +kernel
theorem dL_echoes_318 : decode cL_echoes 318 = .ok (.iload 4, 2) := by decide +kernel
theorem dL_echoes_320 : decode cL_echoes 320 = .ok (.if_icmp .ne 41, 3) := by decide +kernel
theorem dL_echoes_323 : decode cL_echoes 323 = .ok (.aload_n 0, 1) := by decide +kernel
theorem dL_echoes_324 : decode cL_echoes 324 = .ok (.bipush 10, 2) := by decide +kernel
theorem dL_echoes_326 : decode cL_echoes 326 = .ok (.invokevirtual 37, 3) := by decide +kernel
theorem dL_echoes_329 : decode cL_echoes 329 = .ok (.iload 5, 2) := by decide +kernel
theorem dL_echoes_331 : decode cL_echoes 331 = .ok (.if_icmp .ne 30, 3) := by decide +kernel
theorem dL_echoes_334 : decode cL_echoes 334 = .ok (.aload_n 2, 1) := by decide +kernel
theorem dL_echoes_335 : decode cL_echoes 335 = .ok (.bipush 7, 2) := by decide +kernel
theorem dL_echoes_337 : decode cL_echoes 337 = .ok (.iaload, 1) := by decide +kernel
theorem dL_echoes_338 : decode cL_echoes 338 = .ok (.iconst 4, 1) := by decide +kernel
theorem dL_echoes_339 : decode cL_echoes 339 = .ok (.if_icmp .eq 18, 3) := by decide +kernel
theorem dL_echoes_342 : decode cL_echoes 342 = .ok (.aload_n 0, 1) := by decide +kernel
theorem dL_echoes_343 : decode cL_echoes 343 = .ok (.iconst 4, 1) := by decide +kernel
theorem dL_echoes_344 : decode cL_echoes 344 = .ok (.aload_n 2, 1) := by decide +kernel
theorem dL_echoes_345 : decode cL_echoes 345 = .ok (.bipush 7, 2) := by decide +kernel
theorem dL_echoes_347 : decode cL_echoes 347 = .ok (.iaload, 1) := by decide +kernel
theorem dL_echoes_348 : decode cL_echoes 348 = .ok (.iadd, 1) := by decide +kernel
theorem dL_echoes_349 : decode cL_echoes 349 = .ok (.invokevirtual 37, 3) := by decide +kernel
theorem dL_echoes_352 : decode cL_echoes 352 = .ok (.bipush (-4), 2) := by decide +kernel
theorem dL_echoes_354 : decode cL_echoes 354 = .ok (.if_icmp .ne 7, 3) := by decide +kernel
theorem dL_echoes_357 : decode cL_echoes 357 = .ok (.iconst 1, 1) := by decide +kernel
theorem dL_echoes_358 : decode cL_echoes 358 = .ok (.goto 4, 3) := by decide +kernel
theorem dL_echoes_361 : decode cL_echoes 361 = .ok (.iconst 0, 1) := by decide +kernel
theorem dL_echoes_362 : decode cL_echoes 362 = .ok (.ireturn, 1) := by decide +kernel
theorem dL_distances_0 : decode cL_distances 0 = .ok (.iconst 0, 1) := by decide +kernel
theorem dL_distances_1 : decode cL_distances 1 = .ok (.istore_n 3, 1) := by decide +kernel
theorem dL_distances_2 : decode cL_distances 2 = .ok (.iconst 0, 1) := by decide +kernel
theorem dL_distances_3 : decode cL_distances 3 = .ok (.istore 4, 2) := by decide +kernel
theorem dL_distances_5 : decode cL_distances 5 = .ok (.iconst 0, 1) := by decide +kernel
theorem dL_distances_6 : decode cL_distances 6 = .ok (.istore 5, 2) := by decide +kernel
theorem dL_distances_8 : decode cL_distances 8 = .ok (.iconst 1, 1) := by decide +kernel
theorem dL_distances_9 : decode cL_distances 9 = .ok (.istore 6, 2) := by decide +kernel
theorem dL_distances_11 : decode cL_distances 11 = .ok (.iload 6, 2) := by decide +kernel
theorem dL_distances_13 : decode cL_distances 13 = .ok (.sipush 601, 3) := by decide +kernel
theorem dL_distances_16 : decode cL_distances 16 = .ok (.if_icmp .ge 133, 3) := by decide +kernel
theorem dL_distances_19 : decode cL_distances 19 = .ok (.bipush (-5), 2) := by decide +kernel
theorem dL_distances_21 : decode cL_distances 21 = .ok (.istore 7, 2) := by decide +kernel
theorem dL_distances_23 : decode cL_distances 23 = .ok (.iload 7, 2) := by decide +kernel
theorem dL_distances_25 : decode cL_distances 25 = .ok (.bipush 6, 2) := by decide +kernel
theorem dL_distances_27 : decode cL_distances 27 = .ok (.if_icmp .ge 116, 3) := by decide +kernel
theorem dL_distances_30 : decode cL_distances 30 = .ok (.aload_n 1, 1) := by decide +kernel
theorem dL_distances_31 : decode cL_distances 31 = .ok (.aload_n 2, 1) := by decide +kernel
theorem dL_distances_32 : decode cL_distances 32 = .ok (.iload 6, 2) := by decide +kernel
theorem dL_distances_34 : decode cL_distances 34 = .ok (.iload 7, 2) := by decide +kernel
theorem dL_distances_36 : decode cL_distances 36 = .ok (.invokestatic 33, 3) := by decide +kernel
theorem dL_distances_39 : decode cL_distances 39 = .ok (.istore 8, 2) := by decide +kernel
theorem dL_distances_41 : decode cL_distances 41 = .ok (.iload 8, 2) := by decide +kernel
theorem dL_distances_43 : decode cL_distances 43 = .ok (.ifCond .le 94, 3) := by decide +kernel
theorem dL_distances_46 : decode cL_distances 46 = .ok (.aload_n 1, 1) := by decide +kernel
theorem dL_distances_47 : decode cL_distances 47 = .ok (.aload_n 2, 1) := by decide +kernel
theorem dL_distances_48 : decode cL_distances 48 = .ok (.iload 6, 2) := by decide +kernel
theorem dL_distances_50 : decode cL_distances 50 = .ok (.iload 7, 2) := by decide +kernel
theorem dL_distances_52 : decode cL_distances 52 = .ok (.invokestatic 45, 3) := by decide +kernel
theorem dL_distances_55 : decode cL_distances 55 = .ok (.istore 9, 2) := by decide +kernel
theorem dL_distances_57 : decode cL_distances 57 = .ok (.iload_n 3, 1) := by decide +kernel
theorem dL_distances_58 : decode cL_distances 58 = .ok (.bipush 40, 2) := by decide +kernel
theorem dL_distances_60 : decode cL_distances 60 = .ok (.if_icmp .ge 59, 3) := by decide +kernel
theorem dL_distances_63 : decode cL_distances 63 = .ok (.aload_n 0, 1) := by decide +kernel
theorem dL_distances_64 : decode cL_distances 64 = .ok (.iload_n 3, 1) := by decide +kernel
theorem dL_distances_65 : decode cL_distances 65 = .ok (.iconst 0, 1) := by decide +kernel
theorem dL_distances_66 : decode cL_distances 66 = .ok (.invokevirtual 49, 3) := by decide +kernel
theorem dL_distances_69 : decode cL_distances 69 = .ok (.iload 6, 2) := by decide +kernel
theorem dL_distances_71 : decode cL_distances 71 = .ok (.if_icmp .ne 46, 3) := by decide +kernel
theorem dL_distances_74 : decode cL_distances 74 = .ok (.aload_n 0, 1) := by decide +kernel
theorem dL_distances_75 : decode cL_distances 75 = .ok (.iload_n 3, 1) := by decide +kernel
theorem dL_distances_76 : decode cL_distances 76 = .ok (.iconst 1, 1) := by decide +kernel
theorem dL_distances_77 : decode cL_distances 77 = .ok (.invokevirtual 49, 3) := by decide +kernel
theorem dL_distances_80 : decode cL_distances 80 = .ok (.iload 7, 2) := by decide +kernel
theorem dL_distances_82 : decode cL_distances 82 = .ok (.iconst 5, 1) := by decide +kernel
theorem dL_distances_83 : decode cL_distances 83 = .ok (.iadd, 1) := by decide +kernel
theorem dL_distances_84 : decode cL_distances 84 = .ok (.if_icmp .ne 33, 3) := by decide +kernel
theorem dL_distances_87 : decode cL_distances 87 = .ok (.aload_n 0, 1) := by decide +kernel
theorem dL_distances_88 : decode cL_distances 88 = .ok (.iload_n 3, 1) := by decide +kernel
theorem dL_distances_89 : decode cL_distances 89 = .ok (.iconst 2, 1) := by decide +kernel
theorem dL_distances_90 : decode cL_distances 90 = .ok (.invokevirtual 49, 3) := by decide +kernel
theorem dL_distances_93 : decode cL_distances 93 = .ok (.iload 9, 2) := by decide +kernel
theorem dL_distances_95 : decode cL_distances 95 = .ok (.ifCond .eq 7, 3) := by decide +kernel
theorem dL_distances_98 : decode cL_distances 98 = .ok (.iconst 1, 1) := by decide +kernel
theorem dL_distances_99 : decode cL_distances 99 = .ok (.goto 4, 3) := by decide +kernel
theorem dL_distances_102 : decode cL_distances 102 = .ok (.iconst 0, 1) := by decide +kernel
theorem dL_distances_103 : decode cL_distances 103 = .ok (.if_icmp .ne 14, 3) := by decide +kernel
theorem dL_distances_106 : decode cL_distances 106 = .ok (.aload_n 0, 1) := by decide +kernel
theorem dL_distances_107 : decode cL_distances 107 = .ok (.iload_n 3, 1) := by decide +kernel
theorem dL_distances_108 : decode cL_distances 108 = .ok (.iconst 3, 1) := by decide +kernel
theorem dL_distances_109 : decode cL_distances 109 = .ok (.invokevirtual 49, 3) := by decide +kernel
theorem dL_distances_112 : decode cL_distances 112 = .ok (.iload 8, 2) := by decide +kernel
theorem dL_distances_114 : decode cL_distances 114 = .ok (.if_icmp .eq 5, 3) := by decide +kernel
theorem dL_distances_117 : decode cL_distances 117 = .ok (.iconst 0, 1) := by decide +kernel
theorem dL_distances_118 : decode cL_distances 118 = .ok (.ireturn, 1) := by decide +kernel
theorem dL_distances_119 : decode cL_distances 119 = .ok (.iload 4, 2) := by decide +kernel
theorem dL_distances_121 : decode cL_distances 121 = .ok (.iload 9, 2) := by decide +kernel
theorem dL_distances_123 : decode cL_distances 123 = .ok (.ifCond .eq 7, 3) := by decide +kernel
theorem dL_distances_126 : decode cL_distances 126 = .ok (.iconst 0, 1) := by decide +kernel
theorem dL_distances_127 : decode cL_distances 127 = .ok (.goto 4, 3) := by decide +kernel
theorem dL_distances_130 : decode cL_distances 130 = .ok (.iconst 1, 1) := by decide +kernel
theorem dL_distances_131 : decode cL_distances 131 = .ok (.iadd, 1) := by decide +kernel
theorem dL_distances_132 : decode cL_distances 132 = .ok (.istore 4, 2) := by decide +kernel
theorem dL_distances_134 : decode cL_distances 134 = .ok (.iinc 3 1, 3) := by decide +kernel
theorem dL_distances_137 : decode cL_distances 137 = .ok (.iinc 7 1, 3) := by decide +kernel
theorem dL_distances_140 : decode cL_distances 140 = .ok (.goto (-117), 3) := by decide +kernel
theorem dL_distances_143 : decode cL_distances 143 = .ok (.iinc 6 1, 3) := by decide +kernel
theorem dL_distances_146 : decode cL_distances 146 = .ok (.goto (-135), 3) := by decide +kernel
theorem dL_distances_149 : decode cL_distances 149 = .ok (.iconst 0, 1) := by decide +kernel
theorem dL_distances_150 : decode cL_distances 150 = .ok (.istore 6, 2) := by decide +kernel
theorem dL_distances_152 : decode cL_distances 152 = .ok (.iload 6, 2) := by decide +kernel
theorem dL_distances_154 : decode cL_distances 154 = .ok (.aload_n 2, 1) := by decide +kernel
theorem dL_distances_155 : decode cL_distances 155 = .ok (.bipush 8, 2) := by decide +kernel
theorem dL_distances_157 : decode cL_distances 157 = .ok (.iaload, 1) := by decide +kernel
theorem dL_distances_158 : decode cL_distances 158 = .ok (.if_icmp .ge 41, 3) := by decide +kernel
theorem dL_distances_161 : decode cL_distances 161 = .ok (.iload 5, 2) := by decide +kernel
theorem dL_distances_163 : decode cL_distances 163 = .ok (.aload_n 1, 1) := by decide +kernel
theorem dL_distances_164 : decode cL_distances 164 = .ok (.aload_n 2, 1) := by decide +kernel
theorem dL_distances_165 : decode cL_distances 165 = .ok (.aload_n 1, 1) := by decide +kernel
theorem dL_distances_166 : decode cL_distances 166 = .ok (.iconst 3, 1) := by decide +kernel
theorem dL_distances_167 : decode cL_distances 167 = .ok (.iload 6, 2) := by decide +kernel
theorem dL_distances_169 : decode cL_distances 169 = .ok (.imul, 1) := by decide +kernel
theorem dL_distances_170 : decode cL_distances 170 = .ok (.iaload, 1) := by decide +kernel
theorem dL_distances_171 : decode cL_distances 171 = .ok (.aload_n 1, 1) := by decide +kernel
theorem dL_distances_172 : decode cL_distances 172 = .ok (.iconst 3, 1) := by decide +kernel
theorem dL_distances_173 : decode cL_distances 173 = .ok (.iload 6, 2) := by decide +kernel
theorem dL_distances_175 : decode cL_distances 175 = .ok (.imul, 1) := by decide +kernel
theorem dL_distances_176 : decode cL_distances 176 = .ok (.iconst 2, 1) := by decide +kernel
theorem dL_distances_177 : decode cL_distances 177 = .ok (.iadd, 1) := by decide +kernel
theorem dL_distances_178 : decode cL_distances 178 = .ok (.iaload, 1) := by decide +kernel
theorem dL_distances_179 : decode cL_distances 179 = .ok (.invokestatic 33, 3) := by decide +kernel
theorem dL_distances_182 : decode cL_distances 182 = .ok (.ifCond .le 7, 3) := by decide +kernel
theorem dL_distances_185 : decode cL_distances 185 = .ok (.iconst 0, 1) := by decide +kernel
theorem dL_distances_186 : decode cL_distances 186 = .ok (.goto 4, 3) := by decide +kernel
theorem dL_distances_189 : decode cL_distances 189 = .ok (.iconst 1, 1) := by decide +kernel
theorem dL_distances_190 : decode cL_distances 190 = .ok (.iadd, 1) := by decide +kernel
theorem dL_distances_191 : decode cL_distances 191 = .ok (.istore 5, 2) := by decide +kernel
theorem dL_distances_193 : decode cL_distances 193 = .ok (.iinc 6 1, 3) := by decide +kernel
theorem dL_distances_196 : decode cL_distances 196 = .ok (.goto (-44), 3) := by decide +kernel
theorem dL_distances_199 : decode cL_distances 199 = .ok (.iload_n 3, 1) := by decide +kernel
theorem dL_distances_200 : decode cL_distances 200 = .ok (.ifCond .ne 7, 3) := by decide +kernel
theorem dL_distances_203 : decode cL_distances 203 = .ok (.dconst 1, 1) := by decide +kernel
theorem dL_distances_204 : decode cL_distances 204 = .ok (.goto 11, 3) := by decide +kernel
theorem dL_distances_207 : decode cL_distances 207 = .ok (.iload_n 3, 1) := by decide +kernel
theorem dL_distances_208 : decode cL_distances 208 = .ok (.iload 4, 2) := by decide +kernel
theorem dL_distances_210 : decode cL_distances 210 = .ok (.isub, 1) := by decide +kernel
theorem dL_distances_211 : decode cL_distances 211 = .ok (.i2d, 1) := by decide +kernel
theorem dL_distances_212 : decode cL_distances 212 = .ok (.iload_n 3, 1) := by decide +kernel
theorem dL_distances_213 : decode cL_distances 213 = .ok (.i2d, 1) := by decide +kernel
theorem dL_distances_214 : decode cL_distances 214 = .ok (.ddiv, 1) := by decide +kernel
theorem dL_distances_215 : decode cL_distances 215 = .ok (.dstore 6, 2) := by decide +kernel
theorem dL_distances_217 : decode cL_distances 217 = .ok (.aload_n 0, 1) := by decide +kernel
theorem dL_distances_218 : decode cL_distances 218 = .ok (.bipush 11, 2) := by decide +kernel
theorem dL_distances_220 : decode cL_distances 220 = .ok (.invokevirtual 37, 3) := by decide +kernel
theorem dL_distances_223 : decode cL_distances 223 = .ok (.iload_n 3, 1) := by decide +kernel
theorem dL_distances_224 : decode cL_distances 224 = .ok (.if_icmp .ne 50, 3) := by decide +kernel
theorem dL_distances_227 : decode cL_distances 227 = .ok (.aload_n 0, 1) := by decide +kernel
theorem dL_distances_228 : decode cL_distances 228 = .ok (.bipush 12, 2) := by decide +kernel
theorem dL_distances_230 : decode cL_distances 230 = .ok (.invokevirtual 37, 3) := by decide +kernel
theorem dL_distances_233 : decode cL_distances 233 = .ok (.iload 4, 2) := by decide +kernel
theorem dL_distances_235 : decode cL_distances 235 = .ok (.if_icmp .ne 39, 3) := by decide +kernel
theorem dL_distances_238 : decode cL_distances 238 = .ok (.aload_n 0, 1) := by decide +kernel
theorem dL_distances_239 : decode cL_distances 239 = .ok (.bipush 13, 2) := by decide +kernel
theorem dL_distances_241 : decode cL_distances 241 = .ok (.invokevirtual 37, 3) := by decide +kernel
theorem dL_distances_244 : decode cL_distances 244 = .ok (.iload 5, 2) := by decide +kernel
theorem dL_distances_246 : decode cL_distances 246 = .ok (.if_icmp .ne 28, 3) := by decide +kernel
theorem dL_distances_249 : decode cL_distances 249 = .ok (.aload_n 0, 1) := by decide +kernel
theorem dL_distances_250 : decode cL_distances 250 = .ok (.invokevirtual 51, 3) := by decide +kernel
theorem dL_distances_253 : decode cL_distances 253 = .ok (.dload 6, 2) := by decide +kernel
theorem dL_distances_255 : decode cL_distances 255 = .ok (.dcmp .l, 1) := by decide +kernel
theorem dL_distances_256 : decode cL_distances 256 = .ok (.ifCond .ne 18, 3) := by decide +kernel
theorem dL_distances_259 : decode cL_distances 259 = .ok (.aload_n 0, 1) := by decide +kernel
theorem dL_distances_260 : decode cL_distances 260 = .ok (.iload_n 3, 1) := by decide +kernel
theorem dL_distances_261 : decode cL_distances 261 = .ok (.iconst 0, 1) := by decide +kernel
theorem dL_distances_262 : decode cL_distances 262 = .ok (.invokevirtual 49, 3) := by decide +kernel
theorem dL_distances_265 : decode cL_distances 265 = .ok (.bipush (-4), 2) := by decide +kernel
theorem dL_distances_267 : decode cL_distances 267 = .ok (.if_icmp .ne 7, 3) := by decide +kernel
theorem dL_distances_270 : decode cL_distances 270 = .ok (.iconst 1, 1) := by decide +kernel
theorem dL_distances_271 : decode cL_distances 271 = .ok (.goto 4, 3) := by decide +kernel
theorem dL_distances_274 : decode cL_distances 274 = .ok (.iconst 0, 1) := by decide +kernel
theorem dL_distances_275 : decode cL_distances 275 = .ok (.ireturn, 1) := by decide +kernel
theorem dL_numbers_0 : decode cL_numbers 0 = .ok (.iconst 1, 1) := by decide +kernel
theorem dL_numbers_1 : decode cL_numbers 1 = .ok (.istore_n 3, 1) := by decide +kernel
theorem dL_numbers_2 : decode cL_numbers 2 = .ok (.iconst 0, 1) := by decide +kernel
theorem dL_numbers_3 : decode cL_numbers 3 = .ok (.istore 4, 2) := by decide +kernel
theorem dL_numbers_5 : decode cL_numbers 5 = .ok (.iload 4, 2) := by decide +kernel
theorem dL_numbers_7 : decode cL_numbers 7 = .ok (.aload_n 1, 1) := by decide +kernel
theorem dL_numbers_8 : decode cL_numbers 8 = .ok (.bipush 7, 2) := by decide +kernel
theorem dL_numbers_10 : decode cL_numbers 10 = .ok (.iaload, 1) := by decide +kernel
theorem dL_numbers_11 : decode cL_numbers 11 = .ok (.if_icmp .ge 29, 3) := by decide +kernel
theorem dL_numbers_14 : decode cL_numbers 14 = .ok (.iload_n 3, 1) := by decide +kernel
theorem dL_numbers_15 : decode cL_numbers 15 = .ok (.istore 5, 2) := by decide +kernel
theorem dL_numbers_17 : decode cL_numbers 17 = .ok (.iload_n 3, 1) := by decide +kernel
theorem dL_numbers_18 : decode cL_numbers 18 = .ok (.aload_n 1, 1) := by decide +kernel
theorem dL_numbers_19 : decode cL_numbers 19 = .ok (.iload 4, 2) := by decide +kernel
theorem dL_numbers_21 : decode cL_numbers 21 = .ok (.iaload, 1) := by decide +kernel
theorem dL_numbers_22 : decode cL_numbers 22 = .ok (.irem, 1) := by decide +kernel
theorem dL_numbers_23 : decode cL_numbers 23 = .ok (.ifCond .eq 11, 3) := by decide +kernel
theorem dL_numbers_26 : decode cL_numbers 26 = .ok (.iload_n 3, 1) := by decide +kernel
theorem dL_numbers_27 : decode cL_numbers 27 = .ok (.iload 5, 2) := by decide +kernel
theorem dL_numbers_29 : decode cL_numbers 29 = .ok (.iadd, 1) := by decide +kernel
theorem dL_numbers_30 : decode cL_numbers 30 = .ok (.istore_n 3, 1) := by decide +kernel
theorem dL_numbers_31 : decode cL_numbers 31 = .ok (.goto (-14), 3) := by decide +kernel
theorem dL_numbers_34 : decode cL_numbers 34 = .ok (.iinc 4 1, 3) := by decide +kernel
theorem dL_numbers_37 : decode cL_numbers 37 = .ok (.goto (-32), 3) := by decide +kernel
theorem dL_numbers_40 : decode cL_numbers 40 = .ok (.iload_n 2, 1) := by decide +kernel
theorem dL_numbers_41 : decode cL_numbers 41 = .ok (.aload_n 1, 1) := by decide +kernel
theorem dL_numbers_42 : decode cL_numbers 42 = .ok (.iconst 0, 1) := by decide +kernel
theorem dL_numbers_43 : decode cL_numbers 43 = .ok (.iaload, 1) := by decide +kernel
theorem dL_numbers_44 : decode cL_numbers 44 = .ok (.invokestatic 55, 3) := by decide +kernel
theorem dL_numbers_47 : decode cL_numbers 47 = .ok (.istore 4, 2) := by decide +kernel
theorem dL_numbers_49 : decode cL_numbers 49 = .ok (.aload_n 1, 1) := by decide +kernel
theorem dL_numbers_50 : decode cL_numbers 50 = .ok (.bipush 7, 2) := by decide +kernel
theorem dL_numbers_52 : decode cL_numbers 52 = .ok (.iaload, 1) := by decide +kernel
theorem dL_numbers_53 : decode cL_numbers 53 = .ok (.iconst 1, 1) := by decide +kernel
theorem dL_numbers_54 : decode cL_numbers 54 = .ok (.if_icmp .le 16, 3) := by decide +kernel
theorem dL_numbers_57 : decode cL_numbers 57 = .ok (.iload_n 2, 1) := by decide +kernel
theorem dL_numbers_58 : decode cL_numbers 58 = .ok (.bipush 6, 2) := by decide +kernel
theorem dL_numbers_60 : decode cL_numbers 60 = .ok (.ishr, 1) := by decide +kernel
theorem dL_numbers_61 : decode cL_numbers 61 = .ok (.aload_n 1, 1) := by decide +kernel
theorem dL_numbers_62 : decode cL_numbers 62 = .ok (.iconst 1, 1) := by decide +kernel
theorem dL_numbers_63 : decode cL_numbers 63 = .ok (.iaload, 1) := by decide +kernel
theorem dL_numbers_64 : decode cL_numbers 64 = .ok (.invokestatic 55, 3) := by decide +kernel
theorem dL_numbers_67 : decode cL_numbers 67 = .ok (.goto 4, 3) := by decide +kernel
theorem dL_numbers_70 : decode cL_numbers 70 = .ok (.iconst 0, 1) := by decide +kernel
theorem dL_numbers_71 : decode cL_numbers 71 = .ok (.istore 5, 2) := by decide +kernel
theorem dL_numbers_73 : decode cL_numbers 73 = .ok (.bipush (-4), 2) := by decide +kernel
theorem dL_numbers_75 : decode cL_numbers 75 = .ok (.istore 6, 2) := by decide +kernel
theorem dL_numbers_77 : decode cL_numbers 77 = .ok (.sipush 2500, 3) := by decide +kernel
theorem dL_numbers_80 : decode cL_numbers 80 = .ok (.istore 7, 2) := by decide +kernel
theorem dL_numbers_82 : decode cL_numbers 82 = .ok (.iload 7, 2) := by decide +kernel
theorem dL_numbers_84 : decode cL_numbers 84 = .ok (.ifCond .lt 48, 3) := by decide +kernel
theorem dL_numbers_87 : decode cL_numbers 87 = .ok (.iload 7, 2) := by decide +kernel
theorem dL_numbers_89 : decode cL_numbers 89 = .ok (.aload_n 1, 1) := by decide +kernel
theorem dL_numbers_90 : decode cL_numbers 90 = .ok (.iconst 0, 1) := by decide +kernel
theorem dL_numbers_91 : decode cL_numbers 91 = .ok (.iaload, 1) := by decide +kernel
theorem dL_numbers_92 : decode cL_numbers 92 = .ok (.irem, 1) := by decide +kernel
theorem dL_numbers_93 : decode cL_numbers 93 = .ok (.iload 4, 2) := by decide +kernel
theorem dL_numbers_95 : decode cL_numbers 95 = .ok (.if_icmp .ne 27, 3) := by decide +kernel
theorem dL_numbers_98 : decode cL_numbers 98 = .ok (.aload_n 1, 1) := by decide +kernel
theorem dL_numbers_99 : decode cL_numbers 99 = .ok (.bipush 7, 2) := by decide +kernel
theorem dL_numbers_101 : decode cL_numbers 101 = .ok (.iaload, 1) := by decide +kernel
theorem dL_numbers_102 : decode cL_numbers 102 = .ok (.iconst 2, 1) := by decide +kernel
theorem dL_numbers_103 : decode cL_numbers 103 = .ok (.if_icmp .lt 14, 3) := by decide +kernel
theorem dL_numbers_106 : decode cL_numbers 106 = .ok (.iload 7, 2) := by decide +kernel
theorem dL_numbers_108 : decode cL_numbers 108 = .ok (.aload_n 1, 1) := by decide +kernel
theorem dL_numbers_109 : decode cL_numbers 109 = .ok (.iconst 1, 1) := by decide +kernel
theorem dL_numbers_110 : decode cL_numbers 110 = .ok (.iaload, 1) := by decide +kernel
theorem dL_numbers_111 : decode cL_numbers 111 = .ok (.irem, 1) := by decide +kernel
theorem dL_numbers_112 : decode cL_numbers 112 = .ok (.iload 5, 2) := by decide +kernel
theorem dL_numbers_114 : decode cL_numbers 114 = .ok (.if_icmp .ne 8, 3) := by decide +kernel
theorem dL_numbers_117 : decode cL_numbers 117 = .ok (.iload 7, 2) := by decide +kernel
theorem dL_numbers_119 : decode cL_numbers 119 = .ok (.goto 5, 3) := by decide +kernel
theorem dL_numbers_122 : decode cL_numbers 122 = .ok (.iload 6, 2) := by decide +kernel
theorem dL_numbers_124 : decode cL_numbers 124 = .ok (.istore 6, 2) := by decide +kernel
theorem dL_numbers_126 : decode cL_numbers 126 = .ok (.iinc 7 (-1), 3) := by decide +kernel
theorem dL_numbers_129 : decode cL_numbers 129 = .ok (.goto (-47), 3) := by decide +kernel
theorem dL_numbers_132 : decode cL_numbers 132 = .ok (.aload_n 0, 1) := by decide +kernel
theorem dL_numbers_133 : decode cL_numbers 133 = .ok (.iconst 0, 1) := by decide +kernel
theorem dL_numbers_134 : decode cL_numbers 134 = .ok (.invokevirtual 58, 3) := by decide +kernel
theorem dL_numbers_137 : decode cL_numbers 137 = .ok (.iload_n 3, 1) := by decide +kernel
theorem dL_numbers_138 : decode cL_numbers 138 = .ok (.if_icmp .ne 57, 3) := by decide +kernel
theorem dL_numbers_141 : decode cL_numbers 141 = .ok (.aload_n 0, 1) := by decide +kernel
theorem dL_numbers_142 : decode cL_numbers 142 = .ok (.iconst 1, 1) := by decide +kernel
theorem dL_numbers_143 : decode cL_numbers 143 = .ok (.invokevirtual 58, 3) := by decide +kernel
theorem dL_numbers_146 : decode cL_numbers 146 = .ok (.iload_n 3, 1) := by decide +kernel
theorem dL_numbers_147 : decode cL_numbers 147 = .ok (.if_icmp .ne 48, 3) := by decide +kernel
theorem dL_numbers_150 : decode cL_numbers 150 = .ok (.aload_n 0, 1) := by decide +kernel
theorem dL_numbers_151 : decode cL_numbers 151 = .ok (.iload 4, 2) := by decide +kernel
theorem dL_numbers_153 : decode cL_numbers 153 = .ok (.iload 5, 2) := by decide +kernel
theorem dL_numbers_155 : decode cL_numbers 155 = .ok (.iconst 0, 1) := by decide +kernel
theorem dL_numbers_156 : decode cL_numbers 156 = .ok (.invokevirtual 61, 3) := by decide +kernel
theorem dL_numbers_159 : decode cL_numbers 159 = .ok (.iload 6, 2) := by decide +kernel
theorem dL_numbers_161 : decode cL_numbers 161 = .ok (.if_icmp .ne 34, 3) := by decide +kernel
theorem dL_numbers_164 : decode cL_numbers 164 = .ok (.aload_n 0, 1) := by decide +kernel
theorem dL_numbers_165 : decode cL_numbers 165 = .ok (.iload 4, 2) := by decide +kernel
theorem dL_numbers_167 : decode cL_numbers 167 = .ok (.iload 5, 2) := by decide +kernel
theorem dL_numbers_169 : decode cL_numbers 169 = .ok (.iconst 1, 1) := by decide +kernel
theorem dL_numbers_170 : decode cL_numbers 170 = .ok (.invokevirtual 61, 3) := by decide +kernel
theorem dL_numbers_173 : decode cL_numbers 173 = .ok (.iload 6, 2) := by decide +kernel
theorem dL_numbers_175 : decode cL_numbers 175 = .ok (.if_icmp .ne 20, 3) := by decide +kernel
theorem dL_numbers_178 : decode cL_numbers 178 = .ok (.aload_n 0, 1) := by decide +kernel
theorem dL_numbers_179 : decode cL_numbers 179 = .ok (.aload_n 1, 1) := by decide +kernel
theorem dL_numbers_180 : decode cL_numbers 180 = .ok (.iconst 0, 1) := by decide +kernel
theorem dL_numbers_181 : decode cL_numbers 181 = .ok (.iaload, 1) := by decide +kernel
theorem dL_numbers_182 : decode cL_numbers 182 = .ok (.iconst 0, 1) := by decide +kernel
theorem dL_numbers_183 : decode cL_numbers 183 = .ok (.iconst 0, 1) := by decide +kernel
theorem dL_numbers_184 : decode cL_numbers 184 = .ok (.invokevirtual 61, 3) := by decide +kernel
theorem dL_numbers_187 : decode cL_numbers 187 = .ok (.iconst (-1), 1) := by decide +kernel
theorem dL_numbers_188 : decode cL_numbers 188 = .ok (.if_icmp .ne 7, 3) := by decide +kernel
theorem dL_numbers_191 : decode cL_numbers 191 = .ok (.iconst 1, 1) := by decide +kernel
theorem dL_numbers_192 : decode cL_numbers 192 = .ok (.goto 4, 3) := by decide +kernel
theorem dL_numbers_195 : decode cL_numbers 195 = .ok (.iconst 0, 1) := by decide +kernel
theorem dL_numbers_196 : decode cL_numbers 196 = .ok (.ireturn, 1) := by decide +kernel
theorem dL_cell_0 : decode cL_cell 0 = .ok (.iload_n 1, 1) := by decide +kernel
theorem dL_cell_1 : decode cL_cell 1 = .ok (.aload_n 0, 1) := by decide +kernel
theorem dL_cell_2 : decode cL_cell 2 = .ok (.arraylength, 1) := by decide +kernel
theorem dL_cell_3 : decode cL_cell 3 = .ok (.if_icmp .ge 9, 3) := by decide +kernel
theorem dL_cell_6 : decode cL_cell 6 = .ok (.aload_n 0, 1) := by decide +kernel
theorem dL_cell_7 : decode cL_cell 7 = .ok (.iload_n 1, 1) := by decide +kernel
theorem dL_cell_8 : decode cL_cell 8 = .ok (.iaload, 1) := by decide +kernel
theorem dL_cell_9 : decode cL_cell 9 = .ok (.goto 10, 3) := by decide +kernel
theorem dL_cell_12 : decode cL_cell 12 = .ok (.ldc 7, 2) := by decide +kernel
theorem dL_cell_14 : decode cL_cell 14 = .ok (.iload_n 1, 1) := by decide +kernel
theorem dL_cell_15 : decode cL_cell 15 = .ok (.imul, 1) := by decide +kernel
theorem dL_cell_16 : decode cL_cell 16 = .ok (.ldc 8, 2) := by decide +kernel
theorem dL_cell_18 : decode cL_cell 18 = .ok (.iadd, 1) := by decide +kernel
theorem dL_cell_19 : decode cL_cell 19 = .ok (.ireturn, 1) := by decide +kernel

theorem dX0_init_0 : decode cX0_init 0 = .ok (.aload_n 0, 1) := by decide +kernel
theorem dX0_init_1 : decode cX0_init 1 = .ok (.invokespecial 1, 3) := by decide +kernel
theorem dX0_init_4 : decode cX0_init 4 = .ok (.aload_n 0, 1) := by decide +kernel
theorem dX0_init_5 : decode cX0_init 5 = .ok (.iconst 0, 1) := by decide +kernel
theorem dX0_init_6 : decode cX0_init 6 = .ok (.putfield 9, 3) := by decide +kernel
theorem dX0_init_9 : decode cX0_init 9 = .ok (.aload_n 0, 1) := by decide +kernel
theorem dX0_init_10 : decode cX0_init 10 = .ok (.lconst 1, 1) := by decide +kernel
theorem dX0_init_11 : decode cX0_init 11 = .ok (.putfield 13, 3) := by decide +kernel
theorem dX0_init_14 : decode cX0_init 14 = .ok (.return_, 1) := by decide +kernel
theorem dX0_study_0 : decode cX0_study 0 = .ok (.aload_n 1, 1) := by decide +kernel
theorem dX0_study_1 : decode cX0_study 1 = .ok (.iload_n 2, 1) := by decide +kernel
theorem dX0_study_2 : decode cX0_study 2 = .ok (.invokevirtual 17, 3) := by decide +kernel
theorem dX0_study_5 : decode cX0_study 5 = .ok (.aload_n 3, 1) := by decide +kernel
theorem dX0_study_6 : decode cX0_study 6 = .ok (.iload 4, 2) := by decide +kernel
theorem dX0_study_8 : decode cX0_study 8 = .ok (.invokevirtual 23, 3) := by decide +kernel
theorem dX0_study_11 : decode cX0_study 11 = .ok (.lmul, 1) := by decide +kernel
theorem dX0_study_12 : decode cX0_study 12 = .ok (.aload_n 1, 1) := by decide +kernel
theorem dX0_study_13 : decode cX0_study 13 = .ok (.iload_n 2, 1) := by decide +kernel
theorem dX0_study_14 : decode cX0_study 14 = .ok (.invokevirtual 23, 3) := by decide +kernel
theorem dX0_study_17 : decode cX0_study 17 = .ok (.aload_n 3, 1) := by decide +kernel
theorem dX0_study_18 : decode cX0_study 18 = .ok (.iload 4, 2) := by decide +kernel
theorem dX0_study_20 : decode cX0_study 20 = .ok (.invokevirtual 17, 3) := by decide +kernel
theorem dX0_study_23 : decode cX0_study 23 = .ok (.lmul, 1) := by decide +kernel
theorem dX0_study_24 : decode cX0_study 24 = .ok (.lsub, 1) := by decide +kernel
theorem dX0_study_25 : decode cX0_study 25 = .ok (.lstore 5, 2) := by decide +kernel
theorem dX0_study_27 : decode cX0_study 27 = .ok (.aload_n 0, 1) := by decide +kernel
theorem dX0_study_28 : decode cX0_study 28 = .ok (.lconst 1, 1) := by decide +kernel
theorem dX0_study_29 : decode cX0_study 29 = .ok (.putfield 13, 3) := by decide +kernel
theorem dX0_study_32 : decode cX0_study 32 = .ok (.lload 5, 2) := by decide +kernel
theorem dX0_study_34 : decode cX0_study 34 = .ok (.lconst 0, 1) := by decide +kernel
theorem dX0_study_35 : decode cX0_study 35 = .ok (.lcmp, 1) := by decide +kernel
theorem dX0_study_36 : decode cX0_study 36 = .ok (.ifCond .ne 13, 3) := by decide +kernel
theorem dX0_study_39 : decode cX0_study 39 = .ok (.aload_n 0, 1) := by decide +kernel
theorem dX0_study_40 : decode cX0_study 40 = .ok (.aload_n 1, 1) := by decide +kernel
theorem dX0_study_41 : decode cX0_study 41 = .ok (.iload_n 2, 1) := by decide +kernel
theorem dX0_study_42 : decode cX0_study 42 = .ok (.aload_n 3, 1) := by decide +kernel
theorem dX0_study_43 : decode cX0_study 43 = .ok (.iload 4, 2) := by decide +kernel
theorem dX0_study_45 : decode cX0_study 45 = .ok (.invokevirtual 26, 3) := by decide +kernel
theorem dX0_study_48 : decode cX0_study 48 = .ok (.return_, 1) := by decide +kernel
theorem dX0_study_49 : decode cX0_study 49 = .ok (.aload_n 3, 1) := by decide +kernel
theorem dX0_study_50 : decode cX0_study 50 = .ok (.getfield 30, 3) := by decide +kernel
theorem dX0_study_53 : decode cX0_study 53 = .ok (.iload 4, 2) := by decide +kernel
theorem dX0_study_55 : decode cX0_study 55 = .ok (.iaload, 1) := by decide +kernel
theorem dX0_study_56 : decode cX0_study 56 = .ok (.aload_n 1, 1) := by decide +kernel
theorem dX0_study_57 : decode cX0_study 57 = .ok (.getfield 30, 3) := by decide +kernel
theorem dX0_study_60 : decode cX0_study 60 = .ok (.iload_n 2, 1) := by decide +kernel
theorem dX0_study_61 : decode cX0_study 61 = .ok (.iaload, 1) := by decide +kernel
theorem dX0_study_62 : decode cX0_study 62 = .ok (.isub, 1) := by decide +kernel
theorem dX0_study_63 : decode cX0_study 63 = .ok (.i2l, 1) := by decide +kernel
theorem dX0_study_64 : decode cX0_study 64 = .ok (.lstore 7, 2) := by decide +kernel
theorem dX0_study_66 : decode cX0_study 66 = .ok (.aload_n 3, 1) := by decide +kernel
theorem dX0_study_67 : decode cX0_study 67 = .ok (.getfield 34, 3) := by decide +kernel
theorem dX0_study_70 : decode cX0_study 70 = .ok (.iload 4, 2) := by decide +kernel
theorem dX0_study_72 : decode cX0_study 72 = .ok (.iaload, 1) := by decide +kernel
theorem dX0_study_73 : decode cX0_study 73 = .ok (.aload_n 1, 1) := by decide +kernel
theorem dX0_study_74 : decode cX0_study 74 = .ok (.getfield 34, 3) := by decide +kernel
theorem dX0_study_77 : decode cX0_study 77 = .ok (.iload_n 2, 1) := by decide +kernel
theorem dX0_study_78 : decode cX0_study 78 = .ok (.iaload, 1) := by decide +kernel
theorem dX0_study_79 : decode cX0_study 79 = .ok (.isub, 1) := by decide +kernel
theorem dX0_study_80 : decode cX0_study 80 = .ok (.i2l, 1) := by decide +kernel
theorem dX0_study_81 : decode cX0_study 81 = .ok (.lstore 9, 2) := by decide +kernel
theorem dX0_study_83 : decode cX0_study 83 = .ok (.lload 7, 2) := by decide +kernel
theorem dX0_study_85 : decode cX0_study 85 = .ok (.aload_n 3, 1) := by decide +kernel
theorem dX0_study_86 : decode cX0_study 86 = .ok (.iload 4, 2) := by decide +kernel
theorem dX0_study_88 : decode cX0_study 88 = .ok (.invokevirtual 23, 3) := by decide +kernel
theorem dX0_study_91 : decode cX0_study 91 = .ok (.lmul, 1) := by decide +kernel
theorem dX0_study_92 : decode cX0_study 92 = .ok (.lload 9, 2) := by decide +kernel
theorem dX0_study_94 : decode cX0_study 94 = .ok (.aload_n 3, 1) := by decide +kernel
theorem dX0_study_95 : decode cX0_study 95 = .ok (.iload 4, 2) := by decide +kernel
theorem dX0_study_97 : decode cX0_study 97 = .ok (.invokevirtual 17, 3) := by decide +kernel
theorem dX0_study_100 : decode cX0_study 100 = .ok (.lmul, 1) := by decide +kernel
theorem dX0_study_101 : decode cX0_study 101 = .ok (.lsub, 1) := by decide +kernel
theorem dX0_study_102 : decode cX0_study 102 = .ok (.lstore 11, 2) := by decide +kernel
theorem dX0_study_104 : decode cX0_study 104 = .ok (.lload 7, 2) := by decide +kernel
theorem dX0_study_106 : decode cX0_study 106 = .ok (.aload_n 1, 1) := by decide +kernel
theorem dX0_study_107 : decode cX0_study 107 = .ok (.iload_n 2, 1) := by decide +kernel
theorem dX0_study_108 : decode cX0_study 108 = .ok (.invokevirtual 23, 3) := by decide +kernel
theorem dX0_study_111 : decode cX0_study 111 = .ok (.lmul, 1) := by decide +kernel
theorem dX0_study_112 : decode cX0_study 112 = .ok (.lload 9, 2) := by decide +kernel
theorem dX0_study_114 : decode cX0_study 114 = .ok (.aload_n 1, 1) := by decide +kernel
theorem dX0_study_115 : decode cX0_study 115 = .ok (.iload_n 2, 1) := by decide +kernel
theorem dX0_study_116 : decode cX0_study 116 = .ok (.invokevirtual 17, 3) := by decide +kernel
theorem dX0_study_119 : decode cX0_study 119 = .ok (.lmul, 1) := by decide +kernel
theorem dX0_study_120 : decode cX0_study 120 = .ok (.lsub, 1) := by decide +kernel
theorem dX0_study_121 : decode cX0_study 121 = .ok (.lstore 13, 2) := by decide +kernel
theorem dX0_study_123 : decode cX0_study 123 = .ok (.lload 5, 2) := by decide +kernel
theorem dX0_study_125 : decode cX0_study 125 = .ok (.lconst 0, 1) := by decide +kernel
theorem dX0_study_126 : decode cX0_study 126 = .ok (.lcmp, 1) := by decide +kernel
theorem dX0_study_127 : decode cX0_study 127 = .ok (.ifCond .ge 18, 3) := by decide +kernel
theorem dX0_study_130 : decode cX0_study 130 = .ok (.lload 5, 2) := by decide +kernel
theorem dX0_study_132 : decode cX0_study 132 = .ok (.lneg, 1) := by decide +kernel
theorem dX0_study_133 : decode cX0_study 133 = .ok (.lstore 5, 2) := by decide +kernel
theorem dX0_study_135 : decode cX0_study 135 = .ok (.lload 11, 2) := by decide +kernel
theorem dX0_study_137 : decode cX0_study 137 = .ok (.lneg, 1) := by decide +kernel
theorem dX0_study_138 : decode cX0_study 138 = .ok (.lstore 11, 2) := by decide +kernel
theorem dX0_study_140 : decode cX0_study 140 = .ok (.lload 13, 2) := by decide +kernel
theorem dX0_study_142 : decode cX0_study 142 = .ok (.lneg, 1) := by decide +kernel
theorem dX0_study_143 : decode cX0_study 143 = .ok (.lstore 13, 2) := by decide +kernel
theorem dX0_study_145 : decode cX0_study 145 = .ok (.lload 11, 2) := by decide +kernel
theorem dX0_study_147 : decode cX0_study 147 = .ok (.lconst 0, 1) := by decide +kernel
theorem dX0_study_148 : decode cX0_study 148 = .ok (.lcmp, 1) := by decide +kernel
theorem dX0_study_149 : decode cX0_study 149 = .ok (.ifCond .lt 30, 3) := by decide +kernel
theorem dX0_study_152 : decode cX0_study 152 = .ok (.lload 11, 2) := by decide +kernel
theorem dX0_study_154 : decode cX0_study 154 = .ok (.lload 5, 2) := by decide +kernel
theorem dX0_study_156 : decode cX0_study 156 = .ok (.lcmp, 1) := by decide +kernel
theorem dX0_study_157 : decode cX0_study 157 = .ok (.ifCond .gt 22, 3) := by decide +kernel
theorem dX0_study_160 : decode cX0_study 160 = .ok (.lload 13, 2) := by decide +kernel
theorem dX0_study_162 : decode cX0_study 162 = .ok (.lconst 0, 1) := by decide +kernel
theorem dX0_study_163 : decode cX0_study 163 = .ok (.lcmp, 1) := by decide +kernel
theorem dX0_study_164 : decode cX0_study 164 = .ok (.ifCond .lt 15, 3) := by decide +kernel
theorem dX0_study_167 : decode cX0_study 167 = .ok (.lload 13, 2) := by decide +kernel
theorem dX0_study_169 : decode cX0_study 169 = .ok (.lload 5, 2) := by decide +kernel
theorem dX0_study_171 : decode cX0_study 171 = .ok (.lcmp, 1) := by decide +kernel
theorem dX0_study_172 : decode cX0_study 172 = .ok (.ifCond .gt 7, 3) := by decide +kernel
theorem dX0_study_175 : decode cX0_study 175 = .ok (.iconst 1, 1) := by decide +kernel
theorem dX0_study_176 : decode cX0_study 176 = .ok (.goto 4, 3) := by decide +kernel
theorem dX0_study_179 : decode cX0_study 179 = .ok (.iconst 0, 1) := by decide +kernel
theorem dX0_study_180 : decode cX0_study 180 = .ok (.istore 15, 2) := by decide +kernel
theorem dX0_study_182 : decode cX0_study 182 = .ok (.aload_n 0, 1) := by decide +kernel
theorem dX0_study_183 : decode cX0_study 183 = .ok (.iload 15, 2) := by decide +kernel
theorem dX0_study_185 : decode cX0_study 185 = .ok (.ifCond .eq 7, 3) := by decide +kernel
theorem dX0_study_188 : decode cX0_study 188 = .ok (.iconst 1, 1) := by decide +kernel
theorem dX0_study_189 : decode cX0_study 189 = .ok (.goto 4, 3) := by decide +kernel
theorem dX0_study_192 : decode cX0_study 192 = .ok (.iconst 0, 1) := by decide +kernel
theorem dX0_study_193 : decode cX0_study 193 = .ok (.putfield 9, 3) := by decide +kernel
theorem dX0_study_196 : decode cX0_study 196 = .ok (.aload_n 0, 1) := by decide +kernel
theorem dX0_study_197 : decode cX0_study 197 = .ok (.lload 5, 2) := by decide +kernel
theorem dX0_study_199 : decode cX0_study 199 = .ok (.putfield 13, 3) := by decide +kernel
theorem dX0_study_202 : decode cX0_study 202 = .ok (.aload_n 0, 1) := by decide +kernel
theorem dX0_study_203 : decode cX0_study 203 = .ok (.aload_n 1, 1) := by decide +kernel
theorem dX0_study_204 : decode cX0_study 204 = .ok (.getfield 30, 3) := by decide +kernel
theorem dX0_study_207 : decode cX0_study 207 = .ok (.iload_n 2, 1) := by decide +kernel
theorem dX0_study_208 : decode cX0_study 208 = .ok (.iaload, 1) := by decide +kernel
theorem dX0_study_209 : decode cX0_study 209 = .ok (.i2l, 1) := by decide +kernel
theorem dX0_study_210 : decode cX0_study 210 = .ok (.lload 5, 2) := by decide +kernel
theorem dX0_study_212 : decode cX0_study 212 = .ok (.lmul, 1) := by decide +kernel
theorem dX0_study_213 : decode cX0_study 213 = .ok (.lload 11, 2) := by decide +kernel
theorem dX0_study_215 : decode cX0_study 215 = .ok (.aload_n 1, 1) := by decide +kernel
theorem dX0_study_216 : decode cX0_study 216 = .ok (.iload_n 2, 1) := by decide +kernel
theorem dX0_study_217 : decode cX0_study 217 = .ok (.invokevirtual 17, 3) := by decide +kernel
theorem dX0_study_220 : decode cX0_study 220 = .ok (.lmul, 1) := by decide +kernel
theorem dX0_study_221 : decode cX0_study 221 = .ok (.ladd, 1) := by decide +kernel
theorem dX0_study_222 : decode cX0_study 222 = .ok (.putfield 37, 3) := by decide +kernel
theorem dX0_study_225 : decode cX0_study 225 = .ok (.aload_n 0, 1) := by decide +kernel
theorem dX0_study_226 : decode cX0_study 226 = .ok (.aload_n 1, 1) := by decide +kernel
theorem dX0_study_227 : decode cX0_study 227 = .ok (.getfield 34, 3) := by decide +kernel
theorem dX0_study_230 : decode cX0_study 230 = .ok (.iload_n 2, 1) := by decide +kernel
theorem dX0_study_231 : decode cX0_study 231 = .ok (.iaload, 1) := by decide +kernel
theorem dX0_study_232 : decode cX0_study 232 = .ok (.i2l, 1) := by decide +kernel
theorem dX0_study_233 : decode cX0_study 233 = .ok (.lload 5, 2) := by decide +kernel
theorem dX0_study_235 : decode cX0_study 235 = .ok (.lmul, 1) := by decide +kernel
theorem dX0_study_236 : decode cX0_study 236 = .ok (.lload 11, 2) := by decide +kernel
theorem dX0_study_238 : decode cX0_study 238 = .ok (.aload_n 1, 1) := by decide +kernel
theorem dX0_study_239 : decode cX0_study 239 = .ok (.iload_n 2, 1) := by decide +kernel
theorem dX0_study_240 : decode cX0_study 240 = .ok (.invokevirtual 23, 3) := by decide +kernel
theorem dX0_study_243 : decode cX0_study 243 = .ok (.lmul, 1) := by decide +kernel
theorem dX0_study_244 : decode cX0_study 244 = .ok (.ladd, 1) := by decide +kernel
theorem dX0_study_245 : decode cX0_study 245 = .ok (.putfield 40, 3) := by decide +kernel
theorem dX0_study_248 : decode cX0_study 248 = .ok (.return_, 1) := by decide +kernel
theorem dX0_studyAlike_0 : decode cX0_studyAlike 0 = .ok (.aload_n 3, 1) := by decide +kernel
theorem dX0_studyAlike_1 : decode cX0_studyAlike 1 = .ok (.getfield 30, 3) := by decide +kernel
theorem dX0_studyAlike_4 : decode cX0_studyAlike 4 = .ok (.iload 4, 2) := by decide +kernel
theorem dX0_studyAlike_6 : decode cX0_studyAlike 6 = .ok (.iaload, 1) := by decide +kernel
theorem dX0_studyAlike_7 : decode cX0_studyAlike 7 = .ok (.aload_n 1, 1) := by decide +kernel
theorem dX0_studyAlike_8 : decode cX0_studyAlike 8 = .ok (.getfield 30, 3) := by decide +kernel
theorem dX0_studyAlike_11 : decode cX0_studyAlike 11 = .ok (.iload_n 2, 1) := by decide +kernel
theorem dX0_studyAlike_12 : decode cX0_studyAlike 12 = .ok (.iaload, 1) := by decide +kernel
theorem dX0_studyAlike_13 : decode cX0_studyAlike 13 = .ok (.isub, 1) := by decide +kernel
theorem dX0_studyAlike_14 : decode cX0_studyAlike 14 = .ok (.i2l, 1) := by decide +kernel
theorem dX0_studyAlike_15 : decode cX0_studyAlike 15 = .ok (.lstore 5, 2) := by decide +kernel
theorem dX0_studyAlike_17 : decode cX0_studyAlike 17 = .ok (.aload_n 3, 1) := by decide +kernel
theorem dX0_studyAlike_18 : decode cX0_studyAlike 18 = .ok (.getfield 34, 3) := by decide +kernel
theorem dX0_studyAlike_21 : decode cX0_studyAlike 21 = .ok (.iload 4, 2) := by decide +kernel
theorem dX0_studyAlike_23 : decode cX0_studyAlike 23 = .ok (.iaload, 1) := by decide +kernel
theorem dX0_studyAlike_24 : decode cX0_studyAlike 24 = .ok (.aload_n 1, 1) := by decide +kernel
theorem dX0_studyAlike_25 : decode cX0_studyAlike 25 = .ok (.getfield 34, 3) := by decide +kernel
theorem dX0_studyAlike_28 : decode cX0_studyAlike 28 = .ok (.iload_n 2, 1) := by decide +kernel
theorem dX0_studyAlike_29 : decode cX0_studyAlike 29 = .ok (.iaload, 1) := by decide +kernel
theorem dX0_studyAlike_30 : decode cX0_studyAlike 30 = .ok (.isub, 1) := by decide +kernel
theorem dX0_studyAlike_31 : decode cX0_studyAlike 31 = .ok (.i2l, 1) := by decide +kernel
theorem dX0_studyAlike_32 : decode cX0_studyAlike 32 = .ok (.lstore 7, 2) := by decide +kernel
theorem dX0_studyAlike_34 : decode cX0_studyAlike 34 = .ok (.lload 5, 2) := by decide +kernel
theorem dX0_studyAlike_36 : decode cX0_studyAlike 36 = .ok (.aload_n 1, 1) := by decide +kernel
theorem dX0_studyAlike_37 : decode cX0_studyAlike 37 = .ok (.iload_n 2, 1) := by decide +kernel
theorem dX0_studyAlike_38 : decode cX0_studyAlike 38 = .ok (.invokevirtual 23, 3) := by decide +kernel
theorem dX0_studyAlike_41 : decode cX0_studyAlike 41 = .ok (.lmul, 1) := by decide +kernel
theorem dX0_studyAlike_42 : decode cX0_studyAlike 42 = .ok (.lload 7, 2) := by decide +kernel
theorem dX0_studyAlike_44 : decode cX0_studyAlike 44 = .ok (.aload_n 1, 1) := by decide +kernel
theorem dX0_studyAlike_45 : decode cX0_studyAlike 45 = .ok (.iload_n 2, 1) := by decide +kernel
theorem dX0_studyAlike_46 : decode cX0_studyAlike 46 = .ok (.invokevirtual 17, 3) := by decide +kernel
theorem dX0_studyAlike_49 : decode cX0_studyAlike 49 = .ok (.lmul, 1) := by decide +kernel
theorem dX0_studyAlike_50 : decode cX0_studyAlike 50 = .ok (.lcmp, 1) := by decide +kernel
theorem dX0_studyAlike_51 : decode cX0_studyAlike 51 = .ok (.ifCond .ne 29, 3) := by decide +kernel
theorem dX0_studyAlike_54 : decode cX0_studyAlike 54 = .ok (.lload 5, 2) := by decide +kernel
theorem dX0_studyAlike_56 : decode cX0_studyAlike 56 = .ok (.aload_n 3, 1) := by decide +kernel
theorem dX0_studyAlike_57 : decode cX0_studyAlike 57 = .ok (.iload 4, 2) := by decide +kernel
theorem dX0_studyAlike_59 : decode cX0_studyAlike 59 = .ok (.invokevirtual 23, 3) := by decide +kernel
theorem dX0_studyAlike_62 : decode cX0_studyAlike 62 = .ok (.lmul, 1) := by decide +kernel
theorem dX0_studyAlike_63 : decode cX0_studyAlike 63 = .ok (.lload 7, 2) := by decide +kernel
theorem dX0_studyAlike_65 : decode cX0_studyAlike 65 = .ok (.aload_n 3, 1) := by decide +kernel
theorem dX0_studyAlike_66 : decode cX0_studyAlike 66 = .ok (.iload 4, 2) := by decide +kernel
theorem dX0_studyAlike_68 : decode cX0_studyAlike 68 = .ok (.invokevirtual 17, 3) := by decide +kernel
theorem dX0_studyAlike_71 : decode cX0_studyAlike 71 = .ok (.lmul, 1) := by decide +kernel
theorem dX0_studyAlike_72 : decode cX0_studyAlike 72 = .ok (.lcmp, 1) := by decide +kernel
theorem dX0_studyAlike_73 : decode cX0_studyAlike 73 = .ok (.ifCond .ne 7, 3) := by decide +kernel
theorem dX0_studyAlike_76 : decode cX0_studyAlike 76 = .ok (.iconst 1, 1) := by decide +kernel
theorem dX0_studyAlike_77 : decode cX0_studyAlike 77 = .ok (.goto 4, 3) := by decide +kernel
theorem dX0_studyAlike_80 : decode cX0_studyAlike 80 = .ok (.iconst 0, 1) := by decide +kernel
theorem dX0_studyAlike_81 : decode cX0_studyAlike 81 = .ok (.istore 9, 2) := by decide +kernel
theorem dX0_studyAlike_83 : decode cX0_studyAlike 83 = .ok (.lload 5, 2) := by decide +kernel
theorem dX0_studyAlike_85 : decode cX0_studyAlike 85 = .ok (.lconst 0, 1) := by decide +kernel
theorem dX0_studyAlike_86 : decode cX0_studyAlike 86 = .ok (.lcmp, 1) := by decide +kernel
theorem dX0_studyAlike_87 : decode cX0_studyAlike 87 = .ok (.ifCond .gt 17, 3) := by decide +kernel
theorem dX0_studyAlike_90 : decode cX0_studyAlike 90 = .ok (.lload 5, 2) := by decide +kernel
theorem dX0_studyAlike_92 : decode cX0_studyAlike 92 = .ok (.lconst 0, 1) := by decide +kernel
theorem dX0_studyAlike_93 : decode cX0_studyAlike 93 = .ok (.lcmp, 1) := by decide +kernel
theorem dX0_studyAlike_94 : decode cX0_studyAlike 94 = .ok (.ifCond .ne 14, 3) := by decide +kernel
theorem dX0_studyAlike_97 : decode cX0_studyAlike 97 = .ok (.lload 7, 2) := by decide +kernel
theorem dX0_studyAlike_99 : decode cX0_studyAlike 99 = .ok (.lconst 0, 1) := by decide +kernel
theorem dX0_studyAlike_100 : decode cX0_studyAlike 100 = .ok (.lcmp, 1) := by decide +kernel
theorem dX0_studyAlike_101 : decode cX0_studyAlike 101 = .ok (.ifCond .le 7, 3) := by decide +kernel
theorem dX0_studyAlike_104 : decode cX0_studyAlike 104 = .ok (.iconst 1, 1) := by decide +kernel
theorem dX0_studyAlike_105 : decode cX0_studyAlike 105 = .ok (.goto 4, 3) := by decide +kernel
theorem dX0_studyAlike_108 : decode cX0_studyAlike 108 = .ok (.iconst 0, 1) := by decide +kernel
theorem dX0_studyAlike_109 : decode cX0_studyAlike 109 = .ok (.istore 10, 2) := by decide +kernel
theorem dX0_studyAlike_111 : decode cX0_studyAlike 111 = .ok (.aload_n 0, 1) := by decide +kernel
theorem dX0_studyAlike_112 : decode cX0_studyAlike 112 = .ok (.iload 10, 2) := by decide +kernel
theorem dX0_studyAlike_114 : decode cX0_studyAlike 114 = .ok (.ifCond .eq 13, 3) := by decide +kernel
theorem dX0_studyAlike_117 : decode cX0_studyAlike 117 = .ok (.aload_n 3, 1) := by decide +kernel
theorem dX0_studyAlike_118 : decode cX0_studyAlike 118 = .ok (.getfield 30, 3) := by decide +kernel
theorem dX0_studyAlike_121 : decode cX0_studyAlike 121 = .ok (.iload 4, 2) := by decide +kernel
theorem dX0_studyAlike_123 : decode cX0_studyAlike 123 = .ok (.iaload, 1) := by decide +kernel
theorem dX0_studyAlike_124 : decode cX0_studyAlike 124 = .ok (.goto 9, 3) := by decide +kernel
theorem dX0_studyAlike_127 : decode cX0_studyAlike 127 = .ok (.aload_n 1, 1) := by decide +kernel
theorem dX0_studyAlike_128 : decode cX0_studyAlike 128 = .ok (.getfield 30, 3) := by decide +kernel
theorem dX0_studyAlike_131 : decode cX0_studyAlike 131 = .ok (.iload_n 2, 1) := by decide +kernel
theorem dX0_studyAlike_132 : decode cX0_studyAlike 132 = .ok (.iaload, 1) := by decide +kernel
theorem dX0_studyAlike_133 : decode cX0_studyAlike 133 = .ok (.putfield 43, 3) := by decide +kernel
theorem dX0_studyAlike_136 : decode cX0_studyAlike 136 = .ok (.aload_n 0, 1) := by decide +kernel
theorem dX0_studyAlike_137 : decode cX0_studyAlike 137 = .ok (.iload 10, 2) := by decide +kernel
theorem dX0_studyAlike_139 : decode cX0_studyAlike 139 = .ok (.ifCond .eq 13, 3) := by decide +kernel
theorem dX0_studyAlike_142 : decode cX0_studyAlike 142 = .ok (.aload_n 3, 1) := by decide +kernel
theorem dX0_studyAlike_143 : decode cX0_studyAlike 143 = .ok (.getfield 34, 3) := by decide +kernel
theorem dX0_studyAlike_146 : decode cX0_studyAlike 146 = .ok (.iload 4, 2) := by decide +kernel
theorem dX0_studyAlike_148 : decode cX0_studyAlike 148 = .ok (.iaload, 1) := by decide +kernel
theorem dX0_studyAlike_149 : decode cX0_studyAlike 149 = .ok (.goto 9, 3) := by decide +kernel
theorem dX0_studyAlike_152 : decode cX0_studyAlike 152 = .ok (.aload_n 1, 1) := by decide +kernel
theorem dX0_studyAlike_153 : decode cX0_studyAlike 153 = .ok (.getfield 34, 3) := by decide +kernel
theorem dX0_studyAlike_156 : decode cX0_studyAlike 156 = .ok (.iload_n 2, 1) := by decide +kernel
theorem dX0_studyAlike_157 : decode cX0_studyAlike 157 = .ok (.iaload, 1) := by decide +kernel
theorem dX0_studyAlike_158 : decode cX0_studyAlike 158 = .ok (.putfield 46, 3) := by decide +kernel
theorem dX0_studyAlike_161 : decode cX0_studyAlike 161 = .ok (.aload_n 3, 1) := by decide +kernel
theorem dX0_studyAlike_162 : decode cX0_studyAlike 162 = .ok (.getfield 49, 3) := by decide +kernel
theorem dX0_studyAlike_165 : decode cX0_studyAlike 165 = .ok (.iload 4, 2) := by decide +kernel
theorem dX0_studyAlike_167 : decode cX0_studyAlike 167 = .ok (.iaload, 1) := by decide +kernel
theorem dX0_studyAlike_168 : decode cX0_studyAlike 168 = .ok (.aload_n 1, 1) := by decide +kernel
theorem dX0_studyAlike_169 : decode cX0_studyAlike 169 = .ok (.getfield 49, 3) := by decide +kernel
theorem dX0_studyAlike_172 : decode cX0_studyAlike 172 = .ok (.iload_n 2, 1) := by decide +kernel
theorem dX0_studyAlike_173 : decode cX0_studyAlike 173 = .ok (.iaload, 1) := by decide +kernel
theorem dX0_studyAlike_174 : decode cX0_studyAlike 174 = .ok (.if_icmp .lt 35, 3) := by decide +kernel
theorem dX0_studyAlike_177 : decode cX0_studyAlike 177 = .ok (.aload_n 3, 1) := by decide +kernel
theorem dX0_studyAlike_178 : decode cX0_studyAlike 178 = .ok (.getfield 49, 3) := by decide +kernel
theorem dX0_studyAlike_181 : decode cX0_studyAlike 181 = .ok (.iload 4, 2) := by decide +kernel
theorem dX0_studyAlike_183 : decode cX0_studyAlike 183 = .ok (.iaload, 1) := by decide +kernel
theorem dX0_studyAlike_184 : decode cX0_studyAlike 184 = .ok (.aload_n 1, 1) := by decide +kernel
theorem dX0_studyAlike_185 : decode cX0_studyAlike 185 = .ok (.getfield 49, 3) := by decide +kernel
theorem dX0_studyAlike_188 : decode cX0_studyAlike 188 = .ok (.iload_n 2, 1) := by decide +kernel
theorem dX0_studyAlike_189 : decode cX0_studyAlike 189 = .ok (.iaload, 1) := by decide +kernel
theorem dX0_studyAlike_190 : decode cX0_studyAlike 190 = .ok (.if_icmp .ne 23, 3) := by decide +kernel
theorem dX0_studyAlike_193 : decode cX0_studyAlike 193 = .ok (.aload_n 3, 1) := by decide +kernel
theorem dX0_studyAlike_194 : decode cX0_studyAlike 194 = .ok (.getfield 52, 3) := by decide +kernel
theorem dX0_studyAlike_197 : decode cX0_studyAlike 197 = .ok (.iload 4, 2) := by decide +kernel
theorem dX0_studyAlike_199 : decode cX0_studyAlike 199 = .ok (.iaload, 1) := by decide +kernel
theorem dX0_studyAlike_200 : decode cX0_studyAlike 200 = .ok (.aload_n 1, 1) := by decide +kernel
theorem dX0_studyAlike_201 : decode cX0_studyAlike 201 = .ok (.getfield 52, 3) := by decide +kernel
theorem dX0_studyAlike_204 : decode cX0_studyAlike 204 = .ok (.iload_n 2, 1) := by decide +kernel
theorem dX0_studyAlike_205 : decode cX0_studyAlike 205 = .ok (.iaload, 1) := by decide +kernel
theorem dX0_studyAlike_206 : decode cX0_studyAlike 206 = .ok (.if_icmp .ge 7, 3) := by decide +kernel
theorem dX0_studyAlike_209 : decode cX0_studyAlike 209 = .ok (.iconst 1, 1) := by decide +kernel
theorem dX0_studyAlike_210 : decode cX0_studyAlike 210 = .ok (.goto 4, 3) := by decide +kernel
theorem dX0_studyAlike_213 : decode cX0_studyAlike 213 = .ok (.iconst 0, 1) := by decide +kernel
theorem dX0_studyAlike_214 : decode cX0_studyAlike 214 = .ok (.istore 11, 2) := by decide +kernel
theorem dX0_studyAlike_216 : decode cX0_studyAlike 216 = .ok (.aload_n 0, 1) := by decide +kernel
theorem dX0_studyAlike_217 : decode cX0_studyAlike 217 = .ok (.iload 11, 2) := by decide +kernel
theorem dX0_studyAlike_219 : decode cX0_studyAlike 219 = .ok (.ifCond .eq 13, 3) := by decide +kernel
theorem dX0_studyAlike_222 : decode cX0_studyAlike 222 = .ok (.aload_n 3, 1) := by decide +kernel
theorem dX0_studyAlike_223 : decode cX0_studyAlike 223 = .ok (.getfield 49, 3) := by decide +kernel
theorem dX0_studyAlike_226 : decode cX0_studyAlike 226 = .ok (.iload 4, 2) := by decide +kernel
theorem dX0_studyAlike_228 : decode cX0_studyAlike 228 = .ok (.iaload, 1) := by decide +kernel
theorem dX0_studyAlike_229 : decode cX0_studyAlike 229 = .ok (.goto 9, 3) := by decide +kernel
theorem dX0_studyAlike_232 : decode cX0_studyAlike 232 = .ok (.aload_n 1, 1) := by decide +kernel
theorem dX0_studyAlike_233 : decode cX0_studyAlike 233 = .ok (.getfield 49, 3) := by decide +kernel
theorem dX0_studyAlike_236 : decode cX0_studyAlike 236 = .ok (.iload_n 2, 1) := by decide +kernel
theorem dX0_studyAlike_237 : decode cX0_studyAlike 237 = .ok (.iaload, 1) := by decide +kernel
theorem dX0_studyAlike_238 : decode cX0_studyAlike 238 = .ok (.putfield 55, 3) := by decide +kernel
theorem dX0_studyAlike_241 : decode cX0_studyAlike 241 = .ok (.aload_n 0, 1) := by decide +kernel
theorem dX0_studyAlike_242 : decode cX0_studyAlike 242 = .ok (.iload 11, 2) := by decide +kernel
theorem dX0_studyAlike_244 : decode cX0_studyAlike 244 = .ok (.ifCond .eq 13, 3) := by decide +kernel
theorem dX0_studyAlike_247 : decode cX0_studyAlike 247 = .ok (.aload_n 3, 1) := by decide +kernel
theorem dX0_studyAlike_248 : decode cX0_studyAlike 248 = .ok (.getfield 52, 3) := by decide +kernel
theorem dX0_studyAlike_251 : decode cX0_studyAlike 251 = .ok (.iload 4, 2) := by decide +kernel
theorem dX0_studyAlike_253 : decode cX0_studyAlike 253 = .ok (.iaload, 1) := by decide +kernel
theorem dX0_studyAlike_254 : decode cX0_studyAlike 254 = .ok (.goto 9, 3) := by decide +kernel
theorem dX0_studyAlike_257 : decode cX0_studyAlike 257 = .ok (.aload_n 1, 1) := by decide +kernel
theorem dX0_studyAlike_258 : decode cX0_studyAlike 258 = .ok (.getfield 52, 3) := by decide +kernel
theorem dX0_studyAlike_261 : decode cX0_studyAlike 261 = .ok (.iload_n 2, 1) := by decide +kernel
theorem dX0_studyAlike_262 : decode cX0_studyAlike 262 = .ok (.iaload, 1) := by decide +kernel
theorem dX0_studyAlike_263 : decode cX0_studyAlike 263 = .ok (.putfield 58, 3) := by decide +kernel
theorem dX0_studyAlike_266 : decode cX0_studyAlike 266 = .ok (.aload_n 0, 1) := by decide +kernel
theorem dX0_studyAlike_267 : decode cX0_studyAlike 267 = .ok (.aload_n 0, 1) := by decide +kernel
theorem dX0_studyAlike_268 : decode cX0_studyAlike 268 = .ok (.getfield 43, 3) := by decide +kernel
theorem dX0_studyAlike_271 : decode cX0_studyAlike 271 = .ok (.i2l, 1) := by decide +kernel
theorem dX0_studyAlike_272 : decode cX0_studyAlike 272 = .ok (.putfield 37, 3) := by decide +kernel
theorem dX0_studyAlike_275 : decode cX0_studyAlike 275 = .ok (.aload_n 0, 1) := by decide +kernel
theorem dX0_studyAlike_276 : decode cX0_studyAlike 276 = .ok (.aload_n 0, 1) := by decide +kernel
theorem dX0_studyAlike_277 : decode cX0_studyAlike 277 = .ok (.getfield 46, 3) := by decide +kernel
theorem dX0_studyAlike_280 : decode cX0_studyAlike 280 = .ok (.i2l, 1) := by decide +kernel
theorem dX0_studyAlike_281 : decode cX0_studyAlike 281 = .ok (.putfield 40, 3) := by decide +kernel
theorem dX0_studyAlike_284 : decode cX0_studyAlike 284 = .ok (.aload_n 0, 1) := by decide +kernel
theorem dX0_studyAlike_285 : decode cX0_studyAlike 285 = .ok (.getfield 43, 3) := by decide +kernel
theorem dX0_studyAlike_288 : decode cX0_studyAlike 288 = .ok (.aload_n 0, 1) := by decide +kernel
theorem dX0_studyAlike_289 : decode cX0_studyAlike 289 = .ok (.getfield 55, 3) := by decide +kernel
theorem dX0_studyAlike_292 : decode cX0_studyAlike 292 = .ok (.if_icmp .ne 18, 3) := by decide +kernel
theorem dX0_studyAlike_295 : decode cX0_studyAlike 295 = .ok (.aload_n 0, 1) := by decide +kernel
theorem dX0_studyAlike_296 : decode cX0_studyAlike 296 = .ok (.getfield 46, 3) := by decide +kernel
theorem dX0_studyAlike_299 : decode cX0_studyAlike 299 = .ok (.aload_n 0, 1) := by decide +kernel
theorem dX0_studyAlike_300 : decode cX0_studyAlike 300 = .ok (.getfield 58, 3) := by decide +kernel
theorem dX0_studyAlike_303 : decode cX0_studyAlike 303 = .ok (.if_icmp .ne 7, 3) := by decide +kernel
theorem dX0_studyAlike_306 : decode cX0_studyAlike 306 = .ok (.iconst 1, 1) := by decide +kernel
theorem dX0_studyAlike_307 : decode cX0_studyAlike 307 = .ok (.goto 4, 3) := by decide +kernel
theorem dX0_studyAlike_310 : decode cX0_studyAlike 310 = .ok (.iconst 0, 1) := by decide +kernel
theorem dX0_studyAlike_311 : decode cX0_studyAlike 311 = .ok (.istore 12, 2) := by decide +kernel
theorem dX0_studyAlike_313 : decode cX0_studyAlike 313 = .ok (.aload_n 0, 1) := by decide +kernel
theorem dX0_studyAlike_314 : decode cX0_studyAlike 314 = .ok (.getfield 43, 3) := by decide +kernel
theorem dX0_studyAlike_317 : decode cX0_studyAlike 317 = .ok (.aload_n 0, 1) := by decide +kernel
theorem dX0_studyAlike_318 : decode cX0_studyAlike 318 = .ok (.getfield 55, 3) := by decide +kernel
theorem dX0_studyAlike_321 : decode cX0_studyAlike 321 = .ok (.if_icmp .lt 25, 3) := by decide +kernel
theorem dX0_studyAlike_324 : decode cX0_studyAlike 324 = .ok (.aload_n 0, 1) := by decide +kernel
theorem dX0_studyAlike_325 : decode cX0_studyAlike 325 = .ok (.getfield 43, 3) := by decide +kernel
theorem dX0_studyAlike_328 : decode cX0_studyAlike 328 = .ok (.aload_n 0, 1) := by decide +kernel
theorem dX0_studyAlike_329 : decode cX0_studyAlike 329 = .ok (.getfield 55, 3) := by decide +kernel
theorem dX0_studyAlike_332 : decode cX0_studyAlike 332 = .ok (.if_icmp .ne 18, 3) := by decide +kernel
theorem dX0_studyAlike_335 : decode cX0_studyAlike 335 = .ok (.aload_n 0, 1) := by decide +kernel
theorem dX0_studyAlike_336 : decode cX0_studyAlike 336 = .ok (.getfield 46, 3) := by decide +kernel
theorem dX0_studyAlike_339 : decode cX0_studyAlike 339 = .ok (.aload_n 0, 1) := by decide +kernel
theorem dX0_studyAlike_340 : decode cX0_studyAlike 340 = .ok (.getfield 58, 3) := by decide +kernel
theorem dX0_studyAlike_343 : decode cX0_studyAlike 343 = .ok (.if_icmp .ge 7, 3) := by decide +kernel
theorem dX0_studyAlike_346 : decode cX0_studyAlike 346 = .ok (.iconst 1, 1) := by decide +kernel
theorem dX0_studyAlike_347 : decode cX0_studyAlike 347 = .ok (.goto 4, 3) := by decide +kernel
theorem dX0_studyAlike_350 : decode cX0_studyAlike 350 = .ok (.iconst 0, 1) := by decide +kernel
theorem dX0_studyAlike_351 : decode cX0_studyAlike 351 = .ok (.istore 13, 2) := by decide +kernel
theorem dX0_studyAlike_353 : decode cX0_studyAlike 353 = .ok (.iload 9, 2) := by decide +kernel
theorem dX0_studyAlike_355 : decode cX0_studyAlike 355 = .ok (.ifCond .eq 16, 3) := by decide +kernel
theorem dX0_studyAlike_358 : decode cX0_studyAlike 358 = .ok (.iload 12, 2) := by decide +kernel
theorem dX0_studyAlike_360 : decode cX0_studyAlike 360 = .ok (.ifCond .eq 11, 3) := by decide +kernel
theorem dX0_studyAlike_363 : decode cX0_studyAlike 363 = .ok (.aload_n 0, 1) := by decide +kernel
theorem dX0_studyAlike_364 : decode cX0_studyAlike 364 = .ok (.iconst 1, 1) := by decide +kernel
theorem dX0_studyAlike_365 : decode cX0_studyAlike 365 = .ok (.putfield 9, 3) := by decide +kernel
theorem dX0_studyAlike_368 : decode cX0_studyAlike 368 = .ok (.goto 22, 3) := by decide +kernel
theorem dX0_studyAlike_371 : decode cX0_studyAlike 371 = .ok (.aload_n 0, 1) := by decide +kernel
theorem dX0_studyAlike_372 : decode cX0_studyAlike 372 = .ok (.iload 9, 2) := by decide +kernel
theorem dX0_studyAlike_374 : decode cX0_studyAlike 374 = .ok (.ifCond .eq 12, 3) := by decide +kernel
theorem dX0_studyAlike_377 : decode cX0_studyAlike 377 = .ok (.iload 13, 2) := by decide +kernel
theorem dX0_studyAlike_379 : decode cX0_studyAlike 379 = .ok (.ifCond .eq 7, 3) := by decide +kernel
theorem dX0_studyAlike_382 : decode cX0_studyAlike 382 = .ok (.iconst 2, 1) := by decide +kernel
theorem dX0_studyAlike_383 : decode cX0_studyAlike 383 = .ok (.goto 4, 3) := by decide +kernel
theorem dX0_studyAlike_386 : decode cX0_studyAlike 386 = .ok (.iconst 0, 1) := by decide +kernel
theorem dX0_studyAlike_387 : decode cX0_studyAlike 387 = .ok (.putfield 9, 3) := by decide +kernel
theorem dX0_studyAlike_390 : decode cX0_studyAlike 390 = .ok (.return_, 1) := by decide +kernel
theorem dX0_isAtEndOf_0 : decode cX0_isAtEndOf 0 = .ok (.aload_n 0, 1) := by decide +kernel
theorem dX0_isAtEndOf_1 : decode cX0_isAtEndOf 1 = .ok (.getfield 37, 3) := by decide +kernel
theorem dX0_isAtEndOf_4 : decode cX0_isAtEndOf 4 = .ok (.aload_n 1, 1) := by decide +kernel
theorem dX0_isAtEndOf_5 : decode cX0_isAtEndOf 5 = .ok (.getfield 30, 3) := by decide +kernel
theorem dX0_isAtEndOf_8 : decode cX0_isAtEndOf 8 = .ok (.iload_n 2, 1) := by decide +kernel
theorem dX0_isAtEndOf_9 : decode cX0_isAtEndOf 9 = .ok (.iaload, 1) := by decide +kernel
theorem dX0_isAtEndOf_10 : decode cX0_isAtEndOf 10 = .ok (.i2l, 1) := by decide +kernel
theorem dX0_isAtEndOf_11 : decode cX0_isAtEndOf 11 = .ok (.aload_n 0, 1) := by decide +kernel
theorem dX0_isAtEndOf_12 : decode cX0_isAtEndOf 12 = .ok (.getfield 13, 3) := by decide +kernel
theorem dX0_isAtEndOf_15 : decode cX0_isAtEndOf 15 = .ok (.lmul, 1) := by decide +kernel
theorem dX0_isAtEndOf_16 : decode cX0_isAtEndOf 16 = .ok (.lcmp, 1) := by decide +kernel
theorem dX0_isAtEndOf_17 : decode cX0_isAtEndOf 17 = .ok (.ifCond .ne 23, 3) := by decide +kernel
theorem dX0_isAtEndOf_20 : decode cX0_isAtEndOf 20 = .ok (.aload_n 0, 1) := by decide +kernel
theorem dX0_isAtEndOf_21 : decode cX0_isAtEndOf 21 = .ok (.getfield 40, 3) := by decide +kernel
theorem dX0_isAtEndOf_24 : decode cX0_isAtEndOf 24 = .ok (.aload_n 1, 1) := by decide +kernel
theorem dX0_isAtEndOf_25 : decode cX0_isAtEndOf 25 = .ok (.getfield 34, 3) := by decide +kernel
theorem dX0_isAtEndOf_28 : decode cX0_isAtEndOf 28 = .ok (.iload_n 2, 1) := by decide +kernel
theorem dX0_isAtEndOf_29 : decode cX0_isAtEndOf 29 = .ok (.iaload, 1) := by decide +kernel
theorem dX0_isAtEndOf_30 : decode cX0_isAtEndOf 30 = .ok (.i2l, 1) := by decide +kernel
theorem dX0_isAtEndOf_31 : decode cX0_isAtEndOf 31 = .ok (.aload_n 0, 1) := by decide +kernel
theorem dX0_isAtEndOf_32 : decode cX0_isAtEndOf 32 = .ok (.getfield 13, 3) := by decide +kernel
theorem dX0_isAtEndOf_35 : decode cX0_isAtEndOf 35 = .ok (.lmul, 1) := by decide +kernel
theorem dX0_isAtEndOf_36 : decode cX0_isAtEndOf 36 = .ok (.lcmp, 1) := by decide +kernel
theorem dX0_isAtEndOf_37 : decode cX0_isAtEndOf 37 = .ok (.ifCond .eq 43, 3) := by decide +kernel
theorem dX0_isAtEndOf_40 : decode cX0_isAtEndOf 40 = .ok (.aload_n 0, 1) := by decide +kernel
theorem dX0_isAtEndOf_41 : decode cX0_isAtEndOf 41 = .ok (.getfield 37, 3) := by decide +kernel
theorem dX0_isAtEndOf_44 : decode cX0_isAtEndOf 44 = .ok (.aload_n 1, 1) := by decide +kernel
theorem dX0_isAtEndOf_45 : decode cX0_isAtEndOf 45 = .ok (.getfield 49, 3) := by decide +kernel
theorem dX0_isAtEndOf_48 : decode cX0_isAtEndOf 48 = .ok (.iload_n 2, 1) := by decide +kernel
theorem dX0_isAtEndOf_49 : decode cX0_isAtEndOf 49 = .ok (.iaload, 1) := by decide +kernel
theorem dX0_isAtEndOf_50 : decode cX0_isAtEndOf 50 = .ok (.i2l, 1) := by decide +kernel
theorem dX0_isAtEndOf_51 : decode cX0_isAtEndOf 51 = .ok (.aload_n 0, 1) := by decide +kernel
theorem dX0_isAtEndOf_52 : decode cX0_isAtEndOf 52 = .ok (.getfield 13, 3) := by decide +kernel
theorem dX0_isAtEndOf_55 : decode cX0_isAtEndOf 55 = .ok (.lmul, 1) := by decide +kernel
theorem dX0_isAtEndOf_56 : decode cX0_isAtEndOf 56 = .ok (.lcmp, 1) := by decide +kernel
theorem dX0_isAtEndOf_57 : decode cX0_isAtEndOf 57 = .ok (.ifCond .ne 27, 3) := by decide +kernel
theorem dX0_isAtEndOf_60 : decode cX0_isAtEndOf 60 = .ok (.aload_n 0, 1) := by decide +kernel
theorem dX0_isAtEndOf_61 : decode cX0_isAtEndOf 61 = .ok (.getfield 40, 3) := by decide +kernel
theorem dX0_isAtEndOf_64 : decode cX0_isAtEndOf 64 = .ok (.aload_n 1, 1) := by decide +kernel
theorem dX0_isAtEndOf_65 : decode cX0_isAtEndOf 65 = .ok (.getfield 52, 3) := by decide +kernel
theorem dX0_isAtEndOf_68 : decode cX0_isAtEndOf 68 = .ok (.iload_n 2, 1) := by decide +kernel
theorem dX0_isAtEndOf_69 : decode cX0_isAtEndOf 69 = .ok (.iaload, 1) := by decide +kernel
theorem dX0_isAtEndOf_70 : decode cX0_isAtEndOf 70 = .ok (.i2l, 1) := by decide +kernel
theorem dX0_isAtEndOf_71 : decode cX0_isAtEndOf 71 = .ok (.aload_n 0, 1) := by decide +kernel
theorem dX0_isAtEndOf_72 : decode cX0_isAtEndOf 72 = .ok (.getfield 13, 3) := by decide +kernel
theorem dX0_isAtEndOf_75 : decode cX0_isAtEndOf 75 = .ok (.lmul, 1) := by decide +kernel
theorem dX0_isAtEndOf_76 : decode cX0_isAtEndOf 76 = .ok (.lcmp, 1) := by decide +kernel
theorem dX0_isAtEndOf_77 : decode cX0_isAtEndOf 77 = .ok (.ifCond .ne 7, 3) := by decide +kernel
theorem dX0_isAtEndOf_80 : decode cX0_isAtEndOf 80 = .ok (.iconst 1, 1) := by decide +kernel
theorem dX0_isAtEndOf_81 : decode cX0_isAtEndOf 81 = .ok (.goto 4, 3) := by decide +kernel
theorem dX0_isAtEndOf_84 : decode cX0_isAtEndOf 84 = .ok (.iconst 0, 1) := by decide +kernel
theorem dX0_isAtEndOf_85 : decode cX0_isAtEndOf 85 = .ok (.ireturn, 1) := by decide +kernel
theorem dX0_wayFrom_0 : decode cX0_wayFrom 0 = .ok (.aload_n 0, 1) := by decide +kernel
theorem dX0_wayFrom_1 : decode cX0_wayFrom 1 = .ok (.getfield 9, 3) := by decide +kernel
theorem dX0_wayFrom_4 : decode cX0_wayFrom 4 = .ok (.iconst 1, 1) := by decide +kernel
theorem dX0_wayFrom_5 : decode cX0_wayFrom 5 = .ok (.if_icmp .ne 35, 3) := by decide +kernel
theorem dX0_wayFrom_8 : decode cX0_wayFrom 8 = .ok (.aload_n 0, 1) := by decide +kernel
theorem dX0_wayFrom_9 : decode cX0_wayFrom 9 = .ok (.getfield 37, 3) := by decide +kernel
theorem dX0_wayFrom_12 : decode cX0_wayFrom 12 = .ok (.iload_n 1, 1) := by decide +kernel
theorem dX0_wayFrom_13 : decode cX0_wayFrom 13 = .ok (.i2l, 1) := by decide +kernel
theorem dX0_wayFrom_14 : decode cX0_wayFrom 14 = .ok (.aload_n 0, 1) := by decide +kernel
theorem dX0_wayFrom_15 : decode cX0_wayFrom 15 = .ok (.getfield 13, 3) := by decide +kernel
theorem dX0_wayFrom_18 : decode cX0_wayFrom 18 = .ok (.lmul, 1) := by decide +kernel
theorem dX0_wayFrom_19 : decode cX0_wayFrom 19 = .ok (.lsub, 1) := by decide +kernel
theorem dX0_wayFrom_20 : decode cX0_wayFrom 20 = .ok (.invokestatic 61, 3) := by decide +kernel
theorem dX0_wayFrom_23 : decode cX0_wayFrom 23 = .ok (.aload_n 0, 1) := by decide +kernel
theorem dX0_wayFrom_24 : decode cX0_wayFrom 24 = .ok (.getfield 40, 3) := by decide +kernel
theorem dX0_wayFrom_27 : decode cX0_wayFrom 27 = .ok (.iload_n 2, 1) := by decide +kernel
theorem dX0_wayFrom_28 : decode cX0_wayFrom 28 = .ok (.i2l, 1) := by decide +kernel
theorem dX0_wayFrom_29 : decode cX0_wayFrom 29 = .ok (.aload_n 0, 1) := by decide +kernel
theorem dX0_wayFrom_30 : decode cX0_wayFrom 30 = .ok (.getfield 13, 3) := by decide +kernel
theorem dX0_wayFrom_33 : decode cX0_wayFrom 33 = .ok (.lmul, 1) := by decide +kernel
theorem dX0_wayFrom_34 : decode cX0_wayFrom 34 = .ok (.lsub, 1) := by decide +kernel
theorem dX0_wayFrom_35 : decode cX0_wayFrom 35 = .ok (.invokestatic 61, 3) := by decide +kernel
theorem dX0_wayFrom_38 : decode cX0_wayFrom 38 = .ok (.ladd, 1) := by decide +kernel
theorem dX0_wayFrom_39 : decode cX0_wayFrom 39 = .ok (.lreturn, 1) := by decide +kernel
theorem dX0_wayFrom_40 : decode cX0_wayFrom 40 = .ok (.aload_n 0, 1) := by decide +kernel
theorem dX0_wayFrom_41 : decode cX0_wayFrom 41 = .ok (.getfield 43, 3) := by decide +kernel
theorem dX0_wayFrom_44 : decode cX0_wayFrom 44 = .ok (.iload_n 1, 1) := by decide +kernel
theorem dX0_wayFrom_45 : decode cX0_wayFrom 45 = .ok (.isub, 1) := by decide +kernel
theorem dX0_wayFrom_46 : decode cX0_wayFrom 46 = .ok (.invokestatic 67, 3) := by decide +kernel
theorem dX0_wayFrom_49 : decode cX0_wayFrom 49 = .ok (.aload_n 0, 1) := by decide +kernel
theorem dX0_wayFrom_50 : decode cX0_wayFrom 50 = .ok (.getfield 46, 3) := by decide +kernel
theorem dX0_wayFrom_53 : decode cX0_wayFrom 53 = .ok (.iload_n 2, 1) := by decide +kernel
theorem dX0_wayFrom_54 : decode cX0_wayFrom 54 = .ok (.isub, 1) := by decide +kernel
theorem dX0_wayFrom_55 : decode cX0_wayFrom 55 = .ok (.invokestatic 67, 3) := by decide +kernel
theorem dX0_wayFrom_58 : decode cX0_wayFrom 58 = .ok (.iadd, 1) := by decide +kernel
theorem dX0_wayFrom_59 : decode cX0_wayFrom 59 = .ok (.i2l, 1) := by decide +kernel
theorem dX0_wayFrom_60 : decode cX0_wayFrom 60 = .ok (.lstore_n 3, 1) := by decide +kernel
theorem dX0_wayFrom_61 : decode cX0_wayFrom 61 = .ok (.aload_n 0, 1) := by decide +kernel
theorem dX0_wayFrom_62 : decode cX0_wayFrom 62 = .ok (.getfield 55, 3) := by decide +kernel
theorem dX0_wayFrom_65 : decode cX0_wayFrom 65 = .ok (.iload_n 1, 1) := by decide +kernel
theorem dX0_wayFrom_66 : decode cX0_wayFrom 66 = .ok (.isub, 1) := by decide +kernel
theorem dX0_wayFrom_67 : decode cX0_wayFrom 67 = .ok (.invokestatic 67, 3) := by decide +kernel
theorem dX0_wayFrom_70 : decode cX0_wayFrom 70 = .ok (.aload_n 0, 1) := by decide +kernel
theorem dX0_wayFrom_71 : decode cX0_wayFrom 71 = .ok (.getfield 58, 3) := by decide +kernel
theorem dX0_wayFrom_74 : decode cX0_wayFrom 74 = .ok (.iload_n 2, 1) := by decide +kernel
theorem dX0_wayFrom_75 : decode cX0_wayFrom 75 = .ok (.isub, 1) := by decide +kernel
theorem dX0_wayFrom_76 : decode cX0_wayFrom 76 = .ok (.invokestatic 67, 3) := by decide +kernel
theorem dX0_wayFrom_79 : decode cX0_wayFrom 79 = .ok (.iadd, 1) := by decide +kernel
theorem dX0_wayFrom_80 : decode cX0_wayFrom 80 = .ok (.i2l, 1) := by decide +kernel
theorem dX0_wayFrom_81 : decode cX0_wayFrom 81 = .ok (.lstore 5, 2) := by decide +kernel
theorem dX0_wayFrom_83 : decode cX0_wayFrom 83 = .ok (.lload_n 3, 1) := by decide +kernel
theorem dX0_wayFrom_84 : decode cX0_wayFrom 84 = .ok (.lload 5, 2) := by decide +kernel
theorem dX0_wayFrom_86 : decode cX0_wayFrom 86 = .ok (.invokestatic 70, 3) := by decide +kernel
theorem dX0_wayFrom_89 : decode cX0_wayFrom 89 = .ok (.lreturn, 1) := by decide +kernel
theorem dX1_init_0 : decode cX1_init 0 = .ok (.aload_n 0, 1) := by decide +kernel
theorem dX1_init_1 : decode cX1_init 1 = .ok (.invokespecial 3, 3) := by decide +kernel
theorem dX1_init_4 : decode cX1_init 4 = .ok (.aload_n 0, 1) := by decide +kernel
theorem dX1_init_5 : decode cX1_init 5 = .ok (.sipush 324, 3) := by decide +kernel
theorem dX1_init_8 : decode cX1_init 8 = .ok (.newarray .long, 2) := by decide +kernel
theorem dX1_init_10 : decode cX1_init 10 = .ok (.putfield 9, 3) := by decide +kernel
theorem dX1_init_13 : decode cX1_init 13 = .ok (.aload_n 0, 1) := by decide +kernel
theorem dX1_init_14 : decode cX1_init 14 = .ok (.sipush 324, 3) := by decide +kernel
theorem dX1_init_17 : decode cX1_init 17 = .ok (.newarray .long, 2) := by decide +kernel
theorem dX1_init_19 : decode cX1_init 19 = .ok (.putfield 15, 3) := by decide +kernel
theorem dX1_init_22 : decode cX1_init 22 = .ok (.aload_n 0, 1) := by decide +kernel
theorem dX1_init_23 : decode cX1_init 23 = .ok (.sipush 324, 3) := by decide +kernel
theorem dX1_init_26 : decode cX1_init 26 = .ok (.newarray .long, 2) := by decide +kernel
theorem dX1_init_28 : decode cX1_init 28 = .ok (.putfield 18, 3) := by decide +kernel
theorem dX1_init_31 : decode cX1_init 31 = .ok (.aload_n 0, 1) := by decide +kernel
theorem dX1_init_32 : decode cX1_init 32 = .ok (.sipush 324, 3) := by decide +kernel
theorem dX1_init_35 : decode cX1_init 35 = .ok (.newarray .int, 2) := by decide +kernel
theorem dX1_init_37 : decode cX1_init 37 = .ok (.putfield 21, 3) := by decide +kernel
theorem dX1_init_40 : decode cX1_init 40 = .ok (.aload_n 0, 1) := by decide +kernel
theorem dX1_init_41 : decode cX1_init 41 = .ok (.sipush 324, 3) := by decide +kernel
theorem dX1_init_44 : decode cX1_init 44 = .ok (.newarray .int, 2) := by decide +kernel
theorem dX1_init_46 : decode cX1_init 46 = .ok (.putfield 25, 3) := by decide +kernel
theorem dX1_init_49 : decode cX1_init 49 = .ok (.aload_n 0, 1) := by decide +kernel
theorem dX1_init_50 : decode cX1_init 50 = .ok (.sipush 324, 3) := by decide +kernel
theorem dX1_init_53 : decode cX1_init 53 = .ok (.newarray .int, 2) := by decide +kernel
theorem dX1_init_55 : decode cX1_init 55 = .ok (.putfield 28, 3) := by decide +kernel
theorem dX1_init_58 : decode cX1_init 58 = .ok (.aload_n 0, 1) := by decide +kernel
theorem dX1_init_59 : decode cX1_init 59 = .ok (.bipush 24, 2) := by decide +kernel
theorem dX1_init_61 : decode cX1_init 61 = .ok (.newarray .int, 2) := by decide +kernel
theorem dX1_init_63 : decode cX1_init 63 = .ok (.putfield 31, 3) := by decide +kernel
theorem dX1_init_66 : decode cX1_init 66 = .ok (.aload_n 0, 1) := by decide +kernel
theorem dX1_init_67 : decode cX1_init 67 = .ok (.bipush 24, 2) := by decide +kernel
theorem dX1_init_69 : decode cX1_init 69 = .ok (.newarray .int, 2) := by decide +kernel
theorem dX1_init_71 : decode cX1_init 71 = .ok (.putfield 34, 3) := by decide +kernel
theorem dX1_init_74 : decode cX1_init 74 = .ok (.aload_n 0, 1) := by decide +kernel
theorem dX1_init_75 : decode cX1_init 75 = .ok (.iconst 0, 1) := by decide +kernel
theorem dX1_init_76 : decode cX1_init 76 = .ok (.putfield 37, 3) := by decide +kernel
theorem dX1_init_79 : decode cX1_init 79 = .ok (.aload_n 0, 1) := by decide +kernel
theorem dX1_init_80 : decode cX1_init 80 = .ok (.iconst 0, 1) := by decide +kernel
theorem dX1_init_81 : decode cX1_init 81 = .ok (.putfield 41, 3) := by decide +kernel
theorem dX1_init_84 : decode cX1_init 84 = .ok (.aload_n 0, 1) := by decide +kernel
theorem dX1_init_85 : decode cX1_init 85 = .ok (.iconst 0, 1) := by decide +kernel
theorem dX1_init_86 : decode cX1_init 86 = .ok (.putfield 44, 3) := by decide +kernel
theorem dX1_init_89 : decode cX1_init 89 = .ok (.return_, 1) := by decide +kernel
theorem dX1_clear_0 : decode cX1_clear 0 = .ok (.aload_n 0, 1) := by decide +kernel
theorem dX1_clear_1 : decode cX1_clear 1 = .ok (.iconst 0, 1) := by decide +kernel
theorem dX1_clear_2 : decode cX1_clear 2 = .ok (.putfield 37, 3) := by decide +kernel
theorem dX1_clear_5 : decode cX1_clear 5 = .ok (.aload_n 0, 1) := by decide +kernel
theorem dX1_clear_6 : decode cX1_clear 6 = .ok (.iconst 0, 1) := by decide +kernel
theorem dX1_clear_7 : decode cX1_clear 7 = .ok (.putfield 41, 3) := by decide +kernel
theorem dX1_clear_10 : decode cX1_clear 10 = .ok (.aload_n 0, 1) := by decide +kernel
theorem dX1_clear_11 : decode cX1_clear 11 = .ok (.iconst 0, 1) := by decide +kernel
theorem dX1_clear_12 : decode cX1_clear 12 = .ok (.putfield 44, 3) := by decide +kernel
theorem dX1_clear_15 : decode cX1_clear 15 = .ok (.return_, 1) := by decide +kernel
theorem dX1_insert_0 : decode cX1_insert 0 = .ok (.aload_n 0, 1) := by decide +kernel
theorem dX1_insert_1 : decode cX1_insert 1 = .ok (.lload_n 1, 1) := by decide +kernel
theorem dX1_insert_2 : decode cX1_insert 2 = .ok (.lload_n 3, 1) := by decide +kernel
theorem dX1_insert_3 : decode cX1_insert 3 = .ok (.lload 5, 2) := by decide +kernel
theorem dX1_insert_5 : decode cX1_insert 5 = .ok (.invokevirtual 47, 3) := by decide +kernel
theorem dX1_insert_8 : decode cX1_insert 8 = .ok (.istore 7, 2) := by decide +kernel
theorem dX1_insert_10 : decode cX1_insert 10 = .ok (.iload 7, 2) := by decide +kernel
theorem dX1_insert_12 : decode cX1_insert 12 = .ok (.aload_n 0, 1) := by decide +kernel
theorem dX1_insert_13 : decode cX1_insert 13 = .ok (.getfield 37, 3) := by decide +kernel
theorem dX1_insert_16 : decode cX1_insert 16 = .ok (.if_icmp .ge 20, 3) := by decide +kernel
theorem dX1_insert_19 : decode cX1_insert 19 = .ok (.aload_n 0, 1) := by decide +kernel
theorem dX1_insert_20 : decode cX1_insert 20 = .ok (.iload 7, 2) := by decide +kernel
theorem dX1_insert_22 : decode cX1_insert 22 = .ok (.lload_n 1, 1) := by decide +kernel
theorem dX1_insert_23 : decode cX1_insert 23 = .ok (.lload_n 3, 1) := by decide +kernel
theorem dX1_insert_24 : decode cX1_insert 24 = .ok (.lload 5, 2) := by decide +kernel
theorem dX1_insert_26 : decode cX1_insert 26 = .ok (.invokevirtual 51, 3) := by decide +kernel
theorem dX1_insert_29 : decode cX1_insert 29 = .ok (.ifCond .ne 7, 3) := by decide +kernel
theorem dX1_insert_32 : decode cX1_insert 32 = .ok (.iconst 1, 1) := by decide +kernel
theorem dX1_insert_33 : decode cX1_insert 33 = .ok (.goto 4, 3) := by decide +kernel
theorem dX1_insert_36 : decode cX1_insert 36 = .ok (.iconst 0, 1) := by decide +kernel
theorem dX1_insert_37 : decode cX1_insert 37 = .ok (.istore 8, 2) := by decide +kernel
theorem dX1_insert_39 : decode cX1_insert 39 = .ok (.iload 8, 2) := by decide +kernel
theorem dX1_insert_41 : decode cX1_insert 41 = .ok (.ifCond .ne 13, 3) := by decide +kernel
theorem dX1_insert_44 : decode cX1_insert 44 = .ok (.aload_n 0, 1) := by decide +kernel
theorem dX1_insert_45 : decode cX1_insert 45 = .ok (.getfield 37, 3) := by decide +kernel
theorem dX1_insert_48 : decode cX1_insert 48 = .ok (.sipush 324, 3) := by decide +kernel
theorem dX1_insert_51 : decode cX1_insert 51 = .ok (.if_icmp .lt 4, 3) := by decide +kernel
theorem dX1_insert_54 : decode cX1_insert 54 = .ok (.return_, 1) := by decide +kernel
theorem dX1_insert_55 : decode cX1_insert 55 = .ok (.aload_n 0, 1) := by decide +kernel
theorem dX1_insert_56 : decode cX1_insert 56 = .ok (.getfield 37, 3) := by decide +kernel
theorem dX1_insert_59 : decode cX1_insert 59 = .ok (.istore 9, 2) := by decide +kernel
theorem dX1_insert_61 : decode cX1_insert 61 = .ok (.iload 9, 2) := by decide +kernel
theorem dX1_insert_63 : decode cX1_insert 63 = .ok (.iload 7, 2) := by decide +kernel
theorem dX1_insert_65 : decode cX1_insert 65 = .ok (.if_icmp .le 57, 3) := by decide +kernel
theorem dX1_insert_68 : decode cX1_insert 68 = .ok (.aload_n 0, 1) := by decide +kernel
theorem dX1_insert_69 : decode cX1_insert 69 = .ok (.getfield 9, 3) := by decide +kernel
theorem dX1_insert_72 : decode cX1_insert 72 = .ok (.iload 9, 2) := by decide +kernel
theorem dX1_insert_74 : decode cX1_insert 74 = .ok (.aload_n 0, 1) := by decide +kernel
theorem dX1_insert_75 : decode cX1_insert 75 = .ok (.getfield 9, 3) := by decide +kernel
theorem dX1_insert_78 : decode cX1_insert 78 = .ok (.iload 9, 2) := by decide +kernel
theorem dX1_insert_80 : decode cX1_insert 80 = .ok (.iconst 1, 1) := by decide +kernel
theorem dX1_insert_81 : decode cX1_insert 81 = .ok (.isub, 1) := by decide +kernel
theorem dX1_insert_82 : decode cX1_insert 82 = .ok (.laload, 1) := by decide +kernel
theorem dX1_insert_83 : decode cX1_insert 83 = .ok (.lastore, 1) := by decide +kernel
theorem dX1_insert_84 : decode cX1_insert 84 = .ok (.aload_n 0, 1) := by decide +kernel
theorem dX1_insert_85 : decode cX1_insert 85 = .ok (.getfield 15, 3) := by decide +kernel
theorem dX1_insert_88 : decode cX1_insert 88 = .ok (.iload 9, 2) := by decide +kernel
theorem dX1_insert_90 : decode cX1_insert 90 = .ok (.aload_n 0, 1) := by decide +kernel
theorem dX1_insert_91 : decode cX1_insert 91 = .ok (.getfield 15, 3) := by decide +kernel
theorem dX1_insert_94 : decode cX1_insert 94 = .ok (.iload 9, 2) := by decide +kernel
theorem dX1_insert_96 : decode cX1_insert 96 = .ok (.iconst 1, 1) := by decide +kernel
theorem dX1_insert_97 : decode cX1_insert 97 = .ok (.isub, 1) := by decide +kernel
theorem dX1_insert_98 : decode cX1_insert 98 = .ok (.laload, 1) := by decide +kernel
theorem dX1_insert_99 : decode cX1_insert 99 = .ok (.lastore, 1) := by decide +kernel
theorem dX1_insert_100 : decode cX1_insert 100 = .ok (.aload_n 0, 1) := by decide +kernel
theorem dX1_insert_101 : decode cX1_insert 101 = .ok (.getfield 18, 3) := by decide +kernel
theorem dX1_insert_104 : decode cX1_insert 104 = .ok (.iload 9, 2) := by decide +kernel
theorem dX1_insert_106 : decode cX1_insert 106 = .ok (.aload_n 0, 1) := by decide +kernel
theorem dX1_insert_107 : decode cX1_insert 107 = .ok (.getfield 18, 3) := by decide +kernel
theorem dX1_insert_110 : decode cX1_insert 110 = .ok (.iload 9, 2) := by decide +kernel
theorem dX1_insert_112 : decode cX1_insert 112 = .ok (.iconst 1, 1) := by decide +kernel
theorem dX1_insert_113 : decode cX1_insert 113 = .ok (.isub, 1) := by decide +kernel
theorem dX1_insert_114 : decode cX1_insert 114 = .ok (.laload, 1) := by decide +kernel
theorem dX1_insert_115 : decode cX1_insert 115 = .ok (.lastore, 1) := by decide +kernel
theorem dX1_insert_116 : decode cX1_insert 116 = .ok (.iinc 9 (-1), 3) := by decide +kernel
theorem dX1_insert_119 : decode cX1_insert 119 = .ok (.goto (-58), 3) := by decide +kernel
theorem dX1_insert_122 : decode cX1_insert 122 = .ok (.aload_n 0, 1) := by decide +kernel
theorem dX1_insert_123 : decode cX1_insert 123 = .ok (.getfield 9, 3) := by decide +kernel
theorem dX1_insert_126 : decode cX1_insert 126 = .ok (.iload 7, 2) := by decide +kernel
theorem dX1_insert_128 : decode cX1_insert 128 = .ok (.lload_n 1, 1) := by decide +kernel
theorem dX1_insert_129 : decode cX1_insert 129 = .ok (.lastore, 1) := by decide +kernel
theorem dX1_insert_130 : decode cX1_insert 130 = .ok (.aload_n 0, 1) := by decide +kernel
theorem dX1_insert_131 : decode cX1_insert 131 = .ok (.getfield 15, 3) := by decide +kernel
theorem dX1_insert_134 : decode cX1_insert 134 = .ok (.iload 7, 2) := by decide +kernel
theorem dX1_insert_136 : decode cX1_insert 136 = .ok (.lload_n 3, 1) := by decide +kernel
theorem dX1_insert_137 : decode cX1_insert 137 = .ok (.lastore, 1) := by decide +kernel
theorem dX1_insert_138 : decode cX1_insert 138 = .ok (.aload_n 0, 1) := by decide +kernel
theorem dX1_insert_139 : decode cX1_insert 139 = .ok (.getfield 18, 3) := by decide +kernel
theorem dX1_insert_142 : decode cX1_insert 142 = .ok (.iload 7, 2) := by decide +kernel
theorem dX1_insert_144 : decode cX1_insert 144 = .ok (.lload 5, 2) := by decide +kernel
theorem dX1_insert_146 : decode cX1_insert 146 = .ok (.lastore, 1) := by decide +kernel
theorem dX1_insert_147 : decode cX1_insert 147 = .ok (.aload_n 0, 1) := by decide +kernel
theorem dX1_insert_148 : decode cX1_insert 148 = .ok (.dup, 1) := by decide +kernel
theorem dX1_insert_149 : decode cX1_insert 149 = .ok (.getfield 37, 3) := by decide +kernel
theorem dX1_insert_152 : decode cX1_insert 152 = .ok (.iconst 1, 1) := by decide +kernel
theorem dX1_insert_153 : decode cX1_insert 153 = .ok (.iadd, 1) := by decide +kernel
theorem dX1_insert_154 : decode cX1_insert 154 = .ok (.putfield 37, 3) := by decide +kernel
theorem dX1_insert_157 : decode cX1_insert 157 = .ok (.return_, 1) := by decide +kernel
theorem dX1_placeOf_0 : decode cX1_placeOf 0 = .ok (.iconst 0, 1) := by decide +kernel
theorem dX1_placeOf_1 : decode cX1_placeOf 1 = .ok (.istore 7, 2) := by decide +kernel
theorem dX1_placeOf_3 : decode cX1_placeOf 3 = .ok (.aload_n 0, 1) := by decide +kernel
theorem dX1_placeOf_4 : decode cX1_placeOf 4 = .ok (.getfield 37, 3) := by decide +kernel
theorem dX1_placeOf_7 : decode cX1_placeOf 7 = .ok (.istore 8, 2) := by decide +kernel
theorem dX1_placeOf_9 : decode cX1_placeOf 9 = .ok (.iconst 0, 1) := by decide +kernel
theorem dX1_placeOf_10 : decode cX1_placeOf 10 = .ok (.istore 9, 2) := by decide +kernel
theorem dX1_placeOf_12 : decode cX1_placeOf 12 = .ok (.iload 9, 2) := by decide +kernel
theorem dX1_placeOf_14 : decode cX1_placeOf 14 = .ok (.sipush 128, 3) := by decide +kernel
theorem dX1_placeOf_17 : decode cX1_placeOf 17 = .ok (.if_icmp .ge 51, 3) := by decide +kernel
theorem dX1_placeOf_20 : decode cX1_placeOf 20 = .ok (.iload 7, 2) := by decide +kernel
theorem dX1_placeOf_22 : decode cX1_placeOf 22 = .ok (.iload 8, 2) := by decide +kernel
theorem dX1_placeOf_24 : decode cX1_placeOf 24 = .ok (.if_icmp .ge 44, 3) := by decide +kernel
theorem dX1_placeOf_27 : decode cX1_placeOf 27 = .ok (.iload 7, 2) := by decide +kernel
theorem dX1_placeOf_29 : decode cX1_placeOf 29 = .ok (.iload 8, 2) := by decide +kernel
theorem dX1_placeOf_31 : decode cX1_placeOf 31 = .ok (.iadd, 1) := by decide +kernel
theorem dX1_placeOf_32 : decode cX1_placeOf 32 = .ok (.iconst 1, 1) := by decide +kernel
theorem dX1_placeOf_33 : decode cX1_placeOf 33 = .ok (.ishr, 1) := by decide +kernel
theorem dX1_placeOf_34 : decode cX1_placeOf 34 = .ok (.istore 10, 2) := by decide +kernel
theorem dX1_placeOf_36 : decode cX1_placeOf 36 = .ok (.aload_n 0, 1) := by decide +kernel
theorem dX1_placeOf_37 : decode cX1_placeOf 37 = .ok (.iload 10, 2) := by decide +kernel
theorem dX1_placeOf_39 : decode cX1_placeOf 39 = .ok (.lload_n 1, 1) := by decide +kernel
theorem dX1_placeOf_40 : decode cX1_placeOf 40 = .ok (.lload_n 3, 1) := by decide +kernel
theorem dX1_placeOf_41 : decode cX1_placeOf 41 = .ok (.lload 5, 2) := by decide +kernel
theorem dX1_placeOf_43 : decode cX1_placeOf 43 = .ok (.invokevirtual 51, 3) := by decide +kernel
theorem dX1_placeOf_46 : decode cX1_placeOf 46 = .ok (.ifCond .ge 12, 3) := by decide +kernel
theorem dX1_placeOf_49 : decode cX1_placeOf 49 = .ok (.iload 10, 2) := by decide +kernel
theorem dX1_placeOf_51 : decode cX1_placeOf 51 = .ok (.iconst 1, 1) := by decide +kernel
theorem dX1_placeOf_52 : decode cX1_placeOf 52 = .ok (.iadd, 1) := by decide +kernel
theorem dX1_placeOf_53 : decode cX1_placeOf 53 = .ok (.istore 7, 2) := by decide +kernel
theorem dX1_placeOf_55 : decode cX1_placeOf 55 = .ok (.goto 7, 3) := by decide +kernel
theorem dX1_placeOf_58 : decode cX1_placeOf 58 = .ok (.iload 10, 2) := by decide +kernel
theorem dX1_placeOf_60 : decode cX1_placeOf 60 = .ok (.istore 8, 2) := by decide +kernel
theorem dX1_placeOf_62 : decode cX1_placeOf 62 = .ok (.iinc 9 1, 3) := by decide +kernel
theorem dX1_placeOf_65 : decode cX1_placeOf 65 = .ok (.goto (-53), 3) := by decide +kernel
theorem dX1_placeOf_68 : decode cX1_placeOf 68 = .ok (.iload 7, 2) := by decide +kernel
theorem dX1_placeOf_70 : decode cX1_placeOf 70 = .ok (.ireturn, 1) := by decide +kernel
theorem dX1_compare_0 : decode cX1_compare 0 = .ok (.aload_n 0, 1) := by decide +kernel
theorem dX1_compare_1 : decode cX1_compare 1 = .ok (.getfield 9, 3) := by decide +kernel
theorem dX1_compare_4 : decode cX1_compare 4 = .ok (.iload_n 1, 1) := by decide +kernel
theorem dX1_compare_5 : decode cX1_compare 5 = .ok (.laload, 1) := by decide +kernel
theorem dX1_compare_6 : decode cX1_compare 6 = .ok (.lload 6, 2) := by decide +kernel
theorem dX1_compare_8 : decode cX1_compare 8 = .ok (.lmul, 1) := by decide +kernel
theorem dX1_compare_9 : decode cX1_compare 9 = .ok (.lload_n 2, 1) := by decide +kernel
theorem dX1_compare_10 : decode cX1_compare 10 = .ok (.aload_n 0, 1) := by decide +kernel
theorem dX1_compare_11 : decode cX1_compare 11 = .ok (.getfield 18, 3) := by decide +kernel
theorem dX1_compare_14 : decode cX1_compare 14 = .ok (.iload_n 1, 1) := by decide +kernel
theorem dX1_compare_15 : decode cX1_compare 15 = .ok (.laload, 1) := by decide +kernel
theorem dX1_compare_16 : decode cX1_compare 16 = .ok (.lmul, 1) := by decide +kernel
theorem dX1_compare_17 : decode cX1_compare 17 = .ok (.invokestatic 55, 3) := by decide +kernel
theorem dX1_compare_20 : decode cX1_compare 20 = .ok (.istore 8, 2) := by decide +kernel
theorem dX1_compare_22 : decode cX1_compare 22 = .ok (.iload 8, 2) := by decide +kernel
theorem dX1_compare_24 : decode cX1_compare 24 = .ok (.ifCond .eq 8, 3) := by decide +kernel
theorem dX1_compare_27 : decode cX1_compare 27 = .ok (.iload 8, 2) := by decide +kernel
theorem dX1_compare_29 : decode cX1_compare 29 = .ok (.goto 24, 3) := by decide +kernel
theorem dX1_compare_32 : decode cX1_compare 32 = .ok (.aload_n 0, 1) := by decide +kernel
theorem dX1_compare_33 : decode cX1_compare 33 = .ok (.getfield 15, 3) := by decide +kernel
theorem dX1_compare_36 : decode cX1_compare 36 = .ok (.iload_n 1, 1) := by decide +kernel
theorem dX1_compare_37 : decode cX1_compare 37 = .ok (.laload, 1) := by decide +kernel
theorem dX1_compare_38 : decode cX1_compare 38 = .ok (.lload 6, 2) := by decide +kernel
theorem dX1_compare_40 : decode cX1_compare 40 = .ok (.lmul, 1) := by decide +kernel
theorem dX1_compare_41 : decode cX1_compare 41 = .ok (.lload 4, 2) := by decide +kernel
theorem dX1_compare_43 : decode cX1_compare 43 = .ok (.aload_n 0, 1) := by decide +kernel
theorem dX1_compare_44 : decode cX1_compare 44 = .ok (.getfield 18, 3) := by decide +kernel
theorem dX1_compare_47 : decode cX1_compare 47 = .ok (.iload_n 1, 1) := by decide +kernel
theorem dX1_compare_48 : decode cX1_compare 48 = .ok (.laload, 1) := by decide +kernel
theorem dX1_compare_49 : decode cX1_compare 49 = .ok (.lmul, 1) := by decide +kernel
theorem dX1_compare_50 : decode cX1_compare 50 = .ok (.invokestatic 55, 3) := by decide +kernel
theorem dX1_compare_53 : decode cX1_compare 53 = .ok (.ireturn, 1) := by decide +kernel
theorem dX1_gather_0 : decode cX1_gather 0 = .ok (.aload_n 0, 1) := by decide +kernel
theorem dX1_gather_1 : decode cX1_gather 1 = .ok (.aload_n 1, 1) := by decide +kernel
theorem dX1_gather_2 : decode cX1_gather 2 = .ok (.getfield 60, 3) := by decide +kernel
theorem dX1_gather_5 : decode cX1_gather 5 = .ok (.putfield 44, 3) := by decide +kernel
theorem dX1_gather_8 : decode cX1_gather 8 = .ok (.iconst 0, 1) := by decide +kernel
theorem dX1_gather_9 : decode cX1_gather 9 = .ok (.istore_n 3, 1) := by decide +kernel
theorem dX1_gather_10 : decode cX1_gather 10 = .ok (.iload_n 3, 1) := by decide +kernel
theorem dX1_gather_11 : decode cX1_gather 11 = .ok (.aload_n 0, 1) := by decide +kernel
theorem dX1_gather_12 : decode cX1_gather 12 = .ok (.getfield 44, 3) := by decide +kernel
theorem dX1_gather_15 : decode cX1_gather 15 = .ok (.if_icmp .ge 59, 3) := by decide +kernel
theorem dX1_gather_18 : decode cX1_gather 18 = .ok (.aload_n 0, 1) := by decide +kernel
theorem dX1_gather_19 : decode cX1_gather 19 = .ok (.getfield 31, 3) := by decide +kernel
theorem dX1_gather_22 : decode cX1_gather 22 = .ok (.iload_n 3, 1) := by decide +kernel
theorem dX1_gather_23 : decode cX1_gather 23 = .ok (.aload_n 0, 1) := by decide +kernel
theorem dX1_gather_24 : decode cX1_gather 24 = .ok (.aload_n 1, 1) := by decide +kernel
theorem dX1_gather_25 : decode cX1_gather 25 = .ok (.getfield 63, 3) := by decide +kernel
theorem dX1_gather_28 : decode cX1_gather 28 = .ok (.iload_n 3, 1) := by decide +kernel
theorem dX1_gather_29 : decode cX1_gather 29 = .ok (.iaload, 1) := by decide +kernel
theorem dX1_gather_30 : decode cX1_gather 30 = .ok (.i2l, 1) := by decide +kernel
theorem dX1_gather_31 : decode cX1_gather 31 = .ok (.aload_n 1, 1) := by decide +kernel
theorem dX1_gather_32 : decode cX1_gather 32 = .ok (.getfield 66, 3) := by decide +kernel
theorem dX1_gather_35 : decode cX1_gather 35 = .ok (.iload_n 3, 1) := by decide +kernel
theorem dX1_gather_36 : decode cX1_gather 36 = .ok (.iaload, 1) := by decide +kernel
theorem dX1_gather_37 : decode cX1_gather 37 = .ok (.i2l, 1) := by decide +kernel
theorem dX1_gather_38 : decode cX1_gather 38 = .ok (.lconst 1, 1) := by decide +kernel
theorem dX1_gather_39 : decode cX1_gather 39 = .ok (.invokevirtual 47, 3) := by decide +kernel
theorem dX1_gather_42 : decode cX1_gather 42 = .ok (.iastore, 1) := by decide +kernel
theorem dX1_gather_43 : decode cX1_gather 43 = .ok (.aload_n 0, 1) := by decide +kernel
theorem dX1_gather_44 : decode cX1_gather 44 = .ok (.getfield 34, 3) := by decide +kernel
theorem dX1_gather_47 : decode cX1_gather 47 = .ok (.iload_n 3, 1) := by decide +kernel
theorem dX1_gather_48 : decode cX1_gather 48 = .ok (.aload_n 0, 1) := by decide +kernel
theorem dX1_gather_49 : decode cX1_gather 49 = .ok (.aload_n 1, 1) := by decide +kernel
theorem dX1_gather_50 : decode cX1_gather 50 = .ok (.getfield 69, 3) := by decide +kernel
theorem dX1_gather_53 : decode cX1_gather 53 = .ok (.iload_n 3, 1) := by decide +kernel
theorem dX1_gather_54 : decode cX1_gather 54 = .ok (.iaload, 1) := by decide +kernel
theorem dX1_gather_55 : decode cX1_gather 55 = .ok (.i2l, 1) := by decide +kernel
theorem dX1_gather_56 : decode cX1_gather 56 = .ok (.aload_n 1, 1) := by decide +kernel
theorem dX1_gather_57 : decode cX1_gather 57 = .ok (.getfield 72, 3) := by decide +kernel
theorem dX1_gather_60 : decode cX1_gather 60 = .ok (.iload_n 3, 1) := by decide +kernel
theorem dX1_gather_61 : decode cX1_gather 61 = .ok (.iaload, 1) := by decide +kernel
theorem dX1_gather_62 : decode cX1_gather 62 = .ok (.i2l, 1) := by decide +kernel
theorem dX1_gather_63 : decode cX1_gather 63 = .ok (.lconst 1, 1) := by decide +kernel
theorem dX1_gather_64 : decode cX1_gather 64 = .ok (.invokevirtual 47, 3) := by decide +kernel
theorem dX1_gather_67 : decode cX1_gather 67 = .ok (.iastore, 1) := by decide +kernel
theorem dX1_gather_68 : decode cX1_gather 68 = .ok (.iinc 3 1, 3) := by decide +kernel
theorem dX1_gather_71 : decode cX1_gather 71 = .ok (.goto (-61), 3) := by decide +kernel
theorem dX1_gather_74 : decode cX1_gather 74 = .ok (.iconst 0, 1) := by decide +kernel
theorem dX1_gather_75 : decode cX1_gather 75 = .ok (.istore_n 3, 1) := by decide +kernel
theorem dX1_gather_76 : decode cX1_gather 76 = .ok (.iload_n 3, 1) := by decide +kernel
theorem dX1_gather_77 : decode cX1_gather 77 = .ok (.aload_n 0, 1) := by decide +kernel
theorem dX1_gather_78 : decode cX1_gather 78 = .ok (.getfield 37, 3) := by decide +kernel
theorem dX1_gather_81 : decode cX1_gather 81 = .ok (.if_icmp .ge 71, 3) := by decide +kernel
theorem dX1_gather_84 : decode cX1_gather 84 = .ok (.aload_n 0, 1) := by decide +kernel
theorem dX1_gather_85 : decode cX1_gather 85 = .ok (.getfield 21, 3) := by decide +kernel
theorem dX1_gather_88 : decode cX1_gather 88 = .ok (.iload_n 3, 1) := by decide +kernel
theorem dX1_gather_89 : decode cX1_gather 89 = .ok (.aload_n 0, 1) := by decide +kernel
theorem dX1_gather_90 : decode cX1_gather 90 = .ok (.aload_n 1, 1) := by decide +kernel
theorem dX1_gather_91 : decode cX1_gather 91 = .ok (.iload_n 3, 1) := by decide +kernel
theorem dX1_gather_92 : decode cX1_gather 92 = .ok (.invokevirtual 75, 3) := by decide +kernel
theorem dX1_gather_95 : decode cX1_gather 95 = .ok (.iastore, 1) := by decide +kernel
theorem dX1_gather_96 : decode cX1_gather 96 = .ok (.aload_n 0, 1) := by decide +kernel
theorem dX1_gather_97 : decode cX1_gather 97 = .ok (.getfield 25, 3) := by decide +kernel
theorem dX1_gather_100 : decode cX1_gather 100 = .ok (.iload_n 3, 1) := by decide +kernel
theorem dX1_gather_101 : decode cX1_gather 101 = .ok (.iconst (-1), 1) := by decide +kernel
theorem dX1_gather_102 : decode cX1_gather 102 = .ok (.iastore, 1) := by decide +kernel
theorem dX1_gather_103 : decode cX1_gather 103 = .ok (.aload_n 2, 1) := by decide +kernel
theorem dX1_gather_104 : decode cX1_gather 104 = .ok (.aload_n 0, 1) := by decide +kernel
theorem dX1_gather_105 : decode cX1_gather 105 = .ok (.getfield 21, 3) := by decide +kernel
theorem dX1_gather_108 : decode cX1_gather 108 = .ok (.iload_n 3, 1) := by decide +kernel
theorem dX1_gather_109 : decode cX1_gather 109 = .ok (.iaload, 1) := by decide +kernel
theorem dX1_gather_110 : decode cX1_gather 110 = .ok (.invokevirtual 79, 3) := by decide +kernel
theorem dX1_gather_113 : decode cX1_gather 113 = .ok (.ifCond .le 33, 3) := by decide +kernel
theorem dX1_gather_116 : decode cX1_gather 116 = .ok (.aload_n 0, 1) := by decide +kernel
theorem dX1_gather_117 : decode cX1_gather 117 = .ok (.getfield 25, 3) := by decide +kernel
theorem dX1_gather_120 : decode cX1_gather 120 = .ok (.iload_n 3, 1) := by decide +kernel
theorem dX1_gather_121 : decode cX1_gather 121 = .ok (.aload_n 0, 1) := by decide +kernel
theorem dX1_gather_122 : decode cX1_gather 122 = .ok (.getfield 41, 3) := by decide +kernel
theorem dX1_gather_125 : decode cX1_gather 125 = .ok (.iastore, 1) := by decide +kernel
theorem dX1_gather_126 : decode cX1_gather 126 = .ok (.aload_n 0, 1) := by decide +kernel
theorem dX1_gather_127 : decode cX1_gather 127 = .ok (.getfield 28, 3) := by decide +kernel
theorem dX1_gather_130 : decode cX1_gather 130 = .ok (.aload_n 0, 1) := by decide +kernel
theorem dX1_gather_131 : decode cX1_gather 131 = .ok (.getfield 41, 3) := by decide +kernel
theorem dX1_gather_134 : decode cX1_gather 134 = .ok (.iload_n 3, 1) := by decide +kernel
theorem dX1_gather_135 : decode cX1_gather 135 = .ok (.iastore, 1) := by decide +kernel
theorem dX1_gather_136 : decode cX1_gather 136 = .ok (.aload_n 0, 1) := by decide +kernel
theorem dX1_gather_137 : decode cX1_gather 137 = .ok (.dup, 1) := by decide +kernel
theorem dX1_gather_138 : decode cX1_gather 138 = .ok (.getfield 41, 3) := by decide +kernel
theorem dX1_gather_141 : decode cX1_gather 141 = .ok (.iconst 1, 1) := by decide +kernel
theorem dX1_gather_142 : decode cX1_gather 142 = .ok (.iadd, 1) := by decide +kernel
theorem dX1_gather_143 : decode cX1_gather 143 = .ok (.putfield 41, 3) := by decide +kernel
theorem dX1_gather_146 : decode cX1_gather 146 = .ok (.iinc 3 1, 3) := by decide +kernel
theorem dX1_gather_149 : decode cX1_gather 149 = .ok (.goto (-73), 3) := by decide +kernel
theorem dX1_gather_152 : decode cX1_gather 152 = .ok (.return_, 1) := by decide +kernel
theorem dX1_bundleOf_0 : decode cX1_bundleOf 0 = .ok (.iconst 0, 1) := by decide +kernel
theorem dX1_bundleOf_1 : decode cX1_bundleOf 1 = .ok (.istore_n 3, 1) := by decide +kernel
theorem dX1_bundleOf_2 : decode cX1_bundleOf 2 = .ok (.iconst 0, 1) := by decide +kernel
theorem dX1_bundleOf_3 : decode cX1_bundleOf 3 = .ok (.istore 4, 2) := by decide +kernel
theorem dX1_bundleOf_5 : decode cX1_bundleOf 5 = .ok (.iload 4, 2) := by decide +kernel
theorem dX1_bundleOf_7 : decode cX1_bundleOf 7 = .ok (.aload_n 0, 1) := by decide +kernel
theorem dX1_bundleOf_8 : decode cX1_bundleOf 8 = .ok (.getfield 44, 3) := by decide +kernel
theorem dX1_bundleOf_11 : decode cX1_bundleOf 11 = .ok (.if_icmp .ge 51, 3) := by decide +kernel
theorem dX1_bundleOf_14 : decode cX1_bundleOf 14 = .ok (.aload_n 0, 1) := by decide +kernel
theorem dX1_bundleOf_15 : decode cX1_bundleOf 15 = .ok (.getfield 31, 3) := by decide +kernel
theorem dX1_bundleOf_18 : decode cX1_bundleOf 18 = .ok (.iload 4, 2) := by decide +kernel
theorem dX1_bundleOf_20 : decode cX1_bundleOf 20 = .ok (.iaload, 1) := by decide +kernel
theorem dX1_bundleOf_21 : decode cX1_bundleOf 21 = .ok (.iload_n 2, 1) := by decide +kernel
theorem dX1_bundleOf_22 : decode cX1_bundleOf 22 = .ok (.if_icmp .gt 34, 3) := by decide +kernel
theorem dX1_bundleOf_25 : decode cX1_bundleOf 25 = .ok (.iload_n 2, 1) := by decide +kernel
theorem dX1_bundleOf_26 : decode cX1_bundleOf 26 = .ok (.aload_n 0, 1) := by decide +kernel
theorem dX1_bundleOf_27 : decode cX1_bundleOf 27 = .ok (.getfield 34, 3) := by decide +kernel
theorem dX1_bundleOf_30 : decode cX1_bundleOf 30 = .ok (.iload 4, 2) := by decide +kernel
theorem dX1_bundleOf_32 : decode cX1_bundleOf 32 = .ok (.iaload, 1) := by decide +kernel
theorem dX1_bundleOf_33 : decode cX1_bundleOf 33 = .ok (.if_icmp .gt 23, 3) := by decide +kernel
theorem dX1_bundleOf_36 : decode cX1_bundleOf 36 = .ok (.aload_n 0, 1) := by decide +kernel
theorem dX1_bundleOf_37 : decode cX1_bundleOf 37 = .ok (.aload_n 1, 1) := by decide +kernel
theorem dX1_bundleOf_38 : decode cX1_bundleOf 38 = .ok (.iload 4, 2) := by decide +kernel
theorem dX1_bundleOf_40 : decode cX1_bundleOf 40 = .ok (.iload_n 2, 1) := by decide +kernel
theorem dX1_bundleOf_41 : decode cX1_bundleOf 41 = .ok (.invokevirtual 85, 3) := by decide +kernel
theorem dX1_bundleOf_44 : decode cX1_bundleOf 44 = .ok (.lconst 0, 1) := by decide +kernel
theorem dX1_bundleOf_45 : decode cX1_bundleOf 45 = .ok (.lcmp, 1) := by decide +kernel
theorem dX1_bundleOf_46 : decode cX1_bundleOf 46 = .ok (.ifCond .ne 10, 3) := by decide +kernel
theorem dX1_bundleOf_49 : decode cX1_bundleOf 49 = .ok (.iload_n 3, 1) := by decide +kernel
theorem dX1_bundleOf_50 : decode cX1_bundleOf 50 = .ok (.iconst 1, 1) := by decide +kernel
theorem dX1_bundleOf_51 : decode cX1_bundleOf 51 = .ok (.iload 4, 2) := by decide +kernel
theorem dX1_bundleOf_53 : decode cX1_bundleOf 53 = .ok (.ishl, 1) := by decide +kernel
theorem dX1_bundleOf_54 : decode cX1_bundleOf 54 = .ok (.ior, 1) := by decide +kernel
theorem dX1_bundleOf_55 : decode cX1_bundleOf 55 = .ok (.istore_n 3, 1) := by decide +kernel
theorem dX1_bundleOf_56 : decode cX1_bundleOf 56 = .ok (.iinc 4 1, 3) := by decide +kernel
theorem dX1_bundleOf_59 : decode cX1_bundleOf 59 = .ok (.goto (-54), 3) := by decide +kernel
theorem dX1_bundleOf_62 : decode cX1_bundleOf 62 = .ok (.iload_n 3, 1) := by decide +kernel
theorem dX1_bundleOf_63 : decode cX1_bundleOf 63 = .ok (.ireturn, 1) := by decide +kernel
theorem dX1_heightOf_0 : decode cX1_heightOf 0 = .ok (.aload_n 1, 1) := by decide +kernel
theorem dX1_heightOf_1 : decode cX1_heightOf 1 = .ok (.iload_n 2, 1) := by decide +kernel
theorem dX1_heightOf_2 : decode cX1_heightOf 2 = .ok (.invokevirtual 89, 3) := by decide +kernel
theorem dX1_heightOf_5 : decode cX1_heightOf 5 = .ok (.aload_n 0, 1) := by decide +kernel
theorem dX1_heightOf_6 : decode cX1_heightOf 6 = .ok (.getfield 9, 3) := by decide +kernel
theorem dX1_heightOf_9 : decode cX1_heightOf 9 = .ok (.iload_n 3, 1) := by decide +kernel
theorem dX1_heightOf_10 : decode cX1_heightOf 10 = .ok (.laload, 1) := by decide +kernel
theorem dX1_heightOf_11 : decode cX1_heightOf 11 = .ok (.aload_n 1, 1) := by decide +kernel
theorem dX1_heightOf_12 : decode cX1_heightOf 12 = .ok (.getfield 63, 3) := by decide +kernel
theorem dX1_heightOf_15 : decode cX1_heightOf 15 = .ok (.iload_n 2, 1) := by decide +kernel
theorem dX1_heightOf_16 : decode cX1_heightOf 16 = .ok (.iaload, 1) := by decide +kernel
theorem dX1_heightOf_17 : decode cX1_heightOf 17 = .ok (.i2l, 1) := by decide +kernel
theorem dX1_heightOf_18 : decode cX1_heightOf 18 = .ok (.aload_n 0, 1) := by decide +kernel
theorem dX1_heightOf_19 : decode cX1_heightOf 19 = .ok (.getfield 18, 3) := by decide +kernel
theorem dX1_heightOf_22 : decode cX1_heightOf 22 = .ok (.iload_n 3, 1) := by decide +kernel
theorem dX1_heightOf_23 : decode cX1_heightOf 23 = .ok (.laload, 1) := by decide +kernel
theorem dX1_heightOf_24 : decode cX1_heightOf 24 = .ok (.lmul, 1) := by decide +kernel
theorem dX1_heightOf_25 : decode cX1_heightOf 25 = .ok (.lsub, 1) := by decide +kernel
theorem dX1_heightOf_26 : decode cX1_heightOf 26 = .ok (.lmul, 1) := by decide +kernel
theorem dX1_heightOf_27 : decode cX1_heightOf 27 = .ok (.aload_n 1, 1) := by decide +kernel
theorem dX1_heightOf_28 : decode cX1_heightOf 28 = .ok (.iload_n 2, 1) := by decide +kernel
theorem dX1_heightOf_29 : decode cX1_heightOf 29 = .ok (.invokevirtual 93, 3) := by decide +kernel
theorem dX1_heightOf_32 : decode cX1_heightOf 32 = .ok (.aload_n 0, 1) := by decide +kernel
theorem dX1_heightOf_33 : decode cX1_heightOf 33 = .ok (.getfield 15, 3) := by decide +kernel
theorem dX1_heightOf_36 : decode cX1_heightOf 36 = .ok (.iload_n 3, 1) := by decide +kernel
theorem dX1_heightOf_37 : decode cX1_heightOf 37 = .ok (.laload, 1) := by decide +kernel
theorem dX1_heightOf_38 : decode cX1_heightOf 38 = .ok (.aload_n 1, 1) := by decide +kernel
theorem dX1_heightOf_39 : decode cX1_heightOf 39 = .ok (.getfield 66, 3) := by decide +kernel
theorem dX1_heightOf_42 : decode cX1_heightOf 42 = .ok (.iload_n 2, 1) := by decide +kernel
theorem dX1_heightOf_43 : decode cX1_heightOf 43 = .ok (.iaload, 1) := by decide +kernel
theorem dX1_heightOf_44 : decode cX1_heightOf 44 = .ok (.i2l, 1) := by decide +kernel
theorem dX1_heightOf_45 : decode cX1_heightOf 45 = .ok (.aload_n 0, 1) := by decide +kernel
theorem dX1_heightOf_46 : decode cX1_heightOf 46 = .ok (.getfield 18, 3) := by decide +kernel
theorem dX1_heightOf_49 : decode cX1_heightOf 49 = .ok (.iload_n 3, 1) := by decide +kernel
theorem dX1_heightOf_50 : decode cX1_heightOf 50 = .ok (.laload, 1) := by decide +kernel
theorem dX1_heightOf_51 : decode cX1_heightOf 51 = .ok (.lmul, 1) := by decide +kernel
theorem dX1_heightOf_52 : decode cX1_heightOf 52 = .ok (.lsub, 1) := by decide +kernel
theorem dX1_heightOf_53 : decode cX1_heightOf 53 = .ok (.lmul, 1) := by decide +kernel
theorem dX1_heightOf_54 : decode cX1_heightOf 54 = .ok (.lsub, 1) := by decide +kernel
theorem dX1_heightOf_55 : decode cX1_heightOf 55 = .ok (.lreturn, 1) := by decide +kernel
theorem dX1_leftsIn_0 : decode cX1_leftsIn 0 = .ok (.aload_n 0, 1) := by decide +kernel
theorem dX1_leftsIn_1 : decode cX1_leftsIn 1 = .ok (.aload_n 0, 1) := by decide +kernel
theorem dX1_leftsIn_2 : decode cX1_leftsIn 2 = .ok (.getfield 31, 3) := by decide +kernel
theorem dX1_leftsIn_5 : decode cX1_leftsIn 5 = .ok (.iload_n 1, 1) := by decide +kernel
theorem dX1_leftsIn_6 : decode cX1_leftsIn 6 = .ok (.invokevirtual 96, 3) := by decide +kernel
theorem dX1_leftsIn_9 : decode cX1_leftsIn 9 = .ok (.ireturn, 1) := by decide +kernel
theorem dX1_rightsIn_0 : decode cX1_rightsIn 0 = .ok (.aload_n 0, 1) := by decide +kernel
theorem dX1_rightsIn_1 : decode cX1_rightsIn 1 = .ok (.aload_n 0, 1) := by decide +kernel
theorem dX1_rightsIn_2 : decode cX1_rightsIn 2 = .ok (.getfield 34, 3) := by decide +kernel
theorem dX1_rightsIn_5 : decode cX1_rightsIn 5 = .ok (.iload_n 1, 1) := by decide +kernel
theorem dX1_rightsIn_6 : decode cX1_rightsIn 6 = .ok (.invokevirtual 96, 3) := by decide +kernel
theorem dX1_rightsIn_9 : decode cX1_rightsIn 9 = .ok (.ireturn, 1) := by decide +kernel
theorem dX1_endsIn_0 : decode cX1_endsIn 0 = .ok (.iconst 0, 1) := by decide +kernel
theorem dX1_endsIn_1 : decode cX1_endsIn 1 = .ok (.istore_n 3, 1) := by decide +kernel
theorem dX1_endsIn_2 : decode cX1_endsIn 2 = .ok (.iconst 0, 1) := by decide +kernel
theorem dX1_endsIn_3 : decode cX1_endsIn 3 = .ok (.istore 4, 2) := by decide +kernel
theorem dX1_endsIn_5 : decode cX1_endsIn 5 = .ok (.iload 4, 2) := by decide +kernel
theorem dX1_endsIn_7 : decode cX1_endsIn 7 = .ok (.aload_n 0, 1) := by decide +kernel
theorem dX1_endsIn_8 : decode cX1_endsIn 8 = .ok (.getfield 44, 3) := by decide +kernel
theorem dX1_endsIn_11 : decode cX1_endsIn 11 = .ok (.if_icmp .ge 24, 3) := by decide +kernel
theorem dX1_endsIn_14 : decode cX1_endsIn 14 = .ok (.aload_n 1, 1) := by decide +kernel
theorem dX1_endsIn_15 : decode cX1_endsIn 15 = .ok (.iload 4, 2) := by decide +kernel
theorem dX1_endsIn_17 : decode cX1_endsIn 17 = .ok (.iaload, 1) := by decide +kernel
theorem dX1_endsIn_18 : decode cX1_endsIn 18 = .ok (.iload_n 2, 1) := by decide +kernel
theorem dX1_endsIn_19 : decode cX1_endsIn 19 = .ok (.if_icmp .ne 10, 3) := by decide +kernel
theorem dX1_endsIn_22 : decode cX1_endsIn 22 = .ok (.iload_n 3, 1) := by decide +kernel
theorem dX1_endsIn_23 : decode cX1_endsIn 23 = .ok (.iconst 1, 1) := by decide +kernel
theorem dX1_endsIn_24 : decode cX1_endsIn 24 = .ok (.iload 4, 2) := by decide +kernel
theorem dX1_endsIn_26 : decode cX1_endsIn 26 = .ok (.ishl, 1) := by decide +kernel
theorem dX1_endsIn_27 : decode cX1_endsIn 27 = .ok (.ior, 1) := by decide +kernel
theorem dX1_endsIn_28 : decode cX1_endsIn 28 = .ok (.istore_n 3, 1) := by decide +kernel
theorem dX1_endsIn_29 : decode cX1_endsIn 29 = .ok (.iinc 4 1, 3) := by decide +kernel
theorem dX1_endsIn_32 : decode cX1_endsIn 32 = .ok (.goto (-27), 3) := by decide +kernel
theorem dX1_endsIn_35 : decode cX1_endsIn 35 = .ok (.iload_n 3, 1) := by decide +kernel
theorem dX1_endsIn_36 : decode cX1_endsIn 36 = .ok (.ireturn, 1) := by decide +kernel
theorem dX1_insidesIn_0 : decode cX1_insidesIn 0 = .ok (.aload_n 0, 1) := by decide +kernel
theorem dX1_insidesIn_1 : decode cX1_insidesIn 1 = .ok (.getfield 21, 3) := by decide +kernel
theorem dX1_insidesIn_4 : decode cX1_insidesIn 4 = .ok (.iload_n 1, 1) := by decide +kernel
theorem dX1_insidesIn_5 : decode cX1_insidesIn 5 = .ok (.iaload, 1) := by decide +kernel
theorem dX1_insidesIn_6 : decode cX1_insidesIn 6 = .ok (.aload_n 0, 1) := by decide +kernel
theorem dX1_insidesIn_7 : decode cX1_insidesIn 7 = .ok (.iload_n 1, 1) := by decide +kernel
theorem dX1_insidesIn_8 : decode cX1_insidesIn 8 = .ok (.invokevirtual 100, 3) := by decide +kernel
theorem dX1_insidesIn_11 : decode cX1_insidesIn 11 = .ok (.iconst (-1), 1) := by decide +kernel
theorem dX1_insidesIn_12 : decode cX1_insidesIn 12 = .ok (.ixor, 1) := by decide +kernel
theorem dX1_insidesIn_13 : decode cX1_insidesIn 13 = .ok (.iand, 1) := by decide +kernel
theorem dX1_insidesIn_14 : decode cX1_insidesIn 14 = .ok (.aload_n 0, 1) := by decide +kernel
theorem dX1_insidesIn_15 : decode cX1_insidesIn 15 = .ok (.iload_n 1, 1) := by decide +kernel
theorem dX1_insidesIn_16 : decode cX1_insidesIn 16 = .ok (.invokevirtual 103, 3) := by decide +kernel
theorem dX1_insidesIn_19 : decode cX1_insidesIn 19 = .ok (.iconst (-1), 1) := by decide +kernel
theorem dX1_insidesIn_20 : decode cX1_insidesIn 20 = .ok (.ixor, 1) := by decide +kernel
theorem dX1_insidesIn_21 : decode cX1_insidesIn 21 = .ok (.iand, 1) := by decide +kernel
theorem dX1_insidesIn_22 : decode cX1_insidesIn 22 = .ok (.ireturn, 1) := by decide +kernel
theorem dX1_aliveBehind_0 : decode cX1_aliveBehind 0 = .ok (.iconst 0, 1) := by decide +kernel
theorem dX1_aliveBehind_1 : decode cX1_aliveBehind 1 = .ok (.istore_n 2, 1) := by decide +kernel
theorem dX1_aliveBehind_2 : decode cX1_aliveBehind 2 = .ok (.iconst 0, 1) := by decide +kernel
theorem dX1_aliveBehind_3 : decode cX1_aliveBehind 3 = .ok (.istore_n 3, 1) := by decide +kernel
theorem dX1_aliveBehind_4 : decode cX1_aliveBehind 4 = .ok (.iload_n 3, 1) := by decide +kernel
theorem dX1_aliveBehind_5 : decode cX1_aliveBehind 5 = .ok (.aload_n 0, 1) := by decide +kernel
theorem dX1_aliveBehind_6 : decode cX1_aliveBehind 6 = .ok (.getfield 44, 3) := by decide +kernel
theorem dX1_aliveBehind_9 : decode cX1_aliveBehind 9 = .ok (.if_icmp .ge 35, 3) := by decide +kernel
theorem dX1_aliveBehind_12 : decode cX1_aliveBehind 12 = .ok (.aload_n 0, 1) := by decide +kernel
theorem dX1_aliveBehind_13 : decode cX1_aliveBehind 13 = .ok (.getfield 31, 3) := by decide +kernel
theorem dX1_aliveBehind_16 : decode cX1_aliveBehind 16 = .ok (.iload_n 3, 1) := by decide +kernel
theorem dX1_aliveBehind_17 : decode cX1_aliveBehind 17 = .ok (.iaload, 1) := by decide +kernel
theorem dX1_aliveBehind_18 : decode cX1_aliveBehind 18 = .ok (.iload_n 1, 1) := by decide +kernel
theorem dX1_aliveBehind_19 : decode cX1_aliveBehind 19 = .ok (.if_icmp .gt 19, 3) := by decide +kernel
theorem dX1_aliveBehind_22 : decode cX1_aliveBehind 22 = .ok (.iload_n 1, 1) := by decide +kernel
theorem dX1_aliveBehind_23 : decode cX1_aliveBehind 23 = .ok (.aload_n 0, 1) := by decide +kernel
theorem dX1_aliveBehind_24 : decode cX1_aliveBehind 24 = .ok (.getfield 34, 3) := by decide +kernel
theorem dX1_aliveBehind_27 : decode cX1_aliveBehind 27 = .ok (.iload_n 3, 1) := by decide +kernel
theorem dX1_aliveBehind_28 : decode cX1_aliveBehind 28 = .ok (.iaload, 1) := by decide +kernel
theorem dX1_aliveBehind_29 : decode cX1_aliveBehind 29 = .ok (.if_icmp .ge 9, 3) := by decide +kernel
theorem dX1_aliveBehind_32 : decode cX1_aliveBehind 32 = .ok (.iload_n 2, 1) := by decide +kernel
theorem dX1_aliveBehind_33 : decode cX1_aliveBehind 33 = .ok (.iconst 1, 1) := by decide +kernel
theorem dX1_aliveBehind_34 : decode cX1_aliveBehind 34 = .ok (.iload_n 3, 1) := by decide +kernel
theorem dX1_aliveBehind_35 : decode cX1_aliveBehind 35 = .ok (.ishl, 1) := by decide +kernel
theorem dX1_aliveBehind_36 : decode cX1_aliveBehind 36 = .ok (.ior, 1) := by decide +kernel
theorem dX1_aliveBehind_37 : decode cX1_aliveBehind 37 = .ok (.istore_n 2, 1) := by decide +kernel
theorem dX1_aliveBehind_38 : decode cX1_aliveBehind 38 = .ok (.iinc 3 1, 3) := by decide +kernel
theorem dX1_aliveBehind_41 : decode cX1_aliveBehind 41 = .ok (.goto (-37), 3) := by decide +kernel
theorem dX1_aliveBehind_44 : decode cX1_aliveBehind 44 = .ok (.iload_n 2, 1) := by decide +kernel
theorem dX1_aliveBehind_45 : decode cX1_aliveBehind 45 = .ok (.ireturn, 1) := by decide +kernel
theorem dX1_isLastOfItsX_0 : decode cX1_isLastOfItsX 0 = .ok (.iload_n 1, 1) := by decide +kernel
theorem dX1_isLastOfItsX_1 : decode cX1_isLastOfItsX 1 = .ok (.iconst 1, 1) := by decide +kernel
theorem dX1_isLastOfItsX_2 : decode cX1_isLastOfItsX 2 = .ok (.iadd, 1) := by decide +kernel
theorem dX1_isLastOfItsX_3 : decode cX1_isLastOfItsX 3 = .ok (.aload_n 0, 1) := by decide +kernel
theorem dX1_isLastOfItsX_4 : decode cX1_isLastOfItsX 4 = .ok (.getfield 37, 3) := by decide +kernel
theorem dX1_isLastOfItsX_7 : decode cX1_isLastOfItsX 7 = .ok (.if_icmp .ge 37, 3) := by decide +kernel
theorem dX1_isLastOfItsX_10 : decode cX1_isLastOfItsX 10 = .ok (.aload_n 0, 1) := by decide +kernel
theorem dX1_isLastOfItsX_11 : decode cX1_isLastOfItsX 11 = .ok (.getfield 9, 3) := by decide +kernel
theorem dX1_isLastOfItsX_14 : decode cX1_isLastOfItsX 14 = .ok (.iload_n 1, 1) := by decide +kernel
theorem dX1_isLastOfItsX_15 : decode cX1_isLastOfItsX 15 = .ok (.laload, 1) := by decide +kernel
theorem dX1_isLastOfItsX_16 : decode cX1_isLastOfItsX 16 = .ok (.aload_n 0, 1) := by decide +kernel
theorem dX1_isLastOfItsX_17 : decode cX1_isLastOfItsX 17 = .ok (.getfield 18, 3) := by decide +kernel
theorem dX1_isLastOfItsX_20 : decode cX1_isLastOfItsX 20 = .ok (.iload_n 1, 1) := by decide +kernel
theorem dX1_isLastOfItsX_21 : decode cX1_isLastOfItsX 21 = .ok (.iconst 1, 1) := by decide +kernel
theorem dX1_isLastOfItsX_22 : decode cX1_isLastOfItsX 22 = .ok (.iadd, 1) := by decide +kernel
theorem dX1_isLastOfItsX_23 : decode cX1_isLastOfItsX 23 = .ok (.laload, 1) := by decide +kernel
theorem dX1_isLastOfItsX_24 : decode cX1_isLastOfItsX 24 = .ok (.lmul, 1) := by decide +kernel
theorem dX1_isLastOfItsX_25 : decode cX1_isLastOfItsX 25 = .ok (.aload_n 0, 1) := by decide +kernel
theorem dX1_isLastOfItsX_26 : decode cX1_isLastOfItsX 26 = .ok (.getfield 9, 3) := by decide +kernel
theorem dX1_isLastOfItsX_29 : decode cX1_isLastOfItsX 29 = .ok (.iload_n 1, 1) := by decide +kernel
theorem dX1_isLastOfItsX_30 : decode cX1_isLastOfItsX 30 = .ok (.iconst 1, 1) := by decide +kernel
theorem dX1_isLastOfItsX_31 : decode cX1_isLastOfItsX 31 = .ok (.iadd, 1) := by decide +kernel
theorem dX1_isLastOfItsX_32 : decode cX1_isLastOfItsX 32 = .ok (.laload, 1) := by decide +kernel
theorem dX1_isLastOfItsX_33 : decode cX1_isLastOfItsX 33 = .ok (.aload_n 0, 1) := by decide +kernel
theorem dX1_isLastOfItsX_34 : decode cX1_isLastOfItsX 34 = .ok (.getfield 18, 3) := by decide +kernel
theorem dX1_isLastOfItsX_37 : decode cX1_isLastOfItsX 37 = .ok (.iload_n 1, 1) := by decide +kernel
theorem dX1_isLastOfItsX_38 : decode cX1_isLastOfItsX 38 = .ok (.laload, 1) := by decide +kernel
theorem dX1_isLastOfItsX_39 : decode cX1_isLastOfItsX 39 = .ok (.lmul, 1) := by decide +kernel
theorem dX1_isLastOfItsX_40 : decode cX1_isLastOfItsX 40 = .ok (.lcmp, 1) := by decide +kernel
theorem dX1_isLastOfItsX_41 : decode cX1_isLastOfItsX 41 = .ok (.ifCond .eq 7, 3) := by decide +kernel
theorem dX1_isLastOfItsX_44 : decode cX1_isLastOfItsX 44 = .ok (.iconst 1, 1) := by decide +kernel
theorem dX1_isLastOfItsX_45 : decode cX1_isLastOfItsX 45 = .ok (.goto 4, 3) := by decide +kernel
theorem dX1_isLastOfItsX_48 : decode cX1_isLastOfItsX 48 = .ok (.iconst 0, 1) := by decide +kernel
theorem dX1_isLastOfItsX_49 : decode cX1_isLastOfItsX 49 = .ok (.ireturn, 1) := by decide +kernel
theorem dX1_eventsOn_0 : decode cX1_eventsOn 0 = .ok (.iconst 0, 1) := by decide +kernel
theorem dX1_eventsOn_1 : decode cX1_eventsOn 1 = .ok (.istore_n 2, 1) := by decide +kernel
theorem dX1_eventsOn_2 : decode cX1_eventsOn 2 = .ok (.iconst 0, 1) := by decide +kernel
theorem dX1_eventsOn_3 : decode cX1_eventsOn 3 = .ok (.istore_n 3, 1) := by decide +kernel
theorem dX1_eventsOn_4 : decode cX1_eventsOn 4 = .ok (.iload_n 3, 1) := by decide +kernel
theorem dX1_eventsOn_5 : decode cX1_eventsOn 5 = .ok (.aload_n 0, 1) := by decide +kernel
theorem dX1_eventsOn_6 : decode cX1_eventsOn 6 = .ok (.getfield 37, 3) := by decide +kernel
theorem dX1_eventsOn_9 : decode cX1_eventsOn 9 = .ok (.if_icmp .ge 25, 3) := by decide +kernel
theorem dX1_eventsOn_12 : decode cX1_eventsOn 12 = .ok (.aload_n 0, 1) := by decide +kernel
theorem dX1_eventsOn_13 : decode cX1_eventsOn 13 = .ok (.getfield 21, 3) := by decide +kernel
theorem dX1_eventsOn_16 : decode cX1_eventsOn 16 = .ok (.iload_n 3, 1) := by decide +kernel
theorem dX1_eventsOn_17 : decode cX1_eventsOn 17 = .ok (.iaload, 1) := by decide +kernel
theorem dX1_eventsOn_18 : decode cX1_eventsOn 18 = .ok (.iload_n 1, 1) := by decide +kernel
theorem dX1_eventsOn_19 : decode cX1_eventsOn 19 = .ok (.invokestatic 106, 3) := by decide +kernel
theorem dX1_eventsOn_22 : decode cX1_eventsOn 22 = .ok (.ifCond .eq 6, 3) := by decide +kernel
theorem dX1_eventsOn_25 : decode cX1_eventsOn 25 = .ok (.iinc 2 1, 3) := by decide +kernel
theorem dX1_eventsOn_28 : decode cX1_eventsOn 28 = .ok (.iinc 3 1, 3) := by decide +kernel
theorem dX1_eventsOn_31 : decode cX1_eventsOn 31 = .ok (.goto (-27), 3) := by decide +kernel
theorem dX1_eventsOn_34 : decode cX1_eventsOn 34 = .ok (.iload_n 2, 1) := by decide +kernel
theorem dX1_eventsOn_35 : decode cX1_eventsOn 35 = .ok (.ireturn, 1) := by decide +kernel
theorem dX1_crossingsOn_0 : decode cX1_crossingsOn 0 = .ok (.iconst 0, 1) := by decide +kernel
theorem dX1_crossingsOn_1 : decode cX1_crossingsOn 1 = .ok (.istore_n 2, 1) := by decide +kernel
theorem dX1_crossingsOn_2 : decode cX1_crossingsOn 2 = .ok (.iconst 0, 1) := by decide +kernel
theorem dX1_crossingsOn_3 : decode cX1_crossingsOn 3 = .ok (.istore_n 3, 1) := by decide +kernel
theorem dX1_crossingsOn_4 : decode cX1_crossingsOn 4 = .ok (.iload_n 3, 1) := by decide +kernel
theorem dX1_crossingsOn_5 : decode cX1_crossingsOn 5 = .ok (.aload_n 0, 1) := by decide +kernel
theorem dX1_crossingsOn_6 : decode cX1_crossingsOn 6 = .ok (.getfield 41, 3) := by decide +kernel
theorem dX1_crossingsOn_9 : decode cX1_crossingsOn 9 = .ok (.if_icmp .ge 30, 3) := by decide +kernel
theorem dX1_crossingsOn_12 : decode cX1_crossingsOn 12 = .ok (.aload_n 0, 1) := by decide +kernel
theorem dX1_crossingsOn_13 : decode cX1_crossingsOn 13 = .ok (.getfield 21, 3) := by decide +kernel
theorem dX1_crossingsOn_16 : decode cX1_crossingsOn 16 = .ok (.aload_n 0, 1) := by decide +kernel
theorem dX1_crossingsOn_17 : decode cX1_crossingsOn 17 = .ok (.getfield 28, 3) := by decide +kernel
theorem dX1_crossingsOn_20 : decode cX1_crossingsOn 20 = .ok (.iload_n 3, 1) := by decide +kernel
theorem dX1_crossingsOn_21 : decode cX1_crossingsOn 21 = .ok (.iaload, 1) := by decide +kernel
theorem dX1_crossingsOn_22 : decode cX1_crossingsOn 22 = .ok (.iaload, 1) := by decide +kernel
theorem dX1_crossingsOn_23 : decode cX1_crossingsOn 23 = .ok (.iload_n 1, 1) := by decide +kernel
theorem dX1_crossingsOn_24 : decode cX1_crossingsOn 24 = .ok (.invokestatic 106, 3) := by decide +kernel
theorem dX1_crossingsOn_27 : decode cX1_crossingsOn 27 = .ok (.ifCond .eq 6, 3) := by decide +kernel
theorem dX1_crossingsOn_30 : decode cX1_crossingsOn 30 = .ok (.iinc 2 1, 3) := by decide +kernel
theorem dX1_crossingsOn_33 : decode cX1_crossingsOn 33 = .ok (.iinc 3 1, 3) := by decide +kernel
theorem dX1_crossingsOn_36 : decode cX1_crossingsOn 36 = .ok (.goto (-32), 3) := by decide +kernel
theorem dX1_crossingsOn_39 : decode cX1_crossingsOn 39 = .ok (.iload_n 2, 1) := by decide +kernel
theorem dX1_crossingsOn_40 : decode cX1_crossingsOn 40 = .ok (.ireturn, 1) := by decide +kernel
theorem dX1_greatestBundle_0 : decode cX1_greatestBundle 0 = .ok (.iconst 0, 1) := by decide +kernel
theorem dX1_greatestBundle_1 : decode cX1_greatestBundle 1 = .ok (.istore_n 1, 1) := by decide +kernel
theorem dX1_greatestBundle_2 : decode cX1_greatestBundle 2 = .ok (.iconst 0, 1) := by decide +kernel
theorem dX1_greatestBundle_3 : decode cX1_greatestBundle 3 = .ok (.istore_n 2, 1) := by decide +kernel
theorem dX1_greatestBundle_4 : decode cX1_greatestBundle 4 = .ok (.iload_n 2, 1) := by decide +kernel
theorem dX1_greatestBundle_5 : decode cX1_greatestBundle 5 = .ok (.aload_n 0, 1) := by decide +kernel
theorem dX1_greatestBundle_6 : decode cX1_greatestBundle 6 = .ok (.getfield 41, 3) := by decide +kernel
theorem dX1_greatestBundle_9 : decode cX1_greatestBundle 9 = .ok (.if_icmp .ge 28, 3) := by decide +kernel
theorem dX1_greatestBundle_12 : decode cX1_greatestBundle 12 = .ok (.iload_n 1, 1) := by decide +kernel
theorem dX1_greatestBundle_13 : decode cX1_greatestBundle 13 = .ok (.aload_n 0, 1) := by decide +kernel
theorem dX1_greatestBundle_14 : decode cX1_greatestBundle 14 = .ok (.getfield 21, 3) := by decide +kernel
theorem dX1_greatestBundle_17 : decode cX1_greatestBundle 17 = .ok (.aload_n 0, 1) := by decide +kernel
theorem dX1_greatestBundle_18 : decode cX1_greatestBundle 18 = .ok (.getfield 28, 3) := by decide +kernel
theorem dX1_greatestBundle_21 : decode cX1_greatestBundle 21 = .ok (.iload_n 2, 1) := by decide +kernel
theorem dX1_greatestBundle_22 : decode cX1_greatestBundle 22 = .ok (.iaload, 1) := by decide +kernel
theorem dX1_greatestBundle_23 : decode cX1_greatestBundle 23 = .ok (.iaload, 1) := by decide +kernel
theorem dX1_greatestBundle_24 : decode cX1_greatestBundle 24 = .ok (.invokestatic 110, 3) := by decide +kernel
theorem dX1_greatestBundle_27 : decode cX1_greatestBundle 27 = .ok (.invokestatic 115, 3) := by decide +kernel
theorem dX1_greatestBundle_30 : decode cX1_greatestBundle 30 = .ok (.istore_n 1, 1) := by decide +kernel
theorem dX1_greatestBundle_31 : decode cX1_greatestBundle 31 = .ok (.iinc 2 1, 3) := by decide +kernel
theorem dX1_greatestBundle_34 : decode cX1_greatestBundle 34 = .ok (.goto (-30), 3) := by decide +kernel
theorem dX1_greatestBundle_37 : decode cX1_greatestBundle 37 = .ok (.iload_n 1, 1) := by decide +kernel
theorem dX1_greatestBundle_38 : decode cX1_greatestBundle 38 = .ok (.ireturn, 1) := by decide +kernel
theorem dX1_greatestStatus_0 : decode cX1_greatestStatus 0 = .ok (.iconst 0, 1) := by decide +kernel
theorem dX1_greatestStatus_1 : decode cX1_greatestStatus 1 = .ok (.istore_n 1, 1) := by decide +kernel
theorem dX1_greatestStatus_2 : decode cX1_greatestStatus 2 = .ok (.iconst 0, 1) := by decide +kernel
theorem dX1_greatestStatus_3 : decode cX1_greatestStatus 3 = .ok (.istore_n 2, 1) := by decide +kernel
theorem dX1_greatestStatus_4 : decode cX1_greatestStatus 4 = .ok (.iload_n 2, 1) := by decide +kernel
theorem dX1_greatestStatus_5 : decode cX1_greatestStatus 5 = .ok (.aload_n 0, 1) := by decide +kernel
theorem dX1_greatestStatus_6 : decode cX1_greatestStatus 6 = .ok (.getfield 37, 3) := by decide +kernel
theorem dX1_greatestStatus_9 : decode cX1_greatestStatus 9 = .ok (.if_icmp .ge 22, 3) := by decide +kernel
theorem dX1_greatestStatus_12 : decode cX1_greatestStatus 12 = .ok (.iload_n 1, 1) := by decide +kernel
theorem dX1_greatestStatus_13 : decode cX1_greatestStatus 13 = .ok (.aload_n 0, 1) := by decide +kernel
theorem dX1_greatestStatus_14 : decode cX1_greatestStatus 14 = .ok (.iload_n 2, 1) := by decide +kernel
theorem dX1_greatestStatus_15 : decode cX1_greatestStatus 15 = .ok (.invokevirtual 121, 3) := by decide +kernel
theorem dX1_greatestStatus_18 : decode cX1_greatestStatus 18 = .ok (.invokestatic 110, 3) := by decide +kernel
theorem dX1_greatestStatus_21 : decode cX1_greatestStatus 21 = .ok (.invokestatic 115, 3) := by decide +kernel
theorem dX1_greatestStatus_24 : decode cX1_greatestStatus 24 = .ok (.istore_n 1, 1) := by decide +kernel
theorem dX1_greatestStatus_25 : decode cX1_greatestStatus 25 = .ok (.iinc 2 1, 3) := by decide +kernel
theorem dX1_greatestStatus_28 : decode cX1_greatestStatus 28 = .ok (.goto (-24), 3) := by decide +kernel
theorem dX1_greatestStatus_31 : decode cX1_greatestStatus 31 = .ok (.iload_n 1, 1) := by decide +kernel
theorem dX1_greatestStatus_32 : decode cX1_greatestStatus 32 = .ok (.ireturn, 1) := by decide +kernel
theorem dX1_firstOfStatus_0 : decode cX1_firstOfStatus 0 = .ok (.iconst 0, 1) := by decide +kernel
theorem dX1_firstOfStatus_1 : decode cX1_firstOfStatus 1 = .ok (.istore_n 2, 1) := by decide +kernel
theorem dX1_firstOfStatus_2 : decode cX1_firstOfStatus 2 = .ok (.iload_n 2, 1) := by decide +kernel
theorem dX1_firstOfStatus_3 : decode cX1_firstOfStatus 3 = .ok (.aload_n 0, 1) := by decide +kernel
theorem dX1_firstOfStatus_4 : decode cX1_firstOfStatus 4 = .ok (.getfield 37, 3) := by decide +kernel
theorem dX1_firstOfStatus_7 : decode cX1_firstOfStatus 7 = .ok (.if_icmp .ge 23, 3) := by decide +kernel
theorem dX1_firstOfStatus_10 : decode cX1_firstOfStatus 10 = .ok (.aload_n 0, 1) := by decide +kernel
theorem dX1_firstOfStatus_11 : decode cX1_firstOfStatus 11 = .ok (.iload_n 2, 1) := by decide +kernel
theorem dX1_firstOfStatus_12 : decode cX1_firstOfStatus 12 = .ok (.invokevirtual 121, 3) := by decide +kernel
theorem dX1_firstOfStatus_15 : decode cX1_firstOfStatus 15 = .ok (.invokestatic 110, 3) := by decide +kernel
theorem dX1_firstOfStatus_18 : decode cX1_firstOfStatus 18 = .ok (.iload_n 1, 1) := by decide +kernel
theorem dX1_firstOfStatus_19 : decode cX1_firstOfStatus 19 = .ok (.if_icmp .ne 5, 3) := by decide +kernel
theorem dX1_firstOfStatus_22 : decode cX1_firstOfStatus 22 = .ok (.iload_n 2, 1) := by decide +kernel
theorem dX1_firstOfStatus_23 : decode cX1_firstOfStatus 23 = .ok (.ireturn, 1) := by decide +kernel
theorem dX1_firstOfStatus_24 : decode cX1_firstOfStatus 24 = .ok (.iinc 2 1, 3) := by decide +kernel
theorem dX1_firstOfStatus_27 : decode cX1_firstOfStatus 27 = .ok (.goto (-25), 3) := by decide +kernel
theorem dX1_firstOfStatus_30 : decode cX1_firstOfStatus 30 = .ok (.iconst (-1), 1) := by decide +kernel
theorem dX1_firstOfStatus_31 : decode cX1_firstOfStatus 31 = .ok (.ireturn, 1) := by decide +kernel
theorem dX2_init_0 : decode cX2_init 0 = .ok (.aload_n 0, 1) := by decide +kernel
theorem dX2_init_1 : decode cX2_init 1 = .ok (.invokespecial 3, 3) := by decide +kernel
theorem dX2_init_4 : decode cX2_init 4 = .ok (.aload_n 0, 1) := by decide +kernel
theorem dX2_init_5 : decode cX2_init 5 = .ok (.sipush 324, 3) := by decide +kernel
theorem dX2_init_8 : decode cX2_init 8 = .ok (.newarray .int, 2) := by decide +kernel
theorem dX2_init_10 : decode cX2_init 10 = .ok (.putfield 9, 3) := by decide +kernel
theorem dX2_init_13 : decode cX2_init 13 = .ok (.aload_n 0, 1) := by decide +kernel
theorem dX2_init_14 : decode cX2_init 14 = .ok (.sipush 324, 3) := by decide +kernel
theorem dX2_init_17 : decode cX2_init 17 = .ok (.newarray .int, 2) := by decide +kernel
theorem dX2_init_19 : decode cX2_init 19 = .ok (.putfield 15, 3) := by decide +kernel
theorem dX2_init_22 : decode cX2_init 22 = .ok (.aload_n 0, 1) := by decide +kernel
theorem dX2_init_23 : decode cX2_init 23 = .ok (.sipush 324, 3) := by decide +kernel
theorem dX2_init_26 : decode cX2_init 26 = .ok (.newarray .int, 2) := by decide +kernel
theorem dX2_init_28 : decode cX2_init 28 = .ok (.putfield 18, 3) := by decide +kernel
theorem dX2_init_31 : decode cX2_init 31 = .ok (.aload_n 0, 1) := by decide +kernel
theorem dX2_init_32 : decode cX2_init 32 = .ok (.iconst 0, 1) := by decide +kernel
theorem dX2_init_33 : decode cX2_init 33 = .ok (.putfield 21, 3) := by decide +kernel
theorem dX2_init_36 : decode cX2_init 36 = .ok (.aload_n 0, 1) := by decide +kernel
theorem dX2_init_37 : decode cX2_init 37 = .ok (.iconst 0, 1) := by decide +kernel
theorem dX2_init_38 : decode cX2_init 38 = .ok (.putfield 25, 3) := by decide +kernel
theorem dX2_init_41 : decode cX2_init 41 = .ok (.return_, 1) := by decide +kernel
theorem dX2_draw_0 : decode cX2_draw 0 = .ok (.aload_n 0, 1) := by decide +kernel
theorem dX2_draw_1 : decode cX2_draw 1 = .ok (.iconst 0, 1) := by decide +kernel
theorem dX2_draw_2 : decode cX2_draw 2 = .ok (.putfield 21, 3) := by decide +kernel
theorem dX2_draw_5 : decode cX2_draw 5 = .ok (.iconst 0, 1) := by decide +kernel
theorem dX2_draw_6 : decode cX2_draw 6 = .ok (.istore_n 3, 1) := by decide +kernel
theorem dX2_draw_7 : decode cX2_draw 7 = .ok (.iload_n 3, 1) := by decide +kernel
theorem dX2_draw_8 : decode cX2_draw 8 = .ok (.aload_n 1, 1) := by decide +kernel
theorem dX2_draw_9 : decode cX2_draw 9 = .ok (.getfield 28, 3) := by decide +kernel
theorem dX2_draw_12 : decode cX2_draw 12 = .ok (.if_icmp .ge 16, 3) := by decide +kernel
theorem dX2_draw_15 : decode cX2_draw 15 = .ok (.aload_n 0, 1) := by decide +kernel
theorem dX2_draw_16 : decode cX2_draw 16 = .ok (.getfield 9, 3) := by decide +kernel
theorem dX2_draw_19 : decode cX2_draw 19 = .ok (.iload_n 3, 1) := by decide +kernel
theorem dX2_draw_20 : decode cX2_draw 20 = .ok (.iconst 0, 1) := by decide +kernel
theorem dX2_draw_21 : decode cX2_draw 21 = .ok (.iastore, 1) := by decide +kernel
theorem dX2_draw_22 : decode cX2_draw 22 = .ok (.iinc 3 1, 3) := by decide +kernel
theorem dX2_draw_25 : decode cX2_draw 25 = .ok (.goto (-18), 3) := by decide +kernel
theorem dX2_draw_28 : decode cX2_draw 28 = .ok (.iconst 0, 1) := by decide +kernel
theorem dX2_draw_29 : decode cX2_draw 29 = .ok (.istore_n 3, 1) := by decide +kernel
theorem dX2_draw_30 : decode cX2_draw 30 = .ok (.iload_n 3, 1) := by decide +kernel
theorem dX2_draw_31 : decode cX2_draw 31 = .ok (.iload_n 2, 1) := by decide +kernel
theorem dX2_draw_32 : decode cX2_draw 32 = .ok (.if_icmp .ge 15, 3) := by decide +kernel
theorem dX2_draw_35 : decode cX2_draw 35 = .ok (.aload_n 0, 1) := by decide +kernel
theorem dX2_draw_36 : decode cX2_draw 36 = .ok (.aload_n 1, 1) := by decide +kernel
theorem dX2_draw_37 : decode cX2_draw 37 = .ok (.iload_n 3, 1) := by decide +kernel
theorem dX2_draw_38 : decode cX2_draw 38 = .ok (.invokevirtual 33, 3) := by decide +kernel
theorem dX2_draw_41 : decode cX2_draw 41 = .ok (.iinc 3 1, 3) := by decide +kernel
theorem dX2_draw_44 : decode cX2_draw 44 = .ok (.goto (-14), 3) := by decide +kernel
theorem dX2_draw_47 : decode cX2_draw 47 = .ok (.return_, 1) := by decide +kernel
theorem dX2_drawPieces_0 : decode cX2_drawPieces 0 = .ok (.iconst 1, 1) := by decide +kernel
theorem dX2_drawPieces_1 : decode cX2_drawPieces 1 = .ok (.iload_n 2, 1) := by decide +kernel
theorem dX2_drawPieces_2 : decode cX2_drawPieces 2 = .ok (.ishl, 1) := by decide +kernel
theorem dX2_drawPieces_3 : decode cX2_drawPieces 3 = .ok (.iconst 1, 1) := by decide +kernel
theorem dX2_drawPieces_4 : decode cX2_drawPieces 4 = .ok (.isub, 1) := by decide +kernel
theorem dX2_drawPieces_5 : decode cX2_drawPieces 5 = .ok (.istore_n 3, 1) := by decide +kernel
theorem dX2_drawPieces_6 : decode cX2_drawPieces 6 = .ok (.aload_n 1, 1) := by decide +kernel
theorem dX2_drawPieces_7 : decode cX2_drawPieces 7 = .ok (.getfield 37, 3) := by decide +kernel
theorem dX2_drawPieces_10 : decode cX2_drawPieces 10 = .ok (.iload_n 2, 1) := by decide +kernel
theorem dX2_drawPieces_11 : decode cX2_drawPieces 11 = .ok (.iaload, 1) := by decide +kernel
theorem dX2_drawPieces_12 : decode cX2_drawPieces 12 = .ok (.istore 4, 2) := by decide +kernel
theorem dX2_drawPieces_14 : decode cX2_drawPieces 14 = .ok (.iload 4, 2) := by decide +kernel
theorem dX2_drawPieces_16 : decode cX2_drawPieces 16 = .ok (.iconst 1, 1) := by decide +kernel
theorem dX2_drawPieces_17 : decode cX2_drawPieces 17 = .ok (.iadd, 1) := by decide +kernel
theorem dX2_drawPieces_18 : decode cX2_drawPieces 18 = .ok (.istore 5, 2) := by decide +kernel
theorem dX2_drawPieces_20 : decode cX2_drawPieces 20 = .ok (.iload 5, 2) := by decide +kernel
theorem dX2_drawPieces_22 : decode cX2_drawPieces 22 = .ok (.aload_n 1, 1) := by decide +kernel
theorem dX2_drawPieces_23 : decode cX2_drawPieces 23 = .ok (.getfield 40, 3) := by decide +kernel
theorem dX2_drawPieces_26 : decode cX2_drawPieces 26 = .ok (.iload_n 2, 1) := by decide +kernel
theorem dX2_drawPieces_27 : decode cX2_drawPieces 27 = .ok (.iaload, 1) := by decide +kernel
theorem dX2_drawPieces_28 : decode cX2_drawPieces 28 = .ok (.if_icmp .gt 91, 3) := by decide +kernel
theorem dX2_drawPieces_31 : decode cX2_drawPieces 31 = .ok (.iload 5, 2) := by decide +kernel
theorem dX2_drawPieces_33 : decode cX2_drawPieces 33 = .ok (.aload_n 1, 1) := by decide +kernel
theorem dX2_drawPieces_34 : decode cX2_drawPieces 34 = .ok (.getfield 28, 3) := by decide +kernel
theorem dX2_drawPieces_37 : decode cX2_drawPieces 37 = .ok (.if_icmp .ge 82, 3) := by decide +kernel
theorem dX2_drawPieces_40 : decode cX2_drawPieces 40 = .ok (.aload_n 1, 1) := by decide +kernel
theorem dX2_drawPieces_41 : decode cX2_drawPieces 41 = .ok (.getfield 43, 3) := by decide +kernel
theorem dX2_drawPieces_44 : decode cX2_drawPieces 44 = .ok (.iload 5, 2) := by decide +kernel
theorem dX2_drawPieces_46 : decode cX2_drawPieces 46 = .ok (.iaload, 1) := by decide +kernel
theorem dX2_drawPieces_47 : decode cX2_drawPieces 47 = .ok (.iload_n 2, 1) := by decide +kernel
theorem dX2_drawPieces_48 : decode cX2_drawPieces 48 = .ok (.invokestatic 46, 3) := by decide +kernel
theorem dX2_drawPieces_51 : decode cX2_drawPieces 51 = .ok (.ifCond .ne 6, 3) := by decide +kernel
theorem dX2_drawPieces_54 : decode cX2_drawPieces 54 = .ok (.goto 59, 3) := by decide +kernel
theorem dX2_drawPieces_57 : decode cX2_drawPieces 57 = .ok (.aload_n 1, 1) := by decide +kernel
theorem dX2_drawPieces_58 : decode cX2_drawPieces 58 = .ok (.getfield 43, 3) := by decide +kernel
theorem dX2_drawPieces_61 : decode cX2_drawPieces 61 = .ok (.iload 4, 2) := by decide +kernel
theorem dX2_drawPieces_63 : decode cX2_drawPieces 63 = .ok (.iaload, 1) := by decide +kernel
theorem dX2_drawPieces_64 : decode cX2_drawPieces 64 = .ok (.aload_n 1, 1) := by decide +kernel
theorem dX2_drawPieces_65 : decode cX2_drawPieces 65 = .ok (.getfield 43, 3) := by decide +kernel
theorem dX2_drawPieces_68 : decode cX2_drawPieces 68 = .ok (.iload 5, 2) := by decide +kernel
theorem dX2_drawPieces_70 : decode cX2_drawPieces 70 = .ok (.iaload, 1) := by decide +kernel
theorem dX2_drawPieces_71 : decode cX2_drawPieces 71 = .ok (.iand, 1) := by decide +kernel
theorem dX2_drawPieces_72 : decode cX2_drawPieces 72 = .ok (.iload_n 3, 1) := by decide +kernel
theorem dX2_drawPieces_73 : decode cX2_drawPieces 73 = .ok (.iand, 1) := by decide +kernel
theorem dX2_drawPieces_74 : decode cX2_drawPieces 74 = .ok (.ifCond .ne 35, 3) := by decide +kernel
theorem dX2_drawPieces_77 : decode cX2_drawPieces 77 = .ok (.aload_n 0, 1) := by decide +kernel
theorem dX2_drawPieces_78 : decode cX2_drawPieces 78 = .ok (.dup, 1) := by decide +kernel
theorem dX2_drawPieces_79 : decode cX2_drawPieces 79 = .ok (.getfield 21, 3) := by decide +kernel
theorem dX2_drawPieces_82 : decode cX2_drawPieces 82 = .ok (.iconst 1, 1) := by decide +kernel
theorem dX2_drawPieces_83 : decode cX2_drawPieces 83 = .ok (.iadd, 1) := by decide +kernel
theorem dX2_drawPieces_84 : decode cX2_drawPieces 84 = .ok (.putfield 21, 3) := by decide +kernel
theorem dX2_drawPieces_87 : decode cX2_drawPieces 87 = .ok (.aload_n 0, 1) := by decide +kernel
theorem dX2_drawPieces_88 : decode cX2_drawPieces 88 = .ok (.getfield 9, 3) := by decide +kernel
theorem dX2_drawPieces_91 : decode cX2_drawPieces 91 = .ok (.iload 4, 2) := by decide +kernel
theorem dX2_drawPieces_93 : decode cX2_drawPieces 93 = .ok (.dup2, 1) := by decide +kernel
theorem dX2_drawPieces_94 : decode cX2_drawPieces 94 = .ok (.iaload, 1) := by decide +kernel
theorem dX2_drawPieces_95 : decode cX2_drawPieces 95 = .ok (.iconst 1, 1) := by decide +kernel
theorem dX2_drawPieces_96 : decode cX2_drawPieces 96 = .ok (.iadd, 1) := by decide +kernel
theorem dX2_drawPieces_97 : decode cX2_drawPieces 97 = .ok (.iastore, 1) := by decide +kernel
theorem dX2_drawPieces_98 : decode cX2_drawPieces 98 = .ok (.aload_n 0, 1) := by decide +kernel
theorem dX2_drawPieces_99 : decode cX2_drawPieces 99 = .ok (.getfield 9, 3) := by decide +kernel
theorem dX2_drawPieces_102 : decode cX2_drawPieces 102 = .ok (.iload 5, 2) := by decide +kernel
theorem dX2_drawPieces_104 : decode cX2_drawPieces 104 = .ok (.dup2, 1) := by decide +kernel
theorem dX2_drawPieces_105 : decode cX2_drawPieces 105 = .ok (.iaload, 1) := by decide +kernel
theorem dX2_drawPieces_106 : decode cX2_drawPieces 106 = .ok (.iconst 1, 1) := by decide +kernel
theorem dX2_drawPieces_107 : decode cX2_drawPieces 107 = .ok (.iadd, 1) := by decide +kernel
theorem dX2_drawPieces_108 : decode cX2_drawPieces 108 = .ok (.iastore, 1) := by decide +kernel
theorem dX2_drawPieces_109 : decode cX2_drawPieces 109 = .ok (.iload 5, 2) := by decide +kernel
theorem dX2_drawPieces_111 : decode cX2_drawPieces 111 = .ok (.istore 4, 2) := by decide +kernel
theorem dX2_drawPieces_113 : decode cX2_drawPieces 113 = .ok (.iinc 5 1, 3) := by decide +kernel
theorem dX2_drawPieces_116 : decode cX2_drawPieces 116 = .ok (.goto (-96), 3) := by decide +kernel
theorem dX2_drawPieces_119 : decode cX2_drawPieces 119 = .ok (.return_, 1) := by decide +kernel
theorem dX2_oddDegrees_0 : decode cX2_oddDegrees 0 = .ok (.iconst 0, 1) := by decide +kernel
theorem dX2_oddDegrees_1 : decode cX2_oddDegrees 1 = .ok (.istore_n 2, 1) := by decide +kernel
theorem dX2_oddDegrees_2 : decode cX2_oddDegrees 2 = .ok (.iconst 0, 1) := by decide +kernel
theorem dX2_oddDegrees_3 : decode cX2_oddDegrees 3 = .ok (.istore_n 3, 1) := by decide +kernel
theorem dX2_oddDegrees_4 : decode cX2_oddDegrees 4 = .ok (.iload_n 3, 1) := by decide +kernel
theorem dX2_oddDegrees_5 : decode cX2_oddDegrees 5 = .ok (.iload_n 1, 1) := by decide +kernel
theorem dX2_oddDegrees_6 : decode cX2_oddDegrees 6 = .ok (.if_icmp .ge 20, 3) := by decide +kernel
theorem dX2_oddDegrees_9 : decode cX2_oddDegrees 9 = .ok (.iload_n 2, 1) := by decide +kernel
theorem dX2_oddDegrees_10 : decode cX2_oddDegrees 10 = .ok (.aload_n 0, 1) := by decide +kernel
theorem dX2_oddDegrees_11 : decode cX2_oddDegrees 11 = .ok (.getfield 9, 3) := by decide +kernel
theorem dX2_oddDegrees_14 : decode cX2_oddDegrees 14 = .ok (.iload_n 3, 1) := by decide +kernel
theorem dX2_oddDegrees_15 : decode cX2_oddDegrees 15 = .ok (.iaload, 1) := by decide +kernel
theorem dX2_oddDegrees_16 : decode cX2_oddDegrees 16 = .ok (.iconst 1, 1) := by decide +kernel
theorem dX2_oddDegrees_17 : decode cX2_oddDegrees 17 = .ok (.iand, 1) := by decide +kernel
theorem dX2_oddDegrees_18 : decode cX2_oddDegrees 18 = .ok (.iadd, 1) := by decide +kernel
theorem dX2_oddDegrees_19 : decode cX2_oddDegrees 19 = .ok (.istore_n 2, 1) := by decide +kernel
theorem dX2_oddDegrees_20 : decode cX2_oddDegrees 20 = .ok (.iinc 3 1, 3) := by decide +kernel
theorem dX2_oddDegrees_23 : decode cX2_oddDegrees 23 = .ok (.goto (-19), 3) := by decide +kernel
theorem dX2_oddDegrees_26 : decode cX2_oddDegrees 26 = .ok (.iload_n 2, 1) := by decide +kernel
theorem dX2_oddDegrees_27 : decode cX2_oddDegrees 27 = .ok (.ireturn, 1) := by decide +kernel
theorem dX2_distance_0 : decode cX2_distance 0 = .ok (.iconst 0, 1) := by decide +kernel
theorem dX2_distance_1 : decode cX2_distance 1 = .ok (.istore 4, 2) := by decide +kernel
theorem dX2_distance_3 : decode cX2_distance 3 = .ok (.iload 4, 2) := by decide +kernel
theorem dX2_distance_5 : decode cX2_distance 5 = .ok (.aload_n 1, 1) := by decide +kernel
theorem dX2_distance_6 : decode cX2_distance 6 = .ok (.getfield 28, 3) := by decide +kernel
theorem dX2_distance_9 : decode cX2_distance 9 = .ok (.if_icmp .ge 17, 3) := by decide +kernel
theorem dX2_distance_12 : decode cX2_distance 12 = .ok (.aload_n 0, 1) := by decide +kernel
theorem dX2_distance_13 : decode cX2_distance 13 = .ok (.getfield 15, 3) := by decide +kernel
theorem dX2_distance_16 : decode cX2_distance 16 = .ok (.iload 4, 2) := by decide +kernel
theorem dX2_distance_18 : decode cX2_distance 18 = .ok (.iconst (-1), 1) := by decide +kernel
theorem dX2_distance_19 : decode cX2_distance 19 = .ok (.iastore, 1) := by decide +kernel
theorem dX2_distance_20 : decode cX2_distance 20 = .ok (.iinc 4 1, 3) := by decide +kernel
theorem dX2_distance_23 : decode cX2_distance 23 = .ok (.goto (-20), 3) := by decide +kernel
theorem dX2_distance_26 : decode cX2_distance 26 = .ok (.aload_n 0, 1) := by decide +kernel
theorem dX2_distance_27 : decode cX2_distance 27 = .ok (.iconst 0, 1) := by decide +kernel
theorem dX2_distance_28 : decode cX2_distance 28 = .ok (.putfield 25, 3) := by decide +kernel
theorem dX2_distance_31 : decode cX2_distance 31 = .ok (.aload_n 0, 1) := by decide +kernel
theorem dX2_distance_32 : decode cX2_distance 32 = .ok (.iload_n 2, 1) := by decide +kernel
theorem dX2_distance_33 : decode cX2_distance 33 = .ok (.iconst 0, 1) := by decide +kernel
theorem dX2_distance_34 : decode cX2_distance 34 = .ok (.invokevirtual 50, 3) := by decide +kernel
theorem dX2_distance_37 : decode cX2_distance 37 = .ok (.iconst 0, 1) := by decide +kernel
theorem dX2_distance_38 : decode cX2_distance 38 = .ok (.istore 4, 2) := by decide +kernel
theorem dX2_distance_40 : decode cX2_distance 40 = .ok (.iload 4, 2) := by decide +kernel
theorem dX2_distance_42 : decode cX2_distance 42 = .ok (.aload_n 0, 1) := by decide +kernel
theorem dX2_distance_43 : decode cX2_distance 43 = .ok (.getfield 25, 3) := by decide +kernel
theorem dX2_distance_46 : decode cX2_distance 46 = .ok (.if_icmp .ge 31, 3) := by decide +kernel
theorem dX2_distance_49 : decode cX2_distance 49 = .ok (.aload_n 0, 1) := by decide +kernel
theorem dX2_distance_50 : decode cX2_distance 50 = .ok (.getfield 15, 3) := by decide +kernel
theorem dX2_distance_53 : decode cX2_distance 53 = .ok (.iload_n 3, 1) := by decide +kernel
theorem dX2_distance_54 : decode cX2_distance 54 = .ok (.iaload, 1) := by decide +kernel
theorem dX2_distance_55 : decode cX2_distance 55 = .ok (.iconst (-1), 1) := by decide +kernel
theorem dX2_distance_56 : decode cX2_distance 56 = .ok (.if_icmp .ne 21, 3) := by decide +kernel
theorem dX2_distance_59 : decode cX2_distance 59 = .ok (.aload_n 0, 1) := by decide +kernel
theorem dX2_distance_60 : decode cX2_distance 60 = .ok (.aload_n 1, 1) := by decide +kernel
theorem dX2_distance_61 : decode cX2_distance 61 = .ok (.aload_n 0, 1) := by decide +kernel
theorem dX2_distance_62 : decode cX2_distance 62 = .ok (.getfield 18, 3) := by decide +kernel
theorem dX2_distance_65 : decode cX2_distance 65 = .ok (.iload 4, 2) := by decide +kernel
theorem dX2_distance_67 : decode cX2_distance 67 = .ok (.iaload, 1) := by decide +kernel
theorem dX2_distance_68 : decode cX2_distance 68 = .ok (.invokevirtual 54, 3) := by decide +kernel
theorem dX2_distance_71 : decode cX2_distance 71 = .ok (.iinc 4 1, 3) := by decide +kernel
theorem dX2_distance_74 : decode cX2_distance 74 = .ok (.goto (-34), 3) := by decide +kernel
theorem dX2_distance_77 : decode cX2_distance 77 = .ok (.aload_n 0, 1) := by decide +kernel
theorem dX2_distance_78 : decode cX2_distance 78 = .ok (.getfield 15, 3) := by decide +kernel
theorem dX2_distance_81 : decode cX2_distance 81 = .ok (.iload_n 3, 1) := by decide +kernel
theorem dX2_distance_82 : decode cX2_distance 82 = .ok (.iaload, 1) := by decide +kernel
theorem dX2_distance_83 : decode cX2_distance 83 = .ok (.ireturn, 1) := by decide +kernel
theorem dX2_reachAround_0 : decode cX2_reachAround 0 = .ok (.aload_n 1, 1) := by decide +kernel
theorem dX2_reachAround_1 : decode cX2_reachAround 1 = .ok (.getfield 43, 3) := by decide +kernel
theorem dX2_reachAround_4 : decode cX2_reachAround 4 = .ok (.iload_n 2, 1) := by decide +kernel
theorem dX2_reachAround_5 : decode cX2_reachAround 5 = .ok (.iaload, 1) := by decide +kernel
theorem dX2_reachAround_6 : decode cX2_reachAround 6 = .ok (.istore_n 3, 1) := by decide +kernel
theorem dX2_reachAround_7 : decode cX2_reachAround 7 = .ok (.iload_n 2, 1) := by decide +kernel
theorem dX2_reachAround_8 : decode cX2_reachAround 8 = .ok (.iconst 1, 1) := by decide +kernel
theorem dX2_reachAround_9 : decode cX2_reachAround 9 = .ok (.isub, 1) := by decide +kernel
theorem dX2_reachAround_10 : decode cX2_reachAround 10 = .ok (.istore 4, 2) := by decide +kernel
theorem dX2_reachAround_12 : decode cX2_reachAround 12 = .ok (.iload 4, 2) := by decide +kernel
theorem dX2_reachAround_14 : decode cX2_reachAround 14 = .ok (.ifCond .lt 51, 3) := by decide +kernel
theorem dX2_reachAround_17 : decode cX2_reachAround 17 = .ok (.iload_n 3, 1) := by decide +kernel
theorem dX2_reachAround_18 : decode cX2_reachAround 18 = .ok (.ifCond .eq 47, 3) := by decide +kernel
theorem dX2_reachAround_21 : decode cX2_reachAround 21 = .ok (.aload_n 1, 1) := by decide +kernel
theorem dX2_reachAround_22 : decode cX2_reachAround 22 = .ok (.getfield 43, 3) := by decide +kernel
theorem dX2_reachAround_25 : decode cX2_reachAround 25 = .ok (.iload 4, 2) := by decide +kernel
theorem dX2_reachAround_27 : decode cX2_reachAround 27 = .ok (.iaload, 1) := by decide +kernel
theorem dX2_reachAround_28 : decode cX2_reachAround 28 = .ok (.iload_n 3, 1) := by decide +kernel
theorem dX2_reachAround_29 : decode cX2_reachAround 29 = .ok (.iand, 1) := by decide +kernel
theorem dX2_reachAround_30 : decode cX2_reachAround 30 = .ok (.ifCond .eq 29, 3) := by decide +kernel
theorem dX2_reachAround_33 : decode cX2_reachAround 33 = .ok (.aload_n 0, 1) := by decide +kernel
theorem dX2_reachAround_34 : decode cX2_reachAround 34 = .ok (.iload 4, 2) := by decide +kernel
theorem dX2_reachAround_36 : decode cX2_reachAround 36 = .ok (.aload_n 0, 1) := by decide +kernel
theorem dX2_reachAround_37 : decode cX2_reachAround 37 = .ok (.getfield 15, 3) := by decide +kernel
theorem dX2_reachAround_40 : decode cX2_reachAround 40 = .ok (.iload_n 2, 1) := by decide +kernel
theorem dX2_reachAround_41 : decode cX2_reachAround 41 = .ok (.iaload, 1) := by decide +kernel
theorem dX2_reachAround_42 : decode cX2_reachAround 42 = .ok (.iconst 1, 1) := by decide +kernel
theorem dX2_reachAround_43 : decode cX2_reachAround 43 = .ok (.iadd, 1) := by decide +kernel
theorem dX2_reachAround_44 : decode cX2_reachAround 44 = .ok (.invokevirtual 50, 3) := by decide +kernel
theorem dX2_reachAround_47 : decode cX2_reachAround 47 = .ok (.iload_n 3, 1) := by decide +kernel
theorem dX2_reachAround_48 : decode cX2_reachAround 48 = .ok (.aload_n 1, 1) := by decide +kernel
theorem dX2_reachAround_49 : decode cX2_reachAround 49 = .ok (.getfield 43, 3) := by decide +kernel
theorem dX2_reachAround_52 : decode cX2_reachAround 52 = .ok (.iload 4, 2) := by decide +kernel
theorem dX2_reachAround_54 : decode cX2_reachAround 54 = .ok (.iaload, 1) := by decide +kernel
theorem dX2_reachAround_55 : decode cX2_reachAround 55 = .ok (.iconst (-1), 1) := by decide +kernel
theorem dX2_reachAround_56 : decode cX2_reachAround 56 = .ok (.ixor, 1) := by decide +kernel
theorem dX2_reachAround_57 : decode cX2_reachAround 57 = .ok (.iand, 1) := by decide +kernel
theorem dX2_reachAround_58 : decode cX2_reachAround 58 = .ok (.istore_n 3, 1) := by decide +kernel
theorem dX2_reachAround_59 : decode cX2_reachAround 59 = .ok (.iinc 4 (-1), 3) := by decide +kernel
theorem dX2_reachAround_62 : decode cX2_reachAround 62 = .ok (.goto (-50), 3) := by decide +kernel
theorem dX2_reachAround_65 : decode cX2_reachAround 65 = .ok (.aload_n 1, 1) := by decide +kernel
theorem dX2_reachAround_66 : decode cX2_reachAround 66 = .ok (.getfield 43, 3) := by decide +kernel
theorem dX2_reachAround_69 : decode cX2_reachAround 69 = .ok (.iload_n 2, 1) := by decide +kernel
theorem dX2_reachAround_70 : decode cX2_reachAround 70 = .ok (.iaload, 1) := by decide +kernel
theorem dX2_reachAround_71 : decode cX2_reachAround 71 = .ok (.istore 4, 2) := by decide +kernel
theorem dX2_reachAround_73 : decode cX2_reachAround 73 = .ok (.iload_n 2, 1) := by decide +kernel
theorem dX2_reachAround_74 : decode cX2_reachAround 74 = .ok (.iconst 1, 1) := by decide +kernel
theorem dX2_reachAround_75 : decode cX2_reachAround 75 = .ok (.iadd, 1) := by decide +kernel
theorem dX2_reachAround_76 : decode cX2_reachAround 76 = .ok (.istore 5, 2) := by decide +kernel
theorem dX2_reachAround_78 : decode cX2_reachAround 78 = .ok (.iload 5, 2) := by decide +kernel
theorem dX2_reachAround_80 : decode cX2_reachAround 80 = .ok (.aload_n 1, 1) := by decide +kernel
theorem dX2_reachAround_81 : decode cX2_reachAround 81 = .ok (.getfield 28, 3) := by decide +kernel
theorem dX2_reachAround_84 : decode cX2_reachAround 84 = .ok (.if_icmp .ge 55, 3) := by decide +kernel
theorem dX2_reachAround_87 : decode cX2_reachAround 87 = .ok (.iload 4, 2) := by decide +kernel
theorem dX2_reachAround_89 : decode cX2_reachAround 89 = .ok (.ifCond .eq 50, 3) := by decide +kernel
theorem dX2_reachAround_92 : decode cX2_reachAround 92 = .ok (.aload_n 1, 1) := by decide +kernel
theorem dX2_reachAround_93 : decode cX2_reachAround 93 = .ok (.getfield 43, 3) := by decide +kernel
theorem dX2_reachAround_96 : decode cX2_reachAround 96 = .ok (.iload 5, 2) := by decide +kernel
theorem dX2_reachAround_98 : decode cX2_reachAround 98 = .ok (.iaload, 1) := by decide +kernel
theorem dX2_reachAround_99 : decode cX2_reachAround 99 = .ok (.iload 4, 2) := by decide +kernel
theorem dX2_reachAround_101 : decode cX2_reachAround 101 = .ok (.iand, 1) := by decide +kernel
theorem dX2_reachAround_102 : decode cX2_reachAround 102 = .ok (.ifCond .eq 31, 3) := by decide +kernel
theorem dX2_reachAround_105 : decode cX2_reachAround 105 = .ok (.aload_n 0, 1) := by decide +kernel
theorem dX2_reachAround_106 : decode cX2_reachAround 106 = .ok (.iload 5, 2) := by decide +kernel
theorem dX2_reachAround_108 : decode cX2_reachAround 108 = .ok (.aload_n 0, 1) := by decide +kernel
theorem dX2_reachAround_109 : decode cX2_reachAround 109 = .ok (.getfield 15, 3) := by decide +kernel
theorem dX2_reachAround_112 : decode cX2_reachAround 112 = .ok (.iload_n 2, 1) := by decide +kernel
theorem dX2_reachAround_113 : decode cX2_reachAround 113 = .ok (.iaload, 1) := by decide +kernel
theorem dX2_reachAround_114 : decode cX2_reachAround 114 = .ok (.iconst 1, 1) := by decide +kernel
theorem dX2_reachAround_115 : decode cX2_reachAround 115 = .ok (.iadd, 1) := by decide +kernel
theorem dX2_reachAround_116 : decode cX2_reachAround 116 = .ok (.invokevirtual 50, 3) := by decide +kernel
theorem dX2_reachAround_119 : decode cX2_reachAround 119 = .ok (.iload 4, 2) := by decide +kernel
theorem dX2_reachAround_121 : decode cX2_reachAround 121 = .ok (.aload_n 1, 1) := by decide +kernel
theorem dX2_reachAround_122 : decode cX2_reachAround 122 = .ok (.getfield 43, 3) := by decide +kernel
theorem dX2_reachAround_125 : decode cX2_reachAround 125 = .ok (.iload 5, 2) := by decide +kernel
theorem dX2_reachAround_127 : decode cX2_reachAround 127 = .ok (.iaload, 1) := by decide +kernel
theorem dX2_reachAround_128 : decode cX2_reachAround 128 = .ok (.iconst (-1), 1) := by decide +kernel
theorem dX2_reachAround_129 : decode cX2_reachAround 129 = .ok (.ixor, 1) := by decide +kernel
theorem dX2_reachAround_130 : decode cX2_reachAround 130 = .ok (.iand, 1) := by decide +kernel
theorem dX2_reachAround_131 : decode cX2_reachAround 131 = .ok (.istore 4, 2) := by decide +kernel
theorem dX2_reachAround_133 : decode cX2_reachAround 133 = .ok (.iinc 5 1, 3) := by decide +kernel
theorem dX2_reachAround_136 : decode cX2_reachAround 136 = .ok (.goto (-58), 3) := by decide +kernel
theorem dX2_reachAround_139 : decode cX2_reachAround 139 = .ok (.return_, 1) := by decide +kernel
theorem dX2_reach_0 : decode cX2_reach 0 = .ok (.aload_n 0, 1) := by decide +kernel
theorem dX2_reach_1 : decode cX2_reach 1 = .ok (.getfield 15, 3) := by decide +kernel
theorem dX2_reach_4 : decode cX2_reach 4 = .ok (.iload_n 1, 1) := by decide +kernel
theorem dX2_reach_5 : decode cX2_reach 5 = .ok (.iaload, 1) := by decide +kernel
theorem dX2_reach_6 : decode cX2_reach 6 = .ok (.iconst (-1), 1) := by decide +kernel
theorem dX2_reach_7 : decode cX2_reach 7 = .ok (.if_icmp .ne 40, 3) := by decide +kernel
theorem dX2_reach_10 : decode cX2_reach 10 = .ok (.aload_n 0, 1) := by decide +kernel
theorem dX2_reach_11 : decode cX2_reach 11 = .ok (.getfield 25, 3) := by decide +kernel
theorem dX2_reach_14 : decode cX2_reach 14 = .ok (.sipush 324, 3) := by decide +kernel
theorem dX2_reach_17 : decode cX2_reach 17 = .ok (.if_icmp .ge 30, 3) := by decide +kernel
theorem dX2_reach_20 : decode cX2_reach 20 = .ok (.aload_n 0, 1) := by decide +kernel
theorem dX2_reach_21 : decode cX2_reach 21 = .ok (.getfield 15, 3) := by decide +kernel
theorem dX2_reach_24 : decode cX2_reach 24 = .ok (.iload_n 1, 1) := by decide +kernel
theorem dX2_reach_25 : decode cX2_reach 25 = .ok (.iload_n 2, 1) := by decide +kernel
theorem dX2_reach_26 : decode cX2_reach 26 = .ok (.iastore, 1) := by decide +kernel
theorem dX2_reach_27 : decode cX2_reach 27 = .ok (.aload_n 0, 1) := by decide +kernel
theorem dX2_reach_28 : decode cX2_reach 28 = .ok (.getfield 18, 3) := by decide +kernel
theorem dX2_reach_31 : decode cX2_reach 31 = .ok (.aload_n 0, 1) := by decide +kernel
theorem dX2_reach_32 : decode cX2_reach 32 = .ok (.getfield 25, 3) := by decide +kernel
theorem dX2_reach_35 : decode cX2_reach 35 = .ok (.iload_n 1, 1) := by decide +kernel
theorem dX2_reach_36 : decode cX2_reach 36 = .ok (.iastore, 1) := by decide +kernel
theorem dX2_reach_37 : decode cX2_reach 37 = .ok (.aload_n 0, 1) := by decide +kernel
theorem dX2_reach_38 : decode cX2_reach 38 = .ok (.dup, 1) := by decide +kernel
theorem dX2_reach_39 : decode cX2_reach 39 = .ok (.getfield 25, 3) := by decide +kernel
theorem dX2_reach_42 : decode cX2_reach 42 = .ok (.iconst 1, 1) := by decide +kernel
theorem dX2_reach_43 : decode cX2_reach 43 = .ok (.iadd, 1) := by decide +kernel
theorem dX2_reach_44 : decode cX2_reach 44 = .ok (.putfield 25, 3) := by decide +kernel
theorem dX2_reach_47 : decode cX2_reach 47 = .ok (.return_, 1) := by decide +kernel
theorem dX3_init_0 : decode cX3_init 0 = .ok (.aload_n 0, 1) := by decide +kernel
theorem dX3_init_1 : decode cX3_init 1 = .ok (.invokespecial 3, 3) := by decide +kernel
theorem dX3_init_4 : decode cX3_init 4 = .ok (.aload_n 0, 1) := by decide +kernel
theorem dX3_init_5 : decode cX3_init 5 = .ok (.bipush 8, 2) := by decide +kernel
theorem dX3_init_7 : decode cX3_init 7 = .ok (.anewarray 9, 3) := by decide +kernel
theorem dX3_init_10 : decode cX3_init 10 = .ok (.putfield 11, 3) := by decide +kernel
theorem dX3_init_13 : decode cX3_init 13 = .ok (.iconst 0, 1) := by decide +kernel
theorem dX3_init_14 : decode cX3_init 14 = .ok (.istore_n 1, 1) := by decide +kernel
theorem dX3_init_15 : decode cX3_init 15 = .ok (.iload_n 1, 1) := by decide +kernel
theorem dX3_init_16 : decode cX3_init 16 = .ok (.bipush 8, 2) := by decide +kernel
theorem dX3_init_18 : decode cX3_init 18 = .ok (.if_icmp .ge 22, 3) := by decide +kernel
theorem dX3_init_21 : decode cX3_init 21 = .ok (.aload_n 0, 1) := by decide +kernel
theorem dX3_init_22 : decode cX3_init 22 = .ok (.getfield 11, 3) := by decide +kernel
theorem dX3_init_25 : decode cX3_init 25 = .ok (.iload_n 1, 1) := by decide +kernel
theorem dX3_init_26 : decode cX3_init 26 = .ok (.new 9, 3) := by decide +kernel
theorem dX3_init_29 : decode cX3_init 29 = .ok (.dup, 1) := by decide +kernel
theorem dX3_init_30 : decode cX3_init 30 = .ok (.invokespecial 17, 3) := by decide +kernel
theorem dX3_init_33 : decode cX3_init 33 = .ok (.aastore, 1) := by decide +kernel
theorem dX3_init_34 : decode cX3_init 34 = .ok (.iinc 1 1, 3) := by decide +kernel
theorem dX3_init_37 : decode cX3_init 37 = .ok (.goto (-22), 3) := by decide +kernel
theorem dX3_init_40 : decode cX3_init 40 = .ok (.aload_n 0, 1) := by decide +kernel
theorem dX3_init_41 : decode cX3_init 41 = .ok (.iconst 0, 1) := by decide +kernel
theorem dX3_init_42 : decode cX3_init 42 = .ok (.putfield 18, 3) := by decide +kernel
theorem dX3_init_45 : decode cX3_init 45 = .ok (.aload_n 0, 1) := by decide +kernel
theorem dX3_init_46 : decode cX3_init 46 = .ok (.iconst 0, 1) := by decide +kernel
theorem dX3_init_47 : decode cX3_init 47 = .ok (.putfield 22, 3) := by decide +kernel
theorem dX3_init_50 : decode cX3_init 50 = .ok (.return_, 1) := by decide +kernel
theorem dX3_push_0 : decode cX3_push 0 = .ok (.aload_n 0, 1) := by decide +kernel
theorem dX3_push_1 : decode cX3_push 1 = .ok (.aload_n 0, 1) := by decide +kernel
theorem dX3_push_2 : decode cX3_push 2 = .ok (.getfield 18, 3) := by decide +kernel
theorem dX3_push_5 : decode cX3_push 5 = .ok (.iconst 1, 1) := by decide +kernel
theorem dX3_push_6 : decode cX3_push 6 = .ok (.iadd, 1) := by decide +kernel
theorem dX3_push_7 : decode cX3_push 7 = .ok (.bipush 8, 2) := by decide +kernel
theorem dX3_push_9 : decode cX3_push 9 = .ok (.irem, 1) := by decide +kernel
theorem dX3_push_10 : decode cX3_push 10 = .ok (.putfield 18, 3) := by decide +kernel
theorem dX3_push_13 : decode cX3_push 13 = .ok (.aload_n 0, 1) := by decide +kernel
theorem dX3_push_14 : decode cX3_push 14 = .ok (.getfield 11, 3) := by decide +kernel
theorem dX3_push_17 : decode cX3_push 17 = .ok (.aload_n 0, 1) := by decide +kernel
theorem dX3_push_18 : decode cX3_push 18 = .ok (.getfield 18, 3) := by decide +kernel
theorem dX3_push_21 : decode cX3_push 21 = .ok (.aaload, 1) := by decide +kernel
theorem dX3_push_22 : decode cX3_push 22 = .ok (.aload_n 1, 1) := by decide +kernel
theorem dX3_push_23 : decode cX3_push 23 = .ok (.invokevirtual 25, 3) := by decide +kernel
theorem dX3_push_26 : decode cX3_push 26 = .ok (.aload_n 0, 1) := by decide +kernel
theorem dX3_push_27 : decode cX3_push 27 = .ok (.aload_n 0, 1) := by decide +kernel
theorem dX3_push_28 : decode cX3_push 28 = .ok (.getfield 22, 3) := by decide +kernel
theorem dX3_push_31 : decode cX3_push 31 = .ok (.iconst 1, 1) := by decide +kernel
theorem dX3_push_32 : decode cX3_push 32 = .ok (.iadd, 1) := by decide +kernel
theorem dX3_push_33 : decode cX3_push 33 = .ok (.bipush 8, 2) := by decide +kernel
theorem dX3_push_35 : decode cX3_push 35 = .ok (.invokestatic 29, 3) := by decide +kernel
theorem dX3_push_38 : decode cX3_push 38 = .ok (.putfield 22, 3) := by decide +kernel
theorem dX3_push_41 : decode cX3_push 41 = .ok (.return_, 1) := by decide +kernel
theorem dX3_pop_0 : decode cX3_pop 0 = .ok (.aload_n 0, 1) := by decide +kernel
theorem dX3_pop_1 : decode cX3_pop 1 = .ok (.getfield 11, 3) := by decide +kernel
theorem dX3_pop_4 : decode cX3_pop 4 = .ok (.aload_n 0, 1) := by decide +kernel
theorem dX3_pop_5 : decode cX3_pop 5 = .ok (.getfield 18, 3) := by decide +kernel
theorem dX3_pop_8 : decode cX3_pop 8 = .ok (.aaload, 1) := by decide +kernel
theorem dX3_pop_9 : decode cX3_pop 9 = .ok (.astore_n 1, 1) := by decide +kernel
theorem dX3_pop_10 : decode cX3_pop 10 = .ok (.aload_n 0, 1) := by decide +kernel
theorem dX3_pop_11 : decode cX3_pop 11 = .ok (.aload_n 0, 1) := by decide +kernel
theorem dX3_pop_12 : decode cX3_pop 12 = .ok (.getfield 18, 3) := by decide +kernel
theorem dX3_pop_15 : decode cX3_pop 15 = .ok (.bipush 8, 2) := by decide +kernel
theorem dX3_pop_17 : decode cX3_pop 17 = .ok (.iadd, 1) := by decide +kernel
theorem dX3_pop_18 : decode cX3_pop 18 = .ok (.iconst 1, 1) := by decide +kernel
theorem dX3_pop_19 : decode cX3_pop 19 = .ok (.isub, 1) := by decide +kernel
theorem dX3_pop_20 : decode cX3_pop 20 = .ok (.bipush 8, 2) := by decide +kernel
theorem dX3_pop_22 : decode cX3_pop 22 = .ok (.irem, 1) := by decide +kernel
theorem dX3_pop_23 : decode cX3_pop 23 = .ok (.putfield 18, 3) := by decide +kernel
theorem dX3_pop_26 : decode cX3_pop 26 = .ok (.aload_n 0, 1) := by decide +kernel
theorem dX3_pop_27 : decode cX3_pop 27 = .ok (.dup, 1) := by decide +kernel
theorem dX3_pop_28 : decode cX3_pop 28 = .ok (.getfield 22, 3) := by decide +kernel
theorem dX3_pop_31 : decode cX3_pop 31 = .ok (.iconst 1, 1) := by decide +kernel
theorem dX3_pop_32 : decode cX3_pop 32 = .ok (.isub, 1) := by decide +kernel
theorem dX3_pop_33 : decode cX3_pop 33 = .ok (.putfield 22, 3) := by decide +kernel
theorem dX3_pop_36 : decode cX3_pop 36 = .ok (.aload_n 1, 1) := by decide +kernel
theorem dX3_pop_37 : decode cX3_pop 37 = .ok (.areturn, 1) := by decide +kernel
theorem dX3_forget_0 : decode cX3_forget 0 = .ok (.aload_n 0, 1) := by decide +kernel
theorem dX3_forget_1 : decode cX3_forget 1 = .ok (.iconst 0, 1) := by decide +kernel
theorem dX3_forget_2 : decode cX3_forget 2 = .ok (.putfield 22, 3) := by decide +kernel
theorem dX3_forget_5 : decode cX3_forget 5 = .ok (.return_, 1) := by decide +kernel
theorem dX4_init_0 : decode cX4_init 0 = .ok (.aload_n 0, 1) := by decide +kernel
theorem dX4_init_1 : decode cX4_init 1 = .ok (.invokespecial 3, 3) := by decide +kernel
theorem dX4_init_4 : decode cX4_init 4 = .ok (.aload_n 0, 1) := by decide +kernel
theorem dX4_init_5 : decode cX4_init 5 = .ok (.bipush 48, 2) := by decide +kernel
theorem dX4_init_7 : decode cX4_init 7 = .ok (.newarray .int, 2) := by decide +kernel
theorem dX4_init_9 : decode cX4_init 9 = .ok (.putfield 11, 3) := by decide +kernel
theorem dX4_init_12 : decode cX4_init 12 = .ok (.aload_n 0, 1) := by decide +kernel
theorem dX4_init_13 : decode cX4_init 13 = .ok (.bipush 48, 2) := by decide +kernel
theorem dX4_init_15 : decode cX4_init 15 = .ok (.newarray .int, 2) := by decide +kernel
theorem dX4_init_17 : decode cX4_init 17 = .ok (.putfield 15, 3) := by decide +kernel
theorem dX4_init_20 : decode cX4_init 20 = .ok (.aload_n 0, 1) := by decide +kernel
theorem dX4_init_21 : decode cX4_init 21 = .ok (.iconst 0, 1) := by decide +kernel
theorem dX4_init_22 : decode cX4_init 22 = .ok (.putfield 18, 3) := by decide +kernel
theorem dX4_init_25 : decode cX4_init 25 = .ok (.aload_n 0, 1) := by decide +kernel
theorem dX4_init_26 : decode cX4_init 26 = .ok (.iconst 0, 1) := by decide +kernel
theorem dX4_init_27 : decode cX4_init 27 = .ok (.putfield 22, 3) := by decide +kernel
theorem dX4_init_30 : decode cX4_init 30 = .ok (.aload_n 0, 1) := by decide +kernel
theorem dX4_init_31 : decode cX4_init 31 = .ok (.iconst 0, 1) := by decide +kernel
theorem dX4_init_32 : decode cX4_init 32 = .ok (.putfield 25, 3) := by decide +kernel
theorem dX4_init_35 : decode cX4_init 35 = .ok (.return_, 1) := by decide +kernel
theorem dX4_wrap_0 : decode cX4_wrap 0 = .ok (.aload_n 0, 1) := by decide +kernel
theorem dX4_wrap_1 : decode cX4_wrap 1 = .ok (.iconst 0, 1) := by decide +kernel
theorem dX4_wrap_2 : decode cX4_wrap 2 = .ok (.putfield 18, 3) := by decide +kernel
theorem dX4_wrap_5 : decode cX4_wrap 5 = .ok (.aload_n 1, 1) := by decide +kernel
theorem dX4_wrap_6 : decode cX4_wrap 6 = .ok (.getfield 28, 3) := by decide +kernel
theorem dX4_wrap_9 : decode cX4_wrap 9 = .ok (.ifCond .ne 4, 3) := by decide +kernel
theorem dX4_wrap_12 : decode cX4_wrap 12 = .ok (.return_, 1) := by decide +kernel
theorem dX4_wrap_13 : decode cX4_wrap 13 = .ok (.aload_n 0, 1) := by decide +kernel
theorem dX4_wrap_14 : decode cX4_wrap 14 = .ok (.aload_n 1, 1) := by decide +kernel
theorem dX4_wrap_15 : decode cX4_wrap 15 = .ok (.invokevirtual 31, 3) := by decide +kernel
theorem dX4_wrap_18 : decode cX4_wrap 18 = .ok (.iconst 0, 1) := by decide +kernel
theorem dX4_wrap_19 : decode cX4_wrap 19 = .ok (.istore_n 2, 1) := by decide +kernel
theorem dX4_wrap_20 : decode cX4_wrap 20 = .ok (.iload_n 2, 1) := by decide +kernel
theorem dX4_wrap_21 : decode cX4_wrap 21 = .ok (.bipush 48, 2) := by decide +kernel
theorem dX4_wrap_23 : decode cX4_wrap 23 = .ok (.if_icmp .ge 135, 3) := by decide +kernel
theorem dX4_wrap_26 : decode cX4_wrap 26 = .ok (.aload_n 0, 1) := by decide +kernel
theorem dX4_wrap_27 : decode cX4_wrap 27 = .ok (.getfield 11, 3) := by decide +kernel
theorem dX4_wrap_30 : decode cX4_wrap 30 = .ok (.iload_n 2, 1) := by decide +kernel
theorem dX4_wrap_31 : decode cX4_wrap 31 = .ok (.aload_n 0, 1) := by decide +kernel
theorem dX4_wrap_32 : decode cX4_wrap 32 = .ok (.getfield 22, 3) := by decide +kernel
theorem dX4_wrap_35 : decode cX4_wrap 35 = .ok (.iastore, 1) := by decide +kernel
theorem dX4_wrap_36 : decode cX4_wrap 36 = .ok (.aload_n 0, 1) := by decide +kernel
theorem dX4_wrap_37 : decode cX4_wrap 37 = .ok (.getfield 15, 3) := by decide +kernel
theorem dX4_wrap_40 : decode cX4_wrap 40 = .ok (.iload_n 2, 1) := by decide +kernel
theorem dX4_wrap_41 : decode cX4_wrap 41 = .ok (.aload_n 0, 1) := by decide +kernel
theorem dX4_wrap_42 : decode cX4_wrap 42 = .ok (.getfield 25, 3) := by decide +kernel
theorem dX4_wrap_45 : decode cX4_wrap 45 = .ok (.iastore, 1) := by decide +kernel
theorem dX4_wrap_46 : decode cX4_wrap 46 = .ok (.aload_n 0, 1) := by decide +kernel
theorem dX4_wrap_47 : decode cX4_wrap 47 = .ok (.iload_n 2, 1) := by decide +kernel
theorem dX4_wrap_48 : decode cX4_wrap 48 = .ok (.iconst 1, 1) := by decide +kernel
theorem dX4_wrap_49 : decode cX4_wrap 49 = .ok (.iadd, 1) := by decide +kernel
theorem dX4_wrap_50 : decode cX4_wrap 50 = .ok (.putfield 18, 3) := by decide +kernel
theorem dX4_wrap_53 : decode cX4_wrap 53 = .ok (.iconst 0, 1) := by decide +kernel
theorem dX4_wrap_54 : decode cX4_wrap 54 = .ok (.istore_n 3, 1) := by decide +kernel
theorem dX4_wrap_55 : decode cX4_wrap 55 = .ok (.iload_n 3, 1) := by decide +kernel
theorem dX4_wrap_56 : decode cX4_wrap 56 = .ok (.aload_n 1, 1) := by decide +kernel
theorem dX4_wrap_57 : decode cX4_wrap 57 = .ok (.getfield 28, 3) := by decide +kernel
theorem dX4_wrap_60 : decode cX4_wrap 60 = .ok (.if_icmp .ge 65, 3) := by decide +kernel
theorem dX4_wrap_63 : decode cX4_wrap 63 = .ok (.aload_n 0, 1) := by decide +kernel
theorem dX4_wrap_64 : decode cX4_wrap 64 = .ok (.aload_n 0, 1) := by decide +kernel
theorem dX4_wrap_65 : decode cX4_wrap 65 = .ok (.getfield 11, 3) := by decide +kernel
theorem dX4_wrap_68 : decode cX4_wrap 68 = .ok (.iload_n 2, 1) := by decide +kernel
theorem dX4_wrap_69 : decode cX4_wrap 69 = .ok (.iaload, 1) := by decide +kernel
theorem dX4_wrap_70 : decode cX4_wrap 70 = .ok (.aload_n 0, 1) := by decide +kernel
theorem dX4_wrap_71 : decode cX4_wrap 71 = .ok (.getfield 15, 3) := by decide +kernel
theorem dX4_wrap_74 : decode cX4_wrap 74 = .ok (.iload_n 2, 1) := by decide +kernel
theorem dX4_wrap_75 : decode cX4_wrap 75 = .ok (.iaload, 1) := by decide +kernel
theorem dX4_wrap_76 : decode cX4_wrap 76 = .ok (.aload_n 1, 1) := by decide +kernel
theorem dX4_wrap_77 : decode cX4_wrap 77 = .ok (.getfield 35, 3) := by decide +kernel
theorem dX4_wrap_80 : decode cX4_wrap 80 = .ok (.iload_n 3, 1) := by decide +kernel
theorem dX4_wrap_81 : decode cX4_wrap 81 = .ok (.iaload, 1) := by decide +kernel
theorem dX4_wrap_82 : decode cX4_wrap 82 = .ok (.aload_n 1, 1) := by decide +kernel
theorem dX4_wrap_83 : decode cX4_wrap 83 = .ok (.getfield 38, 3) := by decide +kernel
theorem dX4_wrap_86 : decode cX4_wrap 86 = .ok (.iload_n 3, 1) := by decide +kernel
theorem dX4_wrap_87 : decode cX4_wrap 87 = .ok (.iaload, 1) := by decide +kernel
theorem dX4_wrap_88 : decode cX4_wrap 88 = .ok (.invokevirtual 41, 3) := by decide +kernel
theorem dX4_wrap_91 : decode cX4_wrap 91 = .ok (.aload_n 0, 1) := by decide +kernel
theorem dX4_wrap_92 : decode cX4_wrap 92 = .ok (.aload_n 0, 1) := by decide +kernel
theorem dX4_wrap_93 : decode cX4_wrap 93 = .ok (.getfield 11, 3) := by decide +kernel
theorem dX4_wrap_96 : decode cX4_wrap 96 = .ok (.iload_n 2, 1) := by decide +kernel
theorem dX4_wrap_97 : decode cX4_wrap 97 = .ok (.iaload, 1) := by decide +kernel
theorem dX4_wrap_98 : decode cX4_wrap 98 = .ok (.aload_n 0, 1) := by decide +kernel
theorem dX4_wrap_99 : decode cX4_wrap 99 = .ok (.getfield 15, 3) := by decide +kernel
theorem dX4_wrap_102 : decode cX4_wrap 102 = .ok (.iload_n 2, 1) := by decide +kernel
theorem dX4_wrap_103 : decode cX4_wrap 103 = .ok (.iaload, 1) := by decide +kernel
theorem dX4_wrap_104 : decode cX4_wrap 104 = .ok (.aload_n 1, 1) := by decide +kernel
theorem dX4_wrap_105 : decode cX4_wrap 105 = .ok (.getfield 45, 3) := by decide +kernel
theorem dX4_wrap_108 : decode cX4_wrap 108 = .ok (.iload_n 3, 1) := by decide +kernel
theorem dX4_wrap_109 : decode cX4_wrap 109 = .ok (.iaload, 1) := by decide +kernel
theorem dX4_wrap_110 : decode cX4_wrap 110 = .ok (.aload_n 1, 1) := by decide +kernel
theorem dX4_wrap_111 : decode cX4_wrap 111 = .ok (.getfield 48, 3) := by decide +kernel
theorem dX4_wrap_114 : decode cX4_wrap 114 = .ok (.iload_n 3, 1) := by decide +kernel
theorem dX4_wrap_115 : decode cX4_wrap 115 = .ok (.iaload, 1) := by decide +kernel
theorem dX4_wrap_116 : decode cX4_wrap 116 = .ok (.invokevirtual 41, 3) := by decide +kernel
theorem dX4_wrap_119 : decode cX4_wrap 119 = .ok (.iinc 3 1, 3) := by decide +kernel
theorem dX4_wrap_122 : decode cX4_wrap 122 = .ok (.goto (-67), 3) := by decide +kernel
theorem dX4_wrap_125 : decode cX4_wrap 125 = .ok (.aload_n 0, 1) := by decide +kernel
theorem dX4_wrap_126 : decode cX4_wrap 126 = .ok (.getfield 22, 3) := by decide +kernel
theorem dX4_wrap_129 : decode cX4_wrap 129 = .ok (.aload_n 0, 1) := by decide +kernel
theorem dX4_wrap_130 : decode cX4_wrap 130 = .ok (.getfield 11, 3) := by decide +kernel
theorem dX4_wrap_133 : decode cX4_wrap 133 = .ok (.iconst 0, 1) := by decide +kernel
theorem dX4_wrap_134 : decode cX4_wrap 134 = .ok (.iaload, 1) := by decide +kernel
theorem dX4_wrap_135 : decode cX4_wrap 135 = .ok (.if_icmp .ne 17, 3) := by decide +kernel
theorem dX4_wrap_138 : decode cX4_wrap 138 = .ok (.aload_n 0, 1) := by decide +kernel
theorem dX4_wrap_139 : decode cX4_wrap 139 = .ok (.getfield 25, 3) := by decide +kernel
theorem dX4_wrap_142 : decode cX4_wrap 142 = .ok (.aload_n 0, 1) := by decide +kernel
theorem dX4_wrap_143 : decode cX4_wrap 143 = .ok (.getfield 15, 3) := by decide +kernel
theorem dX4_wrap_146 : decode cX4_wrap 146 = .ok (.iconst 0, 1) := by decide +kernel
theorem dX4_wrap_147 : decode cX4_wrap 147 = .ok (.iaload, 1) := by decide +kernel
theorem dX4_wrap_148 : decode cX4_wrap 148 = .ok (.if_icmp .ne 4, 3) := by decide +kernel
theorem dX4_wrap_151 : decode cX4_wrap 151 = .ok (.return_, 1) := by decide +kernel
theorem dX4_wrap_152 : decode cX4_wrap 152 = .ok (.iinc 2 1, 3) := by decide +kernel
theorem dX4_wrap_155 : decode cX4_wrap 155 = .ok (.goto (-135), 3) := by decide +kernel
theorem dX4_wrap_158 : decode cX4_wrap 158 = .ok (.return_, 1) := by decide +kernel
theorem dX4_findLeast_0 : decode cX4_findLeast 0 = .ok (.aload_n 0, 1) := by decide +kernel
theorem dX4_findLeast_1 : decode cX4_findLeast 1 = .ok (.aload_n 1, 1) := by decide +kernel
theorem dX4_findLeast_2 : decode cX4_findLeast 2 = .ok (.getfield 35, 3) := by decide +kernel
theorem dX4_findLeast_5 : decode cX4_findLeast 5 = .ok (.iconst 0, 1) := by decide +kernel
theorem dX4_findLeast_6 : decode cX4_findLeast 6 = .ok (.iaload, 1) := by decide +kernel
theorem dX4_findLeast_7 : decode cX4_findLeast 7 = .ok (.putfield 22, 3) := by decide +kernel
theorem dX4_findLeast_10 : decode cX4_findLeast 10 = .ok (.aload_n 0, 1) := by decide +kernel
theorem dX4_findLeast_11 : decode cX4_findLeast 11 = .ok (.aload_n 1, 1) := by decide +kernel
theorem dX4_findLeast_12 : decode cX4_findLeast 12 = .ok (.getfield 38, 3) := by decide +kernel
theorem dX4_findLeast_15 : decode cX4_findLeast 15 = .ok (.iconst 0, 1) := by decide +kernel
theorem dX4_findLeast_16 : decode cX4_findLeast 16 = .ok (.iaload, 1) := by decide +kernel
theorem dX4_findLeast_17 : decode cX4_findLeast 17 = .ok (.putfield 25, 3) := by decide +kernel
theorem dX4_findLeast_20 : decode cX4_findLeast 20 = .ok (.iconst 1, 1) := by decide +kernel
theorem dX4_findLeast_21 : decode cX4_findLeast 21 = .ok (.istore_n 2, 1) := by decide +kernel
theorem dX4_findLeast_22 : decode cX4_findLeast 22 = .ok (.iload_n 2, 1) := by decide +kernel
theorem dX4_findLeast_23 : decode cX4_findLeast 23 = .ok (.aload_n 1, 1) := by decide +kernel
theorem dX4_findLeast_24 : decode cX4_findLeast 24 = .ok (.getfield 28, 3) := by decide +kernel
theorem dX4_findLeast_27 : decode cX4_findLeast 27 = .ok (.if_icmp .ge 68, 3) := by decide +kernel
theorem dX4_findLeast_30 : decode cX4_findLeast 30 = .ok (.aload_n 1, 1) := by decide +kernel
theorem dX4_findLeast_31 : decode cX4_findLeast 31 = .ok (.getfield 35, 3) := by decide +kernel
theorem dX4_findLeast_34 : decode cX4_findLeast 34 = .ok (.iload_n 2, 1) := by decide +kernel
theorem dX4_findLeast_35 : decode cX4_findLeast 35 = .ok (.iaload, 1) := by decide +kernel
theorem dX4_findLeast_36 : decode cX4_findLeast 36 = .ok (.aload_n 0, 1) := by decide +kernel
theorem dX4_findLeast_37 : decode cX4_findLeast 37 = .ok (.getfield 22, 3) := by decide +kernel
theorem dX4_findLeast_40 : decode cX4_findLeast 40 = .ok (.if_icmp .lt 29, 3) := by decide +kernel
theorem dX4_findLeast_43 : decode cX4_findLeast 43 = .ok (.aload_n 1, 1) := by decide +kernel
theorem dX4_findLeast_44 : decode cX4_findLeast 44 = .ok (.getfield 35, 3) := by decide +kernel
theorem dX4_findLeast_47 : decode cX4_findLeast 47 = .ok (.iload_n 2, 1) := by decide +kernel
theorem dX4_findLeast_48 : decode cX4_findLeast 48 = .ok (.iaload, 1) := by decide +kernel
theorem dX4_findLeast_49 : decode cX4_findLeast 49 = .ok (.aload_n 0, 1) := by decide +kernel
theorem dX4_findLeast_50 : decode cX4_findLeast 50 = .ok (.getfield 22, 3) := by decide +kernel
theorem dX4_findLeast_53 : decode cX4_findLeast 53 = .ok (.if_icmp .ne 36, 3) := by decide +kernel
theorem dX4_findLeast_56 : decode cX4_findLeast 56 = .ok (.aload_n 1, 1) := by decide +kernel
theorem dX4_findLeast_57 : decode cX4_findLeast 57 = .ok (.getfield 38, 3) := by decide +kernel
theorem dX4_findLeast_60 : decode cX4_findLeast 60 = .ok (.iload_n 2, 1) := by decide +kernel
theorem dX4_findLeast_61 : decode cX4_findLeast 61 = .ok (.iaload, 1) := by decide +kernel
theorem dX4_findLeast_62 : decode cX4_findLeast 62 = .ok (.aload_n 0, 1) := by decide +kernel
theorem dX4_findLeast_63 : decode cX4_findLeast 63 = .ok (.getfield 25, 3) := by decide +kernel
theorem dX4_findLeast_66 : decode cX4_findLeast 66 = .ok (.if_icmp .ge 23, 3) := by decide +kernel
theorem dX4_findLeast_69 : decode cX4_findLeast 69 = .ok (.aload_n 0, 1) := by decide +kernel
theorem dX4_findLeast_70 : decode cX4_findLeast 70 = .ok (.aload_n 1, 1) := by decide +kernel
theorem dX4_findLeast_71 : decode cX4_findLeast 71 = .ok (.getfield 35, 3) := by decide +kernel
theorem dX4_findLeast_74 : decode cX4_findLeast 74 = .ok (.iload_n 2, 1) := by decide +kernel
theorem dX4_findLeast_75 : decode cX4_findLeast 75 = .ok (.iaload, 1) := by decide +kernel
theorem dX4_findLeast_76 : decode cX4_findLeast 76 = .ok (.putfield 22, 3) := by decide +kernel
theorem dX4_findLeast_79 : decode cX4_findLeast 79 = .ok (.aload_n 0, 1) := by decide +kernel
theorem dX4_findLeast_80 : decode cX4_findLeast 80 = .ok (.aload_n 1, 1) := by decide +kernel
theorem dX4_findLeast_81 : decode cX4_findLeast 81 = .ok (.getfield 38, 3) := by decide +kernel
theorem dX4_findLeast_84 : decode cX4_findLeast 84 = .ok (.iload_n 2, 1) := by decide +kernel
theorem dX4_findLeast_85 : decode cX4_findLeast 85 = .ok (.iaload, 1) := by decide +kernel
theorem dX4_findLeast_86 : decode cX4_findLeast 86 = .ok (.putfield 25, 3) := by decide +kernel
theorem dX4_findLeast_89 : decode cX4_findLeast 89 = .ok (.iinc 2 1, 3) := by decide +kernel
theorem dX4_findLeast_92 : decode cX4_findLeast 92 = .ok (.goto (-70), 3) := by decide +kernel
theorem dX4_findLeast_95 : decode cX4_findLeast 95 = .ok (.return_, 1) := by decide +kernel
theorem dX4_tryNext_0 : decode cX4_tryNext 0 = .ok (.aload_n 0, 1) := by decide +kernel
theorem dX4_tryNext_1 : decode cX4_tryNext 1 = .ok (.getfield 22, 3) := by decide +kernel
theorem dX4_tryNext_4 : decode cX4_tryNext 4 = .ok (.iload_n 1, 1) := by decide +kernel
theorem dX4_tryNext_5 : decode cX4_tryNext 5 = .ok (.isub, 1) := by decide +kernel
theorem dX4_tryNext_6 : decode cX4_tryNext 6 = .ok (.i2l, 1) := by decide +kernel
theorem dX4_tryNext_7 : decode cX4_tryNext 7 = .ok (.lstore 5, 2) := by decide +kernel
theorem dX4_tryNext_9 : decode cX4_tryNext 9 = .ok (.aload_n 0, 1) := by decide +kernel
theorem dX4_tryNext_10 : decode cX4_tryNext 10 = .ok (.getfield 25, 3) := by decide +kernel
theorem dX4_tryNext_13 : decode cX4_tryNext 13 = .ok (.iload_n 2, 1) := by decide +kernel
theorem dX4_tryNext_14 : decode cX4_tryNext 14 = .ok (.isub, 1) := by decide +kernel
theorem dX4_tryNext_15 : decode cX4_tryNext 15 = .ok (.i2l, 1) := by decide +kernel
theorem dX4_tryNext_16 : decode cX4_tryNext 16 = .ok (.lstore 7, 2) := by decide +kernel
theorem dX4_tryNext_18 : decode cX4_tryNext 18 = .ok (.iload_n 3, 1) := by decide +kernel
theorem dX4_tryNext_19 : decode cX4_tryNext 19 = .ok (.iload_n 1, 1) := by decide +kernel
theorem dX4_tryNext_20 : decode cX4_tryNext 20 = .ok (.isub, 1) := by decide +kernel
theorem dX4_tryNext_21 : decode cX4_tryNext 21 = .ok (.i2l, 1) := by decide +kernel
theorem dX4_tryNext_22 : decode cX4_tryNext 22 = .ok (.lstore 9, 2) := by decide +kernel
theorem dX4_tryNext_24 : decode cX4_tryNext 24 = .ok (.iload 4, 2) := by decide +kernel
theorem dX4_tryNext_26 : decode cX4_tryNext 26 = .ok (.iload_n 2, 1) := by decide +kernel
theorem dX4_tryNext_27 : decode cX4_tryNext 27 = .ok (.isub, 1) := by decide +kernel
theorem dX4_tryNext_28 : decode cX4_tryNext 28 = .ok (.i2l, 1) := by decide +kernel
theorem dX4_tryNext_29 : decode cX4_tryNext 29 = .ok (.lstore 11, 2) := by decide +kernel
theorem dX4_tryNext_31 : decode cX4_tryNext 31 = .ok (.lload 5, 2) := by decide +kernel
theorem dX4_tryNext_33 : decode cX4_tryNext 33 = .ok (.lload 11, 2) := by decide +kernel
theorem dX4_tryNext_35 : decode cX4_tryNext 35 = .ok (.lmul, 1) := by decide +kernel
theorem dX4_tryNext_36 : decode cX4_tryNext 36 = .ok (.lload 7, 2) := by decide +kernel
theorem dX4_tryNext_38 : decode cX4_tryNext 38 = .ok (.lload 9, 2) := by decide +kernel
theorem dX4_tryNext_40 : decode cX4_tryNext 40 = .ok (.lmul, 1) := by decide +kernel
theorem dX4_tryNext_41 : decode cX4_tryNext 41 = .ok (.lsub, 1) := by decide +kernel
theorem dX4_tryNext_42 : decode cX4_tryNext 42 = .ok (.lstore 13, 2) := by decide +kernel
theorem dX4_tryNext_44 : decode cX4_tryNext 44 = .ok (.lload 9, 2) := by decide +kernel
theorem dX4_tryNext_46 : decode cX4_tryNext 46 = .ok (.invokestatic 51, 3) := by decide +kernel
theorem dX4_tryNext_49 : decode cX4_tryNext 49 = .ok (.lload 11, 2) := by decide +kernel
theorem dX4_tryNext_51 : decode cX4_tryNext 51 = .ok (.invokestatic 51, 3) := by decide +kernel
theorem dX4_tryNext_54 : decode cX4_tryNext 54 = .ok (.ladd, 1) := by decide +kernel
theorem dX4_tryNext_55 : decode cX4_tryNext 55 = .ok (.lload 5, 2) := by decide +kernel
theorem dX4_tryNext_57 : decode cX4_tryNext 57 = .ok (.invokestatic 51, 3) := by decide +kernel
theorem dX4_tryNext_60 : decode cX4_tryNext 60 = .ok (.lload 7, 2) := by decide +kernel
theorem dX4_tryNext_62 : decode cX4_tryNext 62 = .ok (.invokestatic 51, 3) := by decide +kernel
theorem dX4_tryNext_65 : decode cX4_tryNext 65 = .ok (.ladd, 1) := by decide +kernel
theorem dX4_tryNext_66 : decode cX4_tryNext 66 = .ok (.lcmp, 1) := by decide +kernel
theorem dX4_tryNext_67 : decode cX4_tryNext 67 = .ok (.ifCond .le 7, 3) := by decide +kernel
theorem dX4_tryNext_70 : decode cX4_tryNext 70 = .ok (.iconst 1, 1) := by decide +kernel
theorem dX4_tryNext_71 : decode cX4_tryNext 71 = .ok (.goto 4, 3) := by decide +kernel
theorem dX4_tryNext_74 : decode cX4_tryNext 74 = .ok (.iconst 0, 1) := by decide +kernel
theorem dX4_tryNext_75 : decode cX4_tryNext 75 = .ok (.istore 15, 2) := by decide +kernel
theorem dX4_tryNext_77 : decode cX4_tryNext 77 = .ok (.lload 13, 2) := by decide +kernel
theorem dX4_tryNext_79 : decode cX4_tryNext 79 = .ok (.lconst 0, 1) := by decide +kernel
theorem dX4_tryNext_80 : decode cX4_tryNext 80 = .ok (.lcmp, 1) := by decide +kernel
theorem dX4_tryNext_81 : decode cX4_tryNext 81 = .ok (.ifCond .lt 15, 3) := by decide +kernel
theorem dX4_tryNext_84 : decode cX4_tryNext 84 = .ok (.lload 13, 2) := by decide +kernel
theorem dX4_tryNext_86 : decode cX4_tryNext 86 = .ok (.lconst 0, 1) := by decide +kernel
theorem dX4_tryNext_87 : decode cX4_tryNext 87 = .ok (.lcmp, 1) := by decide +kernel
theorem dX4_tryNext_88 : decode cX4_tryNext 88 = .ok (.ifCond .ne 19, 3) := by decide +kernel
theorem dX4_tryNext_91 : decode cX4_tryNext 91 = .ok (.iload 15, 2) := by decide +kernel
theorem dX4_tryNext_93 : decode cX4_tryNext 93 = .ok (.ifCond .eq 14, 3) := by decide +kernel
theorem dX4_tryNext_96 : decode cX4_tryNext 96 = .ok (.aload_n 0, 1) := by decide +kernel
theorem dX4_tryNext_97 : decode cX4_tryNext 97 = .ok (.iload_n 3, 1) := by decide +kernel
theorem dX4_tryNext_98 : decode cX4_tryNext 98 = .ok (.putfield 22, 3) := by decide +kernel
theorem dX4_tryNext_101 : decode cX4_tryNext 101 = .ok (.aload_n 0, 1) := by decide +kernel
theorem dX4_tryNext_102 : decode cX4_tryNext 102 = .ok (.iload 4, 2) := by decide +kernel
theorem dX4_tryNext_104 : decode cX4_tryNext 104 = .ok (.putfield 25, 3) := by decide +kernel
theorem dX4_tryNext_107 : decode cX4_tryNext 107 = .ok (.return_, 1) := by decide +kernel
theorem dX5_init_0 : decode cX5_init 0 = .ok (.aload_n 0, 1) := by decide +kernel
theorem dX5_init_1 : decode cX5_init 1 = .ok (.invokespecial 3, 3) := by decide +kernel
theorem dX5_init_4 : decode cX5_init 4 = .ok (.aload_n 0, 1) := by decide +kernel
theorem dX5_init_5 : decode cX5_init 5 = .ok (.new 9, 3) := by decide +kernel
theorem dX5_init_8 : decode cX5_init 8 = .ok (.dup, 1) := by decide +kernel
theorem dX5_init_9 : decode cX5_init 9 = .ok (.invokespecial 11, 3) := by decide +kernel
theorem dX5_init_12 : decode cX5_init 12 = .ok (.putfield 12, 3) := by decide +kernel
theorem dX5_init_15 : decode cX5_init 15 = .ok (.aload_n 0, 1) := by decide +kernel
theorem dX5_init_16 : decode cX5_init 16 = .ok (.new 18, 3) := by decide +kernel
theorem dX5_init_19 : decode cX5_init 19 = .ok (.dup, 1) := by decide +kernel
theorem dX5_init_20 : decode cX5_init 20 = .ok (.invokespecial 20, 3) := by decide +kernel
theorem dX5_init_23 : decode cX5_init 23 = .ok (.putfield 21, 3) := by decide +kernel
theorem dX5_init_26 : decode cX5_init 26 = .ok (.aload_n 0, 1) := by decide +kernel
theorem dX5_init_27 : decode cX5_init 27 = .ok (.new 25, 3) := by decide +kernel
theorem dX5_init_30 : decode cX5_init 30 = .ok (.dup, 1) := by decide +kernel
theorem dX5_init_31 : decode cX5_init 31 = .ok (.invokespecial 27, 3) := by decide +kernel
theorem dX5_init_34 : decode cX5_init 34 = .ok (.putfield 28, 3) := by decide +kernel
theorem dX5_init_37 : decode cX5_init 37 = .ok (.aload_n 0, 1) := by decide +kernel
theorem dX5_init_38 : decode cX5_init 38 = .ok (.new 32, 3) := by decide +kernel
theorem dX5_init_41 : decode cX5_init 41 = .ok (.dup, 1) := by decide +kernel
theorem dX5_init_42 : decode cX5_init 42 = .ok (.invokespecial 34, 3) := by decide +kernel
theorem dX5_init_45 : decode cX5_init 45 = .ok (.putfield 35, 3) := by decide +kernel
theorem dX5_init_48 : decode cX5_init 48 = .ok (.aload_n 0, 1) := by decide +kernel
theorem dX5_init_49 : decode cX5_init 49 = .ok (.iconst 0, 1) := by decide +kernel
theorem dX5_init_50 : decode cX5_init 50 = .ok (.putfield 39, 3) := by decide +kernel
theorem dX5_init_53 : decode cX5_init 53 = .ok (.return_, 1) := by decide +kernel
theorem dX5_draw_0 : decode cX5_draw 0 = .ok (.aload_n 0, 1) := by decide +kernel
theorem dX5_draw_1 : decode cX5_draw 1 = .ok (.aload_n 1, 1) := by decide +kernel
theorem dX5_draw_2 : decode cX5_draw 2 = .ok (.getfield 43, 3) := by decide +kernel
theorem dX5_draw_5 : decode cX5_draw 5 = .ok (.putfield 39, 3) := by decide +kernel
theorem dX5_draw_8 : decode cX5_draw 8 = .ok (.aload_n 0, 1) := by decide +kernel
theorem dX5_draw_9 : decode cX5_draw 9 = .ok (.getfield 21, 3) := by decide +kernel
theorem dX5_draw_12 : decode cX5_draw 12 = .ok (.aload_n 0, 1) := by decide +kernel
theorem dX5_draw_13 : decode cX5_draw 13 = .ok (.getfield 39, 3) := by decide +kernel
theorem dX5_draw_16 : decode cX5_draw 16 = .ok (.invokevirtual 48, 3) := by decide +kernel
theorem dX5_draw_19 : decode cX5_draw 19 = .ok (.aload_n 0, 1) := by decide +kernel
theorem dX5_draw_20 : decode cX5_draw 20 = .ok (.getfield 28, 3) := by decide +kernel
theorem dX5_draw_23 : decode cX5_draw 23 = .ok (.invokevirtual 52, 3) := by decide +kernel
theorem dX5_draw_26 : decode cX5_draw 26 = .ok (.iconst 0, 1) := by decide +kernel
theorem dX5_draw_27 : decode cX5_draw 27 = .ok (.istore_n 2, 1) := by decide +kernel
theorem dX5_draw_28 : decode cX5_draw 28 = .ok (.iload_n 2, 1) := by decide +kernel
theorem dX5_draw_29 : decode cX5_draw 29 = .ok (.aload_n 0, 1) := by decide +kernel
theorem dX5_draw_30 : decode cX5_draw 30 = .ok (.getfield 39, 3) := by decide +kernel
theorem dX5_draw_33 : decode cX5_draw 33 = .ok (.if_icmp .ge 132, 3) := by decide +kernel
theorem dX5_draw_36 : decode cX5_draw 36 = .ok (.aload_n 0, 1) := by decide +kernel
theorem dX5_draw_37 : decode cX5_draw 37 = .ok (.getfield 28, 3) := by decide +kernel
theorem dX5_draw_40 : decode cX5_draw 40 = .ok (.aload_n 1, 1) := by decide +kernel
theorem dX5_draw_41 : decode cX5_draw 41 = .ok (.getfield 54, 3) := by decide +kernel
theorem dX5_draw_44 : decode cX5_draw 44 = .ok (.iload_n 2, 1) := by decide +kernel
theorem dX5_draw_45 : decode cX5_draw 45 = .ok (.iaload, 1) := by decide +kernel
theorem dX5_draw_46 : decode cX5_draw 46 = .ok (.i2l, 1) := by decide +kernel
theorem dX5_draw_47 : decode cX5_draw 47 = .ok (.aload_n 1, 1) := by decide +kernel
theorem dX5_draw_48 : decode cX5_draw 48 = .ok (.getfield 58, 3) := by decide +kernel
theorem dX5_draw_51 : decode cX5_draw 51 = .ok (.iload_n 2, 1) := by decide +kernel
theorem dX5_draw_52 : decode cX5_draw 52 = .ok (.iaload, 1) := by decide +kernel
theorem dX5_draw_53 : decode cX5_draw 53 = .ok (.i2l, 1) := by decide +kernel
theorem dX5_draw_54 : decode cX5_draw 54 = .ok (.lconst 1, 1) := by decide +kernel
theorem dX5_draw_55 : decode cX5_draw 55 = .ok (.invokevirtual 61, 3) := by decide +kernel
theorem dX5_draw_58 : decode cX5_draw 58 = .ok (.aload_n 0, 1) := by decide +kernel
theorem dX5_draw_59 : decode cX5_draw 59 = .ok (.getfield 28, 3) := by decide +kernel
theorem dX5_draw_62 : decode cX5_draw 62 = .ok (.aload_n 1, 1) := by decide +kernel
theorem dX5_draw_63 : decode cX5_draw 63 = .ok (.getfield 65, 3) := by decide +kernel
theorem dX5_draw_66 : decode cX5_draw 66 = .ok (.iload_n 2, 1) := by decide +kernel
theorem dX5_draw_67 : decode cX5_draw 67 = .ok (.iaload, 1) := by decide +kernel
theorem dX5_draw_68 : decode cX5_draw 68 = .ok (.i2l, 1) := by decide +kernel
theorem dX5_draw_69 : decode cX5_draw 69 = .ok (.aload_n 1, 1) := by decide +kernel
theorem dX5_draw_70 : decode cX5_draw 70 = .ok (.getfield 68, 3) := by decide +kernel
theorem dX5_draw_73 : decode cX5_draw 73 = .ok (.iload_n 2, 1) := by decide +kernel
theorem dX5_draw_74 : decode cX5_draw 74 = .ok (.iaload, 1) := by decide +kernel
theorem dX5_draw_75 : decode cX5_draw 75 = .ok (.i2l, 1) := by decide +kernel
theorem dX5_draw_76 : decode cX5_draw 76 = .ok (.lconst 1, 1) := by decide +kernel
theorem dX5_draw_77 : decode cX5_draw 77 = .ok (.invokevirtual 61, 3) := by decide +kernel
theorem dX5_draw_80 : decode cX5_draw 80 = .ok (.iconst 0, 1) := by decide +kernel
theorem dX5_draw_81 : decode cX5_draw 81 = .ok (.istore_n 3, 1) := by decide +kernel
theorem dX5_draw_82 : decode cX5_draw 82 = .ok (.iload_n 3, 1) := by decide +kernel
theorem dX5_draw_83 : decode cX5_draw 83 = .ok (.iload_n 2, 1) := by decide +kernel
theorem dX5_draw_84 : decode cX5_draw 84 = .ok (.if_icmp .ge 75, 3) := by decide +kernel
theorem dX5_draw_87 : decode cX5_draw 87 = .ok (.aload_n 0, 1) := by decide +kernel
theorem dX5_draw_88 : decode cX5_draw 88 = .ok (.getfield 12, 3) := by decide +kernel
theorem dX5_draw_91 : decode cX5_draw 91 = .ok (.aload_n 1, 1) := by decide +kernel
theorem dX5_draw_92 : decode cX5_draw 92 = .ok (.iload_n 2, 1) := by decide +kernel
theorem dX5_draw_93 : decode cX5_draw 93 = .ok (.aload_n 1, 1) := by decide +kernel
theorem dX5_draw_94 : decode cX5_draw 94 = .ok (.iload_n 3, 1) := by decide +kernel
theorem dX5_draw_95 : decode cX5_draw 95 = .ok (.invokevirtual 71, 3) := by decide +kernel
theorem dX5_draw_98 : decode cX5_draw 98 = .ok (.aload_n 0, 1) := by decide +kernel
theorem dX5_draw_99 : decode cX5_draw 99 = .ok (.getfield 21, 3) := by decide +kernel
theorem dX5_draw_102 : decode cX5_draw 102 = .ok (.iload_n 2, 1) := by decide +kernel
theorem dX5_draw_103 : decode cX5_draw 103 = .ok (.iload_n 3, 1) := by decide +kernel
theorem dX5_draw_104 : decode cX5_draw 104 = .ok (.aload_n 0, 1) := by decide +kernel
theorem dX5_draw_105 : decode cX5_draw 105 = .ok (.getfield 12, 3) := by decide +kernel
theorem dX5_draw_108 : decode cX5_draw 108 = .ok (.getfield 75, 3) := by decide +kernel
theorem dX5_draw_111 : decode cX5_draw 111 = .ok (.invokevirtual 78, 3) := by decide +kernel
theorem dX5_draw_114 : decode cX5_draw 114 = .ok (.aload_n 0, 1) := by decide +kernel
theorem dX5_draw_115 : decode cX5_draw 115 = .ok (.getfield 12, 3) := by decide +kernel
theorem dX5_draw_118 : decode cX5_draw 118 = .ok (.getfield 75, 3) := by decide +kernel
theorem dX5_draw_121 : decode cX5_draw 121 = .ok (.iconst 1, 1) := by decide +kernel
theorem dX5_draw_122 : decode cX5_draw 122 = .ok (.if_icmp .ne 31, 3) := by decide +kernel
theorem dX5_draw_125 : decode cX5_draw 125 = .ok (.aload_n 0, 1) := by decide +kernel
theorem dX5_draw_126 : decode cX5_draw 126 = .ok (.getfield 28, 3) := by decide +kernel
theorem dX5_draw_129 : decode cX5_draw 129 = .ok (.aload_n 0, 1) := by decide +kernel
theorem dX5_draw_130 : decode cX5_draw 130 = .ok (.getfield 12, 3) := by decide +kernel
theorem dX5_draw_133 : decode cX5_draw 133 = .ok (.getfield 82, 3) := by decide +kernel
theorem dX5_draw_136 : decode cX5_draw 136 = .ok (.aload_n 0, 1) := by decide +kernel
theorem dX5_draw_137 : decode cX5_draw 137 = .ok (.getfield 12, 3) := by decide +kernel
theorem dX5_draw_140 : decode cX5_draw 140 = .ok (.getfield 86, 3) := by decide +kernel
theorem dX5_draw_143 : decode cX5_draw 143 = .ok (.aload_n 0, 1) := by decide +kernel
theorem dX5_draw_144 : decode cX5_draw 144 = .ok (.getfield 12, 3) := by decide +kernel
theorem dX5_draw_147 : decode cX5_draw 147 = .ok (.getfield 89, 3) := by decide +kernel
theorem dX5_draw_150 : decode cX5_draw 150 = .ok (.invokevirtual 61, 3) := by decide +kernel
theorem dX5_draw_153 : decode cX5_draw 153 = .ok (.iinc 3 1, 3) := by decide +kernel
theorem dX5_draw_156 : decode cX5_draw 156 = .ok (.goto (-74), 3) := by decide +kernel
theorem dX5_draw_159 : decode cX5_draw 159 = .ok (.iinc 2 1, 3) := by decide +kernel
theorem dX5_draw_162 : decode cX5_draw 162 = .ok (.goto (-134), 3) := by decide +kernel
theorem dX5_draw_165 : decode cX5_draw 165 = .ok (.aload_n 0, 1) := by decide +kernel
theorem dX5_draw_166 : decode cX5_draw 166 = .ok (.getfield 28, 3) := by decide +kernel
theorem dX5_draw_169 : decode cX5_draw 169 = .ok (.aload_n 1, 1) := by decide +kernel
theorem dX5_draw_170 : decode cX5_draw 170 = .ok (.aload_n 0, 1) := by decide +kernel
theorem dX5_draw_171 : decode cX5_draw 171 = .ok (.getfield 21, 3) := by decide +kernel
theorem dX5_draw_174 : decode cX5_draw 174 = .ok (.invokevirtual 92, 3) := by decide +kernel
theorem dX5_draw_177 : decode cX5_draw 177 = .ok (.aload_n 0, 1) := by decide +kernel
theorem dX5_draw_178 : decode cX5_draw 178 = .ok (.getfield 35, 3) := by decide +kernel
theorem dX5_draw_181 : decode cX5_draw 181 = .ok (.aload_n 0, 1) := by decide +kernel
theorem dX5_draw_182 : decode cX5_draw 182 = .ok (.getfield 28, 3) := by decide +kernel
theorem dX5_draw_185 : decode cX5_draw 185 = .ok (.aload_n 0, 1) := by decide +kernel
theorem dX5_draw_186 : decode cX5_draw 186 = .ok (.getfield 39, 3) := by decide +kernel
theorem dX5_draw_189 : decode cX5_draw 189 = .ok (.invokevirtual 96, 3) := by decide +kernel
theorem dX5_draw_192 : decode cX5_draw 192 = .ok (.return_, 1) := by decide +kernel
theorem dX5_faces_0 : decode cX5_faces 0 = .ok (.aload_n 0, 1) := by decide +kernel
theorem dX5_faces_1 : decode cX5_faces 1 = .ok (.getfield 35, 3) := by decide +kernel
theorem dX5_faces_4 : decode cX5_faces 4 = .ok (.getfield 100, 3) := by decide +kernel
theorem dX5_faces_7 : decode cX5_faces 7 = .ok (.aload_n 0, 1) := by decide +kernel
theorem dX5_faces_8 : decode cX5_faces 8 = .ok (.getfield 21, 3) := by decide +kernel
theorem dX5_faces_11 : decode cX5_faces 11 = .ok (.invokevirtual 103, 3) := by decide +kernel
theorem dX5_faces_14 : decode cX5_faces 14 = .ok (.iadd, 1) := by decide +kernel
theorem dX5_faces_15 : decode cX5_faces 15 = .ok (.iconst 1, 1) := by decide +kernel
theorem dX5_faces_16 : decode cX5_faces 16 = .ok (.iadd, 1) := by decide +kernel
theorem dX5_faces_17 : decode cX5_faces 17 = .ok (.aload_n 0, 1) := by decide +kernel
theorem dX5_faces_18 : decode cX5_faces 18 = .ok (.getfield 28, 3) := by decide +kernel
theorem dX5_faces_21 : decode cX5_faces 21 = .ok (.getfield 107, 3) := by decide +kernel
theorem dX5_faces_24 : decode cX5_faces 24 = .ok (.isub, 1) := by decide +kernel
theorem dX5_faces_25 : decode cX5_faces 25 = .ok (.ireturn, 1) := by decide +kernel
theorem dX5_spread_0 : decode cX5_spread 0 = .ok (.aload_n 0, 1) := by decide +kernel
theorem dX5_spread_1 : decode cX5_spread 1 = .ok (.getfield 21, 3) := by decide +kernel
theorem dX5_spread_4 : decode cX5_spread 4 = .ok (.aload_n 0, 1) := by decide +kernel
theorem dX5_spread_5 : decode cX5_spread 5 = .ok (.getfield 28, 3) := by decide +kernel
theorem dX5_spread_8 : decode cX5_spread 8 = .ok (.iload_n 1, 1) := by decide +kernel
theorem dX5_spread_9 : decode cX5_spread 9 = .ok (.invokevirtual 108, 3) := by decide +kernel
theorem dX5_spread_12 : decode cX5_spread 12 = .ok (.invokevirtual 112, 3) := by decide +kernel
theorem dX5_spread_15 : decode cX5_spread 15 = .ok (.ireturn, 1) := by decide +kernel
theorem dX5_spreads_0 : decode cX5_spreads 0 = .ok (.iconst 0, 1) := by decide +kernel
theorem dX5_spreads_1 : decode cX5_spreads 1 = .ok (.istore_n 1, 1) := by decide +kernel
theorem dX5_spreads_2 : decode cX5_spreads 2 = .ok (.iconst 0, 1) := by decide +kernel
theorem dX5_spreads_3 : decode cX5_spreads 3 = .ok (.istore_n 2, 1) := by decide +kernel
theorem dX5_spreads_4 : decode cX5_spreads 4 = .ok (.iload_n 2, 1) := by decide +kernel
theorem dX5_spreads_5 : decode cX5_spreads 5 = .ok (.aload_n 0, 1) := by decide +kernel
theorem dX5_spreads_6 : decode cX5_spreads 6 = .ok (.getfield 28, 3) := by decide +kernel
theorem dX5_spreads_9 : decode cX5_spreads 9 = .ok (.getfield 115, 3) := by decide +kernel
theorem dX5_spreads_12 : decode cX5_spreads 12 = .ok (.if_icmp .ge 25, 3) := by decide +kernel
theorem dX5_spreads_15 : decode cX5_spreads 15 = .ok (.iload_n 1, 1) := by decide +kernel
theorem dX5_spreads_16 : decode cX5_spreads 16 = .ok (.aload_n 0, 1) := by decide +kernel
theorem dX5_spreads_17 : decode cX5_spreads 17 = .ok (.aload_n 0, 1) := by decide +kernel
theorem dX5_spreads_18 : decode cX5_spreads 18 = .ok (.getfield 28, 3) := by decide +kernel
theorem dX5_spreads_21 : decode cX5_spreads 21 = .ok (.getfield 118, 3) := by decide +kernel
theorem dX5_spreads_24 : decode cX5_spreads 24 = .ok (.iload_n 2, 1) := by decide +kernel
theorem dX5_spreads_25 : decode cX5_spreads 25 = .ok (.iaload, 1) := by decide +kernel
theorem dX5_spreads_26 : decode cX5_spreads 26 = .ok (.invokevirtual 121, 3) := by decide +kernel
theorem dX5_spreads_29 : decode cX5_spreads 29 = .ok (.iadd, 1) := by decide +kernel
theorem dX5_spreads_30 : decode cX5_spreads 30 = .ok (.istore_n 1, 1) := by decide +kernel
theorem dX5_spreads_31 : decode cX5_spreads 31 = .ok (.iinc 2 1, 3) := by decide +kernel
theorem dX5_spreads_34 : decode cX5_spreads 34 = .ok (.goto (-30), 3) := by decide +kernel
theorem dX5_spreads_37 : decode cX5_spreads 37 = .ok (.iload_n 1, 1) := by decide +kernel
theorem dX5_spreads_38 : decode cX5_spreads 38 = .ok (.ireturn, 1) := by decide +kernel
theorem dX5_blame_0 : decode cX5_blame 0 = .ok (.iconst (-1), 1) := by decide +kernel
theorem dX5_blame_1 : decode cX5_blame 1 = .ok (.istore_n 1, 1) := by decide +kernel
theorem dX5_blame_2 : decode cX5_blame 2 = .ok (.iconst (-1), 1) := by decide +kernel
theorem dX5_blame_3 : decode cX5_blame 3 = .ok (.istore_n 2, 1) := by decide +kernel
theorem dX5_blame_4 : decode cX5_blame 4 = .ok (.iconst 0, 1) := by decide +kernel
theorem dX5_blame_5 : decode cX5_blame 5 = .ok (.istore_n 3, 1) := by decide +kernel
theorem dX5_blame_6 : decode cX5_blame 6 = .ok (.iload_n 3, 1) := by decide +kernel
theorem dX5_blame_7 : decode cX5_blame 7 = .ok (.aload_n 0, 1) := by decide +kernel
theorem dX5_blame_8 : decode cX5_blame 8 = .ok (.getfield 39, 3) := by decide +kernel
theorem dX5_blame_11 : decode cX5_blame 11 = .ok (.if_icmp .ge 27, 3) := by decide +kernel
theorem dX5_blame_14 : decode cX5_blame 14 = .ok (.aload_n 0, 1) := by decide +kernel
theorem dX5_blame_15 : decode cX5_blame 15 = .ok (.iload_n 3, 1) := by decide +kernel
theorem dX5_blame_16 : decode cX5_blame 16 = .ok (.invokevirtual 124, 3) := by decide +kernel
theorem dX5_blame_19 : decode cX5_blame 19 = .ok (.istore 4, 2) := by decide +kernel
theorem dX5_blame_21 : decode cX5_blame 21 = .ok (.iload 4, 2) := by decide +kernel
theorem dX5_blame_23 : decode cX5_blame 23 = .ok (.iload_n 2, 1) := by decide +kernel
theorem dX5_blame_24 : decode cX5_blame 24 = .ok (.if_icmp .le 8, 3) := by decide +kernel
theorem dX5_blame_27 : decode cX5_blame 27 = .ok (.iload_n 3, 1) := by decide +kernel
theorem dX5_blame_28 : decode cX5_blame 28 = .ok (.istore_n 1, 1) := by decide +kernel
theorem dX5_blame_29 : decode cX5_blame 29 = .ok (.iload 4, 2) := by decide +kernel
theorem dX5_blame_31 : decode cX5_blame 31 = .ok (.istore_n 2, 1) := by decide +kernel
theorem dX5_blame_32 : decode cX5_blame 32 = .ok (.iinc 3 1, 3) := by decide +kernel
theorem dX5_blame_35 : decode cX5_blame 35 = .ok (.goto (-29), 3) := by decide +kernel
theorem dX5_blame_38 : decode cX5_blame 38 = .ok (.iload_n 1, 1) := by decide +kernel
theorem dX5_blame_39 : decode cX5_blame 39 = .ok (.ireturn, 1) := by decide +kernel
theorem dX5_crossingsFewerWithout_0 : decode cX5_crossingsFewerWithout 0 = .ok (.iconst 0, 1) := by decide +kernel
theorem dX5_crossingsFewerWithout_1 : decode cX5_crossingsFewerWithout 1 = .ok (.istore_n 2, 1) := by decide +kernel
theorem dX5_crossingsFewerWithout_2 : decode cX5_crossingsFewerWithout 2 = .ok (.iconst 0, 1) := by decide +kernel
theorem dX5_crossingsFewerWithout_3 : decode cX5_crossingsFewerWithout 3 = .ok (.istore_n 3, 1) := by decide +kernel
theorem dX5_crossingsFewerWithout_4 : decode cX5_crossingsFewerWithout 4 = .ok (.iload_n 3, 1) := by decide +kernel
theorem dX5_crossingsFewerWithout_5 : decode cX5_crossingsFewerWithout 5 = .ok (.aload_n 0, 1) := by decide +kernel
theorem dX5_crossingsFewerWithout_6 : decode cX5_crossingsFewerWithout 6 = .ok (.getfield 28, 3) := by decide +kernel
theorem dX5_crossingsFewerWithout_9 : decode cX5_crossingsFewerWithout 9 = .ok (.getfield 115, 3) := by decide +kernel
theorem dX5_crossingsFewerWithout_12 : decode cX5_crossingsFewerWithout 12 = .ok (.if_icmp .ge 58, 3) := by decide +kernel
theorem dX5_crossingsFewerWithout_15 : decode cX5_crossingsFewerWithout 15 = .ok (.aload_n 0, 1) := by decide +kernel
theorem dX5_crossingsFewerWithout_16 : decode cX5_crossingsFewerWithout 16 = .ok (.getfield 28, 3) := by decide +kernel
theorem dX5_crossingsFewerWithout_19 : decode cX5_crossingsFewerWithout 19 = .ok (.getfield 127, 3) := by decide +kernel
theorem dX5_crossingsFewerWithout_22 : decode cX5_crossingsFewerWithout 22 = .ok (.aload_n 0, 1) := by decide +kernel
theorem dX5_crossingsFewerWithout_23 : decode cX5_crossingsFewerWithout 23 = .ok (.getfield 28, 3) := by decide +kernel
theorem dX5_crossingsFewerWithout_26 : decode cX5_crossingsFewerWithout 26 = .ok (.getfield 118, 3) := by decide +kernel
theorem dX5_crossingsFewerWithout_29 : decode cX5_crossingsFewerWithout 29 = .ok (.iload_n 3, 1) := by decide +kernel
theorem dX5_crossingsFewerWithout_30 : decode cX5_crossingsFewerWithout 30 = .ok (.iaload, 1) := by decide +kernel
theorem dX5_crossingsFewerWithout_31 : decode cX5_crossingsFewerWithout 31 = .ok (.iaload, 1) := by decide +kernel
theorem dX5_crossingsFewerWithout_32 : decode cX5_crossingsFewerWithout 32 = .ok (.istore 4, 2) := by decide +kernel
theorem dX5_crossingsFewerWithout_34 : decode cX5_crossingsFewerWithout 34 = .ok (.iload 4, 2) := by decide +kernel
theorem dX5_crossingsFewerWithout_36 : decode cX5_crossingsFewerWithout 36 = .ok (.iload_n 1, 1) := by decide +kernel
theorem dX5_crossingsFewerWithout_37 : decode cX5_crossingsFewerWithout 37 = .ok (.invokestatic 130, 3) := by decide +kernel
theorem dX5_crossingsFewerWithout_40 : decode cX5_crossingsFewerWithout 40 = .ok (.ifCond .eq 24, 3) := by decide +kernel
theorem dX5_crossingsFewerWithout_43 : decode cX5_crossingsFewerWithout 43 = .ok (.aload_n 0, 1) := by decide +kernel
theorem dX5_crossingsFewerWithout_44 : decode cX5_crossingsFewerWithout 44 = .ok (.getfield 21, 3) := by decide +kernel
theorem dX5_crossingsFewerWithout_47 : decode cX5_crossingsFewerWithout 47 = .ok (.iload 4, 2) := by decide +kernel
theorem dX5_crossingsFewerWithout_49 : decode cX5_crossingsFewerWithout 49 = .ok (.iconst 1, 1) := by decide +kernel
theorem dX5_crossingsFewerWithout_50 : decode cX5_crossingsFewerWithout 50 = .ok (.iload_n 1, 1) := by decide +kernel
theorem dX5_crossingsFewerWithout_51 : decode cX5_crossingsFewerWithout 51 = .ok (.ishl, 1) := by decide +kernel
theorem dX5_crossingsFewerWithout_52 : decode cX5_crossingsFewerWithout 52 = .ok (.iconst (-1), 1) := by decide +kernel
theorem dX5_crossingsFewerWithout_53 : decode cX5_crossingsFewerWithout 53 = .ok (.ixor, 1) := by decide +kernel
theorem dX5_crossingsFewerWithout_54 : decode cX5_crossingsFewerWithout 54 = .ok (.iand, 1) := by decide +kernel
theorem dX5_crossingsFewerWithout_55 : decode cX5_crossingsFewerWithout 55 = .ok (.invokevirtual 112, 3) := by decide +kernel
theorem dX5_crossingsFewerWithout_58 : decode cX5_crossingsFewerWithout 58 = .ok (.ifCond .ne 6, 3) := by decide +kernel
theorem dX5_crossingsFewerWithout_61 : decode cX5_crossingsFewerWithout 61 = .ok (.iinc 2 1, 3) := by decide +kernel
theorem dX5_crossingsFewerWithout_64 : decode cX5_crossingsFewerWithout 64 = .ok (.iinc 3 1, 3) := by decide +kernel
theorem dX5_crossingsFewerWithout_67 : decode cX5_crossingsFewerWithout 67 = .ok (.goto (-63), 3) := by decide +kernel
theorem dX5_crossingsFewerWithout_70 : decode cX5_crossingsFewerWithout 70 = .ok (.iload_n 2, 1) := by decide +kernel
theorem dX5_crossingsFewerWithout_71 : decode cX5_crossingsFewerWithout 71 = .ok (.ireturn, 1) := by decide +kernel
theorem dX6_init_0 : decode cX6_init 0 = .ok (.aload_n 0, 1) := by decide +kernel
theorem dX6_init_1 : decode cX6_init 1 = .ok (.invokespecial 3, 3) := by decide +kernel
theorem dX6_init_4 : decode cX6_init 4 = .ok (.aload_n 0, 1) := by decide +kernel
theorem dX6_init_5 : decode cX6_init 5 = .ok (.sipush 400, 3) := by decide +kernel
theorem dX6_init_8 : decode cX6_init 8 = .ok (.newarray .byte, 2) := by decide +kernel
theorem dX6_init_10 : decode cX6_init 10 = .ok (.putfield 9, 3) := by decide +kernel
theorem dX6_init_13 : decode cX6_init 13 = .ok (.aload_n 0, 1) := by decide +kernel
theorem dX6_init_14 : decode cX6_init 14 = .ok (.iconst 5, 1) := by decide +kernel
theorem dX6_init_15 : decode cX6_init 15 = .ok (.newarray .int, 2) := by decide +kernel
theorem dX6_init_17 : decode cX6_init 17 = .ok (.putfield 15, 3) := by decide +kernel
theorem dX6_init_20 : decode cX6_init 20 = .ok (.aload_n 0, 1) := by decide +kernel
theorem dX6_init_21 : decode cX6_init 21 = .ok (.new 19, 3) := by decide +kernel
theorem dX6_init_24 : decode cX6_init 24 = .ok (.dup, 1) := by decide +kernel
theorem dX6_init_25 : decode cX6_init 25 = .ok (.invokespecial 21, 3) := by decide +kernel
theorem dX6_init_28 : decode cX6_init 28 = .ok (.putfield 22, 3) := by decide +kernel
theorem dX6_init_31 : decode cX6_init 31 = .ok (.aload_n 0, 1) := by decide +kernel
theorem dX6_init_32 : decode cX6_init 32 = .ok (.iconst 0, 1) := by decide +kernel
theorem dX6_init_33 : decode cX6_init 33 = .ok (.putfield 26, 3) := by decide +kernel
theorem dX6_init_36 : decode cX6_init 36 = .ok (.aload_n 0, 1) := by decide +kernel
theorem dX6_init_37 : decode cX6_init 37 = .ok (.iconst (-1), 1) := by decide +kernel
theorem dX6_init_38 : decode cX6_init 38 = .ok (.putfield 30, 3) := by decide +kernel
theorem dX6_init_41 : decode cX6_init 41 = .ok (.aload_n 0, 1) := by decide +kernel
theorem dX6_init_42 : decode cX6_init 42 = .ok (.iconst 0, 1) := by decide +kernel
theorem dX6_init_43 : decode cX6_init 43 = .ok (.putfield 33, 3) := by decide +kernel
theorem dX6_init_46 : decode cX6_init 46 = .ok (.aload_n 0, 1) := by decide +kernel
theorem dX6_init_47 : decode cX6_init 47 = .ok (.iconst 0, 1) := by decide +kernel
theorem dX6_init_48 : decode cX6_init 48 = .ok (.putfield 36, 3) := by decide +kernel
theorem dX6_init_51 : decode cX6_init 51 = .ok (.return_, 1) := by decide +kernel
theorem dX6_hasRoom_0 : decode cX6_hasRoom 0 = .ok (.aload_n 0, 1) := by decide +kernel
theorem dX6_hasRoom_1 : decode cX6_hasRoom 1 = .ok (.getfield 26, 3) := by decide +kernel
theorem dX6_hasRoom_4 : decode cX6_hasRoom 4 = .ok (.bipush 20, 2) := by decide +kernel
theorem dX6_hasRoom_6 : decode cX6_hasRoom 6 = .ok (.iadd, 1) := by decide +kernel
theorem dX6_hasRoom_7 : decode cX6_hasRoom 7 = .ok (.sipush 400, 3) := by decide +kernel
theorem dX6_hasRoom_10 : decode cX6_hasRoom 10 = .ok (.if_icmp .gt 7, 3) := by decide +kernel
theorem dX6_hasRoom_13 : decode cX6_hasRoom 13 = .ok (.iconst 1, 1) := by decide +kernel
theorem dX6_hasRoom_14 : decode cX6_hasRoom 14 = .ok (.goto 4, 3) := by decide +kernel
theorem dX6_hasRoom_17 : decode cX6_hasRoom 17 = .ok (.iconst 0, 1) := by decide +kernel
theorem dX6_hasRoom_18 : decode cX6_hasRoom 18 = .ok (.ireturn, 1) := by decide +kernel
theorem dX6_push_0 : decode cX6_push 0 = .ok (.bipush 24, 2) := by decide +kernel
theorem dX6_push_2 : decode cX6_push 2 = .ok (.istore_n 2, 1) := by decide +kernel
theorem dX6_push_3 : decode cX6_push 3 = .ok (.iload_n 2, 1) := by decide +kernel
theorem dX6_push_4 : decode cX6_push 4 = .ok (.ifCond .lt 42, 3) := by decide +kernel
theorem dX6_push_7 : decode cX6_push 7 = .ok (.aload_n 0, 1) := by decide +kernel
theorem dX6_push_8 : decode cX6_push 8 = .ok (.getfield 26, 3) := by decide +kernel
theorem dX6_push_11 : decode cX6_push 11 = .ok (.sipush 400, 3) := by decide +kernel
theorem dX6_push_14 : decode cX6_push 14 = .ok (.if_icmp .ge 26, 3) := by decide +kernel
theorem dX6_push_17 : decode cX6_push 17 = .ok (.aload_n 0, 1) := by decide +kernel
theorem dX6_push_18 : decode cX6_push 18 = .ok (.getfield 9, 3) := by decide +kernel
theorem dX6_push_21 : decode cX6_push 21 = .ok (.aload_n 0, 1) := by decide +kernel
theorem dX6_push_22 : decode cX6_push 22 = .ok (.getfield 26, 3) := by decide +kernel
theorem dX6_push_25 : decode cX6_push 25 = .ok (.iload_n 1, 1) := by decide +kernel
theorem dX6_push_26 : decode cX6_push 26 = .ok (.iload_n 2, 1) := by decide +kernel
theorem dX6_push_27 : decode cX6_push 27 = .ok (.ishr, 1) := by decide +kernel
theorem dX6_push_28 : decode cX6_push 28 = .ok (.i2b, 1) := by decide +kernel
theorem dX6_push_29 : decode cX6_push 29 = .ok (.bastore, 1) := by decide +kernel
theorem dX6_push_30 : decode cX6_push 30 = .ok (.aload_n 0, 1) := by decide +kernel
theorem dX6_push_31 : decode cX6_push 31 = .ok (.dup, 1) := by decide +kernel
theorem dX6_push_32 : decode cX6_push 32 = .ok (.getfield 26, 3) := by decide +kernel
theorem dX6_push_35 : decode cX6_push 35 = .ok (.iconst 1, 1) := by decide +kernel
theorem dX6_push_36 : decode cX6_push 36 = .ok (.iadd, 1) := by decide +kernel
theorem dX6_push_37 : decode cX6_push 37 = .ok (.putfield 26, 3) := by decide +kernel
theorem dX6_push_40 : decode cX6_push 40 = .ok (.iinc 2 (-8), 3) := by decide +kernel
theorem dX6_push_43 : decode cX6_push 43 = .ok (.goto (-40), 3) := by decide +kernel
theorem dX6_push_46 : decode cX6_push 46 = .ok (.return_, 1) := by decide +kernel
theorem dX6_shorten_0 : decode cX6_shorten 0 = .ok (.iload_n 1, 1) := by decide +kernel
theorem dX6_shorten_1 : decode cX6_shorten 1 = .ok (.ifCond .lt 11, 3) := by decide +kernel
theorem dX6_shorten_4 : decode cX6_shorten 4 = .ok (.iload_n 1, 1) := by decide +kernel
theorem dX6_shorten_5 : decode cX6_shorten 5 = .ok (.aload_n 0, 1) := by decide +kernel
theorem dX6_shorten_6 : decode cX6_shorten 6 = .ok (.getfield 26, 3) := by decide +kernel
theorem dX6_shorten_9 : decode cX6_shorten 9 = .ok (.if_icmp .le 5, 3) := by decide +kernel
theorem dX6_shorten_12 : decode cX6_shorten 12 = .ok (.iconst 0, 1) := by decide +kernel
theorem dX6_shorten_13 : decode cX6_shorten 13 = .ok (.ireturn, 1) := by decide +kernel
theorem dX6_shorten_14 : decode cX6_shorten 14 = .ok (.aload_n 0, 1) := by decide +kernel
theorem dX6_shorten_15 : decode cX6_shorten 15 = .ok (.iload_n 1, 1) := by decide +kernel
theorem dX6_shorten_16 : decode cX6_shorten 16 = .ok (.putfield 26, 3) := by decide +kernel
theorem dX6_shorten_19 : decode cX6_shorten 19 = .ok (.iconst 1, 1) := by decide +kernel
theorem dX6_shorten_20 : decode cX6_shorten 20 = .ok (.ireturn, 1) := by decide +kernel
theorem dX6_read_0 : decode cX6_read 0 = .ok (.aload_n 0, 1) := by decide +kernel
theorem dX6_read_1 : decode cX6_read 1 = .ok (.getfield 22, 3) := by decide +kernel
theorem dX6_read_4 : decode cX6_read 4 = .ok (.aload_n 1, 1) := by decide +kernel
theorem dX6_read_5 : decode cX6_read 5 = .ok (.invokevirtual 39, 3) := by decide +kernel
theorem dX6_read_8 : decode cX6_read 8 = .ok (.aload_n 0, 1) := by decide +kernel
theorem dX6_read_9 : decode cX6_read 9 = .ok (.iconst (-1), 1) := by decide +kernel
theorem dX6_read_10 : decode cX6_read 10 = .ok (.putfield 30, 3) := by decide +kernel
theorem dX6_read_13 : decode cX6_read 13 = .ok (.aload_n 0, 1) := by decide +kernel
theorem dX6_read_14 : decode cX6_read 14 = .ok (.iconst 0, 1) := by decide +kernel
theorem dX6_read_15 : decode cX6_read 15 = .ok (.putfield 33, 3) := by decide +kernel
theorem dX6_read_18 : decode cX6_read 18 = .ok (.aload_n 0, 1) := by decide +kernel
theorem dX6_read_19 : decode cX6_read 19 = .ok (.invokevirtual 43, 3) := by decide +kernel
theorem dX6_read_22 : decode cX6_read 22 = .ok (.iconst 0, 1) := by decide +kernel
theorem dX6_read_23 : decode cX6_read 23 = .ok (.istore_n 2, 1) := by decide +kernel
theorem dX6_read_24 : decode cX6_read 24 = .ok (.aload_n 0, 1) := by decide +kernel
theorem dX6_read_25 : decode cX6_read 25 = .ok (.getfield 33, 3) := by decide +kernel
theorem dX6_read_28 : decode cX6_read 28 = .ok (.aload_n 0, 1) := by decide +kernel
theorem dX6_read_29 : decode cX6_read 29 = .ok (.getfield 26, 3) := by decide +kernel
theorem dX6_read_32 : decode cX6_read 32 = .ok (.if_icmp .ge 7, 3) := by decide +kernel
theorem dX6_read_35 : decode cX6_read 35 = .ok (.iconst 1, 1) := by decide +kernel
theorem dX6_read_36 : decode cX6_read 36 = .ok (.goto 4, 3) := by decide +kernel
theorem dX6_read_39 : decode cX6_read 39 = .ok (.iconst 0, 1) := by decide +kernel
theorem dX6_read_40 : decode cX6_read 40 = .ok (.istore_n 3, 1) := by decide +kernel
theorem dX6_read_41 : decode cX6_read 41 = .ok (.iconst 0, 1) := by decide +kernel
theorem dX6_read_42 : decode cX6_read 42 = .ok (.istore 4, 2) := by decide +kernel
theorem dX6_read_44 : decode cX6_read 44 = .ok (.iload 4, 2) := by decide +kernel
theorem dX6_read_46 : decode cX6_read 46 = .ok (.bipush 14, 2) := by decide +kernel
theorem dX6_read_48 : decode cX6_read 48 = .ok (.if_icmp .gt 58, 3) := by decide +kernel
theorem dX6_read_51 : decode cX6_read 51 = .ok (.iload_n 3, 1) := by decide +kernel
theorem dX6_read_52 : decode cX6_read 52 = .ok (.ifCond .eq 54, 3) := by decide +kernel
theorem dX6_read_55 : decode cX6_read 55 = .ok (.aload_n 0, 1) := by decide +kernel
theorem dX6_read_56 : decode cX6_read 56 = .ok (.invokevirtual 43, 3) := by decide +kernel
theorem dX6_read_59 : decode cX6_read 59 = .ok (.iload 4, 2) := by decide +kernel
theorem dX6_read_61 : decode cX6_read 61 = .ok (.bipush 14, 2) := by decide +kernel
theorem dX6_read_63 : decode cX6_read 63 = .ok (.if_icmp .ge 25, 3) := by decide +kernel
theorem dX6_read_66 : decode cX6_read 66 = .ok (.aload_n 0, 1) := by decide +kernel
theorem dX6_read_67 : decode cX6_read 67 = .ok (.invokevirtual 46, 3) := by decide +kernel
theorem dX6_read_70 : decode cX6_read 70 = .ok (.ifCond .eq 14, 3) := by decide +kernel
theorem dX6_read_73 : decode cX6_read 73 = .ok (.aload_n 0, 1) := by decide +kernel
theorem dX6_read_74 : decode cX6_read 74 = .ok (.invokevirtual 50, 3) := by decide +kernel
theorem dX6_read_77 : decode cX6_read 77 = .ok (.ifCond .eq 7, 3) := by decide +kernel
theorem dX6_read_80 : decode cX6_read 80 = .ok (.iconst 1, 1) := by decide +kernel
theorem dX6_read_81 : decode cX6_read 81 = .ok (.goto 15, 3) := by decide +kernel
theorem dX6_read_84 : decode cX6_read 84 = .ok (.iconst 0, 1) := by decide +kernel
theorem dX6_read_85 : decode cX6_read 85 = .ok (.goto 11, 3) := by decide +kernel
theorem dX6_read_88 : decode cX6_read 88 = .ok (.aload_n 0, 1) := by decide +kernel
theorem dX6_read_89 : decode cX6_read 89 = .ok (.aload_n 0, 1) := by decide +kernel
theorem dX6_read_90 : decode cX6_read 90 = .ok (.getfield 33, 3) := by decide +kernel
theorem dX6_read_93 : decode cX6_read 93 = .ok (.invokevirtual 53, 3) := by decide +kernel
theorem dX6_read_96 : decode cX6_read 96 = .ok (.istore_n 3, 1) := by decide +kernel
theorem dX6_read_97 : decode cX6_read 97 = .ok (.iinc 2 1, 3) := by decide +kernel
theorem dX6_read_100 : decode cX6_read 100 = .ok (.iinc 4 1, 3) := by decide +kernel
theorem dX6_read_103 : decode cX6_read 103 = .ok (.goto (-59), 3) := by decide +kernel
theorem dX6_read_106 : decode cX6_read 106 = .ok (.aload_n 0, 1) := by decide +kernel
theorem dX6_read_107 : decode cX6_read 107 = .ok (.iconst 0, 1) := by decide +kernel
theorem dX6_read_108 : decode cX6_read 108 = .ok (.putfield 26, 3) := by decide +kernel
theorem dX6_read_111 : decode cX6_read 111 = .ok (.iload_n 2, 1) := by decide +kernel
theorem dX6_read_112 : decode cX6_read 112 = .ok (.ireturn, 1) := by decide +kernel
theorem dX6_readBreak_0 : decode cX6_readBreak 0 = .ok (.aload_n 0, 1) := by decide +kernel
theorem dX6_readBreak_1 : decode cX6_readBreak 1 = .ok (.invokevirtual 43, 3) := by decide +kernel
theorem dX6_readBreak_4 : decode cX6_readBreak 4 = .ok (.aload_n 0, 1) := by decide +kernel
theorem dX6_readBreak_5 : decode cX6_readBreak 5 = .ok (.getfield 33, 3) := by decide +kernel
theorem dX6_readBreak_8 : decode cX6_readBreak 8 = .ok (.aload_n 0, 1) := by decide +kernel
theorem dX6_readBreak_9 : decode cX6_readBreak 9 = .ok (.getfield 26, 3) := by decide +kernel
theorem dX6_readBreak_12 : decode cX6_readBreak 12 = .ok (.if_icmp .lt 5, 3) := by decide +kernel
theorem dX6_readBreak_15 : decode cX6_readBreak 15 = .ok (.iconst 0, 1) := by decide +kernel
theorem dX6_readBreak_16 : decode cX6_readBreak 16 = .ok (.ireturn, 1) := by decide +kernel
theorem dX6_readBreak_17 : decode cX6_readBreak 17 = .ok (.aload_n 0, 1) := by decide +kernel
theorem dX6_readBreak_18 : decode cX6_readBreak 18 = .ok (.getfield 9, 3) := by decide +kernel
theorem dX6_readBreak_21 : decode cX6_readBreak 21 = .ok (.aload_n 0, 1) := by decide +kernel
theorem dX6_readBreak_22 : decode cX6_readBreak 22 = .ok (.getfield 33, 3) := by decide +kernel
theorem dX6_readBreak_25 : decode cX6_readBreak 25 = .ok (.baload, 1) := by decide +kernel
theorem dX6_readBreak_26 : decode cX6_readBreak 26 = .ok (.bipush 59, 2) := by decide +kernel
theorem dX6_readBreak_28 : decode cX6_readBreak 28 = .ok (.if_icmp .eq 12, 3) := by decide +kernel
theorem dX6_readBreak_31 : decode cX6_readBreak 31 = .ok (.aload_n 0, 1) := by decide +kernel
theorem dX6_readBreak_32 : decode cX6_readBreak 32 = .ok (.aload_n 0, 1) := by decide +kernel
theorem dX6_readBreak_33 : decode cX6_readBreak 33 = .ok (.getfield 33, 3) := by decide +kernel
theorem dX6_readBreak_36 : decode cX6_readBreak 36 = .ok (.invokevirtual 53, 3) := by decide +kernel
theorem dX6_readBreak_39 : decode cX6_readBreak 39 = .ok (.ireturn, 1) := by decide +kernel
theorem dX6_readBreak_40 : decode cX6_readBreak 40 = .ok (.aload_n 0, 1) := by decide +kernel
theorem dX6_readBreak_41 : decode cX6_readBreak 41 = .ok (.dup, 1) := by decide +kernel
theorem dX6_readBreak_42 : decode cX6_readBreak 42 = .ok (.getfield 33, 3) := by decide +kernel
theorem dX6_readBreak_45 : decode cX6_readBreak 45 = .ok (.iconst 1, 1) := by decide +kernel
theorem dX6_readBreak_46 : decode cX6_readBreak 46 = .ok (.iadd, 1) := by decide +kernel
theorem dX6_readBreak_47 : decode cX6_readBreak 47 = .ok (.putfield 33, 3) := by decide +kernel
theorem dX6_readBreak_50 : decode cX6_readBreak 50 = .ok (.iconst 1, 1) := by decide +kernel
theorem dX6_readBreak_51 : decode cX6_readBreak 51 = .ok (.ireturn, 1) := by decide +kernel
theorem dX6_readAct_0 : decode cX6_readAct 0 = .ok (.aload_n 0, 1) := by decide +kernel
theorem dX6_readAct_1 : decode cX6_readAct 1 = .ok (.getfield 33, 3) := by decide +kernel
theorem dX6_readAct_4 : decode cX6_readAct 4 = .ok (.istore_n 1, 1) := by decide +kernel
theorem dX6_readAct_5 : decode cX6_readAct 5 = .ok (.aload_n 0, 1) := by decide +kernel
theorem dX6_readAct_6 : decode cX6_readAct 6 = .ok (.ldc 57, 2) := by decide +kernel
theorem dX6_readAct_8 : decode cX6_readAct 8 = .ok (.invokevirtual 59, 3) := by decide +kernel
theorem dX6_readAct_11 : decode cX6_readAct 11 = .ok (.ifCond .eq 9, 3) := by decide +kernel
theorem dX6_readAct_14 : decode cX6_readAct 14 = .ok (.aload_n 0, 1) := by decide +kernel
theorem dX6_readAct_15 : decode cX6_readAct 15 = .ok (.iload_n 1, 1) := by decide +kernel
theorem dX6_readAct_16 : decode cX6_readAct 16 = .ok (.invokevirtual 63, 3) := by decide +kernel
theorem dX6_readAct_19 : decode cX6_readAct 19 = .ok (.ireturn, 1) := by decide +kernel
theorem dX6_readAct_20 : decode cX6_readAct 20 = .ok (.aload_n 0, 1) := by decide +kernel
theorem dX6_readAct_21 : decode cX6_readAct 21 = .ok (.ldc 66, 2) := by decide +kernel
theorem dX6_readAct_23 : decode cX6_readAct 23 = .ok (.invokevirtual 59, 3) := by decide +kernel
theorem dX6_readAct_26 : decode cX6_readAct 26 = .ok (.ifCond .eq 8, 3) := by decide +kernel
theorem dX6_readAct_29 : decode cX6_readAct 29 = .ok (.aload_n 0, 1) := by decide +kernel
theorem dX6_readAct_30 : decode cX6_readAct 30 = .ok (.invokevirtual 68, 3) := by decide +kernel
theorem dX6_readAct_33 : decode cX6_readAct 33 = .ok (.ireturn, 1) := by decide +kernel
theorem dX6_readAct_34 : decode cX6_readAct 34 = .ok (.aload_n 0, 1) := by decide +kernel
theorem dX6_readAct_35 : decode cX6_readAct 35 = .ok (.ldc 71, 2) := by decide +kernel
theorem dX6_readAct_37 : decode cX6_readAct 37 = .ok (.invokevirtual 59, 3) := by decide +kernel
theorem dX6_readAct_40 : decode cX6_readAct 40 = .ok (.ifCond .eq 9, 3) := by decide +kernel
theorem dX6_readAct_43 : decode cX6_readAct 43 = .ok (.aload_n 0, 1) := by decide +kernel
theorem dX6_readAct_44 : decode cX6_readAct 44 = .ok (.iload_n 1, 1) := by decide +kernel
theorem dX6_readAct_45 : decode cX6_readAct 45 = .ok (.invokevirtual 73, 3) := by decide +kernel
theorem dX6_readAct_48 : decode cX6_readAct 48 = .ok (.ireturn, 1) := by decide +kernel
theorem dX6_readAct_49 : decode cX6_readAct 49 = .ok (.aload_n 0, 1) := by decide +kernel
theorem dX6_readAct_50 : decode cX6_readAct 50 = .ok (.ldc 76, 2) := by decide +kernel
theorem dX6_readAct_52 : decode cX6_readAct 52 = .ok (.invokevirtual 59, 3) := by decide +kernel
theorem dX6_readAct_55 : decode cX6_readAct 55 = .ok (.ifCond .eq 8, 3) := by decide +kernel
theorem dX6_readAct_58 : decode cX6_readAct 58 = .ok (.aload_n 0, 1) := by decide +kernel
theorem dX6_readAct_59 : decode cX6_readAct 59 = .ok (.invokevirtual 78, 3) := by decide +kernel
theorem dX6_readAct_62 : decode cX6_readAct 62 = .ok (.ireturn, 1) := by decide +kernel
theorem dX6_readAct_63 : decode cX6_readAct 63 = .ok (.aload_n 0, 1) := by decide +kernel
theorem dX6_readAct_64 : decode cX6_readAct 64 = .ok (.ldc 81, 2) := by decide +kernel
theorem dX6_readAct_66 : decode cX6_readAct 66 = .ok (.invokevirtual 59, 3) := by decide +kernel
theorem dX6_readAct_69 : decode cX6_readAct 69 = .ok (.ifCond .eq 12, 3) := by decide +kernel
theorem dX6_readAct_72 : decode cX6_readAct 72 = .ok (.aload_n 0, 1) := by decide +kernel
theorem dX6_readAct_73 : decode cX6_readAct 73 = .ok (.getfield 22, 3) := by decide +kernel
theorem dX6_readAct_76 : decode cX6_readAct 76 = .ok (.invokevirtual 83, 3) := by decide +kernel
theorem dX6_readAct_79 : decode cX6_readAct 79 = .ok (.iconst 1, 1) := by decide +kernel
theorem dX6_readAct_80 : decode cX6_readAct 80 = .ok (.ireturn, 1) := by decide +kernel
theorem dX6_readAct_81 : decode cX6_readAct 81 = .ok (.aload_n 0, 1) := by decide +kernel
theorem dX6_readAct_82 : decode cX6_readAct 82 = .ok (.iload_n 1, 1) := by decide +kernel
theorem dX6_readAct_83 : decode cX6_readAct 83 = .ok (.invokevirtual 53, 3) := by decide +kernel
theorem dX6_readAct_86 : decode cX6_readAct 86 = .ok (.ireturn, 1) := by decide +kernel
theorem dX6_readSeg_0 : decode cX6_readSeg 0 = .ok (.iconst 0, 1) := by decide +kernel
theorem dX6_readSeg_1 : decode cX6_readSeg 1 = .ok (.istore_n 2, 1) := by decide +kernel
theorem dX6_readSeg_2 : decode cX6_readSeg 2 = .ok (.iload_n 2, 1) := by decide +kernel
theorem dX6_readSeg_3 : decode cX6_readSeg 3 = .ok (.iconst 4, 1) := by decide +kernel
theorem dX6_readSeg_4 : decode cX6_readSeg 4 = .ok (.if_icmp .ge 28, 3) := by decide +kernel
theorem dX6_readSeg_7 : decode cX6_readSeg 7 = .ok (.aload_n 0, 1) := by decide +kernel
theorem dX6_readSeg_8 : decode cX6_readSeg 8 = .ok (.invokevirtual 86, 3) := by decide +kernel
theorem dX6_readSeg_11 : decode cX6_readSeg 11 = .ok (.ifCond .ne 5, 3) := by decide +kernel
theorem dX6_readSeg_14 : decode cX6_readSeg 14 = .ok (.iconst 0, 1) := by decide +kernel
theorem dX6_readSeg_15 : decode cX6_readSeg 15 = .ok (.ireturn, 1) := by decide +kernel
theorem dX6_readSeg_16 : decode cX6_readSeg 16 = .ok (.aload_n 0, 1) := by decide +kernel
theorem dX6_readSeg_17 : decode cX6_readSeg 17 = .ok (.getfield 15, 3) := by decide +kernel
theorem dX6_readSeg_20 : decode cX6_readSeg 20 = .ok (.iload_n 2, 1) := by decide +kernel
theorem dX6_readSeg_21 : decode cX6_readSeg 21 = .ok (.aload_n 0, 1) := by decide +kernel
theorem dX6_readSeg_22 : decode cX6_readSeg 22 = .ok (.getfield 36, 3) := by decide +kernel
theorem dX6_readSeg_25 : decode cX6_readSeg 25 = .ok (.iastore, 1) := by decide +kernel
theorem dX6_readSeg_26 : decode cX6_readSeg 26 = .ok (.iinc 2 1, 3) := by decide +kernel
theorem dX6_readSeg_29 : decode cX6_readSeg 29 = .ok (.goto (-27), 3) := by decide +kernel
theorem dX6_readSeg_32 : decode cX6_readSeg 32 = .ok (.aload_n 0, 1) := by decide +kernel
theorem dX6_readSeg_33 : decode cX6_readSeg 33 = .ok (.getfield 15, 3) := by decide +kernel
theorem dX6_readSeg_36 : decode cX6_readSeg 36 = .ok (.iconst 4, 1) := by decide +kernel
theorem dX6_readSeg_37 : decode cX6_readSeg 37 = .ok (.iconst 0, 1) := by decide +kernel
theorem dX6_readSeg_38 : decode cX6_readSeg 38 = .ok (.iastore, 1) := by decide +kernel
theorem dX6_readSeg_39 : decode cX6_readSeg 39 = .ok (.aload_n 0, 1) := by decide +kernel
theorem dX6_readSeg_40 : decode cX6_readSeg 40 = .ok (.ldc 76, 2) := by decide +kernel
theorem dX6_readSeg_42 : decode cX6_readSeg 42 = .ok (.invokevirtual 59, 3) := by decide +kernel
theorem dX6_readSeg_45 : decode cX6_readSeg 45 = .ok (.ifCond .eq 23, 3) := by decide +kernel
theorem dX6_readSeg_48 : decode cX6_readSeg 48 = .ok (.aload_n 0, 1) := by decide +kernel
theorem dX6_readSeg_49 : decode cX6_readSeg 49 = .ok (.iconst 3, 1) := by decide +kernel
theorem dX6_readSeg_50 : decode cX6_readSeg 50 = .ok (.invokevirtual 89, 3) := by decide +kernel
theorem dX6_readSeg_53 : decode cX6_readSeg 53 = .ok (.ifCond .ne 5, 3) := by decide +kernel
theorem dX6_readSeg_56 : decode cX6_readSeg 56 = .ok (.iconst 0, 1) := by decide +kernel
theorem dX6_readSeg_57 : decode cX6_readSeg 57 = .ok (.ireturn, 1) := by decide +kernel
theorem dX6_readSeg_58 : decode cX6_readSeg 58 = .ok (.aload_n 0, 1) := by decide +kernel
theorem dX6_readSeg_59 : decode cX6_readSeg 59 = .ok (.getfield 15, 3) := by decide +kernel
theorem dX6_readSeg_62 : decode cX6_readSeg 62 = .ok (.iconst 4, 1) := by decide +kernel
theorem dX6_readSeg_63 : decode cX6_readSeg 63 = .ok (.aload_n 0, 1) := by decide +kernel
theorem dX6_readSeg_64 : decode cX6_readSeg 64 = .ok (.getfield 36, 3) := by decide +kernel
theorem dX6_readSeg_67 : decode cX6_readSeg 67 = .ok (.iastore, 1) := by decide +kernel
theorem dX6_readSeg_68 : decode cX6_readSeg 68 = .ok (.aload_n 0, 1) := by decide +kernel
theorem dX6_readSeg_69 : decode cX6_readSeg 69 = .ok (.getfield 22, 3) := by decide +kernel
theorem dX6_readSeg_72 : decode cX6_readSeg 72 = .ok (.invokevirtual 92, 3) := by decide +kernel
theorem dX6_readSeg_75 : decode cX6_readSeg 75 = .ok (.ifCond .eq 9, 3) := by decide +kernel
theorem dX6_readSeg_78 : decode cX6_readSeg 78 = .ok (.aload_n 0, 1) := by decide +kernel
theorem dX6_readSeg_79 : decode cX6_readSeg 79 = .ok (.iload_n 1, 1) := by decide +kernel
theorem dX6_readSeg_80 : decode cX6_readSeg 80 = .ok (.invokevirtual 53, 3) := by decide +kernel
theorem dX6_readSeg_83 : decode cX6_readSeg 83 = .ok (.ireturn, 1) := by decide +kernel
theorem dX6_readSeg_84 : decode cX6_readSeg 84 = .ok (.aload_n 0, 1) := by decide +kernel
theorem dX6_readSeg_85 : decode cX6_readSeg 85 = .ok (.getfield 22, 3) := by decide +kernel
theorem dX6_readSeg_88 : decode cX6_readSeg 88 = .ok (.aload_n 0, 1) := by decide +kernel
theorem dX6_readSeg_89 : decode cX6_readSeg 89 = .ok (.getfield 15, 3) := by decide +kernel
theorem dX6_readSeg_92 : decode cX6_readSeg 92 = .ok (.iconst 0, 1) := by decide +kernel
theorem dX6_readSeg_93 : decode cX6_readSeg 93 = .ok (.iaload, 1) := by decide +kernel
theorem dX6_readSeg_94 : decode cX6_readSeg 94 = .ok (.aload_n 0, 1) := by decide +kernel
theorem dX6_readSeg_95 : decode cX6_readSeg 95 = .ok (.getfield 15, 3) := by decide +kernel
theorem dX6_readSeg_98 : decode cX6_readSeg 98 = .ok (.iconst 1, 1) := by decide +kernel
theorem dX6_readSeg_99 : decode cX6_readSeg 99 = .ok (.iaload, 1) := by decide +kernel
theorem dX6_readSeg_100 : decode cX6_readSeg 100 = .ok (.aload_n 0, 1) := by decide +kernel
theorem dX6_readSeg_101 : decode cX6_readSeg 101 = .ok (.getfield 15, 3) := by decide +kernel
theorem dX6_readSeg_104 : decode cX6_readSeg 104 = .ok (.iconst 2, 1) := by decide +kernel
theorem dX6_readSeg_105 : decode cX6_readSeg 105 = .ok (.iaload, 1) := by decide +kernel
theorem dX6_readSeg_106 : decode cX6_readSeg 106 = .ok (.aload_n 0, 1) := by decide +kernel
theorem dX6_readSeg_107 : decode cX6_readSeg 107 = .ok (.getfield 15, 3) := by decide +kernel
theorem dX6_readSeg_110 : decode cX6_readSeg 110 = .ok (.iconst 3, 1) := by decide +kernel
theorem dX6_readSeg_111 : decode cX6_readSeg 111 = .ok (.iaload, 1) := by decide +kernel
theorem dX6_readSeg_112 : decode cX6_readSeg 112 = .ok (.aload_n 0, 1) := by decide +kernel
theorem dX6_readSeg_113 : decode cX6_readSeg 113 = .ok (.getfield 15, 3) := by decide +kernel
theorem dX6_readSeg_116 : decode cX6_readSeg 116 = .ok (.iconst 4, 1) := by decide +kernel
theorem dX6_readSeg_117 : decode cX6_readSeg 117 = .ok (.iaload, 1) := by decide +kernel
theorem dX6_readSeg_118 : decode cX6_readSeg 118 = .ok (.invokevirtual 95, 3) := by decide +kernel
theorem dX6_readSeg_121 : decode cX6_readSeg 121 = .ok (.iconst 1, 1) := by decide +kernel
theorem dX6_readSeg_122 : decode cX6_readSeg 122 = .ok (.ireturn, 1) := by decide +kernel
theorem dX6_readCut_0 : decode cX6_readCut 0 = .ok (.aload_n 0, 1) := by decide +kernel
theorem dX6_readCut_1 : decode cX6_readCut 1 = .ok (.aload_n 0, 1) := by decide +kernel
theorem dX6_readCut_2 : decode cX6_readCut 2 = .ok (.getfield 22, 3) := by decide +kernel
theorem dX6_readCut_5 : decode cX6_readCut 5 = .ok (.getfield 99, 3) := by decide +kernel
theorem dX6_readCut_8 : decode cX6_readCut 8 = .ok (.iconst 1, 1) := by decide +kernel
theorem dX6_readCut_9 : decode cX6_readCut 9 = .ok (.isub, 1) := by decide +kernel
theorem dX6_readCut_10 : decode cX6_readCut 10 = .ok (.invokevirtual 89, 3) := by decide +kernel
theorem dX6_readCut_13 : decode cX6_readCut 13 = .ok (.ifCond .ne 5, 3) := by decide +kernel
theorem dX6_readCut_16 : decode cX6_readCut 16 = .ok (.iconst 0, 1) := by decide +kernel
theorem dX6_readCut_17 : decode cX6_readCut 17 = .ok (.ireturn, 1) := by decide +kernel
theorem dX6_readCut_18 : decode cX6_readCut 18 = .ok (.aload_n 0, 1) := by decide +kernel
theorem dX6_readCut_19 : decode cX6_readCut 19 = .ok (.getfield 22, 3) := by decide +kernel
theorem dX6_readCut_22 : decode cX6_readCut 22 = .ok (.aload_n 0, 1) := by decide +kernel
theorem dX6_readCut_23 : decode cX6_readCut 23 = .ok (.getfield 36, 3) := by decide +kernel
theorem dX6_readCut_26 : decode cX6_readCut 26 = .ok (.invokevirtual 102, 3) := by decide +kernel
theorem dX6_readCut_29 : decode cX6_readCut 29 = .ok (.iconst 1, 1) := by decide +kernel
theorem dX6_readCut_30 : decode cX6_readCut 30 = .ok (.ireturn, 1) := by decide +kernel
theorem dX6_readMove_0 : decode cX6_readMove 0 = .ok (.aload_n 0, 1) := by decide +kernel
theorem dX6_readMove_1 : decode cX6_readMove 1 = .ok (.aload_n 0, 1) := by decide +kernel
theorem dX6_readMove_2 : decode cX6_readMove 2 = .ok (.getfield 22, 3) := by decide +kernel
theorem dX6_readMove_5 : decode cX6_readMove 5 = .ok (.getfield 99, 3) := by decide +kernel
theorem dX6_readMove_8 : decode cX6_readMove 8 = .ok (.iconst 1, 1) := by decide +kernel
theorem dX6_readMove_9 : decode cX6_readMove 9 = .ok (.isub, 1) := by decide +kernel
theorem dX6_readMove_10 : decode cX6_readMove 10 = .ok (.invokevirtual 89, 3) := by decide +kernel
theorem dX6_readMove_13 : decode cX6_readMove 13 = .ok (.ifCond .ne 5, 3) := by decide +kernel
theorem dX6_readMove_16 : decode cX6_readMove 16 = .ok (.iconst 0, 1) := by decide +kernel
theorem dX6_readMove_17 : decode cX6_readMove 17 = .ok (.ireturn, 1) := by decide +kernel
theorem dX6_readMove_18 : decode cX6_readMove 18 = .ok (.aload_n 0, 1) := by decide +kernel
theorem dX6_readMove_19 : decode cX6_readMove 19 = .ok (.getfield 36, 3) := by decide +kernel
theorem dX6_readMove_22 : decode cX6_readMove 22 = .ok (.istore_n 2, 1) := by decide +kernel
theorem dX6_readMove_23 : decode cX6_readMove 23 = .ok (.aload_n 0, 1) := by decide +kernel
theorem dX6_readMove_24 : decode cX6_readMove 24 = .ok (.ldc 106, 2) := by decide +kernel
theorem dX6_readMove_26 : decode cX6_readMove 26 = .ok (.invokevirtual 59, 3) := by decide +kernel
theorem dX6_readMove_29 : decode cX6_readMove 29 = .ok (.ifCond .ne 12, 3) := by decide +kernel
theorem dX6_readMove_32 : decode cX6_readMove 32 = .ok (.aload_n 0, 1) := by decide +kernel
theorem dX6_readMove_33 : decode cX6_readMove 33 = .ok (.aload_n 0, 1) := by decide +kernel
theorem dX6_readMove_34 : decode cX6_readMove 34 = .ok (.getfield 33, 3) := by decide +kernel
theorem dX6_readMove_37 : decode cX6_readMove 37 = .ok (.invokevirtual 53, 3) := by decide +kernel
theorem dX6_readMove_40 : decode cX6_readMove 40 = .ok (.ireturn, 1) := by decide +kernel
theorem dX6_readMove_41 : decode cX6_readMove 41 = .ok (.iconst 0, 1) := by decide +kernel
theorem dX6_readMove_42 : decode cX6_readMove 42 = .ok (.istore_n 3, 1) := by decide +kernel
theorem dX6_readMove_43 : decode cX6_readMove 43 = .ok (.iload_n 3, 1) := by decide +kernel
theorem dX6_readMove_44 : decode cX6_readMove 44 = .ok (.iconst 2, 1) := by decide +kernel
theorem dX6_readMove_45 : decode cX6_readMove 45 = .ok (.if_icmp .ge 28, 3) := by decide +kernel
theorem dX6_readMove_48 : decode cX6_readMove 48 = .ok (.aload_n 0, 1) := by decide +kernel
theorem dX6_readMove_49 : decode cX6_readMove 49 = .ok (.invokevirtual 86, 3) := by decide +kernel
theorem dX6_readMove_52 : decode cX6_readMove 52 = .ok (.ifCond .ne 5, 3) := by decide +kernel
theorem dX6_readMove_55 : decode cX6_readMove 55 = .ok (.iconst 0, 1) := by decide +kernel
theorem dX6_readMove_56 : decode cX6_readMove 56 = .ok (.ireturn, 1) := by decide +kernel
theorem dX6_readMove_57 : decode cX6_readMove 57 = .ok (.aload_n 0, 1) := by decide +kernel
theorem dX6_readMove_58 : decode cX6_readMove 58 = .ok (.getfield 15, 3) := by decide +kernel
theorem dX6_readMove_61 : decode cX6_readMove 61 = .ok (.iload_n 3, 1) := by decide +kernel
theorem dX6_readMove_62 : decode cX6_readMove 62 = .ok (.aload_n 0, 1) := by decide +kernel
theorem dX6_readMove_63 : decode cX6_readMove 63 = .ok (.getfield 36, 3) := by decide +kernel
theorem dX6_readMove_66 : decode cX6_readMove 66 = .ok (.iastore, 1) := by decide +kernel
theorem dX6_readMove_67 : decode cX6_readMove 67 = .ok (.iinc 3 1, 3) := by decide +kernel
theorem dX6_readMove_70 : decode cX6_readMove 70 = .ok (.goto (-27), 3) := by decide +kernel
theorem dX6_readMove_73 : decode cX6_readMove 73 = .ok (.aload_n 0, 1) := by decide +kernel
theorem dX6_readMove_74 : decode cX6_readMove 74 = .ok (.getfield 22, 3) := by decide +kernel
theorem dX6_readMove_77 : decode cX6_readMove 77 = .ok (.iload_n 2, 1) := by decide +kernel
theorem dX6_readMove_78 : decode cX6_readMove 78 = .ok (.aload_n 0, 1) := by decide +kernel
theorem dX6_readMove_79 : decode cX6_readMove 79 = .ok (.getfield 15, 3) := by decide +kernel
theorem dX6_readMove_82 : decode cX6_readMove 82 = .ok (.iconst 0, 1) := by decide +kernel
theorem dX6_readMove_83 : decode cX6_readMove 83 = .ok (.iaload, 1) := by decide +kernel
theorem dX6_readMove_84 : decode cX6_readMove 84 = .ok (.i2l, 1) := by decide +kernel
theorem dX6_readMove_85 : decode cX6_readMove 85 = .ok (.aload_n 0, 1) := by decide +kernel
theorem dX6_readMove_86 : decode cX6_readMove 86 = .ok (.getfield 15, 3) := by decide +kernel
theorem dX6_readMove_89 : decode cX6_readMove 89 = .ok (.iconst 1, 1) := by decide +kernel
theorem dX6_readMove_90 : decode cX6_readMove 90 = .ok (.iaload, 1) := by decide +kernel
theorem dX6_readMove_91 : decode cX6_readMove 91 = .ok (.i2l, 1) := by decide +kernel
theorem dX6_readMove_92 : decode cX6_readMove 92 = .ok (.invokevirtual 108, 3) := by decide +kernel
theorem dX6_readMove_95 : decode cX6_readMove 95 = .ok (.ifCond .ne 9, 3) := by decide +kernel
theorem dX6_readMove_98 : decode cX6_readMove 98 = .ok (.aload_n 0, 1) := by decide +kernel
theorem dX6_readMove_99 : decode cX6_readMove 99 = .ok (.iload_n 1, 1) := by decide +kernel
theorem dX6_readMove_100 : decode cX6_readMove 100 = .ok (.invokevirtual 53, 3) := by decide +kernel
theorem dX6_readMove_103 : decode cX6_readMove 103 = .ok (.ireturn, 1) := by decide +kernel
theorem dX6_readMove_104 : decode cX6_readMove 104 = .ok (.aload_n 0, 1) := by decide +kernel
theorem dX6_readMove_105 : decode cX6_readMove 105 = .ok (.getfield 22, 3) := by decide +kernel
theorem dX6_readMove_108 : decode cX6_readMove 108 = .ok (.iload_n 2, 1) := by decide +kernel
theorem dX6_readMove_109 : decode cX6_readMove 109 = .ok (.aload_n 0, 1) := by decide +kernel
theorem dX6_readMove_110 : decode cX6_readMove 110 = .ok (.getfield 15, 3) := by decide +kernel
theorem dX6_readMove_113 : decode cX6_readMove 113 = .ok (.iconst 0, 1) := by decide +kernel
theorem dX6_readMove_114 : decode cX6_readMove 114 = .ok (.iaload, 1) := by decide +kernel
theorem dX6_readMove_115 : decode cX6_readMove 115 = .ok (.aload_n 0, 1) := by decide +kernel
theorem dX6_readMove_116 : decode cX6_readMove 116 = .ok (.getfield 15, 3) := by decide +kernel
theorem dX6_readMove_119 : decode cX6_readMove 119 = .ok (.iconst 1, 1) := by decide +kernel
theorem dX6_readMove_120 : decode cX6_readMove 120 = .ok (.iaload, 1) := by decide +kernel
theorem dX6_readMove_121 : decode cX6_readMove 121 = .ok (.invokevirtual 112, 3) := by decide +kernel
theorem dX6_readMove_124 : decode cX6_readMove 124 = .ok (.iconst 1, 1) := by decide +kernel
theorem dX6_readMove_125 : decode cX6_readMove 125 = .ok (.ireturn, 1) := by decide +kernel
theorem dX6_readTint_0 : decode cX6_readTint 0 = .ok (.aload_n 0, 1) := by decide +kernel
theorem dX6_readTint_1 : decode cX6_readTint 1 = .ok (.aload_n 0, 1) := by decide +kernel
theorem dX6_readTint_2 : decode cX6_readTint 2 = .ok (.getfield 22, 3) := by decide +kernel
theorem dX6_readTint_5 : decode cX6_readTint 5 = .ok (.getfield 99, 3) := by decide +kernel
theorem dX6_readTint_8 : decode cX6_readTint 8 = .ok (.iconst 1, 1) := by decide +kernel
theorem dX6_readTint_9 : decode cX6_readTint 9 = .ok (.isub, 1) := by decide +kernel
theorem dX6_readTint_10 : decode cX6_readTint 10 = .ok (.invokevirtual 89, 3) := by decide +kernel
theorem dX6_readTint_13 : decode cX6_readTint 13 = .ok (.ifCond .ne 5, 3) := by decide +kernel
theorem dX6_readTint_16 : decode cX6_readTint 16 = .ok (.iconst 0, 1) := by decide +kernel
theorem dX6_readTint_17 : decode cX6_readTint 17 = .ok (.ireturn, 1) := by decide +kernel
theorem dX6_readTint_18 : decode cX6_readTint 18 = .ok (.aload_n 0, 1) := by decide +kernel
theorem dX6_readTint_19 : decode cX6_readTint 19 = .ok (.getfield 36, 3) := by decide +kernel
theorem dX6_readTint_22 : decode cX6_readTint 22 = .ok (.istore_n 1, 1) := by decide +kernel
theorem dX6_readTint_23 : decode cX6_readTint 23 = .ok (.aload_n 0, 1) := by decide +kernel
theorem dX6_readTint_24 : decode cX6_readTint 24 = .ok (.iconst 3, 1) := by decide +kernel
theorem dX6_readTint_25 : decode cX6_readTint 25 = .ok (.invokevirtual 89, 3) := by decide +kernel
theorem dX6_readTint_28 : decode cX6_readTint 28 = .ok (.ifCond .ne 5, 3) := by decide +kernel
theorem dX6_readTint_31 : decode cX6_readTint 31 = .ok (.iconst 0, 1) := by decide +kernel
theorem dX6_readTint_32 : decode cX6_readTint 32 = .ok (.ireturn, 1) := by decide +kernel
theorem dX6_readTint_33 : decode cX6_readTint 33 = .ok (.aload_n 0, 1) := by decide +kernel
theorem dX6_readTint_34 : decode cX6_readTint 34 = .ok (.getfield 22, 3) := by decide +kernel
theorem dX6_readTint_37 : decode cX6_readTint 37 = .ok (.getfield 116, 3) := by decide +kernel
theorem dX6_readTint_40 : decode cX6_readTint 40 = .ok (.iload_n 1, 1) := by decide +kernel
theorem dX6_readTint_41 : decode cX6_readTint 41 = .ok (.aload_n 0, 1) := by decide +kernel
theorem dX6_readTint_42 : decode cX6_readTint 42 = .ok (.getfield 36, 3) := by decide +kernel
theorem dX6_readTint_45 : decode cX6_readTint 45 = .ok (.iastore, 1) := by decide +kernel
theorem dX6_readTint_46 : decode cX6_readTint 46 = .ok (.iconst 1, 1) := by decide +kernel
theorem dX6_readTint_47 : decode cX6_readTint 47 = .ok (.ireturn, 1) := by decide +kernel
theorem dX6_readWord_0 : decode cX6_readWord 0 = .ok (.aload_n 0, 1) := by decide +kernel
theorem dX6_readWord_1 : decode cX6_readWord 1 = .ok (.invokevirtual 43, 3) := by decide +kernel
theorem dX6_readWord_4 : decode cX6_readWord 4 = .ok (.aload_n 0, 1) := by decide +kernel
theorem dX6_readWord_5 : decode cX6_readWord 5 = .ok (.getfield 33, 3) := by decide +kernel
theorem dX6_readWord_8 : decode cX6_readWord 8 = .ok (.istore_n 2, 1) := by decide +kernel
theorem dX6_readWord_9 : decode cX6_readWord 9 = .ok (.iconst 1, 1) := by decide +kernel
theorem dX6_readWord_10 : decode cX6_readWord 10 = .ok (.istore_n 3, 1) := by decide +kernel
theorem dX6_readWord_11 : decode cX6_readWord 11 = .ok (.iload_n 2, 1) := by decide +kernel
theorem dX6_readWord_12 : decode cX6_readWord 12 = .ok (.aload_n 0, 1) := by decide +kernel
theorem dX6_readWord_13 : decode cX6_readWord 13 = .ok (.getfield 26, 3) := by decide +kernel
theorem dX6_readWord_16 : decode cX6_readWord 16 = .ok (.if_icmp .ge 73, 3) := by decide +kernel
theorem dX6_readWord_19 : decode cX6_readWord 19 = .ok (.aload_n 0, 1) := by decide +kernel
theorem dX6_readWord_20 : decode cX6_readWord 20 = .ok (.getfield 9, 3) := by decide +kernel
theorem dX6_readWord_23 : decode cX6_readWord 23 = .ok (.iload_n 2, 1) := by decide +kernel
theorem dX6_readWord_24 : decode cX6_readWord 24 = .ok (.baload, 1) := by decide +kernel
theorem dX6_readWord_25 : decode cX6_readWord 25 = .ok (.bipush 97, 2) := by decide +kernel
theorem dX6_readWord_27 : decode cX6_readWord 27 = .ok (.if_icmp .lt 62, 3) := by decide +kernel
theorem dX6_readWord_30 : decode cX6_readWord 30 = .ok (.aload_n 0, 1) := by decide +kernel
theorem dX6_readWord_31 : decode cX6_readWord 31 = .ok (.getfield 9, 3) := by decide +kernel
theorem dX6_readWord_34 : decode cX6_readWord 34 = .ok (.iload_n 2, 1) := by decide +kernel
theorem dX6_readWord_35 : decode cX6_readWord 35 = .ok (.baload, 1) := by decide +kernel
theorem dX6_readWord_36 : decode cX6_readWord 36 = .ok (.bipush 122, 2) := by decide +kernel
theorem dX6_readWord_38 : decode cX6_readWord 38 = .ok (.if_icmp .gt 51, 3) := by decide +kernel
theorem dX6_readWord_41 : decode cX6_readWord 41 = .ok (.iload_n 2, 1) := by decide +kernel
theorem dX6_readWord_42 : decode cX6_readWord 42 = .ok (.aload_n 0, 1) := by decide +kernel
theorem dX6_readWord_43 : decode cX6_readWord 43 = .ok (.getfield 33, 3) := by decide +kernel
theorem dX6_readWord_46 : decode cX6_readWord 46 = .ok (.isub, 1) := by decide +kernel
theorem dX6_readWord_47 : decode cX6_readWord 47 = .ok (.istore 4, 2) := by decide +kernel
theorem dX6_readWord_49 : decode cX6_readWord 49 = .ok (.iload_n 3, 1) := by decide +kernel
theorem dX6_readWord_50 : decode cX6_readWord 50 = .ok (.ifCond .eq 31, 3) := by decide +kernel
theorem dX6_readWord_53 : decode cX6_readWord 53 = .ok (.iload 4, 2) := by decide +kernel
theorem dX6_readWord_55 : decode cX6_readWord 55 = .ok (.aload_n 1, 1) := by decide +kernel
theorem dX6_readWord_56 : decode cX6_readWord 56 = .ok (.invokevirtual 119, 3) := by decide +kernel
theorem dX6_readWord_59 : decode cX6_readWord 59 = .ok (.if_icmp .ge 22, 3) := by decide +kernel
theorem dX6_readWord_62 : decode cX6_readWord 62 = .ok (.aload_n 1, 1) := by decide +kernel
theorem dX6_readWord_63 : decode cX6_readWord 63 = .ok (.iload 4, 2) := by decide +kernel
theorem dX6_readWord_65 : decode cX6_readWord 65 = .ok (.invokevirtual 124, 3) := by decide +kernel
theorem dX6_readWord_68 : decode cX6_readWord 68 = .ok (.aload_n 0, 1) := by decide +kernel
theorem dX6_readWord_69 : decode cX6_readWord 69 = .ok (.getfield 9, 3) := by decide +kernel
theorem dX6_readWord_72 : decode cX6_readWord 72 = .ok (.iload_n 2, 1) := by decide +kernel
theorem dX6_readWord_73 : decode cX6_readWord 73 = .ok (.baload, 1) := by decide +kernel
theorem dX6_readWord_74 : decode cX6_readWord 74 = .ok (.if_icmp .ne 7, 3) := by decide +kernel
theorem dX6_readWord_77 : decode cX6_readWord 77 = .ok (.iconst 1, 1) := by decide +kernel
theorem dX6_readWord_78 : decode cX6_readWord 78 = .ok (.goto 4, 3) := by decide +kernel
theorem dX6_readWord_81 : decode cX6_readWord 81 = .ok (.iconst 0, 1) := by decide +kernel
theorem dX6_readWord_82 : decode cX6_readWord 82 = .ok (.istore_n 3, 1) := by decide +kernel
theorem dX6_readWord_83 : decode cX6_readWord 83 = .ok (.iinc 2 1, 3) := by decide +kernel
theorem dX6_readWord_86 : decode cX6_readWord 86 = .ok (.goto (-75), 3) := by decide +kernel
theorem dX6_readWord_89 : decode cX6_readWord 89 = .ok (.iload_n 3, 1) := by decide +kernel
theorem dX6_readWord_90 : decode cX6_readWord 90 = .ok (.ifCond .eq 16, 3) := by decide +kernel
theorem dX6_readWord_93 : decode cX6_readWord 93 = .ok (.iload_n 2, 1) := by decide +kernel
theorem dX6_readWord_94 : decode cX6_readWord 94 = .ok (.aload_n 0, 1) := by decide +kernel
theorem dX6_readWord_95 : decode cX6_readWord 95 = .ok (.getfield 33, 3) := by decide +kernel
theorem dX6_readWord_98 : decode cX6_readWord 98 = .ok (.isub, 1) := by decide +kernel
theorem dX6_readWord_99 : decode cX6_readWord 99 = .ok (.aload_n 1, 1) := by decide +kernel
theorem dX6_readWord_100 : decode cX6_readWord 100 = .ok (.invokevirtual 119, 3) := by decide +kernel
theorem dX6_readWord_103 : decode cX6_readWord 103 = .ok (.if_icmp .eq 5, 3) := by decide +kernel
theorem dX6_readWord_106 : decode cX6_readWord 106 = .ok (.iconst 0, 1) := by decide +kernel
theorem dX6_readWord_107 : decode cX6_readWord 107 = .ok (.ireturn, 1) := by decide +kernel
theorem dX6_readWord_108 : decode cX6_readWord 108 = .ok (.aload_n 0, 1) := by decide +kernel
theorem dX6_readWord_109 : decode cX6_readWord 109 = .ok (.iload_n 2, 1) := by decide +kernel
theorem dX6_readWord_110 : decode cX6_readWord 110 = .ok (.putfield 33, 3) := by decide +kernel
theorem dX6_readWord_113 : decode cX6_readWord 113 = .ok (.iconst 1, 1) := by decide +kernel
theorem dX6_readWord_114 : decode cX6_readWord 114 = .ok (.ireturn, 1) := by decide +kernel
theorem dX6_readNumber_0 : decode cX6_readNumber 0 = .ok (.aload_n 0, 1) := by decide +kernel
theorem dX6_readNumber_1 : decode cX6_readNumber 1 = .ok (.invokevirtual 43, 3) := by decide +kernel
theorem dX6_readNumber_4 : decode cX6_readNumber 4 = .ok (.aload_n 0, 1) := by decide +kernel
theorem dX6_readNumber_5 : decode cX6_readNumber 5 = .ok (.getfield 33, 3) := by decide +kernel
theorem dX6_readNumber_8 : decode cX6_readNumber 8 = .ok (.istore_n 2, 1) := by decide +kernel
theorem dX6_readNumber_9 : decode cX6_readNumber 9 = .ok (.aload_n 0, 1) := by decide +kernel
theorem dX6_readNumber_10 : decode cX6_readNumber 10 = .ok (.iload_n 2, 1) := by decide +kernel
theorem dX6_readNumber_11 : decode cX6_readNumber 11 = .ok (.invokevirtual 128, 3) := by decide +kernel
theorem dX6_readNumber_14 : decode cX6_readNumber 14 = .ok (.ifCond .ne 5, 3) := by decide +kernel
theorem dX6_readNumber_17 : decode cX6_readNumber 17 = .ok (.iconst 0, 1) := by decide +kernel
theorem dX6_readNumber_18 : decode cX6_readNumber 18 = .ok (.ireturn, 1) := by decide +kernel
theorem dX6_readNumber_19 : decode cX6_readNumber 19 = .ok (.aload_n 0, 1) := by decide +kernel
theorem dX6_readNumber_20 : decode cX6_readNumber 20 = .ok (.getfield 36, 3) := by decide +kernel
theorem dX6_readNumber_23 : decode cX6_readNumber 23 = .ok (.iload_n 1, 1) := by decide +kernel
theorem dX6_readNumber_24 : decode cX6_readNumber 24 = .ok (.if_icmp .le 11, 3) := by decide +kernel
theorem dX6_readNumber_27 : decode cX6_readNumber 27 = .ok (.aload_n 0, 1) := by decide +kernel
theorem dX6_readNumber_28 : decode cX6_readNumber 28 = .ok (.iload_n 2, 1) := by decide +kernel
theorem dX6_readNumber_29 : decode cX6_readNumber 29 = .ok (.invokevirtual 53, 3) := by decide +kernel
theorem dX6_readNumber_32 : decode cX6_readNumber 32 = .ok (.ifCond .eq 7, 3) := by decide +kernel
theorem dX6_readNumber_35 : decode cX6_readNumber 35 = .ok (.iconst 1, 1) := by decide +kernel
theorem dX6_readNumber_36 : decode cX6_readNumber 36 = .ok (.goto 4, 3) := by decide +kernel
theorem dX6_readNumber_39 : decode cX6_readNumber 39 = .ok (.iconst 0, 1) := by decide +kernel
theorem dX6_readNumber_40 : decode cX6_readNumber 40 = .ok (.ireturn, 1) := by decide +kernel
theorem dX6_readSigned_0 : decode cX6_readSigned 0 = .ok (.aload_n 0, 1) := by decide +kernel
theorem dX6_readSigned_1 : decode cX6_readSigned 1 = .ok (.invokevirtual 43, 3) := by decide +kernel
theorem dX6_readSigned_4 : decode cX6_readSigned 4 = .ok (.aload_n 0, 1) := by decide +kernel
theorem dX6_readSigned_5 : decode cX6_readSigned 5 = .ok (.getfield 33, 3) := by decide +kernel
theorem dX6_readSigned_8 : decode cX6_readSigned 8 = .ok (.istore_n 1, 1) := by decide +kernel
theorem dX6_readSigned_9 : decode cX6_readSigned 9 = .ok (.aload_n 0, 1) := by decide +kernel
theorem dX6_readSigned_10 : decode cX6_readSigned 10 = .ok (.getfield 33, 3) := by decide +kernel
theorem dX6_readSigned_13 : decode cX6_readSigned 13 = .ok (.aload_n 0, 1) := by decide +kernel
theorem dX6_readSigned_14 : decode cX6_readSigned 14 = .ok (.getfield 26, 3) := by decide +kernel
theorem dX6_readSigned_17 : decode cX6_readSigned 17 = .ok (.if_icmp .ge 21, 3) := by decide +kernel
theorem dX6_readSigned_20 : decode cX6_readSigned 20 = .ok (.aload_n 0, 1) := by decide +kernel
theorem dX6_readSigned_21 : decode cX6_readSigned 21 = .ok (.getfield 9, 3) := by decide +kernel
theorem dX6_readSigned_24 : decode cX6_readSigned 24 = .ok (.aload_n 0, 1) := by decide +kernel
theorem dX6_readSigned_25 : decode cX6_readSigned 25 = .ok (.getfield 33, 3) := by decide +kernel
theorem dX6_readSigned_28 : decode cX6_readSigned 28 = .ok (.baload, 1) := by decide +kernel
theorem dX6_readSigned_29 : decode cX6_readSigned 29 = .ok (.bipush 45, 2) := by decide +kernel
theorem dX6_readSigned_31 : decode cX6_readSigned 31 = .ok (.if_icmp .ne 7, 3) := by decide +kernel
theorem dX6_readSigned_34 : decode cX6_readSigned 34 = .ok (.iconst 1, 1) := by decide +kernel
theorem dX6_readSigned_35 : decode cX6_readSigned 35 = .ok (.goto 4, 3) := by decide +kernel
theorem dX6_readSigned_38 : decode cX6_readSigned 38 = .ok (.iconst 0, 1) := by decide +kernel
theorem dX6_readSigned_39 : decode cX6_readSigned 39 = .ok (.istore_n 2, 1) := by decide +kernel
theorem dX6_readSigned_40 : decode cX6_readSigned 40 = .ok (.iload_n 2, 1) := by decide +kernel
theorem dX6_readSigned_41 : decode cX6_readSigned 41 = .ok (.ifCond .eq 13, 3) := by decide +kernel
theorem dX6_readSigned_44 : decode cX6_readSigned 44 = .ok (.aload_n 0, 1) := by decide +kernel
theorem dX6_readSigned_45 : decode cX6_readSigned 45 = .ok (.dup, 1) := by decide +kernel
theorem dX6_readSigned_46 : decode cX6_readSigned 46 = .ok (.getfield 33, 3) := by decide +kernel
theorem dX6_readSigned_49 : decode cX6_readSigned 49 = .ok (.iconst 1, 1) := by decide +kernel
theorem dX6_readSigned_50 : decode cX6_readSigned 50 = .ok (.iadd, 1) := by decide +kernel
theorem dX6_readSigned_51 : decode cX6_readSigned 51 = .ok (.putfield 33, 3) := by decide +kernel
theorem dX6_readSigned_54 : decode cX6_readSigned 54 = .ok (.aload_n 0, 1) := by decide +kernel
theorem dX6_readSigned_55 : decode cX6_readSigned 55 = .ok (.iload_n 1, 1) := by decide +kernel
theorem dX6_readSigned_56 : decode cX6_readSigned 56 = .ok (.invokevirtual 128, 3) := by decide +kernel
theorem dX6_readSigned_59 : decode cX6_readSigned 59 = .ok (.ifCond .ne 5, 3) := by decide +kernel
theorem dX6_readSigned_62 : decode cX6_readSigned 62 = .ok (.iconst 0, 1) := by decide +kernel
theorem dX6_readSigned_63 : decode cX6_readSigned 63 = .ok (.ireturn, 1) := by decide +kernel
theorem dX6_readSigned_64 : decode cX6_readSigned 64 = .ok (.aload_n 0, 1) := by decide +kernel
theorem dX6_readSigned_65 : decode cX6_readSigned 65 = .ok (.iload_n 2, 1) := by decide +kernel
theorem dX6_readSigned_66 : decode cX6_readSigned 66 = .ok (.ifCond .eq 11, 3) := by decide +kernel
theorem dX6_readSigned_69 : decode cX6_readSigned 69 = .ok (.aload_n 0, 1) := by decide +kernel
theorem dX6_readSigned_70 : decode cX6_readSigned 70 = .ok (.getfield 36, 3) := by decide +kernel
theorem dX6_readSigned_73 : decode cX6_readSigned 73 = .ok (.ineg, 1) := by decide +kernel
theorem dX6_readSigned_74 : decode cX6_readSigned 74 = .ok (.goto 7, 3) := by decide +kernel
theorem dX6_readSigned_77 : decode cX6_readSigned 77 = .ok (.aload_n 0, 1) := by decide +kernel
theorem dX6_readSigned_78 : decode cX6_readSigned 78 = .ok (.getfield 36, 3) := by decide +kernel
theorem dX6_readSigned_81 : decode cX6_readSigned 81 = .ok (.putfield 36, 3) := by decide +kernel
theorem dX6_readSigned_84 : decode cX6_readSigned 84 = .ok (.iconst 1, 1) := by decide +kernel
theorem dX6_readSigned_85 : decode cX6_readSigned 85 = .ok (.ireturn, 1) := by decide +kernel
theorem dX6_readDigits_0 : decode cX6_readDigits 0 = .ok (.aload_n 0, 1) := by decide +kernel
theorem dX6_readDigits_1 : decode cX6_readDigits 1 = .ok (.getfield 33, 3) := by decide +kernel
theorem dX6_readDigits_4 : decode cX6_readDigits 4 = .ok (.istore_n 2, 1) := by decide +kernel
theorem dX6_readDigits_5 : decode cX6_readDigits 5 = .ok (.iconst 0, 1) := by decide +kernel
theorem dX6_readDigits_6 : decode cX6_readDigits 6 = .ok (.istore_n 3, 1) := by decide +kernel
theorem dX6_readDigits_7 : decode cX6_readDigits 7 = .ok (.aload_n 0, 1) := by decide +kernel
theorem dX6_readDigits_8 : decode cX6_readDigits 8 = .ok (.getfield 33, 3) := by decide +kernel
theorem dX6_readDigits_11 : decode cX6_readDigits 11 = .ok (.aload_n 0, 1) := by decide +kernel
theorem dX6_readDigits_12 : decode cX6_readDigits 12 = .ok (.getfield 26, 3) := by decide +kernel
theorem dX6_readDigits_15 : decode cX6_readDigits 15 = .ok (.if_icmp .ge 72, 3) := by decide +kernel
theorem dX6_readDigits_18 : decode cX6_readDigits 18 = .ok (.aload_n 0, 1) := by decide +kernel
theorem dX6_readDigits_19 : decode cX6_readDigits 19 = .ok (.getfield 9, 3) := by decide +kernel
theorem dX6_readDigits_22 : decode cX6_readDigits 22 = .ok (.aload_n 0, 1) := by decide +kernel
theorem dX6_readDigits_23 : decode cX6_readDigits 23 = .ok (.getfield 33, 3) := by decide +kernel
theorem dX6_readDigits_26 : decode cX6_readDigits 26 = .ok (.baload, 1) := by decide +kernel
theorem dX6_readDigits_27 : decode cX6_readDigits 27 = .ok (.bipush 48, 2) := by decide +kernel
theorem dX6_readDigits_29 : decode cX6_readDigits 29 = .ok (.if_icmp .lt 58, 3) := by decide +kernel
theorem dX6_readDigits_32 : decode cX6_readDigits 32 = .ok (.aload_n 0, 1) := by decide +kernel
theorem dX6_readDigits_33 : decode cX6_readDigits 33 = .ok (.getfield 9, 3) := by decide +kernel
theorem dX6_readDigits_36 : decode cX6_readDigits 36 = .ok (.aload_n 0, 1) := by decide +kernel
theorem dX6_readDigits_37 : decode cX6_readDigits 37 = .ok (.getfield 33, 3) := by decide +kernel
theorem dX6_readDigits_40 : decode cX6_readDigits 40 = .ok (.baload, 1) := by decide +kernel
theorem dX6_readDigits_41 : decode cX6_readDigits 41 = .ok (.bipush 57, 2) := by decide +kernel
theorem dX6_readDigits_43 : decode cX6_readDigits 43 = .ok (.if_icmp .gt 44, 3) := by decide +kernel
theorem dX6_readDigits_46 : decode cX6_readDigits 46 = .ok (.aload_n 0, 1) := by decide +kernel
theorem dX6_readDigits_47 : decode cX6_readDigits 47 = .ok (.getfield 33, 3) := by decide +kernel
theorem dX6_readDigits_50 : decode cX6_readDigits 50 = .ok (.iload_n 2, 1) := by decide +kernel
theorem dX6_readDigits_51 : decode cX6_readDigits 51 = .ok (.isub, 1) := by decide +kernel
theorem dX6_readDigits_52 : decode cX6_readDigits 52 = .ok (.iconst 3, 1) := by decide +kernel
theorem dX6_readDigits_53 : decode cX6_readDigits 53 = .ok (.if_icmp .ge 21, 3) := by decide +kernel
theorem dX6_readDigits_56 : decode cX6_readDigits 56 = .ok (.iload_n 3, 1) := by decide +kernel
theorem dX6_readDigits_57 : decode cX6_readDigits 57 = .ok (.bipush 10, 2) := by decide +kernel
theorem dX6_readDigits_59 : decode cX6_readDigits 59 = .ok (.imul, 1) := by decide +kernel
theorem dX6_readDigits_60 : decode cX6_readDigits 60 = .ok (.aload_n 0, 1) := by decide +kernel
theorem dX6_readDigits_61 : decode cX6_readDigits 61 = .ok (.getfield 9, 3) := by decide +kernel
theorem dX6_readDigits_64 : decode cX6_readDigits 64 = .ok (.aload_n 0, 1) := by decide +kernel
theorem dX6_readDigits_65 : decode cX6_readDigits 65 = .ok (.getfield 33, 3) := by decide +kernel
theorem dX6_readDigits_68 : decode cX6_readDigits 68 = .ok (.baload, 1) := by decide +kernel
theorem dX6_readDigits_69 : decode cX6_readDigits 69 = .ok (.iadd, 1) := by decide +kernel
theorem dX6_readDigits_70 : decode cX6_readDigits 70 = .ok (.bipush 48, 2) := by decide +kernel
theorem dX6_readDigits_72 : decode cX6_readDigits 72 = .ok (.isub, 1) := by decide +kernel
theorem dX6_readDigits_73 : decode cX6_readDigits 73 = .ok (.istore_n 3, 1) := by decide +kernel
theorem dX6_readDigits_74 : decode cX6_readDigits 74 = .ok (.aload_n 0, 1) := by decide +kernel
theorem dX6_readDigits_75 : decode cX6_readDigits 75 = .ok (.dup, 1) := by decide +kernel
theorem dX6_readDigits_76 : decode cX6_readDigits 76 = .ok (.getfield 33, 3) := by decide +kernel
theorem dX6_readDigits_79 : decode cX6_readDigits 79 = .ok (.iconst 1, 1) := by decide +kernel
theorem dX6_readDigits_80 : decode cX6_readDigits 80 = .ok (.iadd, 1) := by decide +kernel
theorem dX6_readDigits_81 : decode cX6_readDigits 81 = .ok (.putfield 33, 3) := by decide +kernel
theorem dX6_readDigits_84 : decode cX6_readDigits 84 = .ok (.goto (-77), 3) := by decide +kernel
theorem dX6_readDigits_87 : decode cX6_readDigits 87 = .ok (.aload_n 0, 1) := by decide +kernel
theorem dX6_readDigits_88 : decode cX6_readDigits 88 = .ok (.iload_n 3, 1) := by decide +kernel
theorem dX6_readDigits_89 : decode cX6_readDigits 89 = .ok (.putfield 36, 3) := by decide +kernel
theorem dX6_readDigits_92 : decode cX6_readDigits 92 = .ok (.aload_n 0, 1) := by decide +kernel
theorem dX6_readDigits_93 : decode cX6_readDigits 93 = .ok (.getfield 33, 3) := by decide +kernel
theorem dX6_readDigits_96 : decode cX6_readDigits 96 = .ok (.iload_n 2, 1) := by decide +kernel
theorem dX6_readDigits_97 : decode cX6_readDigits 97 = .ok (.if_icmp .ne 12, 3) := by decide +kernel
theorem dX6_readDigits_100 : decode cX6_readDigits 100 = .ok (.aload_n 0, 1) := by decide +kernel
theorem dX6_readDigits_101 : decode cX6_readDigits 101 = .ok (.aload_n 0, 1) := by decide +kernel
theorem dX6_readDigits_102 : decode cX6_readDigits 102 = .ok (.getfield 33, 3) := by decide +kernel
theorem dX6_readDigits_105 : decode cX6_readDigits 105 = .ok (.invokevirtual 53, 3) := by decide +kernel
theorem dX6_readDigits_108 : decode cX6_readDigits 108 = .ok (.ireturn, 1) := by decide +kernel
theorem dX6_readDigits_109 : decode cX6_readDigits 109 = .ok (.aload_n 0, 1) := by decide +kernel
theorem dX6_readDigits_110 : decode cX6_readDigits 110 = .ok (.getfield 33, 3) := by decide +kernel
theorem dX6_readDigits_113 : decode cX6_readDigits 113 = .ok (.iload_n 2, 1) := by decide +kernel
theorem dX6_readDigits_114 : decode cX6_readDigits 114 = .ok (.isub, 1) := by decide +kernel
theorem dX6_readDigits_115 : decode cX6_readDigits 115 = .ok (.iconst 3, 1) := by decide +kernel
theorem dX6_readDigits_116 : decode cX6_readDigits 116 = .ok (.if_icmp .le 11, 3) := by decide +kernel
theorem dX6_readDigits_119 : decode cX6_readDigits 119 = .ok (.aload_n 0, 1) := by decide +kernel
theorem dX6_readDigits_120 : decode cX6_readDigits 120 = .ok (.iload_n 1, 1) := by decide +kernel
theorem dX6_readDigits_121 : decode cX6_readDigits 121 = .ok (.invokevirtual 53, 3) := by decide +kernel
theorem dX6_readDigits_124 : decode cX6_readDigits 124 = .ok (.ifCond .eq 7, 3) := by decide +kernel
theorem dX6_readDigits_127 : decode cX6_readDigits 127 = .ok (.iconst 1, 1) := by decide +kernel
theorem dX6_readDigits_128 : decode cX6_readDigits 128 = .ok (.goto 4, 3) := by decide +kernel
theorem dX6_readDigits_131 : decode cX6_readDigits 131 = .ok (.iconst 0, 1) := by decide +kernel
theorem dX6_readDigits_132 : decode cX6_readDigits 132 = .ok (.ireturn, 1) := by decide +kernel
theorem dX6_skipBlanks_0 : decode cX6_skipBlanks 0 = .ok (.aload_n 0, 1) := by decide +kernel
theorem dX6_skipBlanks_1 : decode cX6_skipBlanks 1 = .ok (.getfield 33, 3) := by decide +kernel
theorem dX6_skipBlanks_4 : decode cX6_skipBlanks 4 = .ok (.aload_n 0, 1) := by decide +kernel
theorem dX6_skipBlanks_5 : decode cX6_skipBlanks 5 = .ok (.getfield 26, 3) := by decide +kernel
theorem dX6_skipBlanks_8 : decode cX6_skipBlanks 8 = .ok (.if_icmp .ge 30, 3) := by decide +kernel
theorem dX6_skipBlanks_11 : decode cX6_skipBlanks 11 = .ok (.aload_n 0, 1) := by decide +kernel
theorem dX6_skipBlanks_12 : decode cX6_skipBlanks 12 = .ok (.getfield 9, 3) := by decide +kernel
theorem dX6_skipBlanks_15 : decode cX6_skipBlanks 15 = .ok (.aload_n 0, 1) := by decide +kernel
theorem dX6_skipBlanks_16 : decode cX6_skipBlanks 16 = .ok (.getfield 33, 3) := by decide +kernel
theorem dX6_skipBlanks_19 : decode cX6_skipBlanks 19 = .ok (.baload, 1) := by decide +kernel
theorem dX6_skipBlanks_20 : decode cX6_skipBlanks 20 = .ok (.bipush 32, 2) := by decide +kernel
theorem dX6_skipBlanks_22 : decode cX6_skipBlanks 22 = .ok (.if_icmp .ne 16, 3) := by decide +kernel
theorem dX6_skipBlanks_25 : decode cX6_skipBlanks 25 = .ok (.aload_n 0, 1) := by decide +kernel
theorem dX6_skipBlanks_26 : decode cX6_skipBlanks 26 = .ok (.dup, 1) := by decide +kernel
theorem dX6_skipBlanks_27 : decode cX6_skipBlanks 27 = .ok (.getfield 33, 3) := by decide +kernel
theorem dX6_skipBlanks_30 : decode cX6_skipBlanks 30 = .ok (.iconst 1, 1) := by decide +kernel
theorem dX6_skipBlanks_31 : decode cX6_skipBlanks 31 = .ok (.iadd, 1) := by decide +kernel
theorem dX6_skipBlanks_32 : decode cX6_skipBlanks 32 = .ok (.putfield 33, 3) := by decide +kernel
theorem dX6_skipBlanks_35 : decode cX6_skipBlanks 35 = .ok (.goto (-35), 3) := by decide +kernel
theorem dX6_skipBlanks_38 : decode cX6_skipBlanks 38 = .ok (.return_, 1) := by decide +kernel
theorem dX6_refuse_0 : decode cX6_refuse 0 = .ok (.aload_n 0, 1) := by decide +kernel
theorem dX6_refuse_1 : decode cX6_refuse 1 = .ok (.iload_n 1, 1) := by decide +kernel
theorem dX6_refuse_2 : decode cX6_refuse 2 = .ok (.putfield 30, 3) := by decide +kernel
theorem dX6_refuse_5 : decode cX6_refuse 5 = .ok (.iconst 0, 1) := by decide +kernel
theorem dX6_refuse_6 : decode cX6_refuse 6 = .ok (.ireturn, 1) := by decide +kernel
theorem dX7_init_0 : decode cX7_init 0 = .ok (.aload_n 0, 1) := by decide +kernel
theorem dX7_init_1 : decode cX7_init 1 = .ok (.invokespecial 3, 3) := by decide +kernel
theorem dX7_init_4 : decode cX7_init 4 = .ok (.aload_n 0, 1) := by decide +kernel
theorem dX7_init_5 : decode cX7_init 5 = .ok (.bipush 24, 2) := by decide +kernel
theorem dX7_init_7 : decode cX7_init 7 = .ok (.newarray .int, 2) := by decide +kernel
theorem dX7_init_9 : decode cX7_init 9 = .ok (.putfield 9, 3) := by decide +kernel
theorem dX7_init_12 : decode cX7_init 12 = .ok (.aload_n 0, 1) := by decide +kernel
theorem dX7_init_13 : decode cX7_init 13 = .ok (.bipush 24, 2) := by decide +kernel
theorem dX7_init_15 : decode cX7_init 15 = .ok (.newarray .int, 2) := by decide +kernel
theorem dX7_init_17 : decode cX7_init 17 = .ok (.putfield 15, 3) := by decide +kernel
theorem dX7_init_20 : decode cX7_init 20 = .ok (.aload_n 0, 1) := by decide +kernel
theorem dX7_init_21 : decode cX7_init 21 = .ok (.bipush 24, 2) := by decide +kernel
theorem dX7_init_23 : decode cX7_init 23 = .ok (.newarray .int, 2) := by decide +kernel
theorem dX7_init_25 : decode cX7_init 25 = .ok (.putfield 18, 3) := by decide +kernel
theorem dX7_init_28 : decode cX7_init 28 = .ok (.aload_n 0, 1) := by decide +kernel
theorem dX7_init_29 : decode cX7_init 29 = .ok (.bipush 24, 2) := by decide +kernel
theorem dX7_init_31 : decode cX7_init 31 = .ok (.newarray .int, 2) := by decide +kernel
theorem dX7_init_33 : decode cX7_init 33 = .ok (.putfield 21, 3) := by decide +kernel
theorem dX7_init_36 : decode cX7_init 36 = .ok (.aload_n 0, 1) := by decide +kernel
theorem dX7_init_37 : decode cX7_init 37 = .ok (.bipush 24, 2) := by decide +kernel
theorem dX7_init_39 : decode cX7_init 39 = .ok (.newarray .int, 2) := by decide +kernel
theorem dX7_init_41 : decode cX7_init 41 = .ok (.putfield 24, 3) := by decide +kernel
theorem dX7_init_44 : decode cX7_init 44 = .ok (.aload_n 0, 1) := by decide +kernel
theorem dX7_init_45 : decode cX7_init 45 = .ok (.iconst 0, 1) := by decide +kernel
theorem dX7_init_46 : decode cX7_init 46 = .ok (.putfield 27, 3) := by decide +kernel
theorem dX7_init_49 : decode cX7_init 49 = .ok (.return_, 1) := by decide +kernel
theorem dX7_isFull_0 : decode cX7_isFull 0 = .ok (.aload_n 0, 1) := by decide +kernel
theorem dX7_isFull_1 : decode cX7_isFull 1 = .ok (.getfield 27, 3) := by decide +kernel
theorem dX7_isFull_4 : decode cX7_isFull 4 = .ok (.bipush 24, 2) := by decide +kernel
theorem dX7_isFull_6 : decode cX7_isFull 6 = .ok (.if_icmp .lt 7, 3) := by decide +kernel
theorem dX7_isFull_9 : decode cX7_isFull 9 = .ok (.iconst 1, 1) := by decide +kernel
theorem dX7_isFull_10 : decode cX7_isFull 10 = .ok (.goto 4, 3) := by decide +kernel
theorem dX7_isFull_13 : decode cX7_isFull 13 = .ok (.iconst 0, 1) := by decide +kernel
theorem dX7_isFull_14 : decode cX7_isFull 14 = .ok (.ireturn, 1) := by decide +kernel
theorem dX7_append_0 : decode cX7_append 0 = .ok (.aload_n 0, 1) := by decide +kernel
theorem dX7_append_1 : decode cX7_append 1 = .ok (.invokevirtual 31, 3) := by decide +kernel
theorem dX7_append_4 : decode cX7_append 4 = .ok (.ifCond .eq 4, 3) := by decide +kernel
theorem dX7_append_7 : decode cX7_append 7 = .ok (.return_, 1) := by decide +kernel
theorem dX7_append_8 : decode cX7_append 8 = .ok (.aload_n 0, 1) := by decide +kernel
theorem dX7_append_9 : decode cX7_append 9 = .ok (.aload_n 0, 1) := by decide +kernel
theorem dX7_append_10 : decode cX7_append 10 = .ok (.getfield 27, 3) := by decide +kernel
theorem dX7_append_13 : decode cX7_append 13 = .ok (.iload_n 1, 1) := by decide +kernel
theorem dX7_append_14 : decode cX7_append 14 = .ok (.iload_n 2, 1) := by decide +kernel
theorem dX7_append_15 : decode cX7_append 15 = .ok (.iload_n 3, 1) := by decide +kernel
theorem dX7_append_16 : decode cX7_append 16 = .ok (.iload 4, 2) := by decide +kernel
theorem dX7_append_18 : decode cX7_append 18 = .ok (.invokevirtual 35, 3) := by decide +kernel
theorem dX7_append_21 : decode cX7_append 21 = .ok (.aload_n 0, 1) := by decide +kernel
theorem dX7_append_22 : decode cX7_append 22 = .ok (.getfield 24, 3) := by decide +kernel
theorem dX7_append_25 : decode cX7_append 25 = .ok (.aload_n 0, 1) := by decide +kernel
theorem dX7_append_26 : decode cX7_append 26 = .ok (.getfield 27, 3) := by decide +kernel
theorem dX7_append_29 : decode cX7_append 29 = .ok (.iload 5, 2) := by decide +kernel
theorem dX7_append_31 : decode cX7_append 31 = .ok (.iastore, 1) := by decide +kernel
theorem dX7_append_32 : decode cX7_append 32 = .ok (.aload_n 0, 1) := by decide +kernel
theorem dX7_append_33 : decode cX7_append 33 = .ok (.dup, 1) := by decide +kernel
theorem dX7_append_34 : decode cX7_append 34 = .ok (.getfield 27, 3) := by decide +kernel
theorem dX7_append_37 : decode cX7_append 37 = .ok (.iconst 1, 1) := by decide +kernel
theorem dX7_append_38 : decode cX7_append 38 = .ok (.iadd, 1) := by decide +kernel
theorem dX7_append_39 : decode cX7_append 39 = .ok (.putfield 27, 3) := by decide +kernel
theorem dX7_append_42 : decode cX7_append 42 = .ok (.return_, 1) := by decide +kernel
theorem dX7_put_0 : decode cX7_put 0 = .ok (.iload_n 2, 1) := by decide +kernel
theorem dX7_put_1 : decode cX7_put 1 = .ok (.iload 4, 2) := by decide +kernel
theorem dX7_put_3 : decode cX7_put 3 = .ok (.if_icmp .lt 15, 3) := by decide +kernel
theorem dX7_put_6 : decode cX7_put 6 = .ok (.iload_n 2, 1) := by decide +kernel
theorem dX7_put_7 : decode cX7_put 7 = .ok (.iload 4, 2) := by decide +kernel
theorem dX7_put_9 : decode cX7_put 9 = .ok (.if_icmp .ne 13, 3) := by decide +kernel
theorem dX7_put_12 : decode cX7_put 12 = .ok (.iload_n 3, 1) := by decide +kernel
theorem dX7_put_13 : decode cX7_put 13 = .ok (.iload 5, 2) := by decide +kernel
theorem dX7_put_15 : decode cX7_put 15 = .ok (.if_icmp .gt 7, 3) := by decide +kernel
theorem dX7_put_18 : decode cX7_put 18 = .ok (.iconst 1, 1) := by decide +kernel
theorem dX7_put_19 : decode cX7_put 19 = .ok (.goto 4, 3) := by decide +kernel
theorem dX7_put_22 : decode cX7_put 22 = .ok (.iconst 0, 1) := by decide +kernel
theorem dX7_put_23 : decode cX7_put 23 = .ok (.istore 6, 2) := by decide +kernel
theorem dX7_put_25 : decode cX7_put 25 = .ok (.aload_n 0, 1) := by decide +kernel
theorem dX7_put_26 : decode cX7_put 26 = .ok (.getfield 9, 3) := by decide +kernel
theorem dX7_put_29 : decode cX7_put 29 = .ok (.iload_n 1, 1) := by decide +kernel
theorem dX7_put_30 : decode cX7_put 30 = .ok (.iload 6, 2) := by decide +kernel
theorem dX7_put_32 : decode cX7_put 32 = .ok (.ifCond .eq 7, 3) := by decide +kernel
theorem dX7_put_35 : decode cX7_put 35 = .ok (.iload_n 2, 1) := by decide +kernel
theorem dX7_put_36 : decode cX7_put 36 = .ok (.goto 5, 3) := by decide +kernel
theorem dX7_put_39 : decode cX7_put 39 = .ok (.iload 4, 2) := by decide +kernel
theorem dX7_put_41 : decode cX7_put 41 = .ok (.iastore, 1) := by decide +kernel
theorem dX7_put_42 : decode cX7_put 42 = .ok (.aload_n 0, 1) := by decide +kernel
theorem dX7_put_43 : decode cX7_put 43 = .ok (.getfield 15, 3) := by decide +kernel
theorem dX7_put_46 : decode cX7_put 46 = .ok (.iload_n 1, 1) := by decide +kernel
theorem dX7_put_47 : decode cX7_put 47 = .ok (.iload 6, 2) := by decide +kernel
theorem dX7_put_49 : decode cX7_put 49 = .ok (.ifCond .eq 7, 3) := by decide +kernel
theorem dX7_put_52 : decode cX7_put 52 = .ok (.iload_n 3, 1) := by decide +kernel
theorem dX7_put_53 : decode cX7_put 53 = .ok (.goto 5, 3) := by decide +kernel
theorem dX7_put_56 : decode cX7_put 56 = .ok (.iload 5, 2) := by decide +kernel
theorem dX7_put_58 : decode cX7_put 58 = .ok (.iastore, 1) := by decide +kernel
theorem dX7_put_59 : decode cX7_put 59 = .ok (.aload_n 0, 1) := by decide +kernel
theorem dX7_put_60 : decode cX7_put 60 = .ok (.getfield 18, 3) := by decide +kernel
theorem dX7_put_63 : decode cX7_put 63 = .ok (.iload_n 1, 1) := by decide +kernel
theorem dX7_put_64 : decode cX7_put 64 = .ok (.iload 6, 2) := by decide +kernel
theorem dX7_put_66 : decode cX7_put 66 = .ok (.ifCond .eq 8, 3) := by decide +kernel
theorem dX7_put_69 : decode cX7_put 69 = .ok (.iload 4, 2) := by decide +kernel
theorem dX7_put_71 : decode cX7_put 71 = .ok (.goto 4, 3) := by decide +kernel
theorem dX7_put_74 : decode cX7_put 74 = .ok (.iload_n 2, 1) := by decide +kernel
theorem dX7_put_75 : decode cX7_put 75 = .ok (.iastore, 1) := by decide +kernel
theorem dX7_put_76 : decode cX7_put 76 = .ok (.aload_n 0, 1) := by decide +kernel
theorem dX7_put_77 : decode cX7_put 77 = .ok (.getfield 21, 3) := by decide +kernel
theorem dX7_put_80 : decode cX7_put 80 = .ok (.iload_n 1, 1) := by decide +kernel
theorem dX7_put_81 : decode cX7_put 81 = .ok (.iload 6, 2) := by decide +kernel
theorem dX7_put_83 : decode cX7_put 83 = .ok (.ifCond .eq 8, 3) := by decide +kernel
theorem dX7_put_86 : decode cX7_put 86 = .ok (.iload 5, 2) := by decide +kernel
theorem dX7_put_88 : decode cX7_put 88 = .ok (.goto 4, 3) := by decide +kernel
theorem dX7_put_91 : decode cX7_put 91 = .ok (.iload_n 3, 1) := by decide +kernel
theorem dX7_put_92 : decode cX7_put 92 = .ok (.iastore, 1) := by decide +kernel
theorem dX7_put_93 : decode cX7_put 93 = .ok (.return_, 1) := by decide +kernel
theorem dX7_drop_0 : decode cX7_drop 0 = .ok (.iload_n 1, 1) := by decide +kernel
theorem dX7_drop_1 : decode cX7_drop 1 = .ok (.istore_n 2, 1) := by decide +kernel
theorem dX7_drop_2 : decode cX7_drop 2 = .ok (.iload_n 2, 1) := by decide +kernel
theorem dX7_drop_3 : decode cX7_drop 3 = .ok (.iconst 1, 1) := by decide +kernel
theorem dX7_drop_4 : decode cX7_drop 4 = .ok (.iadd, 1) := by decide +kernel
theorem dX7_drop_5 : decode cX7_drop 5 = .ok (.aload_n 0, 1) := by decide +kernel
theorem dX7_drop_6 : decode cX7_drop 6 = .ok (.getfield 27, 3) := by decide +kernel
theorem dX7_drop_9 : decode cX7_drop 9 = .ok (.if_icmp .ge 18, 3) := by decide +kernel
theorem dX7_drop_12 : decode cX7_drop 12 = .ok (.aload_n 0, 1) := by decide +kernel
theorem dX7_drop_13 : decode cX7_drop 13 = .ok (.iload_n 2, 1) := by decide +kernel
theorem dX7_drop_14 : decode cX7_drop 14 = .ok (.aload_n 0, 1) := by decide +kernel
theorem dX7_drop_15 : decode cX7_drop 15 = .ok (.iload_n 2, 1) := by decide +kernel
theorem dX7_drop_16 : decode cX7_drop 16 = .ok (.iconst 1, 1) := by decide +kernel
theorem dX7_drop_17 : decode cX7_drop 17 = .ok (.iadd, 1) := by decide +kernel
theorem dX7_drop_18 : decode cX7_drop 18 = .ok (.invokevirtual 39, 3) := by decide +kernel
theorem dX7_drop_21 : decode cX7_drop 21 = .ok (.iinc 2 1, 3) := by decide +kernel
theorem dX7_drop_24 : decode cX7_drop 24 = .ok (.goto (-22), 3) := by decide +kernel
theorem dX7_drop_27 : decode cX7_drop 27 = .ok (.aload_n 0, 1) := by decide +kernel
theorem dX7_drop_28 : decode cX7_drop 28 = .ok (.dup, 1) := by decide +kernel
theorem dX7_drop_29 : decode cX7_drop 29 = .ok (.getfield 27, 3) := by decide +kernel
theorem dX7_drop_32 : decode cX7_drop 32 = .ok (.iconst 1, 1) := by decide +kernel
theorem dX7_drop_33 : decode cX7_drop 33 = .ok (.isub, 1) := by decide +kernel
theorem dX7_drop_34 : decode cX7_drop 34 = .ok (.putfield 27, 3) := by decide +kernel
theorem dX7_drop_37 : decode cX7_drop 37 = .ok (.return_, 1) := by decide +kernel
theorem dX7_canShift_0 : decode cX7_canShift 0 = .ok (.aload_n 0, 1) := by decide +kernel
theorem dX7_canShift_1 : decode cX7_canShift 1 = .ok (.getfield 9, 3) := by decide +kernel
theorem dX7_canShift_4 : decode cX7_canShift 4 = .ok (.iload_n 1, 1) := by decide +kernel
theorem dX7_canShift_5 : decode cX7_canShift 5 = .ok (.iaload, 1) := by decide +kernel
theorem dX7_canShift_6 : decode cX7_canShift 6 = .ok (.i2l, 1) := by decide +kernel
theorem dX7_canShift_7 : decode cX7_canShift 7 = .ok (.lload_n 2, 1) := by decide +kernel
theorem dX7_canShift_8 : decode cX7_canShift 8 = .ok (.ladd, 1) := by decide +kernel
theorem dX7_canShift_9 : decode cX7_canShift 9 = .ok (.invokestatic 43, 3) := by decide +kernel
theorem dX7_canShift_12 : decode cX7_canShift 12 = .ok (.ifCond .eq 54, 3) := by decide +kernel
theorem dX7_canShift_15 : decode cX7_canShift 15 = .ok (.aload_n 0, 1) := by decide +kernel
theorem dX7_canShift_16 : decode cX7_canShift 16 = .ok (.getfield 18, 3) := by decide +kernel
theorem dX7_canShift_19 : decode cX7_canShift 19 = .ok (.iload_n 1, 1) := by decide +kernel
theorem dX7_canShift_20 : decode cX7_canShift 20 = .ok (.iaload, 1) := by decide +kernel
theorem dX7_canShift_21 : decode cX7_canShift 21 = .ok (.i2l, 1) := by decide +kernel
theorem dX7_canShift_22 : decode cX7_canShift 22 = .ok (.lload_n 2, 1) := by decide +kernel
theorem dX7_canShift_23 : decode cX7_canShift 23 = .ok (.ladd, 1) := by decide +kernel
theorem dX7_canShift_24 : decode cX7_canShift 24 = .ok (.invokestatic 43, 3) := by decide +kernel
theorem dX7_canShift_27 : decode cX7_canShift 27 = .ok (.ifCond .eq 39, 3) := by decide +kernel
theorem dX7_canShift_30 : decode cX7_canShift 30 = .ok (.aload_n 0, 1) := by decide +kernel
theorem dX7_canShift_31 : decode cX7_canShift 31 = .ok (.getfield 15, 3) := by decide +kernel
theorem dX7_canShift_34 : decode cX7_canShift 34 = .ok (.iload_n 1, 1) := by decide +kernel
theorem dX7_canShift_35 : decode cX7_canShift 35 = .ok (.iaload, 1) := by decide +kernel
theorem dX7_canShift_36 : decode cX7_canShift 36 = .ok (.i2l, 1) := by decide +kernel
theorem dX7_canShift_37 : decode cX7_canShift 37 = .ok (.lload 4, 2) := by decide +kernel
theorem dX7_canShift_39 : decode cX7_canShift 39 = .ok (.ladd, 1) := by decide +kernel
theorem dX7_canShift_40 : decode cX7_canShift 40 = .ok (.invokestatic 43, 3) := by decide +kernel
theorem dX7_canShift_43 : decode cX7_canShift 43 = .ok (.ifCond .eq 23, 3) := by decide +kernel
theorem dX7_canShift_46 : decode cX7_canShift 46 = .ok (.aload_n 0, 1) := by decide +kernel
theorem dX7_canShift_47 : decode cX7_canShift 47 = .ok (.getfield 21, 3) := by decide +kernel
theorem dX7_canShift_50 : decode cX7_canShift 50 = .ok (.iload_n 1, 1) := by decide +kernel
theorem dX7_canShift_51 : decode cX7_canShift 51 = .ok (.iaload, 1) := by decide +kernel
theorem dX7_canShift_52 : decode cX7_canShift 52 = .ok (.i2l, 1) := by decide +kernel
theorem dX7_canShift_53 : decode cX7_canShift 53 = .ok (.lload 4, 2) := by decide +kernel
theorem dX7_canShift_55 : decode cX7_canShift 55 = .ok (.ladd, 1) := by decide +kernel
theorem dX7_canShift_56 : decode cX7_canShift 56 = .ok (.invokestatic 43, 3) := by decide +kernel
theorem dX7_canShift_59 : decode cX7_canShift 59 = .ok (.ifCond .eq 7, 3) := by decide +kernel
theorem dX7_canShift_62 : decode cX7_canShift 62 = .ok (.iconst 1, 1) := by decide +kernel
theorem dX7_canShift_63 : decode cX7_canShift 63 = .ok (.goto 4, 3) := by decide +kernel
theorem dX7_canShift_66 : decode cX7_canShift 66 = .ok (.iconst 0, 1) := by decide +kernel
theorem dX7_canShift_67 : decode cX7_canShift 67 = .ok (.ireturn, 1) := by decide +kernel
theorem dX7_shift_0 : decode cX7_shift 0 = .ok (.aload_n 0, 1) := by decide +kernel
theorem dX7_shift_1 : decode cX7_shift 1 = .ok (.getfield 9, 3) := by decide +kernel
theorem dX7_shift_4 : decode cX7_shift 4 = .ok (.iload_n 1, 1) := by decide +kernel
theorem dX7_shift_5 : decode cX7_shift 5 = .ok (.dup2, 1) := by decide +kernel
theorem dX7_shift_6 : decode cX7_shift 6 = .ok (.iaload, 1) := by decide +kernel
theorem dX7_shift_7 : decode cX7_shift 7 = .ok (.iload_n 2, 1) := by decide +kernel
theorem dX7_shift_8 : decode cX7_shift 8 = .ok (.iadd, 1) := by decide +kernel
theorem dX7_shift_9 : decode cX7_shift 9 = .ok (.iastore, 1) := by decide +kernel
theorem dX7_shift_10 : decode cX7_shift 10 = .ok (.aload_n 0, 1) := by decide +kernel
theorem dX7_shift_11 : decode cX7_shift 11 = .ok (.getfield 18, 3) := by decide +kernel
theorem dX7_shift_14 : decode cX7_shift 14 = .ok (.iload_n 1, 1) := by decide +kernel
theorem dX7_shift_15 : decode cX7_shift 15 = .ok (.dup2, 1) := by decide +kernel
theorem dX7_shift_16 : decode cX7_shift 16 = .ok (.iaload, 1) := by decide +kernel
theorem dX7_shift_17 : decode cX7_shift 17 = .ok (.iload_n 2, 1) := by decide +kernel
theorem dX7_shift_18 : decode cX7_shift 18 = .ok (.iadd, 1) := by decide +kernel
theorem dX7_shift_19 : decode cX7_shift 19 = .ok (.iastore, 1) := by decide +kernel
theorem dX7_shift_20 : decode cX7_shift 20 = .ok (.aload_n 0, 1) := by decide +kernel
theorem dX7_shift_21 : decode cX7_shift 21 = .ok (.getfield 15, 3) := by decide +kernel
theorem dX7_shift_24 : decode cX7_shift 24 = .ok (.iload_n 1, 1) := by decide +kernel
theorem dX7_shift_25 : decode cX7_shift 25 = .ok (.dup2, 1) := by decide +kernel
theorem dX7_shift_26 : decode cX7_shift 26 = .ok (.iaload, 1) := by decide +kernel
theorem dX7_shift_27 : decode cX7_shift 27 = .ok (.iload_n 3, 1) := by decide +kernel
theorem dX7_shift_28 : decode cX7_shift 28 = .ok (.iadd, 1) := by decide +kernel
theorem dX7_shift_29 : decode cX7_shift 29 = .ok (.iastore, 1) := by decide +kernel
theorem dX7_shift_30 : decode cX7_shift 30 = .ok (.aload_n 0, 1) := by decide +kernel
theorem dX7_shift_31 : decode cX7_shift 31 = .ok (.getfield 21, 3) := by decide +kernel
theorem dX7_shift_34 : decode cX7_shift 34 = .ok (.iload_n 1, 1) := by decide +kernel
theorem dX7_shift_35 : decode cX7_shift 35 = .ok (.dup2, 1) := by decide +kernel
theorem dX7_shift_36 : decode cX7_shift 36 = .ok (.iaload, 1) := by decide +kernel
theorem dX7_shift_37 : decode cX7_shift 37 = .ok (.iload_n 3, 1) := by decide +kernel
theorem dX7_shift_38 : decode cX7_shift 38 = .ok (.iadd, 1) := by decide +kernel
theorem dX7_shift_39 : decode cX7_shift 39 = .ok (.iastore, 1) := by decide +kernel
theorem dX7_shift_40 : decode cX7_shift 40 = .ok (.return_, 1) := by decide +kernel
theorem dX7_rotate_0 : decode cX7_rotate 0 = .ok (.iconst 0, 1) := by decide +kernel
theorem dX7_rotate_1 : decode cX7_rotate 1 = .ok (.istore_n 1, 1) := by decide +kernel
theorem dX7_rotate_2 : decode cX7_rotate 2 = .ok (.iload_n 1, 1) := by decide +kernel
theorem dX7_rotate_3 : decode cX7_rotate 3 = .ok (.aload_n 0, 1) := by decide +kernel
theorem dX7_rotate_4 : decode cX7_rotate 4 = .ok (.getfield 27, 3) := by decide +kernel
theorem dX7_rotate_7 : decode cX7_rotate 7 = .ok (.if_icmp .ge 40, 3) := by decide +kernel
theorem dX7_rotate_10 : decode cX7_rotate 10 = .ok (.aload_n 0, 1) := by decide +kernel
theorem dX7_rotate_11 : decode cX7_rotate 11 = .ok (.iload_n 1, 1) := by decide +kernel
theorem dX7_rotate_12 : decode cX7_rotate 12 = .ok (.aload_n 0, 1) := by decide +kernel
theorem dX7_rotate_13 : decode cX7_rotate 13 = .ok (.getfield 15, 3) := by decide +kernel
theorem dX7_rotate_16 : decode cX7_rotate 16 = .ok (.iload_n 1, 1) := by decide +kernel
theorem dX7_rotate_17 : decode cX7_rotate 17 = .ok (.iaload, 1) := by decide +kernel
theorem dX7_rotate_18 : decode cX7_rotate 18 = .ok (.ineg, 1) := by decide +kernel
theorem dX7_rotate_19 : decode cX7_rotate 19 = .ok (.aload_n 0, 1) := by decide +kernel
theorem dX7_rotate_20 : decode cX7_rotate 20 = .ok (.getfield 9, 3) := by decide +kernel
theorem dX7_rotate_23 : decode cX7_rotate 23 = .ok (.iload_n 1, 1) := by decide +kernel
theorem dX7_rotate_24 : decode cX7_rotate 24 = .ok (.iaload, 1) := by decide +kernel
theorem dX7_rotate_25 : decode cX7_rotate 25 = .ok (.aload_n 0, 1) := by decide +kernel
theorem dX7_rotate_26 : decode cX7_rotate 26 = .ok (.getfield 21, 3) := by decide +kernel
theorem dX7_rotate_29 : decode cX7_rotate 29 = .ok (.iload_n 1, 1) := by decide +kernel
theorem dX7_rotate_30 : decode cX7_rotate 30 = .ok (.iaload, 1) := by decide +kernel
theorem dX7_rotate_31 : decode cX7_rotate 31 = .ok (.ineg, 1) := by decide +kernel
theorem dX7_rotate_32 : decode cX7_rotate 32 = .ok (.aload_n 0, 1) := by decide +kernel
theorem dX7_rotate_33 : decode cX7_rotate 33 = .ok (.getfield 18, 3) := by decide +kernel
theorem dX7_rotate_36 : decode cX7_rotate 36 = .ok (.iload_n 1, 1) := by decide +kernel
theorem dX7_rotate_37 : decode cX7_rotate 37 = .ok (.iaload, 1) := by decide +kernel
theorem dX7_rotate_38 : decode cX7_rotate 38 = .ok (.invokevirtual 35, 3) := by decide +kernel
theorem dX7_rotate_41 : decode cX7_rotate 41 = .ok (.iinc 1 1, 3) := by decide +kernel
theorem dX7_rotate_44 : decode cX7_rotate 44 = .ok (.goto (-42), 3) := by decide +kernel
theorem dX7_rotate_47 : decode cX7_rotate 47 = .ok (.return_, 1) := by decide +kernel
theorem dX7_copyFrom_0 : decode cX7_copyFrom 0 = .ok (.iconst 0, 1) := by decide +kernel
theorem dX7_copyFrom_1 : decode cX7_copyFrom 1 = .ok (.istore_n 2, 1) := by decide +kernel
theorem dX7_copyFrom_2 : decode cX7_copyFrom 2 = .ok (.iload_n 2, 1) := by decide +kernel
theorem dX7_copyFrom_3 : decode cX7_copyFrom 3 = .ok (.aload_n 1, 1) := by decide +kernel
theorem dX7_copyFrom_4 : decode cX7_copyFrom 4 = .ok (.getfield 27, 3) := by decide +kernel
theorem dX7_copyFrom_7 : decode cX7_copyFrom 7 = .ok (.if_icmp .ge 16, 3) := by decide +kernel
theorem dX7_copyFrom_10 : decode cX7_copyFrom 10 = .ok (.aload_n 0, 1) := by decide +kernel
theorem dX7_copyFrom_11 : decode cX7_copyFrom 11 = .ok (.iload_n 2, 1) := by decide +kernel
theorem dX7_copyFrom_12 : decode cX7_copyFrom 12 = .ok (.aload_n 1, 1) := by decide +kernel
theorem dX7_copyFrom_13 : decode cX7_copyFrom 13 = .ok (.iload_n 2, 1) := by decide +kernel
theorem dX7_copyFrom_14 : decode cX7_copyFrom 14 = .ok (.invokevirtual 39, 3) := by decide +kernel
theorem dX7_copyFrom_17 : decode cX7_copyFrom 17 = .ok (.iinc 2 1, 3) := by decide +kernel
theorem dX7_copyFrom_20 : decode cX7_copyFrom 20 = .ok (.goto (-18), 3) := by decide +kernel
theorem dX7_copyFrom_23 : decode cX7_copyFrom 23 = .ok (.aload_n 0, 1) := by decide +kernel
theorem dX7_copyFrom_24 : decode cX7_copyFrom 24 = .ok (.aload_n 1, 1) := by decide +kernel
theorem dX7_copyFrom_25 : decode cX7_copyFrom 25 = .ok (.getfield 27, 3) := by decide +kernel
theorem dX7_copyFrom_28 : decode cX7_copyFrom 28 = .ok (.putfield 27, 3) := by decide +kernel
theorem dX7_copyFrom_31 : decode cX7_copyFrom 31 = .ok (.return_, 1) := by decide +kernel
theorem dX7_copyOne_0 : decode cX7_copyOne 0 = .ok (.aload_n 0, 1) := by decide +kernel
theorem dX7_copyOne_1 : decode cX7_copyOne 1 = .ok (.getfield 9, 3) := by decide +kernel
theorem dX7_copyOne_4 : decode cX7_copyOne 4 = .ok (.iload_n 1, 1) := by decide +kernel
theorem dX7_copyOne_5 : decode cX7_copyOne 5 = .ok (.aload_n 2, 1) := by decide +kernel
theorem dX7_copyOne_6 : decode cX7_copyOne 6 = .ok (.getfield 9, 3) := by decide +kernel
theorem dX7_copyOne_9 : decode cX7_copyOne 9 = .ok (.iload_n 3, 1) := by decide +kernel
theorem dX7_copyOne_10 : decode cX7_copyOne 10 = .ok (.iaload, 1) := by decide +kernel
theorem dX7_copyOne_11 : decode cX7_copyOne 11 = .ok (.iastore, 1) := by decide +kernel
theorem dX7_copyOne_12 : decode cX7_copyOne 12 = .ok (.aload_n 0, 1) := by decide +kernel
theorem dX7_copyOne_13 : decode cX7_copyOne 13 = .ok (.getfield 15, 3) := by decide +kernel
theorem dX7_copyOne_16 : decode cX7_copyOne 16 = .ok (.iload_n 1, 1) := by decide +kernel
theorem dX7_copyOne_17 : decode cX7_copyOne 17 = .ok (.aload_n 2, 1) := by decide +kernel
theorem dX7_copyOne_18 : decode cX7_copyOne 18 = .ok (.getfield 15, 3) := by decide +kernel
theorem dX7_copyOne_21 : decode cX7_copyOne 21 = .ok (.iload_n 3, 1) := by decide +kernel
theorem dX7_copyOne_22 : decode cX7_copyOne 22 = .ok (.iaload, 1) := by decide +kernel
theorem dX7_copyOne_23 : decode cX7_copyOne 23 = .ok (.iastore, 1) := by decide +kernel
theorem dX7_copyOne_24 : decode cX7_copyOne 24 = .ok (.aload_n 0, 1) := by decide +kernel
theorem dX7_copyOne_25 : decode cX7_copyOne 25 = .ok (.getfield 18, 3) := by decide +kernel
theorem dX7_copyOne_28 : decode cX7_copyOne 28 = .ok (.iload_n 1, 1) := by decide +kernel
theorem dX7_copyOne_29 : decode cX7_copyOne 29 = .ok (.aload_n 2, 1) := by decide +kernel
theorem dX7_copyOne_30 : decode cX7_copyOne 30 = .ok (.getfield 18, 3) := by decide +kernel
theorem dX7_copyOne_33 : decode cX7_copyOne 33 = .ok (.iload_n 3, 1) := by decide +kernel
theorem dX7_copyOne_34 : decode cX7_copyOne 34 = .ok (.iaload, 1) := by decide +kernel
theorem dX7_copyOne_35 : decode cX7_copyOne 35 = .ok (.iastore, 1) := by decide +kernel
theorem dX7_copyOne_36 : decode cX7_copyOne 36 = .ok (.aload_n 0, 1) := by decide +kernel
theorem dX7_copyOne_37 : decode cX7_copyOne 37 = .ok (.getfield 21, 3) := by decide +kernel
theorem dX7_copyOne_40 : decode cX7_copyOne 40 = .ok (.iload_n 1, 1) := by decide +kernel
theorem dX7_copyOne_41 : decode cX7_copyOne 41 = .ok (.aload_n 2, 1) := by decide +kernel
theorem dX7_copyOne_42 : decode cX7_copyOne 42 = .ok (.getfield 21, 3) := by decide +kernel
theorem dX7_copyOne_45 : decode cX7_copyOne 45 = .ok (.iload_n 3, 1) := by decide +kernel
theorem dX7_copyOne_46 : decode cX7_copyOne 46 = .ok (.iaload, 1) := by decide +kernel
theorem dX7_copyOne_47 : decode cX7_copyOne 47 = .ok (.iastore, 1) := by decide +kernel
theorem dX7_copyOne_48 : decode cX7_copyOne 48 = .ok (.aload_n 0, 1) := by decide +kernel
theorem dX7_copyOne_49 : decode cX7_copyOne 49 = .ok (.getfield 24, 3) := by decide +kernel
theorem dX7_copyOne_52 : decode cX7_copyOne 52 = .ok (.iload_n 1, 1) := by decide +kernel
theorem dX7_copyOne_53 : decode cX7_copyOne 53 = .ok (.aload_n 2, 1) := by decide +kernel
theorem dX7_copyOne_54 : decode cX7_copyOne 54 = .ok (.getfield 24, 3) := by decide +kernel
theorem dX7_copyOne_57 : decode cX7_copyOne 57 = .ok (.iload_n 3, 1) := by decide +kernel
theorem dX7_copyOne_58 : decode cX7_copyOne 58 = .ok (.iaload, 1) := by decide +kernel
theorem dX7_copyOne_59 : decode cX7_copyOne 59 = .ok (.iastore, 1) := by decide +kernel
theorem dX7_copyOne_60 : decode cX7_copyOne 60 = .ok (.return_, 1) := by decide +kernel
theorem dX7_width_0 : decode cX7_width 0 = .ok (.aload_n 0, 1) := by decide +kernel
theorem dX7_width_1 : decode cX7_width 1 = .ok (.getfield 18, 3) := by decide +kernel
theorem dX7_width_4 : decode cX7_width 4 = .ok (.iload_n 1, 1) := by decide +kernel
theorem dX7_width_5 : decode cX7_width 5 = .ok (.iaload, 1) := by decide +kernel
theorem dX7_width_6 : decode cX7_width 6 = .ok (.aload_n 0, 1) := by decide +kernel
theorem dX7_width_7 : decode cX7_width 7 = .ok (.getfield 9, 3) := by decide +kernel
theorem dX7_width_10 : decode cX7_width 10 = .ok (.iload_n 1, 1) := by decide +kernel
theorem dX7_width_11 : decode cX7_width 11 = .ok (.iaload, 1) := by decide +kernel
theorem dX7_width_12 : decode cX7_width 12 = .ok (.isub, 1) := by decide +kernel
theorem dX7_width_13 : decode cX7_width 13 = .ok (.i2l, 1) := by decide +kernel
theorem dX7_width_14 : decode cX7_width 14 = .ok (.lreturn, 1) := by decide +kernel
theorem dX7_rise_0 : decode cX7_rise 0 = .ok (.aload_n 0, 1) := by decide +kernel
theorem dX7_rise_1 : decode cX7_rise 1 = .ok (.getfield 21, 3) := by decide +kernel
theorem dX7_rise_4 : decode cX7_rise 4 = .ok (.iload_n 1, 1) := by decide +kernel
theorem dX7_rise_5 : decode cX7_rise 5 = .ok (.iaload, 1) := by decide +kernel
theorem dX7_rise_6 : decode cX7_rise 6 = .ok (.aload_n 0, 1) := by decide +kernel
theorem dX7_rise_7 : decode cX7_rise 7 = .ok (.getfield 15, 3) := by decide +kernel
theorem dX7_rise_10 : decode cX7_rise 10 = .ok (.iload_n 1, 1) := by decide +kernel
theorem dX7_rise_11 : decode cX7_rise 11 = .ok (.iaload, 1) := by decide +kernel
theorem dX7_rise_12 : decode cX7_rise 12 = .ok (.isub, 1) := by decide +kernel
theorem dX7_rise_13 : decode cX7_rise 13 = .ok (.i2l, 1) := by decide +kernel
theorem dX7_rise_14 : decode cX7_rise 14 = .ok (.lreturn, 1) := by decide +kernel
theorem dX7_kind_0 : decode cX7_kind 0 = .ok (.aload_n 0, 1) := by decide +kernel
theorem dX7_kind_1 : decode cX7_kind 1 = .ok (.iload_n 1, 1) := by decide +kernel
theorem dX7_kind_2 : decode cX7_kind 2 = .ok (.invokevirtual 47, 3) := by decide +kernel
theorem dX7_kind_5 : decode cX7_kind 5 = .ok (.lconst 0, 1) := by decide +kernel
theorem dX7_kind_6 : decode cX7_kind 6 = .ok (.lcmp, 1) := by decide +kernel
theorem dX7_kind_7 : decode cX7_kind 7 = .ok (.ifCond .ne 19, 3) := by decide +kernel
theorem dX7_kind_10 : decode cX7_kind 10 = .ok (.aload_n 0, 1) := by decide +kernel
theorem dX7_kind_11 : decode cX7_kind 11 = .ok (.iload_n 1, 1) := by decide +kernel
theorem dX7_kind_12 : decode cX7_kind 12 = .ok (.invokevirtual 51, 3) := by decide +kernel
theorem dX7_kind_15 : decode cX7_kind 15 = .ok (.lconst 0, 1) := by decide +kernel
theorem dX7_kind_16 : decode cX7_kind 16 = .ok (.lcmp, 1) := by decide +kernel
theorem dX7_kind_17 : decode cX7_kind 17 = .ok (.ifCond .ne 7, 3) := by decide +kernel
theorem dX7_kind_20 : decode cX7_kind 20 = .ok (.iconst 0, 1) := by decide +kernel
theorem dX7_kind_21 : decode cX7_kind 21 = .ok (.goto 4, 3) := by decide +kernel
theorem dX7_kind_24 : decode cX7_kind 24 = .ok (.iconst 1, 1) := by decide +kernel
theorem dX7_kind_25 : decode cX7_kind 25 = .ok (.ireturn, 1) := by decide +kernel
theorem dX7_kind_26 : decode cX7_kind 26 = .ok (.aload_n 0, 1) := by decide +kernel
theorem dX7_kind_27 : decode cX7_kind 27 = .ok (.iload_n 1, 1) := by decide +kernel
theorem dX7_kind_28 : decode cX7_kind 28 = .ok (.invokevirtual 51, 3) := by decide +kernel
theorem dX7_kind_31 : decode cX7_kind 31 = .ok (.lconst 0, 1) := by decide +kernel
theorem dX7_kind_32 : decode cX7_kind 32 = .ok (.lcmp, 1) := by decide +kernel
theorem dX7_kind_33 : decode cX7_kind 33 = .ok (.ifCond .ne 7, 3) := by decide +kernel
theorem dX7_kind_36 : decode cX7_kind 36 = .ok (.iconst 2, 1) := by decide +kernel
theorem dX7_kind_37 : decode cX7_kind 37 = .ok (.goto 4, 3) := by decide +kernel
theorem dX7_kind_40 : decode cX7_kind 40 = .ok (.iconst 3, 1) := by decide +kernel
theorem dX7_kind_41 : decode cX7_kind 41 = .ok (.ireturn, 1) := by decide +kernel
theorem dX7_isSame_0 : decode cX7_isSame 0 = .ok (.aload_n 0, 1) := by decide +kernel
theorem dX7_isSame_1 : decode cX7_isSame 1 = .ok (.getfield 9, 3) := by decide +kernel
theorem dX7_isSame_4 : decode cX7_isSame 4 = .ok (.iload_n 1, 1) := by decide +kernel
theorem dX7_isSame_5 : decode cX7_isSame 5 = .ok (.iaload, 1) := by decide +kernel
theorem dX7_isSame_6 : decode cX7_isSame 6 = .ok (.aload_n 0, 1) := by decide +kernel
theorem dX7_isSame_7 : decode cX7_isSame 7 = .ok (.getfield 9, 3) := by decide +kernel
theorem dX7_isSame_10 : decode cX7_isSame 10 = .ok (.iload_n 2, 1) := by decide +kernel
theorem dX7_isSame_11 : decode cX7_isSame 11 = .ok (.iaload, 1) := by decide +kernel
theorem dX7_isSame_12 : decode cX7_isSame 12 = .ok (.if_icmp .ne 52, 3) := by decide +kernel
theorem dX7_isSame_15 : decode cX7_isSame 15 = .ok (.aload_n 0, 1) := by decide +kernel
theorem dX7_isSame_16 : decode cX7_isSame 16 = .ok (.getfield 15, 3) := by decide +kernel
theorem dX7_isSame_19 : decode cX7_isSame 19 = .ok (.iload_n 1, 1) := by decide +kernel
theorem dX7_isSame_20 : decode cX7_isSame 20 = .ok (.iaload, 1) := by decide +kernel
theorem dX7_isSame_21 : decode cX7_isSame 21 = .ok (.aload_n 0, 1) := by decide +kernel
theorem dX7_isSame_22 : decode cX7_isSame 22 = .ok (.getfield 15, 3) := by decide +kernel
theorem dX7_isSame_25 : decode cX7_isSame 25 = .ok (.iload_n 2, 1) := by decide +kernel
theorem dX7_isSame_26 : decode cX7_isSame 26 = .ok (.iaload, 1) := by decide +kernel
theorem dX7_isSame_27 : decode cX7_isSame 27 = .ok (.if_icmp .ne 37, 3) := by decide +kernel
theorem dX7_isSame_30 : decode cX7_isSame 30 = .ok (.aload_n 0, 1) := by decide +kernel
theorem dX7_isSame_31 : decode cX7_isSame 31 = .ok (.getfield 18, 3) := by decide +kernel
theorem dX7_isSame_34 : decode cX7_isSame 34 = .ok (.iload_n 1, 1) := by decide +kernel
theorem dX7_isSame_35 : decode cX7_isSame 35 = .ok (.iaload, 1) := by decide +kernel
theorem dX7_isSame_36 : decode cX7_isSame 36 = .ok (.aload_n 0, 1) := by decide +kernel
theorem dX7_isSame_37 : decode cX7_isSame 37 = .ok (.getfield 18, 3) := by decide +kernel
theorem dX7_isSame_40 : decode cX7_isSame 40 = .ok (.iload_n 2, 1) := by decide +kernel
theorem dX7_isSame_41 : decode cX7_isSame 41 = .ok (.iaload, 1) := by decide +kernel
theorem dX7_isSame_42 : decode cX7_isSame 42 = .ok (.if_icmp .ne 22, 3) := by decide +kernel
theorem dX7_isSame_45 : decode cX7_isSame 45 = .ok (.aload_n 0, 1) := by decide +kernel
theorem dX7_isSame_46 : decode cX7_isSame 46 = .ok (.getfield 21, 3) := by decide +kernel
theorem dX7_isSame_49 : decode cX7_isSame 49 = .ok (.iload_n 1, 1) := by decide +kernel
theorem dX7_isSame_50 : decode cX7_isSame 50 = .ok (.iaload, 1) := by decide +kernel
theorem dX7_isSame_51 : decode cX7_isSame 51 = .ok (.aload_n 0, 1) := by decide +kernel
theorem dX7_isSame_52 : decode cX7_isSame 52 = .ok (.getfield 21, 3) := by decide +kernel
theorem dX7_isSame_55 : decode cX7_isSame 55 = .ok (.iload_n 2, 1) := by decide +kernel
theorem dX7_isSame_56 : decode cX7_isSame 56 = .ok (.iaload, 1) := by decide +kernel
theorem dX7_isSame_57 : decode cX7_isSame 57 = .ok (.if_icmp .ne 7, 3) := by decide +kernel
theorem dX7_isSame_60 : decode cX7_isSame 60 = .ok (.iconst 1, 1) := by decide +kernel
theorem dX7_isSame_61 : decode cX7_isSame 61 = .ok (.goto 4, 3) := by decide +kernel
theorem dX7_isSame_64 : decode cX7_isSame 64 = .ok (.iconst 0, 1) := by decide +kernel
theorem dX7_isSame_65 : decode cX7_isSame 65 = .ok (.ireturn, 1) := by decide +kernel
theorem dX7_spansX_0 : decode cX7_spansX 0 = .ok (.aload_n 0, 1) := by decide +kernel
theorem dX7_spansX_1 : decode cX7_spansX 1 = .ok (.getfield 9, 3) := by decide +kernel
theorem dX7_spansX_4 : decode cX7_spansX 4 = .ok (.iload_n 1, 1) := by decide +kernel
theorem dX7_spansX_5 : decode cX7_spansX 5 = .ok (.iaload, 1) := by decide +kernel
theorem dX7_spansX_6 : decode cX7_spansX 6 = .ok (.iload_n 2, 1) := by decide +kernel
theorem dX7_spansX_7 : decode cX7_spansX 7 = .ok (.if_icmp .gt 17, 3) := by decide +kernel
theorem dX7_spansX_10 : decode cX7_spansX 10 = .ok (.iload_n 2, 1) := by decide +kernel
theorem dX7_spansX_11 : decode cX7_spansX 11 = .ok (.aload_n 0, 1) := by decide +kernel
theorem dX7_spansX_12 : decode cX7_spansX 12 = .ok (.getfield 18, 3) := by decide +kernel
theorem dX7_spansX_15 : decode cX7_spansX 15 = .ok (.iload_n 1, 1) := by decide +kernel
theorem dX7_spansX_16 : decode cX7_spansX 16 = .ok (.iaload, 1) := by decide +kernel
theorem dX7_spansX_17 : decode cX7_spansX 17 = .ok (.if_icmp .gt 7, 3) := by decide +kernel
theorem dX7_spansX_20 : decode cX7_spansX 20 = .ok (.iconst 1, 1) := by decide +kernel
theorem dX7_spansX_21 : decode cX7_spansX 21 = .ok (.goto 4, 3) := by decide +kernel
theorem dX7_spansX_24 : decode cX7_spansX 24 = .ok (.iconst 0, 1) := by decide +kernel
theorem dX7_spansX_25 : decode cX7_spansX 25 = .ok (.ireturn, 1) := by decide +kernel
theorem dX7_hasPoint_0 : decode cX7_hasPoint 0 = .ok (.aload_n 0, 1) := by decide +kernel
theorem dX7_hasPoint_1 : decode cX7_hasPoint 1 = .ok (.iload_n 1, 1) := by decide +kernel
theorem dX7_hasPoint_2 : decode cX7_hasPoint 2 = .ok (.iload_n 2, 1) := by decide +kernel
theorem dX7_hasPoint_3 : decode cX7_hasPoint 3 = .ok (.invokevirtual 54, 3) := by decide +kernel
theorem dX7_hasPoint_6 : decode cX7_hasPoint 6 = .ok (.ifCond .eq 19, 3) := by decide +kernel
theorem dX7_hasPoint_9 : decode cX7_hasPoint 9 = .ok (.aload_n 0, 1) := by decide +kernel
theorem dX7_hasPoint_10 : decode cX7_hasPoint 10 = .ok (.iload_n 1, 1) := by decide +kernel
theorem dX7_hasPoint_11 : decode cX7_hasPoint 11 = .ok (.iload_n 2, 1) := by decide +kernel
theorem dX7_hasPoint_12 : decode cX7_hasPoint 12 = .ok (.iload_n 3, 1) := by decide +kernel
theorem dX7_hasPoint_13 : decode cX7_hasPoint 13 = .ok (.invokevirtual 58, 3) := by decide +kernel
theorem dX7_hasPoint_16 : decode cX7_hasPoint 16 = .ok (.lconst 0, 1) := by decide +kernel
theorem dX7_hasPoint_17 : decode cX7_hasPoint 17 = .ok (.lcmp, 1) := by decide +kernel
theorem dX7_hasPoint_18 : decode cX7_hasPoint 18 = .ok (.ifCond .ne 7, 3) := by decide +kernel
theorem dX7_hasPoint_21 : decode cX7_hasPoint 21 = .ok (.iconst 1, 1) := by decide +kernel
theorem dX7_hasPoint_22 : decode cX7_hasPoint 22 = .ok (.goto 4, 3) := by decide +kernel
theorem dX7_hasPoint_25 : decode cX7_hasPoint 25 = .ok (.iconst 0, 1) := by decide +kernel
theorem dX7_hasPoint_26 : decode cX7_hasPoint 26 = .ok (.ireturn, 1) := by decide +kernel
theorem dX7_gapAbove_0 : decode cX7_gapAbove 0 = .ok (.aload_n 0, 1) := by decide +kernel
theorem dX7_gapAbove_1 : decode cX7_gapAbove 1 = .ok (.iload_n 1, 1) := by decide +kernel
theorem dX7_gapAbove_2 : decode cX7_gapAbove 2 = .ok (.invokevirtual 47, 3) := by decide +kernel
theorem dX7_gapAbove_5 : decode cX7_gapAbove 5 = .ok (.lconst 0, 1) := by decide +kernel
theorem dX7_gapAbove_6 : decode cX7_gapAbove 6 = .ok (.lcmp, 1) := by decide +kernel
theorem dX7_gapAbove_7 : decode cX7_gapAbove 7 = .ok (.ifCond .eq 35, 3) := by decide +kernel
theorem dX7_gapAbove_10 : decode cX7_gapAbove 10 = .ok (.aload_n 0, 1) := by decide +kernel
theorem dX7_gapAbove_11 : decode cX7_gapAbove 11 = .ok (.getfield 15, 3) := by decide +kernel
theorem dX7_gapAbove_14 : decode cX7_gapAbove 14 = .ok (.iload_n 1, 1) := by decide +kernel
theorem dX7_gapAbove_15 : decode cX7_gapAbove 15 = .ok (.iaload, 1) := by decide +kernel
theorem dX7_gapAbove_16 : decode cX7_gapAbove 16 = .ok (.iload_n 3, 1) := by decide +kernel
theorem dX7_gapAbove_17 : decode cX7_gapAbove 17 = .ok (.isub, 1) := by decide +kernel
theorem dX7_gapAbove_18 : decode cX7_gapAbove 18 = .ok (.i2l, 1) := by decide +kernel
theorem dX7_gapAbove_19 : decode cX7_gapAbove 19 = .ok (.aload_n 0, 1) := by decide +kernel
theorem dX7_gapAbove_20 : decode cX7_gapAbove 20 = .ok (.iload_n 1, 1) := by decide +kernel
theorem dX7_gapAbove_21 : decode cX7_gapAbove 21 = .ok (.invokevirtual 47, 3) := by decide +kernel
theorem dX7_gapAbove_24 : decode cX7_gapAbove 24 = .ok (.lmul, 1) := by decide +kernel
theorem dX7_gapAbove_25 : decode cX7_gapAbove 25 = .ok (.iload_n 2, 1) := by decide +kernel
theorem dX7_gapAbove_26 : decode cX7_gapAbove 26 = .ok (.aload_n 0, 1) := by decide +kernel
theorem dX7_gapAbove_27 : decode cX7_gapAbove 27 = .ok (.getfield 9, 3) := by decide +kernel
theorem dX7_gapAbove_30 : decode cX7_gapAbove 30 = .ok (.iload_n 1, 1) := by decide +kernel
theorem dX7_gapAbove_31 : decode cX7_gapAbove 31 = .ok (.iaload, 1) := by decide +kernel
theorem dX7_gapAbove_32 : decode cX7_gapAbove 32 = .ok (.isub, 1) := by decide +kernel
theorem dX7_gapAbove_33 : decode cX7_gapAbove 33 = .ok (.i2l, 1) := by decide +kernel
theorem dX7_gapAbove_34 : decode cX7_gapAbove 34 = .ok (.aload_n 0, 1) := by decide +kernel
theorem dX7_gapAbove_35 : decode cX7_gapAbove 35 = .ok (.iload_n 1, 1) := by decide +kernel
theorem dX7_gapAbove_36 : decode cX7_gapAbove 36 = .ok (.invokevirtual 51, 3) := by decide +kernel
theorem dX7_gapAbove_39 : decode cX7_gapAbove 39 = .ok (.lmul, 1) := by decide +kernel
theorem dX7_gapAbove_40 : decode cX7_gapAbove 40 = .ok (.ladd, 1) := by decide +kernel
theorem dX7_gapAbove_41 : decode cX7_gapAbove 41 = .ok (.lreturn, 1) := by decide +kernel
theorem dX7_gapAbove_42 : decode cX7_gapAbove 42 = .ok (.aload_n 0, 1) := by decide +kernel
theorem dX7_gapAbove_43 : decode cX7_gapAbove 43 = .ok (.getfield 15, 3) := by decide +kernel
theorem dX7_gapAbove_46 : decode cX7_gapAbove 46 = .ok (.iload_n 1, 1) := by decide +kernel
theorem dX7_gapAbove_47 : decode cX7_gapAbove 47 = .ok (.iaload, 1) := by decide +kernel
theorem dX7_gapAbove_48 : decode cX7_gapAbove 48 = .ok (.iload_n 3, 1) := by decide +kernel
theorem dX7_gapAbove_49 : decode cX7_gapAbove 49 = .ok (.if_icmp .le 13, 3) := by decide +kernel
theorem dX7_gapAbove_52 : decode cX7_gapAbove 52 = .ok (.aload_n 0, 1) := by decide +kernel
theorem dX7_gapAbove_53 : decode cX7_gapAbove 53 = .ok (.getfield 15, 3) := by decide +kernel
theorem dX7_gapAbove_56 : decode cX7_gapAbove 56 = .ok (.iload_n 1, 1) := by decide +kernel
theorem dX7_gapAbove_57 : decode cX7_gapAbove 57 = .ok (.iaload, 1) := by decide +kernel
theorem dX7_gapAbove_58 : decode cX7_gapAbove 58 = .ok (.iload_n 3, 1) := by decide +kernel
theorem dX7_gapAbove_59 : decode cX7_gapAbove 59 = .ok (.isub, 1) := by decide +kernel
theorem dX7_gapAbove_60 : decode cX7_gapAbove 60 = .ok (.i2l, 1) := by decide +kernel
theorem dX7_gapAbove_61 : decode cX7_gapAbove 61 = .ok (.lreturn, 1) := by decide +kernel
theorem dX7_gapAbove_62 : decode cX7_gapAbove 62 = .ok (.aload_n 0, 1) := by decide +kernel
theorem dX7_gapAbove_63 : decode cX7_gapAbove 63 = .ok (.getfield 21, 3) := by decide +kernel
theorem dX7_gapAbove_66 : decode cX7_gapAbove 66 = .ok (.iload_n 1, 1) := by decide +kernel
theorem dX7_gapAbove_67 : decode cX7_gapAbove 67 = .ok (.iaload, 1) := by decide +kernel
theorem dX7_gapAbove_68 : decode cX7_gapAbove 68 = .ok (.iload_n 3, 1) := by decide +kernel
theorem dX7_gapAbove_69 : decode cX7_gapAbove 69 = .ok (.if_icmp .ge 15, 3) := by decide +kernel
theorem dX7_gapAbove_72 : decode cX7_gapAbove 72 = .ok (.aload_n 0, 1) := by decide +kernel
theorem dX7_gapAbove_73 : decode cX7_gapAbove 73 = .ok (.getfield 21, 3) := by decide +kernel
theorem dX7_gapAbove_76 : decode cX7_gapAbove 76 = .ok (.iload_n 1, 1) := by decide +kernel
theorem dX7_gapAbove_77 : decode cX7_gapAbove 77 = .ok (.iaload, 1) := by decide +kernel
theorem dX7_gapAbove_78 : decode cX7_gapAbove 78 = .ok (.iload_n 3, 1) := by decide +kernel
theorem dX7_gapAbove_79 : decode cX7_gapAbove 79 = .ok (.isub, 1) := by decide +kernel
theorem dX7_gapAbove_80 : decode cX7_gapAbove 80 = .ok (.i2l, 1) := by decide +kernel
theorem dX7_gapAbove_81 : decode cX7_gapAbove 81 = .ok (.goto 4, 3) := by decide +kernel
theorem dX7_gapAbove_84 : decode cX7_gapAbove 84 = .ok (.lconst 0, 1) := by decide +kernel
theorem dX7_gapAbove_85 : decode cX7_gapAbove 85 = .ok (.lreturn, 1) := by decide +kernel
theorem dX7_partsOfGap_0 : decode cX7_partsOfGap 0 = .ok (.aload_n 0, 1) := by decide +kernel
theorem dX7_partsOfGap_1 : decode cX7_partsOfGap 1 = .ok (.iload_n 1, 1) := by decide +kernel
theorem dX7_partsOfGap_2 : decode cX7_partsOfGap 2 = .ok (.invokevirtual 47, 3) := by decide +kernel
theorem dX7_partsOfGap_5 : decode cX7_partsOfGap 5 = .ok (.lconst 0, 1) := by decide +kernel
theorem dX7_partsOfGap_6 : decode cX7_partsOfGap 6 = .ok (.lcmp, 1) := by decide +kernel
theorem dX7_partsOfGap_7 : decode cX7_partsOfGap 7 = .ok (.ifCond .eq 11, 3) := by decide +kernel
theorem dX7_partsOfGap_10 : decode cX7_partsOfGap 10 = .ok (.aload_n 0, 1) := by decide +kernel
theorem dX7_partsOfGap_11 : decode cX7_partsOfGap 11 = .ok (.iload_n 1, 1) := by decide +kernel
theorem dX7_partsOfGap_12 : decode cX7_partsOfGap 12 = .ok (.invokevirtual 47, 3) := by decide +kernel
theorem dX7_partsOfGap_15 : decode cX7_partsOfGap 15 = .ok (.goto 4, 3) := by decide +kernel
theorem dX7_partsOfGap_18 : decode cX7_partsOfGap 18 = .ok (.lconst 1, 1) := by decide +kernel
theorem dX7_partsOfGap_19 : decode cX7_partsOfGap 19 = .ok (.lreturn, 1) := by decide +kernel
theorem dX7_comesInto_0 : decode cX7_comesInto 0 = .ok (.aload_n 0, 1) := by decide +kernel
theorem dX7_comesInto_1 : decode cX7_comesInto 1 = .ok (.getfield 9, 3) := by decide +kernel
theorem dX7_comesInto_4 : decode cX7_comesInto 4 = .ok (.iload_n 1, 1) := by decide +kernel
theorem dX7_comesInto_5 : decode cX7_comesInto 5 = .ok (.iaload, 1) := by decide +kernel
theorem dX7_comesInto_6 : decode cX7_comesInto 6 = .ok (.iload 4, 2) := by decide +kernel
theorem dX7_comesInto_8 : decode cX7_comesInto 8 = .ok (.if_icmp .gt 56, 3) := by decide +kernel
theorem dX7_comesInto_11 : decode cX7_comesInto 11 = .ok (.aload_n 0, 1) := by decide +kernel
theorem dX7_comesInto_12 : decode cX7_comesInto 12 = .ok (.getfield 18, 3) := by decide +kernel
theorem dX7_comesInto_15 : decode cX7_comesInto 15 = .ok (.iload_n 1, 1) := by decide +kernel
theorem dX7_comesInto_16 : decode cX7_comesInto 16 = .ok (.iaload, 1) := by decide +kernel
theorem dX7_comesInto_17 : decode cX7_comesInto 17 = .ok (.iload_n 2, 1) := by decide +kernel
theorem dX7_comesInto_18 : decode cX7_comesInto 18 = .ok (.if_icmp .lt 46, 3) := by decide +kernel
theorem dX7_comesInto_21 : decode cX7_comesInto 21 = .ok (.aload_n 0, 1) := by decide +kernel
theorem dX7_comesInto_22 : decode cX7_comesInto 22 = .ok (.getfield 15, 3) := by decide +kernel
theorem dX7_comesInto_25 : decode cX7_comesInto 25 = .ok (.iload_n 1, 1) := by decide +kernel
theorem dX7_comesInto_26 : decode cX7_comesInto 26 = .ok (.iaload, 1) := by decide +kernel
theorem dX7_comesInto_27 : decode cX7_comesInto 27 = .ok (.aload_n 0, 1) := by decide +kernel
theorem dX7_comesInto_28 : decode cX7_comesInto 28 = .ok (.getfield 21, 3) := by decide +kernel
theorem dX7_comesInto_31 : decode cX7_comesInto 31 = .ok (.iload_n 1, 1) := by decide +kernel
theorem dX7_comesInto_32 : decode cX7_comesInto 32 = .ok (.iaload, 1) := by decide +kernel
theorem dX7_comesInto_33 : decode cX7_comesInto 33 = .ok (.invokestatic 62, 3) := by decide +kernel
theorem dX7_comesInto_36 : decode cX7_comesInto 36 = .ok (.iload 5, 2) := by decide +kernel
theorem dX7_comesInto_38 : decode cX7_comesInto 38 = .ok (.if_icmp .gt 26, 3) := by decide +kernel
theorem dX7_comesInto_41 : decode cX7_comesInto 41 = .ok (.aload_n 0, 1) := by decide +kernel
theorem dX7_comesInto_42 : decode cX7_comesInto 42 = .ok (.getfield 15, 3) := by decide +kernel
theorem dX7_comesInto_45 : decode cX7_comesInto 45 = .ok (.iload_n 1, 1) := by decide +kernel
theorem dX7_comesInto_46 : decode cX7_comesInto 46 = .ok (.iaload, 1) := by decide +kernel
theorem dX7_comesInto_47 : decode cX7_comesInto 47 = .ok (.aload_n 0, 1) := by decide +kernel
theorem dX7_comesInto_48 : decode cX7_comesInto 48 = .ok (.getfield 21, 3) := by decide +kernel
theorem dX7_comesInto_51 : decode cX7_comesInto 51 = .ok (.iload_n 1, 1) := by decide +kernel
theorem dX7_comesInto_52 : decode cX7_comesInto 52 = .ok (.iaload, 1) := by decide +kernel
theorem dX7_comesInto_53 : decode cX7_comesInto 53 = .ok (.invokestatic 68, 3) := by decide +kernel
theorem dX7_comesInto_56 : decode cX7_comesInto 56 = .ok (.iload_n 3, 1) := by decide +kernel
theorem dX7_comesInto_57 : decode cX7_comesInto 57 = .ok (.if_icmp .lt 7, 3) := by decide +kernel
theorem dX7_comesInto_60 : decode cX7_comesInto 60 = .ok (.iconst 1, 1) := by decide +kernel
theorem dX7_comesInto_61 : decode cX7_comesInto 61 = .ok (.goto 4, 3) := by decide +kernel
theorem dX7_comesInto_64 : decode cX7_comesInto 64 = .ok (.iconst 0, 1) := by decide +kernel
theorem dX7_comesInto_65 : decode cX7_comesInto 65 = .ok (.istore 6, 2) := by decide +kernel
theorem dX7_comesInto_67 : decode cX7_comesInto 67 = .ok (.iload 6, 2) := by decide +kernel
theorem dX7_comesInto_69 : decode cX7_comesInto 69 = .ok (.ifCond .ne 5, 3) := by decide +kernel
theorem dX7_comesInto_72 : decode cX7_comesInto 72 = .ok (.iconst 0, 1) := by decide +kernel
theorem dX7_comesInto_73 : decode cX7_comesInto 73 = .ok (.ireturn, 1) := by decide +kernel
theorem dX7_comesInto_74 : decode cX7_comesInto 74 = .ok (.aload_n 0, 1) := by decide +kernel
theorem dX7_comesInto_75 : decode cX7_comesInto 75 = .ok (.iload_n 1, 1) := by decide +kernel
theorem dX7_comesInto_76 : decode cX7_comesInto 76 = .ok (.iload_n 2, 1) := by decide +kernel
theorem dX7_comesInto_77 : decode cX7_comesInto 77 = .ok (.iload_n 3, 1) := by decide +kernel
theorem dX7_comesInto_78 : decode cX7_comesInto 78 = .ok (.invokevirtual 71, 3) := by decide +kernel
theorem dX7_comesInto_81 : decode cX7_comesInto 81 = .ok (.lstore 7, 2) := by decide +kernel
theorem dX7_comesInto_83 : decode cX7_comesInto 83 = .ok (.aload_n 0, 1) := by decide +kernel
theorem dX7_comesInto_84 : decode cX7_comesInto 84 = .ok (.iload_n 1, 1) := by decide +kernel
theorem dX7_comesInto_85 : decode cX7_comesInto 85 = .ok (.iload_n 2, 1) := by decide +kernel
theorem dX7_comesInto_86 : decode cX7_comesInto 86 = .ok (.iload 5, 2) := by decide +kernel
theorem dX7_comesInto_88 : decode cX7_comesInto 88 = .ok (.invokevirtual 71, 3) := by decide +kernel
theorem dX7_comesInto_91 : decode cX7_comesInto 91 = .ok (.lstore 9, 2) := by decide +kernel
theorem dX7_comesInto_93 : decode cX7_comesInto 93 = .ok (.aload_n 0, 1) := by decide +kernel
theorem dX7_comesInto_94 : decode cX7_comesInto 94 = .ok (.iload_n 1, 1) := by decide +kernel
theorem dX7_comesInto_95 : decode cX7_comesInto 95 = .ok (.iload 4, 2) := by decide +kernel
theorem dX7_comesInto_97 : decode cX7_comesInto 97 = .ok (.iload_n 3, 1) := by decide +kernel
theorem dX7_comesInto_98 : decode cX7_comesInto 98 = .ok (.invokevirtual 71, 3) := by decide +kernel
theorem dX7_comesInto_101 : decode cX7_comesInto 101 = .ok (.lstore 11, 2) := by decide +kernel
theorem dX7_comesInto_103 : decode cX7_comesInto 103 = .ok (.aload_n 0, 1) := by decide +kernel
theorem dX7_comesInto_104 : decode cX7_comesInto 104 = .ok (.iload_n 1, 1) := by decide +kernel
theorem dX7_comesInto_105 : decode cX7_comesInto 105 = .ok (.iload 4, 2) := by decide +kernel
theorem dX7_comesInto_107 : decode cX7_comesInto 107 = .ok (.iload 5, 2) := by decide +kernel
theorem dX7_comesInto_109 : decode cX7_comesInto 109 = .ok (.invokevirtual 71, 3) := by decide +kernel
theorem dX7_comesInto_112 : decode cX7_comesInto 112 = .ok (.lstore 13, 2) := by decide +kernel
theorem dX7_comesInto_114 : decode cX7_comesInto 114 = .ok (.lload 7, 2) := by decide +kernel
theorem dX7_comesInto_116 : decode cX7_comesInto 116 = .ok (.lconst 0, 1) := by decide +kernel
theorem dX7_comesInto_117 : decode cX7_comesInto 117 = .ok (.lcmp, 1) := by decide +kernel
theorem dX7_comesInto_118 : decode cX7_comesInto 118 = .ok (.ifCond .le 28, 3) := by decide +kernel
theorem dX7_comesInto_121 : decode cX7_comesInto 121 = .ok (.lload 9, 2) := by decide +kernel
theorem dX7_comesInto_123 : decode cX7_comesInto 123 = .ok (.lconst 0, 1) := by decide +kernel
theorem dX7_comesInto_124 : decode cX7_comesInto 124 = .ok (.lcmp, 1) := by decide +kernel
theorem dX7_comesInto_125 : decode cX7_comesInto 125 = .ok (.ifCond .le 21, 3) := by decide +kernel
theorem dX7_comesInto_128 : decode cX7_comesInto 128 = .ok (.lload 11, 2) := by decide +kernel
theorem dX7_comesInto_130 : decode cX7_comesInto 130 = .ok (.lconst 0, 1) := by decide +kernel
theorem dX7_comesInto_131 : decode cX7_comesInto 131 = .ok (.lcmp, 1) := by decide +kernel
theorem dX7_comesInto_132 : decode cX7_comesInto 132 = .ok (.ifCond .le 14, 3) := by decide +kernel
theorem dX7_comesInto_135 : decode cX7_comesInto 135 = .ok (.lload 13, 2) := by decide +kernel
theorem dX7_comesInto_137 : decode cX7_comesInto 137 = .ok (.lconst 0, 1) := by decide +kernel
theorem dX7_comesInto_138 : decode cX7_comesInto 138 = .ok (.lcmp, 1) := by decide +kernel
theorem dX7_comesInto_139 : decode cX7_comesInto 139 = .ok (.ifCond .le 7, 3) := by decide +kernel
theorem dX7_comesInto_142 : decode cX7_comesInto 142 = .ok (.iconst 1, 1) := by decide +kernel
theorem dX7_comesInto_143 : decode cX7_comesInto 143 = .ok (.goto 4, 3) := by decide +kernel
theorem dX7_comesInto_146 : decode cX7_comesInto 146 = .ok (.iconst 0, 1) := by decide +kernel
theorem dX7_comesInto_147 : decode cX7_comesInto 147 = .ok (.istore 15, 2) := by decide +kernel
theorem dX7_comesInto_149 : decode cX7_comesInto 149 = .ok (.lload 7, 2) := by decide +kernel
theorem dX7_comesInto_151 : decode cX7_comesInto 151 = .ok (.lconst 0, 1) := by decide +kernel
theorem dX7_comesInto_152 : decode cX7_comesInto 152 = .ok (.lcmp, 1) := by decide +kernel
theorem dX7_comesInto_153 : decode cX7_comesInto 153 = .ok (.ifCond .ge 28, 3) := by decide +kernel
theorem dX7_comesInto_156 : decode cX7_comesInto 156 = .ok (.lload 9, 2) := by decide +kernel
theorem dX7_comesInto_158 : decode cX7_comesInto 158 = .ok (.lconst 0, 1) := by decide +kernel
theorem dX7_comesInto_159 : decode cX7_comesInto 159 = .ok (.lcmp, 1) := by decide +kernel
theorem dX7_comesInto_160 : decode cX7_comesInto 160 = .ok (.ifCond .ge 21, 3) := by decide +kernel
theorem dX7_comesInto_163 : decode cX7_comesInto 163 = .ok (.lload 11, 2) := by decide +kernel
theorem dX7_comesInto_165 : decode cX7_comesInto 165 = .ok (.lconst 0, 1) := by decide +kernel
theorem dX7_comesInto_166 : decode cX7_comesInto 166 = .ok (.lcmp, 1) := by decide +kernel
theorem dX7_comesInto_167 : decode cX7_comesInto 167 = .ok (.ifCond .ge 14, 3) := by decide +kernel
theorem dX7_comesInto_170 : decode cX7_comesInto 170 = .ok (.lload 13, 2) := by decide +kernel
theorem dX7_comesInto_172 : decode cX7_comesInto 172 = .ok (.lconst 0, 1) := by decide +kernel
theorem dX7_comesInto_173 : decode cX7_comesInto 173 = .ok (.lcmp, 1) := by decide +kernel
theorem dX7_comesInto_174 : decode cX7_comesInto 174 = .ok (.ifCond .ge 7, 3) := by decide +kernel
theorem dX7_comesInto_177 : decode cX7_comesInto 177 = .ok (.iconst 1, 1) := by decide +kernel
theorem dX7_comesInto_178 : decode cX7_comesInto 178 = .ok (.goto 4, 3) := by decide +kernel
theorem dX7_comesInto_181 : decode cX7_comesInto 181 = .ok (.iconst 0, 1) := by decide +kernel
theorem dX7_comesInto_182 : decode cX7_comesInto 182 = .ok (.istore 16, 2) := by decide +kernel
theorem dX7_comesInto_184 : decode cX7_comesInto 184 = .ok (.iload 15, 2) := by decide +kernel
theorem dX7_comesInto_186 : decode cX7_comesInto 186 = .ok (.ifCond .ne 12, 3) := by decide +kernel
theorem dX7_comesInto_189 : decode cX7_comesInto 189 = .ok (.iload 16, 2) := by decide +kernel
theorem dX7_comesInto_191 : decode cX7_comesInto 191 = .ok (.ifCond .ne 7, 3) := by decide +kernel
theorem dX7_comesInto_194 : decode cX7_comesInto 194 = .ok (.iconst 1, 1) := by decide +kernel
theorem dX7_comesInto_195 : decode cX7_comesInto 195 = .ok (.goto 4, 3) := by decide +kernel
theorem dX7_comesInto_198 : decode cX7_comesInto 198 = .ok (.iconst 0, 1) := by decide +kernel
theorem dX7_comesInto_199 : decode cX7_comesInto 199 = .ok (.ireturn, 1) := by decide +kernel
theorem dX7_sideOf_0 : decode cX7_sideOf 0 = .ok (.aload_n 0, 1) := by decide +kernel
theorem dX7_sideOf_1 : decode cX7_sideOf 1 = .ok (.iload_n 1, 1) := by decide +kernel
theorem dX7_sideOf_2 : decode cX7_sideOf 2 = .ok (.invokevirtual 47, 3) := by decide +kernel
theorem dX7_sideOf_5 : decode cX7_sideOf 5 = .ok (.iload_n 3, 1) := by decide +kernel
theorem dX7_sideOf_6 : decode cX7_sideOf 6 = .ok (.aload_n 0, 1) := by decide +kernel
theorem dX7_sideOf_7 : decode cX7_sideOf 7 = .ok (.getfield 15, 3) := by decide +kernel
theorem dX7_sideOf_10 : decode cX7_sideOf 10 = .ok (.iload_n 1, 1) := by decide +kernel
theorem dX7_sideOf_11 : decode cX7_sideOf 11 = .ok (.iaload, 1) := by decide +kernel
theorem dX7_sideOf_12 : decode cX7_sideOf 12 = .ok (.isub, 1) := by decide +kernel
theorem dX7_sideOf_13 : decode cX7_sideOf 13 = .ok (.i2l, 1) := by decide +kernel
theorem dX7_sideOf_14 : decode cX7_sideOf 14 = .ok (.lmul, 1) := by decide +kernel
theorem dX7_sideOf_15 : decode cX7_sideOf 15 = .ok (.aload_n 0, 1) := by decide +kernel
theorem dX7_sideOf_16 : decode cX7_sideOf 16 = .ok (.iload_n 1, 1) := by decide +kernel
theorem dX7_sideOf_17 : decode cX7_sideOf 17 = .ok (.invokevirtual 51, 3) := by decide +kernel
theorem dX7_sideOf_20 : decode cX7_sideOf 20 = .ok (.iload_n 2, 1) := by decide +kernel
theorem dX7_sideOf_21 : decode cX7_sideOf 21 = .ok (.aload_n 0, 1) := by decide +kernel
theorem dX7_sideOf_22 : decode cX7_sideOf 22 = .ok (.getfield 9, 3) := by decide +kernel
theorem dX7_sideOf_25 : decode cX7_sideOf 25 = .ok (.iload_n 1, 1) := by decide +kernel
theorem dX7_sideOf_26 : decode cX7_sideOf 26 = .ok (.iaload, 1) := by decide +kernel
theorem dX7_sideOf_27 : decode cX7_sideOf 27 = .ok (.isub, 1) := by decide +kernel
theorem dX7_sideOf_28 : decode cX7_sideOf 28 = .ok (.i2l, 1) := by decide +kernel
theorem dX7_sideOf_29 : decode cX7_sideOf 29 = .ok (.lmul, 1) := by decide +kernel
theorem dX7_sideOf_30 : decode cX7_sideOf 30 = .ok (.lsub, 1) := by decide +kernel
theorem dX7_sideOf_31 : decode cX7_sideOf 31 = .ok (.lreturn, 1) := by decide +kernel
theorem dX7_ofTint_0 : decode cX7_ofTint 0 = .ok (.iconst 0, 1) := by decide +kernel
theorem dX7_ofTint_1 : decode cX7_ofTint 1 = .ok (.istore_n 2, 1) := by decide +kernel
theorem dX7_ofTint_2 : decode cX7_ofTint 2 = .ok (.iconst 0, 1) := by decide +kernel
theorem dX7_ofTint_3 : decode cX7_ofTint 3 = .ok (.istore_n 3, 1) := by decide +kernel
theorem dX7_ofTint_4 : decode cX7_ofTint 4 = .ok (.iload_n 3, 1) := by decide +kernel
theorem dX7_ofTint_5 : decode cX7_ofTint 5 = .ok (.aload_n 0, 1) := by decide +kernel
theorem dX7_ofTint_6 : decode cX7_ofTint 6 = .ok (.getfield 27, 3) := by decide +kernel
theorem dX7_ofTint_9 : decode cX7_ofTint 9 = .ok (.if_icmp .ge 25, 3) := by decide +kernel
theorem dX7_ofTint_12 : decode cX7_ofTint 12 = .ok (.aload_n 0, 1) := by decide +kernel
theorem dX7_ofTint_13 : decode cX7_ofTint 13 = .ok (.getfield 24, 3) := by decide +kernel
theorem dX7_ofTint_16 : decode cX7_ofTint 16 = .ok (.iload_n 3, 1) := by decide +kernel
theorem dX7_ofTint_17 : decode cX7_ofTint 17 = .ok (.iaload, 1) := by decide +kernel
theorem dX7_ofTint_18 : decode cX7_ofTint 18 = .ok (.iload_n 1, 1) := by decide +kernel
theorem dX7_ofTint_19 : decode cX7_ofTint 19 = .ok (.if_icmp .ne 9, 3) := by decide +kernel
theorem dX7_ofTint_22 : decode cX7_ofTint 22 = .ok (.iload_n 2, 1) := by decide +kernel
theorem dX7_ofTint_23 : decode cX7_ofTint 23 = .ok (.iconst 1, 1) := by decide +kernel
theorem dX7_ofTint_24 : decode cX7_ofTint 24 = .ok (.iload_n 3, 1) := by decide +kernel
theorem dX7_ofTint_25 : decode cX7_ofTint 25 = .ok (.ishl, 1) := by decide +kernel
theorem dX7_ofTint_26 : decode cX7_ofTint 26 = .ok (.ior, 1) := by decide +kernel
theorem dX7_ofTint_27 : decode cX7_ofTint 27 = .ok (.istore_n 2, 1) := by decide +kernel
theorem dX7_ofTint_28 : decode cX7_ofTint 28 = .ok (.iinc 3 1, 3) := by decide +kernel
theorem dX7_ofTint_31 : decode cX7_ofTint 31 = .ok (.goto (-27), 3) := by decide +kernel
theorem dX7_ofTint_34 : decode cX7_ofTint 34 = .ok (.iload_n 2, 1) := by decide +kernel
theorem dX7_ofTint_35 : decode cX7_ofTint 35 = .ok (.ireturn, 1) := by decide +kernel
theorem dX7_tintsOf_0 : decode cX7_tintsOf 0 = .ok (.iconst 0, 1) := by decide +kernel
theorem dX7_tintsOf_1 : decode cX7_tintsOf 1 = .ok (.istore_n 2, 1) := by decide +kernel
theorem dX7_tintsOf_2 : decode cX7_tintsOf 2 = .ok (.iconst 0, 1) := by decide +kernel
theorem dX7_tintsOf_3 : decode cX7_tintsOf 3 = .ok (.istore_n 3, 1) := by decide +kernel
theorem dX7_tintsOf_4 : decode cX7_tintsOf 4 = .ok (.iload_n 3, 1) := by decide +kernel
theorem dX7_tintsOf_5 : decode cX7_tintsOf 5 = .ok (.aload_n 0, 1) := by decide +kernel
theorem dX7_tintsOf_6 : decode cX7_tintsOf 6 = .ok (.getfield 27, 3) := by decide +kernel
theorem dX7_tintsOf_9 : decode cX7_tintsOf 9 = .ok (.if_icmp .ge 28, 3) := by decide +kernel
theorem dX7_tintsOf_12 : decode cX7_tintsOf 12 = .ok (.iload_n 1, 1) := by decide +kernel
theorem dX7_tintsOf_13 : decode cX7_tintsOf 13 = .ok (.iload_n 3, 1) := by decide +kernel
theorem dX7_tintsOf_14 : decode cX7_tintsOf 14 = .ok (.invokestatic 74, 3) := by decide +kernel
theorem dX7_tintsOf_17 : decode cX7_tintsOf 17 = .ok (.ifCond .eq 14, 3) := by decide +kernel
theorem dX7_tintsOf_20 : decode cX7_tintsOf 20 = .ok (.iload_n 2, 1) := by decide +kernel
theorem dX7_tintsOf_21 : decode cX7_tintsOf 21 = .ok (.iconst 1, 1) := by decide +kernel
theorem dX7_tintsOf_22 : decode cX7_tintsOf 22 = .ok (.aload_n 0, 1) := by decide +kernel
theorem dX7_tintsOf_23 : decode cX7_tintsOf 23 = .ok (.getfield 24, 3) := by decide +kernel
theorem dX7_tintsOf_26 : decode cX7_tintsOf 26 = .ok (.iload_n 3, 1) := by decide +kernel
theorem dX7_tintsOf_27 : decode cX7_tintsOf 27 = .ok (.iaload, 1) := by decide +kernel
theorem dX7_tintsOf_28 : decode cX7_tintsOf 28 = .ok (.ishl, 1) := by decide +kernel
theorem dX7_tintsOf_29 : decode cX7_tintsOf 29 = .ok (.ior, 1) := by decide +kernel
theorem dX7_tintsOf_30 : decode cX7_tintsOf 30 = .ok (.istore_n 2, 1) := by decide +kernel
theorem dX7_tintsOf_31 : decode cX7_tintsOf 31 = .ok (.iinc 3 1, 3) := by decide +kernel
theorem dX7_tintsOf_34 : decode cX7_tintsOf 34 = .ok (.goto (-30), 3) := by decide +kernel
theorem dX7_tintsOf_37 : decode cX7_tintsOf 37 = .ok (.iload_n 2, 1) := by decide +kernel
theorem dX7_tintsOf_38 : decode cX7_tintsOf 38 = .ok (.ireturn, 1) := by decide +kernel
theorem dX8_rankOf_0 : decode cX8_rankOf 0 = .ok (.aload_n 1, 1) := by decide +kernel
theorem dX8_rankOf_1 : decode cX8_rankOf 1 = .ok (.iload_n 2, 1) := by decide +kernel
theorem dX8_rankOf_2 : decode cX8_rankOf 2 = .ok (.invokevirtual 9, 3) := by decide +kernel
theorem dX8_rankOf_5 : decode cX8_rankOf 5 = .ok (.istore 4, 2) := by decide +kernel
theorem dX8_rankOf_7 : decode cX8_rankOf 7 = .ok (.iconst 0, 1) := by decide +kernel
theorem dX8_rankOf_8 : decode cX8_rankOf 8 = .ok (.istore 5, 2) := by decide +kernel
theorem dX8_rankOf_10 : decode cX8_rankOf 10 = .ok (.iconst 0, 1) := by decide +kernel
theorem dX8_rankOf_11 : decode cX8_rankOf 11 = .ok (.istore 6, 2) := by decide +kernel
theorem dX8_rankOf_13 : decode cX8_rankOf 13 = .ok (.iload 6, 2) := by decide +kernel
theorem dX8_rankOf_15 : decode cX8_rankOf 15 = .ok (.aload_n 0, 1) := by decide +kernel
theorem dX8_rankOf_16 : decode cX8_rankOf 16 = .ok (.getfield 15, 3) := by decide +kernel
theorem dX8_rankOf_19 : decode cX8_rankOf 19 = .ok (.if_icmp .ge 34, 3) := by decide +kernel
theorem dX8_rankOf_22 : decode cX8_rankOf 22 = .ok (.iload 4, 2) := by decide +kernel
theorem dX8_rankOf_24 : decode cX8_rankOf 24 = .ok (.iload 6, 2) := by decide +kernel
theorem dX8_rankOf_26 : decode cX8_rankOf 26 = .ok (.invokestatic 21, 3) := by decide +kernel
theorem dX8_rankOf_29 : decode cX8_rankOf 29 = .ok (.ifCond .eq 18, 3) := by decide +kernel
theorem dX8_rankOf_32 : decode cX8_rankOf 32 = .ok (.aload_n 0, 1) := by decide +kernel
theorem dX8_rankOf_33 : decode cX8_rankOf 33 = .ok (.aload_n 1, 1) := by decide +kernel
theorem dX8_rankOf_34 : decode cX8_rankOf 34 = .ok (.iload_n 2, 1) := by decide +kernel
theorem dX8_rankOf_35 : decode cX8_rankOf 35 = .ok (.iload 6, 2) := by decide +kernel
theorem dX8_rankOf_37 : decode cX8_rankOf 37 = .ok (.iload_n 3, 1) := by decide +kernel
theorem dX8_rankOf_38 : decode cX8_rankOf 38 = .ok (.invokestatic 25, 3) := by decide +kernel
theorem dX8_rankOf_41 : decode cX8_rankOf 41 = .ok (.ifCond .eq 6, 3) := by decide +kernel
theorem dX8_rankOf_44 : decode cX8_rankOf 44 = .ok (.iinc 5 1, 3) := by decide +kernel
theorem dX8_rankOf_47 : decode cX8_rankOf 47 = .ok (.iinc 6 1, 3) := by decide +kernel
theorem dX8_rankOf_50 : decode cX8_rankOf 50 = .ok (.goto (-37), 3) := by decide +kernel
theorem dX8_rankOf_53 : decode cX8_rankOf 53 = .ok (.iload 5, 2) := by decide +kernel
theorem dX8_rankOf_55 : decode cX8_rankOf 55 = .ok (.ireturn, 1) := by decide +kernel
theorem dX8_last_0 : decode cX8_last 0 = .ok (.aload_n 1, 1) := by decide +kernel
theorem dX8_last_1 : decode cX8_last 1 = .ok (.iload_n 2, 1) := by decide +kernel
theorem dX8_last_2 : decode cX8_last 2 = .ok (.invokevirtual 9, 3) := by decide +kernel
theorem dX8_last_5 : decode cX8_last 5 = .ok (.istore_n 3, 1) := by decide +kernel
theorem dX8_last_6 : decode cX8_last 6 = .ok (.iconst (-1), 1) := by decide +kernel
theorem dX8_last_7 : decode cX8_last 7 = .ok (.istore 4, 2) := by decide +kernel
theorem dX8_last_9 : decode cX8_last 9 = .ok (.iconst 0, 1) := by decide +kernel
theorem dX8_last_10 : decode cX8_last 10 = .ok (.istore 5, 2) := by decide +kernel
theorem dX8_last_12 : decode cX8_last 12 = .ok (.iload 5, 2) := by decide +kernel
theorem dX8_last_14 : decode cX8_last 14 = .ok (.aload_n 0, 1) := by decide +kernel
theorem dX8_last_15 : decode cX8_last 15 = .ok (.getfield 15, 3) := by decide +kernel
theorem dX8_last_18 : decode cX8_last 18 = .ok (.if_icmp .ge 41, 3) := by decide +kernel
theorem dX8_last_21 : decode cX8_last 21 = .ok (.iload_n 3, 1) := by decide +kernel
theorem dX8_last_22 : decode cX8_last 22 = .ok (.iload 5, 2) := by decide +kernel
theorem dX8_last_24 : decode cX8_last 24 = .ok (.invokestatic 21, 3) := by decide +kernel
theorem dX8_last_27 : decode cX8_last 27 = .ok (.ifCond .eq 26, 3) := by decide +kernel
theorem dX8_last_30 : decode cX8_last 30 = .ok (.iload 4, 2) := by decide +kernel
theorem dX8_last_32 : decode cX8_last 32 = .ok (.iconst (-1), 1) := by decide +kernel
theorem dX8_last_33 : decode cX8_last 33 = .ok (.if_icmp .eq 16, 3) := by decide +kernel
theorem dX8_last_36 : decode cX8_last 36 = .ok (.aload_n 0, 1) := by decide +kernel
theorem dX8_last_37 : decode cX8_last 37 = .ok (.aload_n 1, 1) := by decide +kernel
theorem dX8_last_38 : decode cX8_last 38 = .ok (.iload_n 2, 1) := by decide +kernel
theorem dX8_last_39 : decode cX8_last 39 = .ok (.iload 4, 2) := by decide +kernel
theorem dX8_last_41 : decode cX8_last 41 = .ok (.iload 5, 2) := by decide +kernel
theorem dX8_last_43 : decode cX8_last 43 = .ok (.invokestatic 25, 3) := by decide +kernel
theorem dX8_last_46 : decode cX8_last 46 = .ok (.ifCond .eq 7, 3) := by decide +kernel
theorem dX8_last_49 : decode cX8_last 49 = .ok (.iload 5, 2) := by decide +kernel
theorem dX8_last_51 : decode cX8_last 51 = .ok (.istore 4, 2) := by decide +kernel
theorem dX8_last_53 : decode cX8_last 53 = .ok (.iinc 5 1, 3) := by decide +kernel
theorem dX8_last_56 : decode cX8_last 56 = .ok (.goto (-44), 3) := by decide +kernel
theorem dX8_last_59 : decode cX8_last 59 = .ok (.iload 4, 2) := by decide +kernel
theorem dX8_last_61 : decode cX8_last 61 = .ok (.ireturn, 1) := by decide +kernel
theorem dX8_isAhead_0 : decode cX8_isAhead 0 = .ok (.aload_n 0, 1) := by decide +kernel
theorem dX8_isAhead_1 : decode cX8_isAhead 1 = .ok (.aload_n 1, 1) := by decide +kernel
theorem dX8_isAhead_2 : decode cX8_isAhead 2 = .ok (.iload_n 2, 1) := by decide +kernel
theorem dX8_isAhead_3 : decode cX8_isAhead 3 = .ok (.iload_n 3, 1) := by decide +kernel
theorem dX8_isAhead_4 : decode cX8_isAhead 4 = .ok (.invokestatic 31, 3) := by decide +kernel
theorem dX8_isAhead_7 : decode cX8_isAhead 7 = .ok (.istore 5, 2) := by decide +kernel
theorem dX8_isAhead_9 : decode cX8_isAhead 9 = .ok (.aload_n 0, 1) := by decide +kernel
theorem dX8_isAhead_10 : decode cX8_isAhead 10 = .ok (.aload_n 1, 1) := by decide +kernel
theorem dX8_isAhead_11 : decode cX8_isAhead 11 = .ok (.iload_n 2, 1) := by decide +kernel
theorem dX8_isAhead_12 : decode cX8_isAhead 12 = .ok (.iload 4, 2) := by decide +kernel
theorem dX8_isAhead_14 : decode cX8_isAhead 14 = .ok (.invokestatic 31, 3) := by decide +kernel
theorem dX8_isAhead_17 : decode cX8_isAhead 17 = .ok (.istore 6, 2) := by decide +kernel
theorem dX8_isAhead_19 : decode cX8_isAhead 19 = .ok (.iload 5, 2) := by decide +kernel
theorem dX8_isAhead_21 : decode cX8_isAhead 21 = .ok (.iload 6, 2) := by decide +kernel
theorem dX8_isAhead_23 : decode cX8_isAhead 23 = .ok (.if_icmp .eq 16, 3) := by decide +kernel
theorem dX8_isAhead_26 : decode cX8_isAhead 26 = .ok (.iload 5, 2) := by decide +kernel
theorem dX8_isAhead_28 : decode cX8_isAhead 28 = .ok (.iload 6, 2) := by decide +kernel
theorem dX8_isAhead_30 : decode cX8_isAhead 30 = .ok (.if_icmp .ge 7, 3) := by decide +kernel
theorem dX8_isAhead_33 : decode cX8_isAhead 33 = .ok (.iconst 1, 1) := by decide +kernel
theorem dX8_isAhead_34 : decode cX8_isAhead 34 = .ok (.goto 4, 3) := by decide +kernel
theorem dX8_isAhead_37 : decode cX8_isAhead 37 = .ok (.iconst 0, 1) := by decide +kernel
theorem dX8_isAhead_38 : decode cX8_isAhead 38 = .ok (.ireturn, 1) := by decide +kernel
theorem dX8_isAhead_39 : decode cX8_isAhead 39 = .ok (.iload 5, 2) := by decide +kernel
theorem dX8_isAhead_41 : decode cX8_isAhead 41 = .ok (.ifCond .eq 57, 3) := by decide +kernel
theorem dX8_isAhead_44 : decode cX8_isAhead 44 = .ok (.aload_n 0, 1) := by decide +kernel
theorem dX8_isAhead_45 : decode cX8_isAhead 45 = .ok (.aload_n 1, 1) := by decide +kernel
theorem dX8_isAhead_46 : decode cX8_isAhead 46 = .ok (.iload_n 2, 1) := by decide +kernel
theorem dX8_isAhead_47 : decode cX8_isAhead 47 = .ok (.iload_n 3, 1) := by decide +kernel
theorem dX8_isAhead_48 : decode cX8_isAhead 48 = .ok (.invokestatic 35, 3) := by decide +kernel
theorem dX8_isAhead_51 : decode cX8_isAhead 51 = .ok (.aload_n 0, 1) := by decide +kernel
theorem dX8_isAhead_52 : decode cX8_isAhead 52 = .ok (.iload 4, 2) := by decide +kernel
theorem dX8_isAhead_54 : decode cX8_isAhead 54 = .ok (.invokevirtual 39, 3) := by decide +kernel
theorem dX8_isAhead_57 : decode cX8_isAhead 57 = .ok (.lmul, 1) := by decide +kernel
theorem dX8_isAhead_58 : decode cX8_isAhead 58 = .ok (.lstore 7, 2) := by decide +kernel
theorem dX8_isAhead_60 : decode cX8_isAhead 60 = .ok (.aload_n 0, 1) := by decide +kernel
theorem dX8_isAhead_61 : decode cX8_isAhead 61 = .ok (.aload_n 1, 1) := by decide +kernel
theorem dX8_isAhead_62 : decode cX8_isAhead 62 = .ok (.iload_n 2, 1) := by decide +kernel
theorem dX8_isAhead_63 : decode cX8_isAhead 63 = .ok (.iload 4, 2) := by decide +kernel
theorem dX8_isAhead_65 : decode cX8_isAhead 65 = .ok (.invokestatic 35, 3) := by decide +kernel
theorem dX8_isAhead_68 : decode cX8_isAhead 68 = .ok (.aload_n 0, 1) := by decide +kernel
theorem dX8_isAhead_69 : decode cX8_isAhead 69 = .ok (.iload_n 3, 1) := by decide +kernel
theorem dX8_isAhead_70 : decode cX8_isAhead 70 = .ok (.invokevirtual 39, 3) := by decide +kernel
theorem dX8_isAhead_73 : decode cX8_isAhead 73 = .ok (.lmul, 1) := by decide +kernel
theorem dX8_isAhead_74 : decode cX8_isAhead 74 = .ok (.lstore 9, 2) := by decide +kernel
theorem dX8_isAhead_76 : decode cX8_isAhead 76 = .ok (.lload 7, 2) := by decide +kernel
theorem dX8_isAhead_78 : decode cX8_isAhead 78 = .ok (.lload 9, 2) := by decide +kernel
theorem dX8_isAhead_80 : decode cX8_isAhead 80 = .ok (.lcmp, 1) := by decide +kernel
theorem dX8_isAhead_81 : decode cX8_isAhead 81 = .ok (.ifCond .eq 17, 3) := by decide +kernel
theorem dX8_isAhead_84 : decode cX8_isAhead 84 = .ok (.lload 7, 2) := by decide +kernel
theorem dX8_isAhead_86 : decode cX8_isAhead 86 = .ok (.lload 9, 2) := by decide +kernel
theorem dX8_isAhead_88 : decode cX8_isAhead 88 = .ok (.lcmp, 1) := by decide +kernel
theorem dX8_isAhead_89 : decode cX8_isAhead 89 = .ok (.ifCond .ge 7, 3) := by decide +kernel
theorem dX8_isAhead_92 : decode cX8_isAhead 92 = .ok (.iconst 1, 1) := by decide +kernel
theorem dX8_isAhead_93 : decode cX8_isAhead 93 = .ok (.goto 4, 3) := by decide +kernel
theorem dX8_isAhead_96 : decode cX8_isAhead 96 = .ok (.iconst 0, 1) := by decide +kernel
theorem dX8_isAhead_97 : decode cX8_isAhead 97 = .ok (.ireturn, 1) := by decide +kernel
theorem dX8_isAhead_98 : decode cX8_isAhead 98 = .ok (.aload_n 0, 1) := by decide +kernel
theorem dX8_isAhead_99 : decode cX8_isAhead 99 = .ok (.iload_n 3, 1) := by decide +kernel
theorem dX8_isAhead_100 : decode cX8_isAhead 100 = .ok (.invokevirtual 43, 3) := by decide +kernel
theorem dX8_isAhead_103 : decode cX8_isAhead 103 = .ok (.aload_n 0, 1) := by decide +kernel
theorem dX8_isAhead_104 : decode cX8_isAhead 104 = .ok (.iload 4, 2) := by decide +kernel
theorem dX8_isAhead_106 : decode cX8_isAhead 106 = .ok (.invokevirtual 39, 3) := by decide +kernel
theorem dX8_isAhead_109 : decode cX8_isAhead 109 = .ok (.lmul, 1) := by decide +kernel
theorem dX8_isAhead_110 : decode cX8_isAhead 110 = .ok (.aload_n 0, 1) := by decide +kernel
theorem dX8_isAhead_111 : decode cX8_isAhead 111 = .ok (.iload 4, 2) := by decide +kernel
theorem dX8_isAhead_113 : decode cX8_isAhead 113 = .ok (.invokevirtual 43, 3) := by decide +kernel
theorem dX8_isAhead_116 : decode cX8_isAhead 116 = .ok (.aload_n 0, 1) := by decide +kernel
theorem dX8_isAhead_117 : decode cX8_isAhead 117 = .ok (.iload_n 3, 1) := by decide +kernel
theorem dX8_isAhead_118 : decode cX8_isAhead 118 = .ok (.invokevirtual 39, 3) := by decide +kernel
theorem dX8_isAhead_121 : decode cX8_isAhead 121 = .ok (.lmul, 1) := by decide +kernel
theorem dX8_isAhead_122 : decode cX8_isAhead 122 = .ok (.lsub, 1) := by decide +kernel
theorem dX8_isAhead_123 : decode cX8_isAhead 123 = .ok (.lstore 7, 2) := by decide +kernel
theorem dX8_isAhead_125 : decode cX8_isAhead 125 = .ok (.lload 7, 2) := by decide +kernel
theorem dX8_isAhead_127 : decode cX8_isAhead 127 = .ok (.lconst 0, 1) := by decide +kernel
theorem dX8_isAhead_128 : decode cX8_isAhead 128 = .ok (.lcmp, 1) := by decide +kernel
theorem dX8_isAhead_129 : decode cX8_isAhead 129 = .ok (.ifCond .ne 15, 3) := by decide +kernel
theorem dX8_isAhead_132 : decode cX8_isAhead 132 = .ok (.iload_n 3, 1) := by decide +kernel
theorem dX8_isAhead_133 : decode cX8_isAhead 133 = .ok (.iload 4, 2) := by decide +kernel
theorem dX8_isAhead_135 : decode cX8_isAhead 135 = .ok (.if_icmp .ge 7, 3) := by decide +kernel
theorem dX8_isAhead_138 : decode cX8_isAhead 138 = .ok (.iconst 1, 1) := by decide +kernel
theorem dX8_isAhead_139 : decode cX8_isAhead 139 = .ok (.goto 4, 3) := by decide +kernel
theorem dX8_isAhead_142 : decode cX8_isAhead 142 = .ok (.iconst 0, 1) := by decide +kernel
theorem dX8_isAhead_143 : decode cX8_isAhead 143 = .ok (.ireturn, 1) := by decide +kernel
theorem dX8_isAhead_144 : decode cX8_isAhead 144 = .ok (.iload 5, 2) := by decide +kernel
theorem dX8_isAhead_146 : decode cX8_isAhead 146 = .ok (.ifCond .le 18, 3) := by decide +kernel
theorem dX8_isAhead_149 : decode cX8_isAhead 149 = .ok (.lload 7, 2) := by decide +kernel
theorem dX8_isAhead_151 : decode cX8_isAhead 151 = .ok (.lconst 0, 1) := by decide +kernel
theorem dX8_isAhead_152 : decode cX8_isAhead 152 = .ok (.lcmp, 1) := by decide +kernel
theorem dX8_isAhead_153 : decode cX8_isAhead 153 = .ok (.ifCond .le 7, 3) := by decide +kernel
theorem dX8_isAhead_156 : decode cX8_isAhead 156 = .ok (.iconst 1, 1) := by decide +kernel
theorem dX8_isAhead_157 : decode cX8_isAhead 157 = .ok (.goto 19, 3) := by decide +kernel
theorem dX8_isAhead_160 : decode cX8_isAhead 160 = .ok (.iconst 0, 1) := by decide +kernel
theorem dX8_isAhead_161 : decode cX8_isAhead 161 = .ok (.goto 15, 3) := by decide +kernel
theorem dX8_isAhead_164 : decode cX8_isAhead 164 = .ok (.lload 7, 2) := by decide +kernel
theorem dX8_isAhead_166 : decode cX8_isAhead 166 = .ok (.lconst 0, 1) := by decide +kernel
theorem dX8_isAhead_167 : decode cX8_isAhead 167 = .ok (.lcmp, 1) := by decide +kernel
theorem dX8_isAhead_168 : decode cX8_isAhead 168 = .ok (.ifCond .ge 7, 3) := by decide +kernel
theorem dX8_isAhead_171 : decode cX8_isAhead 171 = .ok (.iconst 1, 1) := by decide +kernel
theorem dX8_isAhead_172 : decode cX8_isAhead 172 = .ok (.goto 4, 3) := by decide +kernel
theorem dX8_isAhead_175 : decode cX8_isAhead 175 = .ok (.iconst 0, 1) := by decide +kernel
theorem dX8_isAhead_176 : decode cX8_isAhead 176 = .ok (.ireturn, 1) := by decide +kernel
theorem dX8_sideOf_0 : decode cX8_sideOf 0 = .ok (.aload_n 0, 1) := by decide +kernel
theorem dX8_sideOf_1 : decode cX8_sideOf 1 = .ok (.iload_n 3, 1) := by decide +kernel
theorem dX8_sideOf_2 : decode cX8_sideOf 2 = .ok (.invokevirtual 39, 3) := by decide +kernel
theorem dX8_sideOf_5 : decode cX8_sideOf 5 = .ok (.lconst 0, 1) := by decide +kernel
theorem dX8_sideOf_6 : decode cX8_sideOf 6 = .ok (.lcmp, 1) := by decide +kernel
theorem dX8_sideOf_7 : decode cX8_sideOf 7 = .ok (.ifCond .ne 7, 3) := by decide +kernel
theorem dX8_sideOf_10 : decode cX8_sideOf 10 = .ok (.iconst 0, 1) := by decide +kernel
theorem dX8_sideOf_11 : decode cX8_sideOf 11 = .ok (.goto 13, 3) := by decide +kernel
theorem dX8_sideOf_14 : decode cX8_sideOf 14 = .ok (.aload_n 1, 1) := by decide +kernel
theorem dX8_sideOf_15 : decode cX8_sideOf 15 = .ok (.aload_n 0, 1) := by decide +kernel
theorem dX8_sideOf_16 : decode cX8_sideOf 16 = .ok (.iload_n 3, 1) := by decide +kernel
theorem dX8_sideOf_17 : decode cX8_sideOf 17 = .ok (.iload_n 2, 1) := by decide +kernel
theorem dX8_sideOf_18 : decode cX8_sideOf 18 = .ok (.invokevirtual 46, 3) := by decide +kernel
theorem dX8_sideOf_21 : decode cX8_sideOf 21 = .ok (.invokestatic 50, 3) := by decide +kernel
theorem dX8_sideOf_24 : decode cX8_sideOf 24 = .ok (.ireturn, 1) := by decide +kernel
theorem dX8_heightAt_0 : decode cX8_heightAt 0 = .ok (.aload_n 0, 1) := by decide +kernel
theorem dX8_heightAt_1 : decode cX8_heightAt 1 = .ok (.getfield 56, 3) := by decide +kernel
theorem dX8_heightAt_4 : decode cX8_heightAt 4 = .ok (.iload_n 3, 1) := by decide +kernel
theorem dX8_heightAt_5 : decode cX8_heightAt 5 = .ok (.iaload, 1) := by decide +kernel
theorem dX8_heightAt_6 : decode cX8_heightAt 6 = .ok (.i2l, 1) := by decide +kernel
theorem dX8_heightAt_7 : decode cX8_heightAt 7 = .ok (.aload_n 0, 1) := by decide +kernel
theorem dX8_heightAt_8 : decode cX8_heightAt 8 = .ok (.iload_n 3, 1) := by decide +kernel
theorem dX8_heightAt_9 : decode cX8_heightAt 9 = .ok (.invokevirtual 39, 3) := by decide +kernel
theorem dX8_heightAt_12 : decode cX8_heightAt 12 = .ok (.lmul, 1) := by decide +kernel
theorem dX8_heightAt_13 : decode cX8_heightAt 13 = .ok (.aload_n 1, 1) := by decide +kernel
theorem dX8_heightAt_14 : decode cX8_heightAt 14 = .ok (.getfield 60, 3) := by decide +kernel
theorem dX8_heightAt_17 : decode cX8_heightAt 17 = .ok (.iload_n 2, 1) := by decide +kernel
theorem dX8_heightAt_18 : decode cX8_heightAt 18 = .ok (.laload, 1) := by decide +kernel
theorem dX8_heightAt_19 : decode cX8_heightAt 19 = .ok (.lmul, 1) := by decide +kernel
theorem dX8_heightAt_20 : decode cX8_heightAt 20 = .ok (.lstore 4, 2) := by decide +kernel
theorem dX8_heightAt_22 : decode cX8_heightAt 22 = .ok (.lload 4, 2) := by decide +kernel
theorem dX8_heightAt_24 : decode cX8_heightAt 24 = .ok (.aload_n 1, 1) := by decide +kernel
theorem dX8_heightAt_25 : decode cX8_heightAt 25 = .ok (.getfield 64, 3) := by decide +kernel
theorem dX8_heightAt_28 : decode cX8_heightAt 28 = .ok (.iload_n 2, 1) := by decide +kernel
theorem dX8_heightAt_29 : decode cX8_heightAt 29 = .ok (.laload, 1) := by decide +kernel
theorem dX8_heightAt_30 : decode cX8_heightAt 30 = .ok (.aload_n 0, 1) := by decide +kernel
theorem dX8_heightAt_31 : decode cX8_heightAt 31 = .ok (.getfield 67, 3) := by decide +kernel
theorem dX8_heightAt_34 : decode cX8_heightAt 34 = .ok (.iload_n 3, 1) := by decide +kernel
theorem dX8_heightAt_35 : decode cX8_heightAt 35 = .ok (.iaload, 1) := by decide +kernel
theorem dX8_heightAt_36 : decode cX8_heightAt 36 = .ok (.i2l, 1) := by decide +kernel
theorem dX8_heightAt_37 : decode cX8_heightAt 37 = .ok (.aload_n 1, 1) := by decide +kernel
theorem dX8_heightAt_38 : decode cX8_heightAt 38 = .ok (.getfield 60, 3) := by decide +kernel
theorem dX8_heightAt_41 : decode cX8_heightAt 41 = .ok (.iload_n 2, 1) := by decide +kernel
theorem dX8_heightAt_42 : decode cX8_heightAt 42 = .ok (.laload, 1) := by decide +kernel
theorem dX8_heightAt_43 : decode cX8_heightAt 43 = .ok (.lmul, 1) := by decide +kernel
theorem dX8_heightAt_44 : decode cX8_heightAt 44 = .ok (.lsub, 1) := by decide +kernel
theorem dX8_heightAt_45 : decode cX8_heightAt 45 = .ok (.aload_n 0, 1) := by decide +kernel
theorem dX8_heightAt_46 : decode cX8_heightAt 46 = .ok (.iload_n 3, 1) := by decide +kernel
theorem dX8_heightAt_47 : decode cX8_heightAt 47 = .ok (.invokevirtual 43, 3) := by decide +kernel
theorem dX8_heightAt_50 : decode cX8_heightAt 50 = .ok (.lmul, 1) := by decide +kernel
theorem dX8_heightAt_51 : decode cX8_heightAt 51 = .ok (.ladd, 1) := by decide +kernel
theorem dX8_heightAt_52 : decode cX8_heightAt 52 = .ok (.lreturn, 1) := by decide +kernel
theorem dX9_init_0 : decode cX9_init 0 = .ok (.aload_n 0, 1) := by decide +kernel
theorem dX9_init_1 : decode cX9_init 1 = .ok (.invokespecial 3, 3) := by decide +kernel
theorem dX9_init_4 : decode cX9_init 4 = .ok (.aload_n 0, 1) := by decide +kernel
theorem dX9_init_5 : decode cX9_init 5 = .ok (.bipush 24, 2) := by decide +kernel
theorem dX9_init_7 : decode cX9_init 7 = .ok (.newarray .int, 2) := by decide +kernel
theorem dX9_init_9 : decode cX9_init 9 = .ok (.putfield 9, 3) := by decide +kernel
theorem dX9_init_12 : decode cX9_init 12 = .ok (.aload_n 0, 1) := by decide +kernel
theorem dX9_init_13 : decode cX9_init 13 = .ok (.bipush 24, 2) := by decide +kernel
theorem dX9_init_15 : decode cX9_init 15 = .ok (.newarray .int, 2) := by decide +kernel
theorem dX9_init_17 : decode cX9_init 17 = .ok (.putfield 15, 3) := by decide +kernel
theorem dX9_init_20 : decode cX9_init 20 = .ok (.aload_n 0, 1) := by decide +kernel
theorem dX9_init_21 : decode cX9_init 21 = .ok (.iconst 0, 1) := by decide +kernel
theorem dX9_init_22 : decode cX9_init 22 = .ok (.putfield 18, 3) := by decide +kernel
theorem dX9_init_25 : decode cX9_init 25 = .ok (.aload_n 0, 1) := by decide +kernel
theorem dX9_init_26 : decode cX9_init 26 = .ok (.iconst 0, 1) := by decide +kernel
theorem dX9_init_27 : decode cX9_init 27 = .ok (.putfield 22, 3) := by decide +kernel
theorem dX9_init_30 : decode cX9_init 30 = .ok (.aload_n 0, 1) := by decide +kernel
theorem dX9_init_31 : decode cX9_init 31 = .ok (.iconst 0, 1) := by decide +kernel
theorem dX9_init_32 : decode cX9_init 32 = .ok (.putfield 25, 3) := by decide +kernel
theorem dX9_init_35 : decode cX9_init 35 = .ok (.return_, 1) := by decide +kernel
theorem dX9_clear_0 : decode cX9_clear 0 = .ok (.iconst 0, 1) := by decide +kernel
theorem dX9_clear_1 : decode cX9_clear 1 = .ok (.istore_n 2, 1) := by decide +kernel
theorem dX9_clear_2 : decode cX9_clear 2 = .ok (.iload_n 2, 1) := by decide +kernel
theorem dX9_clear_3 : decode cX9_clear 3 = .ok (.iload_n 1, 1) := by decide +kernel
theorem dX9_clear_4 : decode cX9_clear 4 = .ok (.if_icmp .ge 23, 3) := by decide +kernel
theorem dX9_clear_7 : decode cX9_clear 7 = .ok (.aload_n 0, 1) := by decide +kernel
theorem dX9_clear_8 : decode cX9_clear 8 = .ok (.getfield 9, 3) := by decide +kernel
theorem dX9_clear_11 : decode cX9_clear 11 = .ok (.iload_n 2, 1) := by decide +kernel
theorem dX9_clear_12 : decode cX9_clear 12 = .ok (.iconst 0, 1) := by decide +kernel
theorem dX9_clear_13 : decode cX9_clear 13 = .ok (.iastore, 1) := by decide +kernel
theorem dX9_clear_14 : decode cX9_clear 14 = .ok (.aload_n 0, 1) := by decide +kernel
theorem dX9_clear_15 : decode cX9_clear 15 = .ok (.getfield 15, 3) := by decide +kernel
theorem dX9_clear_18 : decode cX9_clear 18 = .ok (.iload_n 2, 1) := by decide +kernel
theorem dX9_clear_19 : decode cX9_clear 19 = .ok (.iconst 0, 1) := by decide +kernel
theorem dX9_clear_20 : decode cX9_clear 20 = .ok (.iastore, 1) := by decide +kernel
theorem dX9_clear_21 : decode cX9_clear 21 = .ok (.iinc 2 1, 3) := by decide +kernel
theorem dX9_clear_24 : decode cX9_clear 24 = .ok (.goto (-22), 3) := by decide +kernel
theorem dX9_clear_27 : decode cX9_clear 27 = .ok (.aload_n 0, 1) := by decide +kernel
theorem dX9_clear_28 : decode cX9_clear 28 = .ok (.iconst 0, 1) := by decide +kernel
theorem dX9_clear_29 : decode cX9_clear 29 = .ok (.putfield 18, 3) := by decide +kernel
theorem dX9_clear_32 : decode cX9_clear 32 = .ok (.aload_n 0, 1) := by decide +kernel
theorem dX9_clear_33 : decode cX9_clear 33 = .ok (.iconst 0, 1) := by decide +kernel
theorem dX9_clear_34 : decode cX9_clear 34 = .ok (.putfield 22, 3) := by decide +kernel
theorem dX9_clear_37 : decode cX9_clear 37 = .ok (.aload_n 0, 1) := by decide +kernel
theorem dX9_clear_38 : decode cX9_clear 38 = .ok (.iload_n 1, 1) := by decide +kernel
theorem dX9_clear_39 : decode cX9_clear 39 = .ok (.putfield 25, 3) := by decide +kernel
theorem dX9_clear_42 : decode cX9_clear 42 = .ok (.return_, 1) := by decide +kernel
theorem dX9_note_0 : decode cX9_note 0 = .ok (.iload_n 3, 1) := by decide +kernel
theorem dX9_note_1 : decode cX9_note 1 = .ok (.ifCond .ne 4, 3) := by decide +kernel
theorem dX9_note_4 : decode cX9_note 4 = .ok (.return_, 1) := by decide +kernel
theorem dX9_note_5 : decode cX9_note 5 = .ok (.aload_n 0, 1) := by decide +kernel
theorem dX9_note_6 : decode cX9_note 6 = .ok (.getfield 9, 3) := by decide +kernel
theorem dX9_note_9 : decode cX9_note 9 = .ok (.iload_n 1, 1) := by decide +kernel
theorem dX9_note_10 : decode cX9_note 10 = .ok (.dup2, 1) := by decide +kernel
theorem dX9_note_11 : decode cX9_note 11 = .ok (.iaload, 1) := by decide +kernel
theorem dX9_note_12 : decode cX9_note 12 = .ok (.iconst 1, 1) := by decide +kernel
theorem dX9_note_13 : decode cX9_note 13 = .ok (.iload_n 2, 1) := by decide +kernel
theorem dX9_note_14 : decode cX9_note 14 = .ok (.ishl, 1) := by decide +kernel
theorem dX9_note_15 : decode cX9_note 15 = .ok (.ior, 1) := by decide +kernel
theorem dX9_note_16 : decode cX9_note 16 = .ok (.iastore, 1) := by decide +kernel
theorem dX9_note_17 : decode cX9_note 17 = .ok (.aload_n 0, 1) := by decide +kernel
theorem dX9_note_18 : decode cX9_note 18 = .ok (.getfield 9, 3) := by decide +kernel
theorem dX9_note_21 : decode cX9_note 21 = .ok (.iload_n 2, 1) := by decide +kernel
theorem dX9_note_22 : decode cX9_note 22 = .ok (.dup2, 1) := by decide +kernel
theorem dX9_note_23 : decode cX9_note 23 = .ok (.iaload, 1) := by decide +kernel
theorem dX9_note_24 : decode cX9_note 24 = .ok (.iconst 1, 1) := by decide +kernel
theorem dX9_note_25 : decode cX9_note 25 = .ok (.iload_n 1, 1) := by decide +kernel
theorem dX9_note_26 : decode cX9_note 26 = .ok (.ishl, 1) := by decide +kernel
theorem dX9_note_27 : decode cX9_note 27 = .ok (.ior, 1) := by decide +kernel
theorem dX9_note_28 : decode cX9_note 28 = .ok (.iastore, 1) := by decide +kernel
theorem dX9_note_29 : decode cX9_note 29 = .ok (.iload_n 3, 1) := by decide +kernel
theorem dX9_note_30 : decode cX9_note 30 = .ok (.iconst 1, 1) := by decide +kernel
theorem dX9_note_31 : decode cX9_note 31 = .ok (.if_icmp .ne 14, 3) := by decide +kernel
theorem dX9_note_34 : decode cX9_note 34 = .ok (.aload_n 0, 1) := by decide +kernel
theorem dX9_note_35 : decode cX9_note 35 = .ok (.dup, 1) := by decide +kernel
theorem dX9_note_36 : decode cX9_note 36 = .ok (.getfield 18, 3) := by decide +kernel
theorem dX9_note_39 : decode cX9_note 39 = .ok (.iconst 1, 1) := by decide +kernel
theorem dX9_note_40 : decode cX9_note 40 = .ok (.iadd, 1) := by decide +kernel
theorem dX9_note_41 : decode cX9_note 41 = .ok (.putfield 18, 3) := by decide +kernel
theorem dX9_note_44 : decode cX9_note 44 = .ok (.return_, 1) := by decide +kernel
theorem dX9_note_45 : decode cX9_note 45 = .ok (.aload_n 0, 1) := by decide +kernel
theorem dX9_note_46 : decode cX9_note 46 = .ok (.getfield 15, 3) := by decide +kernel
theorem dX9_note_49 : decode cX9_note 49 = .ok (.iload_n 1, 1) := by decide +kernel
theorem dX9_note_50 : decode cX9_note 50 = .ok (.dup2, 1) := by decide +kernel
theorem dX9_note_51 : decode cX9_note 51 = .ok (.iaload, 1) := by decide +kernel
theorem dX9_note_52 : decode cX9_note 52 = .ok (.iconst 1, 1) := by decide +kernel
theorem dX9_note_53 : decode cX9_note 53 = .ok (.iload_n 2, 1) := by decide +kernel
theorem dX9_note_54 : decode cX9_note 54 = .ok (.ishl, 1) := by decide +kernel
theorem dX9_note_55 : decode cX9_note 55 = .ok (.ior, 1) := by decide +kernel
theorem dX9_note_56 : decode cX9_note 56 = .ok (.iastore, 1) := by decide +kernel
theorem dX9_note_57 : decode cX9_note 57 = .ok (.aload_n 0, 1) := by decide +kernel
theorem dX9_note_58 : decode cX9_note 58 = .ok (.getfield 15, 3) := by decide +kernel
theorem dX9_note_61 : decode cX9_note 61 = .ok (.iload_n 2, 1) := by decide +kernel
theorem dX9_note_62 : decode cX9_note 62 = .ok (.dup2, 1) := by decide +kernel
theorem dX9_note_63 : decode cX9_note 63 = .ok (.iaload, 1) := by decide +kernel
theorem dX9_note_64 : decode cX9_note 64 = .ok (.iconst 1, 1) := by decide +kernel
theorem dX9_note_65 : decode cX9_note 65 = .ok (.iload_n 1, 1) := by decide +kernel
theorem dX9_note_66 : decode cX9_note 66 = .ok (.ishl, 1) := by decide +kernel
theorem dX9_note_67 : decode cX9_note 67 = .ok (.ior, 1) := by decide +kernel
theorem dX9_note_68 : decode cX9_note 68 = .ok (.iastore, 1) := by decide +kernel
theorem dX9_note_69 : decode cX9_note 69 = .ok (.aload_n 0, 1) := by decide +kernel
theorem dX9_note_70 : decode cX9_note 70 = .ok (.dup, 1) := by decide +kernel
theorem dX9_note_71 : decode cX9_note 71 = .ok (.getfield 22, 3) := by decide +kernel
theorem dX9_note_74 : decode cX9_note 74 = .ok (.iconst 1, 1) := by decide +kernel
theorem dX9_note_75 : decode cX9_note 75 = .ok (.iadd, 1) := by decide +kernel
theorem dX9_note_76 : decode cX9_note 76 = .ok (.putfield 22, 3) := by decide +kernel
theorem dX9_note_79 : decode cX9_note 79 = .ok (.return_, 1) := by decide +kernel
theorem dX9_pairsMeetingIn_0 : decode cX9_pairsMeetingIn 0 = .ok (.iconst 0, 1) := by decide +kernel
theorem dX9_pairsMeetingIn_1 : decode cX9_pairsMeetingIn 1 = .ok (.istore_n 2, 1) := by decide +kernel
theorem dX9_pairsMeetingIn_2 : decode cX9_pairsMeetingIn 2 = .ok (.iconst 0, 1) := by decide +kernel
theorem dX9_pairsMeetingIn_3 : decode cX9_pairsMeetingIn 3 = .ok (.istore_n 3, 1) := by decide +kernel
theorem dX9_pairsMeetingIn_4 : decode cX9_pairsMeetingIn 4 = .ok (.iload_n 3, 1) := by decide +kernel
theorem dX9_pairsMeetingIn_5 : decode cX9_pairsMeetingIn 5 = .ok (.aload_n 0, 1) := by decide +kernel
theorem dX9_pairsMeetingIn_6 : decode cX9_pairsMeetingIn 6 = .ok (.getfield 25, 3) := by decide +kernel
theorem dX9_pairsMeetingIn_9 : decode cX9_pairsMeetingIn 9 = .ok (.if_icmp .ge 35, 3) := by decide +kernel
theorem dX9_pairsMeetingIn_12 : decode cX9_pairsMeetingIn 12 = .ok (.iload_n 1, 1) := by decide +kernel
theorem dX9_pairsMeetingIn_13 : decode cX9_pairsMeetingIn 13 = .ok (.iload_n 3, 1) := by decide +kernel
theorem dX9_pairsMeetingIn_14 : decode cX9_pairsMeetingIn 14 = .ok (.invokestatic 30, 3) := by decide +kernel
theorem dX9_pairsMeetingIn_17 : decode cX9_pairsMeetingIn 17 = .ok (.ifCond .eq 21, 3) := by decide +kernel
theorem dX9_pairsMeetingIn_20 : decode cX9_pairsMeetingIn 20 = .ok (.iload_n 2, 1) := by decide +kernel
theorem dX9_pairsMeetingIn_21 : decode cX9_pairsMeetingIn 21 = .ok (.iload_n 1, 1) := by decide +kernel
theorem dX9_pairsMeetingIn_22 : decode cX9_pairsMeetingIn 22 = .ok (.aload_n 0, 1) := by decide +kernel
theorem dX9_pairsMeetingIn_23 : decode cX9_pairsMeetingIn 23 = .ok (.getfield 15, 3) := by decide +kernel
theorem dX9_pairsMeetingIn_26 : decode cX9_pairsMeetingIn 26 = .ok (.iload_n 3, 1) := by decide +kernel
theorem dX9_pairsMeetingIn_27 : decode cX9_pairsMeetingIn 27 = .ok (.iaload, 1) := by decide +kernel
theorem dX9_pairsMeetingIn_28 : decode cX9_pairsMeetingIn 28 = .ok (.iconst (-1), 1) := by decide +kernel
theorem dX9_pairsMeetingIn_29 : decode cX9_pairsMeetingIn 29 = .ok (.ixor, 1) := by decide +kernel
theorem dX9_pairsMeetingIn_30 : decode cX9_pairsMeetingIn 30 = .ok (.iand, 1) := by decide +kernel
theorem dX9_pairsMeetingIn_31 : decode cX9_pairsMeetingIn 31 = .ok (.invokestatic 34, 3) := by decide +kernel
theorem dX9_pairsMeetingIn_34 : decode cX9_pairsMeetingIn 34 = .ok (.iconst 1, 1) := by decide +kernel
theorem dX9_pairsMeetingIn_35 : decode cX9_pairsMeetingIn 35 = .ok (.isub, 1) := by decide +kernel
theorem dX9_pairsMeetingIn_36 : decode cX9_pairsMeetingIn 36 = .ok (.iadd, 1) := by decide +kernel
theorem dX9_pairsMeetingIn_37 : decode cX9_pairsMeetingIn 37 = .ok (.istore_n 2, 1) := by decide +kernel
theorem dX9_pairsMeetingIn_38 : decode cX9_pairsMeetingIn 38 = .ok (.iinc 3 1, 3) := by decide +kernel
theorem dX9_pairsMeetingIn_41 : decode cX9_pairsMeetingIn 41 = .ok (.goto (-37), 3) := by decide +kernel
theorem dX9_pairsMeetingIn_44 : decode cX9_pairsMeetingIn 44 = .ok (.iload_n 2, 1) := by decide +kernel
theorem dX9_pairsMeetingIn_45 : decode cX9_pairsMeetingIn 45 = .ok (.iconst 1, 1) := by decide +kernel
theorem dX9_pairsMeetingIn_46 : decode cX9_pairsMeetingIn 46 = .ok (.ishr, 1) := by decide +kernel
theorem dX9_pairsMeetingIn_47 : decode cX9_pairsMeetingIn 47 = .ok (.ireturn, 1) := by decide +kernel
theorem dX9_grown_0 : decode cX9_grown 0 = .ok (.iload_n 1, 1) := by decide +kernel
theorem dX9_grown_1 : decode cX9_grown 1 = .ok (.istore_n 2, 1) := by decide +kernel
theorem dX9_grown_2 : decode cX9_grown 2 = .ok (.iconst 0, 1) := by decide +kernel
theorem dX9_grown_3 : decode cX9_grown 3 = .ok (.istore_n 3, 1) := by decide +kernel
theorem dX9_grown_4 : decode cX9_grown 4 = .ok (.iload_n 3, 1) := by decide +kernel
theorem dX9_grown_5 : decode cX9_grown 5 = .ok (.aload_n 0, 1) := by decide +kernel
theorem dX9_grown_6 : decode cX9_grown 6 = .ok (.getfield 25, 3) := by decide +kernel
theorem dX9_grown_9 : decode cX9_grown 9 = .ok (.if_icmp .ge 26, 3) := by decide +kernel
theorem dX9_grown_12 : decode cX9_grown 12 = .ok (.iload_n 1, 1) := by decide +kernel
theorem dX9_grown_13 : decode cX9_grown 13 = .ok (.iload_n 3, 1) := by decide +kernel
theorem dX9_grown_14 : decode cX9_grown 14 = .ok (.invokestatic 30, 3) := by decide +kernel
theorem dX9_grown_17 : decode cX9_grown 17 = .ok (.ifCond .eq 12, 3) := by decide +kernel
theorem dX9_grown_20 : decode cX9_grown 20 = .ok (.iload_n 2, 1) := by decide +kernel
theorem dX9_grown_21 : decode cX9_grown 21 = .ok (.aload_n 0, 1) := by decide +kernel
theorem dX9_grown_22 : decode cX9_grown 22 = .ok (.getfield 9, 3) := by decide +kernel
theorem dX9_grown_25 : decode cX9_grown 25 = .ok (.iload_n 3, 1) := by decide +kernel
theorem dX9_grown_26 : decode cX9_grown 26 = .ok (.iaload, 1) := by decide +kernel
theorem dX9_grown_27 : decode cX9_grown 27 = .ok (.ior, 1) := by decide +kernel
theorem dX9_grown_28 : decode cX9_grown 28 = .ok (.istore_n 2, 1) := by decide +kernel
theorem dX9_grown_29 : decode cX9_grown 29 = .ok (.iinc 3 1, 3) := by decide +kernel
theorem dX9_grown_32 : decode cX9_grown 32 = .ok (.goto (-28), 3) := by decide +kernel
theorem dX9_grown_35 : decode cX9_grown 35 = .ok (.iload_n 2, 1) := by decide +kernel
theorem dX9_grown_36 : decode cX9_grown 36 = .ok (.ireturn, 1) := by decide +kernel
theorem dX9_part_0 : decode cX9_part 0 = .ok (.iconst 1, 1) := by decide +kernel
theorem dX9_part_1 : decode cX9_part 1 = .ok (.iload_n 1, 1) := by decide +kernel
theorem dX9_part_2 : decode cX9_part 2 = .ok (.ishl, 1) := by decide +kernel
theorem dX9_part_3 : decode cX9_part 3 = .ok (.istore_n 2, 1) := by decide +kernel
theorem dX9_part_4 : decode cX9_part 4 = .ok (.iconst 0, 1) := by decide +kernel
theorem dX9_part_5 : decode cX9_part 5 = .ok (.istore_n 3, 1) := by decide +kernel
theorem dX9_part_6 : decode cX9_part 6 = .ok (.iload_n 3, 1) := by decide +kernel
theorem dX9_part_7 : decode cX9_part 7 = .ok (.aload_n 0, 1) := by decide +kernel
theorem dX9_part_8 : decode cX9_part 8 = .ok (.getfield 25, 3) := by decide +kernel
theorem dX9_part_11 : decode cX9_part 11 = .ok (.if_icmp .ge 15, 3) := by decide +kernel
theorem dX9_part_14 : decode cX9_part 14 = .ok (.aload_n 0, 1) := by decide +kernel
theorem dX9_part_15 : decode cX9_part 15 = .ok (.iload_n 2, 1) := by decide +kernel
theorem dX9_part_16 : decode cX9_part 16 = .ok (.invokevirtual 40, 3) := by decide +kernel
theorem dX9_part_19 : decode cX9_part 19 = .ok (.istore_n 2, 1) := by decide +kernel
theorem dX9_part_20 : decode cX9_part 20 = .ok (.iinc 3 1, 3) := by decide +kernel
theorem dX9_part_23 : decode cX9_part 23 = .ok (.goto (-17), 3) := by decide +kernel
theorem dX9_part_26 : decode cX9_part 26 = .ok (.iload_n 2, 1) := by decide +kernel
theorem dX9_part_27 : decode cX9_part 27 = .ok (.ireturn, 1) := by decide +kernel
theorem dX9_parts_0 : decode cX9_parts 0 = .ok (.iconst 0, 1) := by decide +kernel
theorem dX9_parts_1 : decode cX9_parts 1 = .ok (.istore_n 1, 1) := by decide +kernel
theorem dX9_parts_2 : decode cX9_parts 2 = .ok (.iconst 0, 1) := by decide +kernel
theorem dX9_parts_3 : decode cX9_parts 3 = .ok (.istore_n 2, 1) := by decide +kernel
theorem dX9_parts_4 : decode cX9_parts 4 = .ok (.iconst 0, 1) := by decide +kernel
theorem dX9_parts_5 : decode cX9_parts 5 = .ok (.istore_n 3, 1) := by decide +kernel
theorem dX9_parts_6 : decode cX9_parts 6 = .ok (.iload_n 3, 1) := by decide +kernel
theorem dX9_parts_7 : decode cX9_parts 7 = .ok (.aload_n 0, 1) := by decide +kernel
theorem dX9_parts_8 : decode cX9_parts 8 = .ok (.getfield 25, 3) := by decide +kernel
theorem dX9_parts_11 : decode cX9_parts 11 = .ok (.if_icmp .ge 28, 3) := by decide +kernel
theorem dX9_parts_14 : decode cX9_parts 14 = .ok (.iload_n 2, 1) := by decide +kernel
theorem dX9_parts_15 : decode cX9_parts 15 = .ok (.iload_n 3, 1) := by decide +kernel
theorem dX9_parts_16 : decode cX9_parts 16 = .ok (.invokestatic 30, 3) := by decide +kernel
theorem dX9_parts_19 : decode cX9_parts 19 = .ok (.ifCond .ne 14, 3) := by decide +kernel
theorem dX9_parts_22 : decode cX9_parts 22 = .ok (.iload_n 2, 1) := by decide +kernel
theorem dX9_parts_23 : decode cX9_parts 23 = .ok (.aload_n 0, 1) := by decide +kernel
theorem dX9_parts_24 : decode cX9_parts 24 = .ok (.iload_n 3, 1) := by decide +kernel
theorem dX9_parts_25 : decode cX9_parts 25 = .ok (.invokevirtual 43, 3) := by decide +kernel
theorem dX9_parts_28 : decode cX9_parts 28 = .ok (.ior, 1) := by decide +kernel
theorem dX9_parts_29 : decode cX9_parts 29 = .ok (.istore_n 2, 1) := by decide +kernel
theorem dX9_parts_30 : decode cX9_parts 30 = .ok (.iinc 1 1, 3) := by decide +kernel
theorem dX9_parts_33 : decode cX9_parts 33 = .ok (.iinc 3 1, 3) := by decide +kernel
theorem dX9_parts_36 : decode cX9_parts 36 = .ok (.goto (-30), 3) := by decide +kernel
theorem dX9_parts_39 : decode cX9_parts 39 = .ok (.iload_n 1, 1) := by decide +kernel
theorem dX9_parts_40 : decode cX9_parts 40 = .ok (.ireturn, 1) := by decide +kernel
theorem dX9_distance_0 : decode cX9_distance 0 = .ok (.iconst 1, 1) := by decide +kernel
theorem dX9_distance_1 : decode cX9_distance 1 = .ok (.iload_n 1, 1) := by decide +kernel
theorem dX9_distance_2 : decode cX9_distance 2 = .ok (.ishl, 1) := by decide +kernel
theorem dX9_distance_3 : decode cX9_distance 3 = .ok (.istore_n 3, 1) := by decide +kernel
theorem dX9_distance_4 : decode cX9_distance 4 = .ok (.iconst 0, 1) := by decide +kernel
theorem dX9_distance_5 : decode cX9_distance 5 = .ok (.istore 4, 2) := by decide +kernel
theorem dX9_distance_7 : decode cX9_distance 7 = .ok (.iload 4, 2) := by decide +kernel
theorem dX9_distance_9 : decode cX9_distance 9 = .ok (.aload_n 0, 1) := by decide +kernel
theorem dX9_distance_10 : decode cX9_distance 10 = .ok (.getfield 25, 3) := by decide +kernel
theorem dX9_distance_13 : decode cX9_distance 13 = .ok (.if_icmp .ge 26, 3) := by decide +kernel
theorem dX9_distance_16 : decode cX9_distance 16 = .ok (.iload_n 3, 1) := by decide +kernel
theorem dX9_distance_17 : decode cX9_distance 17 = .ok (.iload_n 2, 1) := by decide +kernel
theorem dX9_distance_18 : decode cX9_distance 18 = .ok (.invokestatic 30, 3) := by decide +kernel
theorem dX9_distance_21 : decode cX9_distance 21 = .ok (.ifCond .eq 6, 3) := by decide +kernel
theorem dX9_distance_24 : decode cX9_distance 24 = .ok (.iload 4, 2) := by decide +kernel
theorem dX9_distance_26 : decode cX9_distance 26 = .ok (.ireturn, 1) := by decide +kernel
theorem dX9_distance_27 : decode cX9_distance 27 = .ok (.aload_n 0, 1) := by decide +kernel
theorem dX9_distance_28 : decode cX9_distance 28 = .ok (.iload_n 3, 1) := by decide +kernel
theorem dX9_distance_29 : decode cX9_distance 29 = .ok (.invokevirtual 40, 3) := by decide +kernel
theorem dX9_distance_32 : decode cX9_distance 32 = .ok (.istore_n 3, 1) := by decide +kernel
theorem dX9_distance_33 : decode cX9_distance 33 = .ok (.iinc 4 1, 3) := by decide +kernel
theorem dX9_distance_36 : decode cX9_distance 36 = .ok (.goto (-29), 3) := by decide +kernel
theorem dX9_distance_39 : decode cX9_distance 39 = .ok (.iconst (-1), 1) := by decide +kernel
theorem dX9_distance_40 : decode cX9_distance 40 = .ok (.ireturn, 1) := by decide +kernel

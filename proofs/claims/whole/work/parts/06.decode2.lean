theorem dX11_thrown_0 : decode cX11_thrown 0 = .ok (.aload_n 0, 1) := by decide +kernel
theorem dX11_thrown_1 : decode cX11_thrown 1 = .ok (.getfield 3, 3) := by decide +kernel
theorem dX11_thrown_4 : decode cX11_thrown 4 = .ok (.ireturn, 1) := by decide +kernel
theorem dX11_throwsIf_0 : decode cX11_throwsIf 0 = .ok (.iload_n 1, 1) := by decide +kernel
theorem dX11_throwsIf_1 : decode cX11_throwsIf 1 = .ok (.ifCond .eq 8, 3) := by decide +kernel
theorem dX11_throwsIf_4 : decode cX11_throwsIf 4 = .ok (.aload_n 0, 1) := by decide +kernel
theorem dX11_throwsIf_5 : decode cX11_throwsIf 5 = .ok (.iload_n 2, 1) := by decide +kernel
theorem dX11_throwsIf_6 : decode cX11_throwsIf 6 = .ok (.putfield 3, 3) := by decide +kernel
theorem dX11_throwsIf_9 : decode cX11_throwsIf 9 = .ok (.iload_n 1, 1) := by decide +kernel
theorem dX11_throwsIf_10 : decode cX11_throwsIf 10 = .ok (.ireturn, 1) := by decide +kernel
theorem dX11_in_0 : decode cX11_in 0 = .ok (.lload_n 0, 1) := by decide +kernel
theorem dX11_in_1 : decode cX11_in 1 = .ok (.lload_n 2, 1) := by decide +kernel
theorem dX11_in_2 : decode cX11_in 2 = .ok (.lcmp, 1) := by decide +kernel
theorem dX11_in_3 : decode cX11_in 3 = .ok (.ifCond .lt 14, 3) := by decide +kernel
theorem dX11_in_6 : decode cX11_in 6 = .ok (.lload_n 0, 1) := by decide +kernel
theorem dX11_in_7 : decode cX11_in 7 = .ok (.lload 4, 2) := by decide +kernel
theorem dX11_in_9 : decode cX11_in 9 = .ok (.lcmp, 1) := by decide +kernel
theorem dX11_in_10 : decode cX11_in 10 = .ok (.ifCond .gt 7, 3) := by decide +kernel
theorem dX11_in_13 : decode cX11_in 13 = .ok (.iconst 1, 1) := by decide +kernel
theorem dX11_in_14 : decode cX11_in 14 = .ok (.goto 4, 3) := by decide +kernel
theorem dX11_in_17 : decode cX11_in 17 = .ok (.iconst 0, 1) := by decide +kernel
theorem dX11_in_18 : decode cX11_in 18 = .ok (.ireturn, 1) := by decide +kernel
theorem dX11_holds_0 : decode cX11_holds 0 = .ok (.iload_n 0, 1) := by decide +kernel
theorem dX11_holds_1 : decode cX11_holds 1 = .ok (.iload_n 1, 1) := by decide +kernel
theorem dX11_holds_2 : decode cX11_holds 2 = .ok (.ishr, 1) := by decide +kernel
theorem dX11_holds_3 : decode cX11_holds 3 = .ok (.iconst 1, 1) := by decide +kernel
theorem dX11_holds_4 : decode cX11_holds 4 = .ok (.iand, 1) := by decide +kernel
theorem dX11_holds_5 : decode cX11_holds 5 = .ok (.iconst 1, 1) := by decide +kernel
theorem dX11_holds_6 : decode cX11_holds 6 = .ok (.if_icmp .ne 7, 3) := by decide +kernel
theorem dX11_holds_9 : decode cX11_holds 9 = .ok (.iconst 1, 1) := by decide +kernel
theorem dX11_holds_10 : decode cX11_holds 10 = .ok (.goto 4, 3) := by decide +kernel
theorem dX11_holds_13 : decode cX11_holds 13 = .ok (.iconst 0, 1) := by decide +kernel
theorem dX11_holds_14 : decode cX11_holds 14 = .ok (.ireturn, 1) := by decide +kernel
theorem dX11_bits_0 : decode cX11_bits 0 = .ok (.iconst 0, 1) := by decide +kernel
theorem dX11_bits_1 : decode cX11_bits 1 = .ok (.istore_n 1, 1) := by decide +kernel
theorem dX11_bits_2 : decode cX11_bits 2 = .ok (.iconst 0, 1) := by decide +kernel
theorem dX11_bits_3 : decode cX11_bits 3 = .ok (.istore_n 2, 1) := by decide +kernel
theorem dX11_bits_4 : decode cX11_bits 4 = .ok (.iload_n 2, 1) := by decide +kernel
theorem dX11_bits_5 : decode cX11_bits 5 = .ok (.bipush 24, 2) := by decide +kernel
theorem dX11_bits_7 : decode cX11_bits 7 = .ok (.if_icmp .ge 17, 3) := by decide +kernel
theorem dX11_bits_10 : decode cX11_bits 10 = .ok (.iload_n 1, 1) := by decide +kernel
theorem dX11_bits_11 : decode cX11_bits 11 = .ok (.iload_n 0, 1) := by decide +kernel
theorem dX11_bits_12 : decode cX11_bits 12 = .ok (.iload_n 2, 1) := by decide +kernel
theorem dX11_bits_13 : decode cX11_bits 13 = .ok (.ishr, 1) := by decide +kernel
theorem dX11_bits_14 : decode cX11_bits 14 = .ok (.iconst 1, 1) := by decide +kernel
theorem dX11_bits_15 : decode cX11_bits 15 = .ok (.iand, 1) := by decide +kernel
theorem dX11_bits_16 : decode cX11_bits 16 = .ok (.iadd, 1) := by decide +kernel
theorem dX11_bits_17 : decode cX11_bits 17 = .ok (.istore_n 1, 1) := by decide +kernel
theorem dX11_bits_18 : decode cX11_bits 18 = .ok (.iinc 2 1, 3) := by decide +kernel
theorem dX11_bits_21 : decode cX11_bits 21 = .ok (.goto (-17), 3) := by decide +kernel
theorem dX11_bits_24 : decode cX11_bits 24 = .ok (.iload_n 1, 1) := by decide +kernel
theorem dX11_bits_25 : decode cX11_bits 25 = .ok (.ireturn, 1) := by decide +kernel
theorem dX11_init_0 : decode cX11_init 0 = .ok (.aload_n 0, 1) := by decide +kernel
theorem dX11_init_1 : decode cX11_init 1 = .ok (.invokespecial 7, 3) := by decide +kernel
theorem dX11_init_4 : decode cX11_init 4 = .ok (.aload_n 0, 1) := by decide +kernel
theorem dX11_init_5 : decode cX11_init 5 = .ok (.bipush 121, 2) := by decide +kernel
theorem dX11_init_7 : decode cX11_init 7 = .ok (.newarray .int, 2) := by decide +kernel
theorem dX11_init_9 : decode cX11_init 9 = .ok (.putfield 13, 3) := by decide +kernel
theorem dX11_init_12 : decode cX11_init 12 = .ok (.aload_n 0, 1) := by decide +kernel
theorem dX11_init_13 : decode cX11_init 13 = .ok (.bipush 121, 2) := by decide +kernel
theorem dX11_init_15 : decode cX11_init 15 = .ok (.newarray .int, 2) := by decide +kernel
theorem dX11_init_17 : decode cX11_init 17 = .ok (.putfield 17, 3) := by decide +kernel
theorem dX11_init_20 : decode cX11_init 20 = .ok (.aload_n 0, 1) := by decide +kernel
theorem dX11_init_21 : decode cX11_init 21 = .ok (.bipush 121, 2) := by decide +kernel
theorem dX11_init_23 : decode cX11_init 23 = .ok (.newarray .int, 2) := by decide +kernel
theorem dX11_init_25 : decode cX11_init 25 = .ok (.putfield 20, 3) := by decide +kernel
theorem dX11_init_28 : decode cX11_init 28 = .ok (.aload_n 0, 1) := by decide +kernel
theorem dX11_init_29 : decode cX11_init 29 = .ok (.sipush 968, 3) := by decide +kernel
theorem dX11_init_32 : decode cX11_init 32 = .ok (.newarray .int, 2) := by decide +kernel
theorem dX11_init_34 : decode cX11_init 34 = .ok (.putfield 23, 3) := by decide +kernel
theorem dX11_init_37 : decode cX11_init 37 = .ok (.aload_n 0, 1) := by decide +kernel
theorem dX11_init_38 : decode cX11_init 38 = .ok (.iconst 4, 1) := by decide +kernel
theorem dX11_init_39 : decode cX11_init 39 = .ok (.newarray .int, 2) := by decide +kernel
theorem dX11_init_41 : decode cX11_init 41 = .ok (.putfield 26, 3) := by decide +kernel
theorem dX11_init_44 : decode cX11_init 44 = .ok (.aload_n 0, 1) := by decide +kernel
theorem dX11_init_45 : decode cX11_init 45 = .ok (.iconst 4, 1) := by decide +kernel
theorem dX11_init_46 : decode cX11_init 46 = .ok (.newarray .int, 2) := by decide +kernel
theorem dX11_init_48 : decode cX11_init 48 = .ok (.putfield 29, 3) := by decide +kernel
theorem dX11_init_51 : decode cX11_init 51 = .ok (.aload_n 0, 1) := by decide +kernel
theorem dX11_init_52 : decode cX11_init 52 = .ok (.iconst 4, 1) := by decide +kernel
theorem dX11_init_53 : decode cX11_init 53 = .ok (.newarray .int, 2) := by decide +kernel
theorem dX11_init_55 : decode cX11_init 55 = .ok (.putfield 32, 3) := by decide +kernel
theorem dX11_init_58 : decode cX11_init 58 = .ok (.aload_n 0, 1) := by decide +kernel
theorem dX11_init_59 : decode cX11_init 59 = .ok (.sipush 330, 3) := by decide +kernel
theorem dX11_init_62 : decode cX11_init 62 = .ok (.newarray .long, 2) := by decide +kernel
theorem dX11_init_64 : decode cX11_init 64 = .ok (.putfield 35, 3) := by decide +kernel
theorem dX11_init_67 : decode cX11_init 67 = .ok (.aload_n 0, 1) := by decide +kernel
theorem dX11_init_68 : decode cX11_init 68 = .ok (.sipush 330, 3) := by decide +kernel
theorem dX11_init_71 : decode cX11_init 71 = .ok (.newarray .long, 2) := by decide +kernel
theorem dX11_init_73 : decode cX11_init 73 = .ok (.putfield 39, 3) := by decide +kernel
theorem dX11_init_76 : decode cX11_init 76 = .ok (.aload_n 0, 1) := by decide +kernel
theorem dX11_init_77 : decode cX11_init 77 = .ok (.sipush 330, 3) := by decide +kernel
theorem dX11_init_80 : decode cX11_init 80 = .ok (.newarray .long, 2) := by decide +kernel
theorem dX11_init_82 : decode cX11_init 82 = .ok (.putfield 42, 3) := by decide +kernel
theorem dX11_init_85 : decode cX11_init 85 = .ok (.aload_n 0, 1) := by decide +kernel
theorem dX11_init_86 : decode cX11_init 86 = .ok (.sipush 330, 3) := by decide +kernel
theorem dX11_init_89 : decode cX11_init 89 = .ok (.newarray .int, 2) := by decide +kernel
theorem dX11_init_91 : decode cX11_init 91 = .ok (.putfield 45, 3) := by decide +kernel
theorem dX11_init_94 : decode cX11_init 94 = .ok (.aload_n 0, 1) := by decide +kernel
theorem dX11_init_95 : decode cX11_init 95 = .ok (.sipush 330, 3) := by decide +kernel
theorem dX11_init_98 : decode cX11_init 98 = .ok (.newarray .int, 2) := by decide +kernel
theorem dX11_init_100 : decode cX11_init 100 = .ok (.putfield 48, 3) := by decide +kernel
theorem dX11_init_103 : decode cX11_init 103 = .ok (.aload_n 0, 1) := by decide +kernel
theorem dX11_init_104 : decode cX11_init 104 = .ok (.sipush 330, 3) := by decide +kernel
theorem dX11_init_107 : decode cX11_init 107 = .ok (.newarray .int, 2) := by decide +kernel
theorem dX11_init_109 : decode cX11_init 109 = .ok (.putfield 51, 3) := by decide +kernel
theorem dX11_init_112 : decode cX11_init 112 = .ok (.aload_n 0, 1) := by decide +kernel
theorem dX11_init_113 : decode cX11_init 113 = .ok (.sipush 330, 3) := by decide +kernel
theorem dX11_init_116 : decode cX11_init 116 = .ok (.newarray .int, 2) := by decide +kernel
theorem dX11_init_118 : decode cX11_init 118 = .ok (.putfield 54, 3) := by decide +kernel
theorem dX11_init_121 : decode cX11_init 121 = .ok (.aload_n 0, 1) := by decide +kernel
theorem dX11_init_122 : decode cX11_init 122 = .ok (.sipush 8000, 3) := by decide +kernel
theorem dX11_init_125 : decode cX11_init 125 = .ok (.newarray .int, 2) := by decide +kernel
theorem dX11_init_127 : decode cX11_init 127 = .ok (.putfield 57, 3) := by decide +kernel
theorem dX11_init_130 : decode cX11_init 130 = .ok (.aload_n 0, 1) := by decide +kernel
theorem dX11_init_131 : decode cX11_init 131 = .ok (.sipush 8000, 3) := by decide +kernel
theorem dX11_init_134 : decode cX11_init 134 = .ok (.newarray .int, 2) := by decide +kernel
theorem dX11_init_136 : decode cX11_init 136 = .ok (.putfield 60, 3) := by decide +kernel
theorem dX11_init_139 : decode cX11_init 139 = .ok (.aload_n 0, 1) := by decide +kernel
theorem dX11_init_140 : decode cX11_init 140 = .ok (.bipush 24, 2) := by decide +kernel
theorem dX11_init_142 : decode cX11_init 142 = .ok (.newarray .int, 2) := by decide +kernel
theorem dX11_init_144 : decode cX11_init 144 = .ok (.putfield 63, 3) := by decide +kernel
theorem dX11_init_147 : decode cX11_init 147 = .ok (.aload_n 0, 1) := by decide +kernel
theorem dX11_init_148 : decode cX11_init 148 = .ok (.bipush 24, 2) := by decide +kernel
theorem dX11_init_150 : decode cX11_init 150 = .ok (.newarray .long, 2) := by decide +kernel
theorem dX11_init_152 : decode cX11_init 152 = .ok (.putfield 66, 3) := by decide +kernel
theorem dX11_init_155 : decode cX11_init 155 = .ok (.aload_n 0, 1) := by decide +kernel
theorem dX11_init_156 : decode cX11_init 156 = .ok (.bipush 24, 2) := by decide +kernel
theorem dX11_init_158 : decode cX11_init 158 = .ok (.newarray .long, 2) := by decide +kernel
theorem dX11_init_160 : decode cX11_init 160 = .ok (.putfield 69, 3) := by decide +kernel
theorem dX11_init_163 : decode cX11_init 163 = .ok (.aload_n 0, 1) := by decide +kernel
theorem dX11_init_164 : decode cX11_init 164 = .ok (.sipush 400, 3) := by decide +kernel
theorem dX11_init_167 : decode cX11_init 167 = .ok (.newarray .byte, 2) := by decide +kernel
theorem dX11_init_169 : decode cX11_init 169 = .ok (.putfield 72, 3) := by decide +kernel
theorem dX11_init_172 : decode cX11_init 172 = .ok (.aload_n 0, 1) := by decide +kernel
theorem dX11_init_173 : decode cX11_init 173 = .ok (.iconst (-1), 1) := by decide +kernel
theorem dX11_init_174 : decode cX11_init 174 = .ok (.putfield 76, 3) := by decide +kernel
theorem dX11_init_177 : decode cX11_init 177 = .ok (.aload_n 0, 1) := by decide +kernel
theorem dX11_init_178 : decode cX11_init 178 = .ok (.iconst 5, 1) := by decide +kernel
theorem dX11_init_179 : decode cX11_init 179 = .ok (.newarray .int, 2) := by decide +kernel
theorem dX11_init_181 : decode cX11_init 181 = .ok (.putfield 79, 3) := by decide +kernel
theorem dX11_init_184 : decode cX11_init 184 = .ok (.aload_n 0, 1) := by decide +kernel
theorem dX11_init_185 : decode cX11_init 185 = .ok (.iconst 5, 1) := by decide +kernel
theorem dX11_init_186 : decode cX11_init 186 = .ok (.newarray .int, 2) := by decide +kernel
theorem dX11_init_188 : decode cX11_init 188 = .ok (.putfield 82, 3) := by decide +kernel
theorem dX11_init_191 : decode cX11_init 191 = .ok (.aload_n 0, 1) := by decide +kernel
theorem dX11_init_192 : decode cX11_init 192 = .ok (.sipush 330, 3) := by decide +kernel
theorem dX11_init_195 : decode cX11_init 195 = .ok (.newarray .int, 2) := by decide +kernel
theorem dX11_init_197 : decode cX11_init 197 = .ok (.putfield 85, 3) := by decide +kernel
theorem dX11_init_200 : decode cX11_init 200 = .ok (.aload_n 0, 1) := by decide +kernel
theorem dX11_init_201 : decode cX11_init 201 = .ok (.sipush 330, 3) := by decide +kernel
theorem dX11_init_204 : decode cX11_init 204 = .ok (.newarray .int, 2) := by decide +kernel
theorem dX11_init_206 : decode cX11_init 206 = .ok (.putfield 88, 3) := by decide +kernel
theorem dX11_init_209 : decode cX11_init 209 = .ok (.aload_n 0, 1) := by decide +kernel
theorem dX11_init_210 : decode cX11_init 210 = .ok (.bipush 48, 2) := by decide +kernel
theorem dX11_init_212 : decode cX11_init 212 = .ok (.newarray .int, 2) := by decide +kernel
theorem dX11_init_214 : decode cX11_init 214 = .ok (.putfield 91, 3) := by decide +kernel
theorem dX11_init_217 : decode cX11_init 217 = .ok (.aload_n 0, 1) := by decide +kernel
theorem dX11_init_218 : decode cX11_init 218 = .ok (.bipush 48, 2) := by decide +kernel
theorem dX11_init_220 : decode cX11_init 220 = .ok (.newarray .int, 2) := by decide +kernel
theorem dX11_init_222 : decode cX11_init 222 = .ok (.putfield 94, 3) := by decide +kernel
theorem dX11_init_225 : decode cX11_init 225 = .ok (.aload_n 0, 1) := by decide +kernel
theorem dX11_init_226 : decode cX11_init 226 = .ok (.bipush 48, 2) := by decide +kernel
theorem dX11_init_228 : decode cX11_init 228 = .ok (.newarray .int, 2) := by decide +kernel
theorem dX11_init_230 : decode cX11_init 230 = .ok (.putfield 97, 3) := by decide +kernel
theorem dX11_init_233 : decode cX11_init 233 = .ok (.aload_n 0, 1) := by decide +kernel
theorem dX11_init_234 : decode cX11_init 234 = .ok (.bipush 48, 2) := by decide +kernel
theorem dX11_init_236 : decode cX11_init 236 = .ok (.newarray .int, 2) := by decide +kernel
theorem dX11_init_238 : decode cX11_init 238 = .ok (.putfield 100, 3) := by decide +kernel
theorem dX11_init_241 : decode cX11_init 241 = .ok (.aload_n 0, 1) := by decide +kernel
theorem dX11_init_242 : decode cX11_init 242 = .ok (.sipush 330, 3) := by decide +kernel
theorem dX11_init_245 : decode cX11_init 245 = .ok (.newarray .int, 2) := by decide +kernel
theorem dX11_init_247 : decode cX11_init 247 = .ok (.putfield 103, 3) := by decide +kernel
theorem dX11_init_250 : decode cX11_init 250 = .ok (.aload_n 0, 1) := by decide +kernel
theorem dX11_init_251 : decode cX11_init 251 = .ok (.sipush 7920, 3) := by decide +kernel
theorem dX11_init_254 : decode cX11_init 254 = .ok (.newarray .int, 2) := by decide +kernel
theorem dX11_init_256 : decode cX11_init 256 = .ok (.putfield 106, 3) := by decide +kernel
theorem dX11_init_259 : decode cX11_init 259 = .ok (.return_, 1) := by decide +kernel
theorem dX11_copies_0 : decode cX11_copies 0 = .ok (.iconst 0, 1) := by decide +kernel
theorem dX11_copies_1 : decode cX11_copies 1 = .ok (.istore 4, 2) := by decide +kernel
theorem dX11_copies_3 : decode cX11_copies 3 = .ok (.iload 4, 2) := by decide +kernel
theorem dX11_copies_5 : decode cX11_copies 5 = .ok (.bipush 121, 2) := by decide +kernel
theorem dX11_copies_7 : decode cX11_copies 7 = .ok (.if_icmp .ge 21, 3) := by decide +kernel
theorem dX11_copies_10 : decode cX11_copies 10 = .ok (.aload_n 2, 1) := by decide +kernel
theorem dX11_copies_11 : decode cX11_copies 11 = .ok (.iload_n 3, 1) := by decide +kernel
theorem dX11_copies_12 : decode cX11_copies 12 = .ok (.iload 4, 2) := by decide +kernel
theorem dX11_copies_14 : decode cX11_copies 14 = .ok (.iadd, 1) := by decide +kernel
theorem dX11_copies_15 : decode cX11_copies 15 = .ok (.aload_n 0, 1) := by decide +kernel
theorem dX11_copies_16 : decode cX11_copies 16 = .ok (.iload_n 1, 1) := by decide +kernel
theorem dX11_copies_17 : decode cX11_copies 17 = .ok (.iload 4, 2) := by decide +kernel
theorem dX11_copies_19 : decode cX11_copies 19 = .ok (.iadd, 1) := by decide +kernel
theorem dX11_copies_20 : decode cX11_copies 20 = .ok (.iaload, 1) := by decide +kernel
theorem dX11_copies_21 : decode cX11_copies 21 = .ok (.iastore, 1) := by decide +kernel
theorem dX11_copies_22 : decode cX11_copies 22 = .ok (.iinc 4 1, 3) := by decide +kernel
theorem dX11_copies_25 : decode cX11_copies 25 = .ok (.goto (-22), 3) := by decide +kernel
theorem dX11_copies_28 : decode cX11_copies 28 = .ok (.return_, 1) := by decide +kernel
theorem dX11_many_0 : decode cX11_many 0 = .ok (.aload_n 0, 1) := by decide +kernel
theorem dX11_many_1 : decode cX11_many 1 = .ok (.getfield 13, 3) := by decide +kernel
theorem dX11_many_4 : decode cX11_many 4 = .ok (.iconst 0, 1) := by decide +kernel
theorem dX11_many_5 : decode cX11_many 5 = .ok (.iaload, 1) := by decide +kernel
theorem dX11_many_6 : decode cX11_many 6 = .ok (.ireturn, 1) := by decide +kernel
theorem dX11_of_0 : decode cX11_of 0 = .ok (.aload_n 0, 1) := by decide +kernel
theorem dX11_of_1 : decode cX11_of 1 = .ok (.getfield 13, 3) := by decide +kernel
theorem dX11_of_4 : decode cX11_of 4 = .ok (.iconst 1, 1) := by decide +kernel
theorem dX11_of_5 : decode cX11_of 5 = .ok (.iconst 5, 1) := by decide +kernel
theorem dX11_of_6 : decode cX11_of 6 = .ok (.iload_n 1, 1) := by decide +kernel
theorem dX11_of_7 : decode cX11_of 7 = .ok (.imul, 1) := by decide +kernel
theorem dX11_of_8 : decode cX11_of 8 = .ok (.iadd, 1) := by decide +kernel
theorem dX11_of_9 : decode cX11_of 9 = .ok (.iload_n 2, 1) := by decide +kernel
theorem dX11_of_10 : decode cX11_of 10 = .ok (.iadd, 1) := by decide +kernel
theorem dX11_of_11 : decode cX11_of 11 = .ok (.iaload, 1) := by decide +kernel
theorem dX11_of_12 : decode cX11_of 12 = .ok (.ireturn, 1) := by decide +kernel
theorem dX11_puts_0 : decode cX11_puts 0 = .ok (.iload_n 2, 1) := by decide +kernel
theorem dX11_puts_1 : decode cX11_puts 1 = .ok (.iload 4, 2) := by decide +kernel
theorem dX11_puts_3 : decode cX11_puts 3 = .ok (.if_icmp .lt 15, 3) := by decide +kernel
theorem dX11_puts_6 : decode cX11_puts 6 = .ok (.iload_n 2, 1) := by decide +kernel
theorem dX11_puts_7 : decode cX11_puts 7 = .ok (.iload 4, 2) := by decide +kernel
theorem dX11_puts_9 : decode cX11_puts 9 = .ok (.if_icmp .ne 13, 3) := by decide +kernel
theorem dX11_puts_12 : decode cX11_puts 12 = .ok (.iload_n 3, 1) := by decide +kernel
theorem dX11_puts_13 : decode cX11_puts 13 = .ok (.iload 5, 2) := by decide +kernel
theorem dX11_puts_15 : decode cX11_puts 15 = .ok (.if_icmp .gt 7, 3) := by decide +kernel
theorem dX11_puts_18 : decode cX11_puts 18 = .ok (.iconst 1, 1) := by decide +kernel
theorem dX11_puts_19 : decode cX11_puts 19 = .ok (.goto 4, 3) := by decide +kernel
theorem dX11_puts_22 : decode cX11_puts 22 = .ok (.iconst 0, 1) := by decide +kernel
theorem dX11_puts_23 : decode cX11_puts 23 = .ok (.istore 7, 2) := by decide +kernel
theorem dX11_puts_25 : decode cX11_puts 25 = .ok (.iconst 1, 1) := by decide +kernel
theorem dX11_puts_26 : decode cX11_puts 26 = .ok (.iconst 5, 1) := by decide +kernel
theorem dX11_puts_27 : decode cX11_puts 27 = .ok (.iload_n 1, 1) := by decide +kernel
theorem dX11_puts_28 : decode cX11_puts 28 = .ok (.imul, 1) := by decide +kernel
theorem dX11_puts_29 : decode cX11_puts 29 = .ok (.iadd, 1) := by decide +kernel
theorem dX11_puts_30 : decode cX11_puts 30 = .ok (.istore 8, 2) := by decide +kernel
theorem dX11_puts_32 : decode cX11_puts 32 = .ok (.aload_n 0, 1) := by decide +kernel
theorem dX11_puts_33 : decode cX11_puts 33 = .ok (.getfield 13, 3) := by decide +kernel
theorem dX11_puts_36 : decode cX11_puts 36 = .ok (.iload 8, 2) := by decide +kernel
theorem dX11_puts_38 : decode cX11_puts 38 = .ok (.iconst 0, 1) := by decide +kernel
theorem dX11_puts_39 : decode cX11_puts 39 = .ok (.iadd, 1) := by decide +kernel
theorem dX11_puts_40 : decode cX11_puts 40 = .ok (.iload 7, 2) := by decide +kernel
theorem dX11_puts_42 : decode cX11_puts 42 = .ok (.ifCond .eq 7, 3) := by decide +kernel
theorem dX11_puts_45 : decode cX11_puts 45 = .ok (.iload_n 2, 1) := by decide +kernel
theorem dX11_puts_46 : decode cX11_puts 46 = .ok (.goto 5, 3) := by decide +kernel
theorem dX11_puts_49 : decode cX11_puts 49 = .ok (.iload 4, 2) := by decide +kernel
theorem dX11_puts_51 : decode cX11_puts 51 = .ok (.iastore, 1) := by decide +kernel
theorem dX11_puts_52 : decode cX11_puts 52 = .ok (.aload_n 0, 1) := by decide +kernel
theorem dX11_puts_53 : decode cX11_puts 53 = .ok (.getfield 13, 3) := by decide +kernel
theorem dX11_puts_56 : decode cX11_puts 56 = .ok (.iload 8, 2) := by decide +kernel
theorem dX11_puts_58 : decode cX11_puts 58 = .ok (.iconst 1, 1) := by decide +kernel
theorem dX11_puts_59 : decode cX11_puts 59 = .ok (.iadd, 1) := by decide +kernel
theorem dX11_puts_60 : decode cX11_puts 60 = .ok (.iload 7, 2) := by decide +kernel
theorem dX11_puts_62 : decode cX11_puts 62 = .ok (.ifCond .eq 7, 3) := by decide +kernel
theorem dX11_puts_65 : decode cX11_puts 65 = .ok (.iload_n 3, 1) := by decide +kernel
theorem dX11_puts_66 : decode cX11_puts 66 = .ok (.goto 5, 3) := by decide +kernel
theorem dX11_puts_69 : decode cX11_puts 69 = .ok (.iload 5, 2) := by decide +kernel
theorem dX11_puts_71 : decode cX11_puts 71 = .ok (.iastore, 1) := by decide +kernel
theorem dX11_puts_72 : decode cX11_puts 72 = .ok (.aload_n 0, 1) := by decide +kernel
theorem dX11_puts_73 : decode cX11_puts 73 = .ok (.getfield 13, 3) := by decide +kernel
theorem dX11_puts_76 : decode cX11_puts 76 = .ok (.iload 8, 2) := by decide +kernel
theorem dX11_puts_78 : decode cX11_puts 78 = .ok (.iconst 2, 1) := by decide +kernel
theorem dX11_puts_79 : decode cX11_puts 79 = .ok (.iadd, 1) := by decide +kernel
theorem dX11_puts_80 : decode cX11_puts 80 = .ok (.iload 7, 2) := by decide +kernel
theorem dX11_puts_82 : decode cX11_puts 82 = .ok (.ifCond .eq 8, 3) := by decide +kernel
theorem dX11_puts_85 : decode cX11_puts 85 = .ok (.iload 4, 2) := by decide +kernel
theorem dX11_puts_87 : decode cX11_puts 87 = .ok (.goto 4, 3) := by decide +kernel
theorem dX11_puts_90 : decode cX11_puts 90 = .ok (.iload_n 2, 1) := by decide +kernel
theorem dX11_puts_91 : decode cX11_puts 91 = .ok (.iastore, 1) := by decide +kernel
theorem dX11_puts_92 : decode cX11_puts 92 = .ok (.aload_n 0, 1) := by decide +kernel
theorem dX11_puts_93 : decode cX11_puts 93 = .ok (.getfield 13, 3) := by decide +kernel
theorem dX11_puts_96 : decode cX11_puts 96 = .ok (.iload 8, 2) := by decide +kernel
theorem dX11_puts_98 : decode cX11_puts 98 = .ok (.iconst 3, 1) := by decide +kernel
theorem dX11_puts_99 : decode cX11_puts 99 = .ok (.iadd, 1) := by decide +kernel
theorem dX11_puts_100 : decode cX11_puts 100 = .ok (.iload 7, 2) := by decide +kernel
theorem dX11_puts_102 : decode cX11_puts 102 = .ok (.ifCond .eq 8, 3) := by decide +kernel
theorem dX11_puts_105 : decode cX11_puts 105 = .ok (.iload 5, 2) := by decide +kernel
theorem dX11_puts_107 : decode cX11_puts 107 = .ok (.goto 4, 3) := by decide +kernel
theorem dX11_puts_110 : decode cX11_puts 110 = .ok (.iload_n 3, 1) := by decide +kernel
theorem dX11_puts_111 : decode cX11_puts 111 = .ok (.iastore, 1) := by decide +kernel
theorem dX11_puts_112 : decode cX11_puts 112 = .ok (.aload_n 0, 1) := by decide +kernel
theorem dX11_puts_113 : decode cX11_puts 113 = .ok (.getfield 13, 3) := by decide +kernel
theorem dX11_puts_116 : decode cX11_puts 116 = .ok (.iload 8, 2) := by decide +kernel
theorem dX11_puts_118 : decode cX11_puts 118 = .ok (.iconst 4, 1) := by decide +kernel
theorem dX11_puts_119 : decode cX11_puts 119 = .ok (.iadd, 1) := by decide +kernel
theorem dX11_puts_120 : decode cX11_puts 120 = .ok (.iload 6, 2) := by decide +kernel
theorem dX11_puts_122 : decode cX11_puts 122 = .ok (.iastore, 1) := by decide +kernel
theorem dX11_puts_123 : decode cX11_puts 123 = .ok (.aload_n 0, 1) := by decide +kernel
theorem dX11_puts_124 : decode cX11_puts 124 = .ok (.iconst 0, 1) := by decide +kernel
theorem dX11_puts_125 : decode cX11_puts 125 = .ok (.putfield 109, 3) := by decide +kernel
theorem dX11_puts_128 : decode cX11_puts 128 = .ok (.return_, 1) := by decide +kernel
theorem dX11_remembers_0 : decode cX11_remembers 0 = .ok (.aload_n 0, 1) := by decide +kernel
theorem dX11_remembers_1 : decode cX11_remembers 1 = .ok (.getfield 113, 3) := by decide +kernel
theorem dX11_remembers_4 : decode cX11_remembers 4 = .ok (.bipush 8, 2) := by decide +kernel
theorem dX11_remembers_6 : decode cX11_remembers 6 = .ok (.if_icmp .ne 48, 3) := by decide +kernel
theorem dX11_remembers_9 : decode cX11_remembers 9 = .ok (.iconst 1, 1) := by decide +kernel
theorem dX11_remembers_10 : decode cX11_remembers 10 = .ok (.istore_n 1, 1) := by decide +kernel
theorem dX11_remembers_11 : decode cX11_remembers 11 = .ok (.iload_n 1, 1) := by decide +kernel
theorem dX11_remembers_12 : decode cX11_remembers 12 = .ok (.bipush 8, 2) := by decide +kernel
theorem dX11_remembers_14 : decode cX11_remembers 14 = .ok (.if_icmp .ge 30, 3) := by decide +kernel
theorem dX11_remembers_17 : decode cX11_remembers 17 = .ok (.aload_n 0, 1) := by decide +kernel
theorem dX11_remembers_18 : decode cX11_remembers 18 = .ok (.getfield 23, 3) := by decide +kernel
theorem dX11_remembers_21 : decode cX11_remembers 21 = .ok (.bipush 121, 2) := by decide +kernel
theorem dX11_remembers_23 : decode cX11_remembers 23 = .ok (.iload_n 1, 1) := by decide +kernel
theorem dX11_remembers_24 : decode cX11_remembers 24 = .ok (.imul, 1) := by decide +kernel
theorem dX11_remembers_25 : decode cX11_remembers 25 = .ok (.aload_n 0, 1) := by decide +kernel
theorem dX11_remembers_26 : decode cX11_remembers 26 = .ok (.getfield 23, 3) := by decide +kernel
theorem dX11_remembers_29 : decode cX11_remembers 29 = .ok (.bipush 121, 2) := by decide +kernel
theorem dX11_remembers_31 : decode cX11_remembers 31 = .ok (.iload_n 1, 1) := by decide +kernel
theorem dX11_remembers_32 : decode cX11_remembers 32 = .ok (.iconst 1, 1) := by decide +kernel
theorem dX11_remembers_33 : decode cX11_remembers 33 = .ok (.isub, 1) := by decide +kernel
theorem dX11_remembers_34 : decode cX11_remembers 34 = .ok (.imul, 1) := by decide +kernel
theorem dX11_remembers_35 : decode cX11_remembers 35 = .ok (.invokestatic 116, 3) := by decide +kernel
theorem dX11_remembers_38 : decode cX11_remembers 38 = .ok (.iinc 1 1, 3) := by decide +kernel
theorem dX11_remembers_41 : decode cX11_remembers 41 = .ok (.goto (-30), 3) := by decide +kernel
theorem dX11_remembers_44 : decode cX11_remembers 44 = .ok (.aload_n 0, 1) := by decide +kernel
theorem dX11_remembers_45 : decode cX11_remembers 45 = .ok (.dup, 1) := by decide +kernel
theorem dX11_remembers_46 : decode cX11_remembers 46 = .ok (.getfield 113, 3) := by decide +kernel
theorem dX11_remembers_49 : decode cX11_remembers 49 = .ok (.iconst 1, 1) := by decide +kernel
theorem dX11_remembers_50 : decode cX11_remembers 50 = .ok (.isub, 1) := by decide +kernel
theorem dX11_remembers_51 : decode cX11_remembers 51 = .ok (.putfield 113, 3) := by decide +kernel
theorem dX11_remembers_54 : decode cX11_remembers 54 = .ok (.aload_n 0, 1) := by decide +kernel
theorem dX11_remembers_55 : decode cX11_remembers 55 = .ok (.getfield 13, 3) := by decide +kernel
theorem dX11_remembers_58 : decode cX11_remembers 58 = .ok (.iconst 0, 1) := by decide +kernel
theorem dX11_remembers_59 : decode cX11_remembers 59 = .ok (.aload_n 0, 1) := by decide +kernel
theorem dX11_remembers_60 : decode cX11_remembers 60 = .ok (.getfield 23, 3) := by decide +kernel
theorem dX11_remembers_63 : decode cX11_remembers 63 = .ok (.bipush 121, 2) := by decide +kernel
theorem dX11_remembers_65 : decode cX11_remembers 65 = .ok (.aload_n 0, 1) := by decide +kernel
theorem dX11_remembers_66 : decode cX11_remembers 66 = .ok (.getfield 113, 3) := by decide +kernel
theorem dX11_remembers_69 : decode cX11_remembers 69 = .ok (.imul, 1) := by decide +kernel
theorem dX11_remembers_70 : decode cX11_remembers 70 = .ok (.invokestatic 116, 3) := by decide +kernel
theorem dX11_remembers_73 : decode cX11_remembers 73 = .ok (.aload_n 0, 1) := by decide +kernel
theorem dX11_remembers_74 : decode cX11_remembers 74 = .ok (.dup, 1) := by decide +kernel
theorem dX11_remembers_75 : decode cX11_remembers 75 = .ok (.getfield 113, 3) := by decide +kernel
theorem dX11_remembers_78 : decode cX11_remembers 78 = .ok (.iconst 1, 1) := by decide +kernel
theorem dX11_remembers_79 : decode cX11_remembers 79 = .ok (.iadd, 1) := by decide +kernel
theorem dX11_remembers_80 : decode cX11_remembers 80 = .ok (.putfield 113, 3) := by decide +kernel
theorem dX11_remembers_83 : decode cX11_remembers 83 = .ok (.return_, 1) := by decide +kernel
theorem dX11_undo_0 : decode cX11_undo 0 = .ok (.aload_n 0, 1) := by decide +kernel
theorem dX11_undo_1 : decode cX11_undo 1 = .ok (.iconst 0, 1) := by decide +kernel
theorem dX11_undo_2 : decode cX11_undo 2 = .ok (.putfield 3, 3) := by decide +kernel
theorem dX11_undo_5 : decode cX11_undo 5 = .ok (.aload_n 0, 1) := by decide +kernel
theorem dX11_undo_6 : decode cX11_undo 6 = .ok (.aload_n 0, 1) := by decide +kernel
theorem dX11_undo_7 : decode cX11_undo 7 = .ok (.getfield 113, 3) := by decide +kernel
theorem dX11_undo_10 : decode cX11_undo 10 = .ok (.ifCond .ne 7, 3) := by decide +kernel
theorem dX11_undo_13 : decode cX11_undo 13 = .ok (.iconst 1, 1) := by decide +kernel
theorem dX11_undo_14 : decode cX11_undo 14 = .ok (.goto 4, 3) := by decide +kernel
theorem dX11_undo_17 : decode cX11_undo 17 = .ok (.iconst 0, 1) := by decide +kernel
theorem dX11_undo_18 : decode cX11_undo 18 = .ok (.iconst 1, 1) := by decide +kernel
theorem dX11_undo_19 : decode cX11_undo 19 = .ok (.invokevirtual 120, 3) := by decide +kernel
theorem dX11_undo_22 : decode cX11_undo 22 = .ok (.ifCond .eq 5, 3) := by decide +kernel
theorem dX11_undo_25 : decode cX11_undo 25 = .ok (.iconst 0, 1) := by decide +kernel
theorem dX11_undo_26 : decode cX11_undo 26 = .ok (.ireturn, 1) := by decide +kernel
theorem dX11_undo_27 : decode cX11_undo 27 = .ok (.aload_n 0, 1) := by decide +kernel
theorem dX11_undo_28 : decode cX11_undo 28 = .ok (.dup, 1) := by decide +kernel
theorem dX11_undo_29 : decode cX11_undo 29 = .ok (.getfield 113, 3) := by decide +kernel
theorem dX11_undo_32 : decode cX11_undo 32 = .ok (.iconst 1, 1) := by decide +kernel
theorem dX11_undo_33 : decode cX11_undo 33 = .ok (.isub, 1) := by decide +kernel
theorem dX11_undo_34 : decode cX11_undo 34 = .ok (.putfield 113, 3) := by decide +kernel
theorem dX11_undo_37 : decode cX11_undo 37 = .ok (.aload_n 0, 1) := by decide +kernel
theorem dX11_undo_38 : decode cX11_undo 38 = .ok (.getfield 23, 3) := by decide +kernel
theorem dX11_undo_41 : decode cX11_undo 41 = .ok (.bipush 121, 2) := by decide +kernel
theorem dX11_undo_43 : decode cX11_undo 43 = .ok (.aload_n 0, 1) := by decide +kernel
theorem dX11_undo_44 : decode cX11_undo 44 = .ok (.getfield 113, 3) := by decide +kernel
theorem dX11_undo_47 : decode cX11_undo 47 = .ok (.imul, 1) := by decide +kernel
theorem dX11_undo_48 : decode cX11_undo 48 = .ok (.aload_n 0, 1) := by decide +kernel
theorem dX11_undo_49 : decode cX11_undo 49 = .ok (.getfield 13, 3) := by decide +kernel
theorem dX11_undo_52 : decode cX11_undo 52 = .ok (.iconst 0, 1) := by decide +kernel
theorem dX11_undo_53 : decode cX11_undo 53 = .ok (.invokestatic 116, 3) := by decide +kernel
theorem dX11_undo_56 : decode cX11_undo 56 = .ok (.aload_n 0, 1) := by decide +kernel
theorem dX11_undo_57 : decode cX11_undo 57 = .ok (.iconst 0, 1) := by decide +kernel
theorem dX11_undo_58 : decode cX11_undo 58 = .ok (.putfield 109, 3) := by decide +kernel
theorem dX11_undo_61 : decode cX11_undo 61 = .ok (.aload_n 0, 1) := by decide +kernel
theorem dX11_undo_62 : decode cX11_undo 62 = .ok (.getfield 113, 3) := by decide +kernel
theorem dX11_undo_65 : decode cX11_undo 65 = .ok (.ireturn, 1) := by decide +kernel
theorem dX11_image_0 : decode cX11_image 0 = .ok (.aload_n 0, 1) := by decide +kernel
theorem dX11_image_1 : decode cX11_image 1 = .ok (.iconst 0, 1) := by decide +kernel
theorem dX11_image_2 : decode cX11_image 2 = .ok (.putfield 3, 3) := by decide +kernel
theorem dX11_image_5 : decode cX11_image 5 = .ok (.aload_n 0, 1) := by decide +kernel
theorem dX11_image_6 : decode cX11_image 6 = .ok (.getfield 13, 3) := by decide +kernel
theorem dX11_image_9 : decode cX11_image 9 = .ok (.iconst 0, 1) := by decide +kernel
theorem dX11_image_10 : decode cX11_image 10 = .ok (.aload_n 0, 1) := by decide +kernel
theorem dX11_image_11 : decode cX11_image 11 = .ok (.getfield 17, 3) := by decide +kernel
theorem dX11_image_14 : decode cX11_image 14 = .ok (.iconst 0, 1) := by decide +kernel
theorem dX11_image_15 : decode cX11_image 15 = .ok (.invokestatic 116, 3) := by decide +kernel
theorem dX11_image_18 : decode cX11_image 18 = .ok (.aload_n 0, 1) := by decide +kernel
theorem dX11_image_19 : decode cX11_image 19 = .ok (.iconst 1, 1) := by decide +kernel
theorem dX11_image_20 : decode cX11_image 20 = .ok (.putfield 124, 3) := by decide +kernel
theorem dX11_image_23 : decode cX11_image 23 = .ok (.return_, 1) := by decide +kernel
theorem dX11_back_0 : decode cX11_back 0 = .ok (.aload_n 0, 1) := by decide +kernel
theorem dX11_back_1 : decode cX11_back 1 = .ok (.iconst 0, 1) := by decide +kernel
theorem dX11_back_2 : decode cX11_back 2 = .ok (.putfield 3, 3) := by decide +kernel
theorem dX11_back_5 : decode cX11_back 5 = .ok (.aload_n 0, 1) := by decide +kernel
theorem dX11_back_6 : decode cX11_back 6 = .ok (.getfield 124, 3) := by decide +kernel
theorem dX11_back_9 : decode cX11_back 9 = .ok (.ifCond .ne 5, 3) := by decide +kernel
theorem dX11_back_12 : decode cX11_back 12 = .ok (.iconst 0, 1) := by decide +kernel
theorem dX11_back_13 : decode cX11_back 13 = .ok (.ireturn, 1) := by decide +kernel
theorem dX11_back_14 : decode cX11_back 14 = .ok (.aload_n 0, 1) := by decide +kernel
theorem dX11_back_15 : decode cX11_back 15 = .ok (.getfield 17, 3) := by decide +kernel
theorem dX11_back_18 : decode cX11_back 18 = .ok (.iconst 0, 1) := by decide +kernel
theorem dX11_back_19 : decode cX11_back 19 = .ok (.aload_n 0, 1) := by decide +kernel
theorem dX11_back_20 : decode cX11_back 20 = .ok (.getfield 13, 3) := by decide +kernel
theorem dX11_back_23 : decode cX11_back 23 = .ok (.iconst 0, 1) := by decide +kernel
theorem dX11_back_24 : decode cX11_back 24 = .ok (.invokestatic 116, 3) := by decide +kernel
theorem dX11_back_27 : decode cX11_back 27 = .ok (.aload_n 0, 1) := by decide +kernel
theorem dX11_back_28 : decode cX11_back 28 = .ok (.iconst 0, 1) := by decide +kernel
theorem dX11_back_29 : decode cX11_back 29 = .ok (.putfield 113, 3) := by decide +kernel
theorem dX11_back_32 : decode cX11_back 32 = .ok (.aload_n 0, 1) := by decide +kernel
theorem dX11_back_33 : decode cX11_back 33 = .ok (.iconst 0, 1) := by decide +kernel
theorem dX11_back_34 : decode cX11_back 34 = .ok (.putfield 109, 3) := by decide +kernel
theorem dX11_back_37 : decode cX11_back 37 = .ok (.iconst 1, 1) := by decide +kernel
theorem dX11_back_38 : decode cX11_back 38 = .ok (.ireturn, 1) := by decide +kernel
theorem dX11_takes_0 : decode cX11_takes 0 = .ok (.iconst 0, 1) := by decide +kernel
theorem dX11_takes_1 : decode cX11_takes 1 = .ok (.istore_n 3, 1) := by decide +kernel
theorem dX11_takes_2 : decode cX11_takes 2 = .ok (.iload_n 3, 1) := by decide +kernel
theorem dX11_takes_3 : decode cX11_takes 3 = .ok (.iconst 4, 1) := by decide +kernel
theorem dX11_takes_4 : decode cX11_takes 4 = .ok (.if_icmp .ge 18, 3) := by decide +kernel
theorem dX11_takes_7 : decode cX11_takes 7 = .ok (.aload_n 1, 1) := by decide +kernel
theorem dX11_takes_8 : decode cX11_takes 8 = .ok (.iload_n 3, 1) := by decide +kernel
theorem dX11_takes_9 : decode cX11_takes 9 = .ok (.aload_n 0, 1) := by decide +kernel
theorem dX11_takes_10 : decode cX11_takes 10 = .ok (.iload_n 2, 1) := by decide +kernel
theorem dX11_takes_11 : decode cX11_takes 11 = .ok (.iload_n 3, 1) := by decide +kernel
theorem dX11_takes_12 : decode cX11_takes 12 = .ok (.invokevirtual 127, 3) := by decide +kernel
theorem dX11_takes_15 : decode cX11_takes 15 = .ok (.iastore, 1) := by decide +kernel
theorem dX11_takes_16 : decode cX11_takes 16 = .ok (.iinc 3 1, 3) := by decide +kernel
theorem dX11_takes_19 : decode cX11_takes 19 = .ok (.goto (-17), 3) := by decide +kernel
theorem dX11_takes_22 : decode cX11_takes 22 = .ok (.return_, 1) := by decide +kernel
theorem dX11_isMere_0 : decode cX11_isMere 0 = .ok (.aload_n 0, 1) := by decide +kernel
theorem dX11_isMere_1 : decode cX11_isMere 1 = .ok (.iconst 0, 1) := by decide +kernel
theorem dX11_isMere_2 : decode cX11_isMere 2 = .ok (.iaload, 1) := by decide +kernel
theorem dX11_isMere_3 : decode cX11_isMere 3 = .ok (.aload_n 0, 1) := by decide +kernel
theorem dX11_isMere_4 : decode cX11_isMere 4 = .ok (.iconst 2, 1) := by decide +kernel
theorem dX11_isMere_5 : decode cX11_isMere 5 = .ok (.iaload, 1) := by decide +kernel
theorem dX11_isMere_6 : decode cX11_isMere 6 = .ok (.if_icmp .ne 16, 3) := by decide +kernel
theorem dX11_isMere_9 : decode cX11_isMere 9 = .ok (.aload_n 0, 1) := by decide +kernel
theorem dX11_isMere_10 : decode cX11_isMere 10 = .ok (.iconst 1, 1) := by decide +kernel
theorem dX11_isMere_11 : decode cX11_isMere 11 = .ok (.iaload, 1) := by decide +kernel
theorem dX11_isMere_12 : decode cX11_isMere 12 = .ok (.aload_n 0, 1) := by decide +kernel
theorem dX11_isMere_13 : decode cX11_isMere 13 = .ok (.iconst 3, 1) := by decide +kernel
theorem dX11_isMere_14 : decode cX11_isMere 14 = .ok (.iaload, 1) := by decide +kernel
theorem dX11_isMere_15 : decode cX11_isMere 15 = .ok (.if_icmp .ne 7, 3) := by decide +kernel
theorem dX11_isMere_18 : decode cX11_isMere 18 = .ok (.iconst 1, 1) := by decide +kernel
theorem dX11_isMere_19 : decode cX11_isMere 19 = .ok (.goto 4, 3) := by decide +kernel
theorem dX11_isMere_22 : decode cX11_isMere 22 = .ok (.iconst 0, 1) := by decide +kernel
theorem dX11_isMere_23 : decode cX11_isMere 23 = .ok (.ireturn, 1) := by decide +kernel
theorem dX11_isOn_0 : decode cX11_isOn 0 = .ok (.aload_n 0, 1) := by decide +kernel
theorem dX11_isOn_1 : decode cX11_isOn 1 = .ok (.iconst 2, 1) := by decide +kernel
theorem dX11_isOn_2 : decode cX11_isOn 2 = .ok (.iaload, 1) := by decide +kernel
theorem dX11_isOn_3 : decode cX11_isOn 3 = .ok (.aload_n 0, 1) := by decide +kernel
theorem dX11_isOn_4 : decode cX11_isOn 4 = .ok (.iconst 0, 1) := by decide +kernel
theorem dX11_isOn_5 : decode cX11_isOn 5 = .ok (.iaload, 1) := by decide +kernel
theorem dX11_isOn_6 : decode cX11_isOn 6 = .ok (.isub, 1) := by decide +kernel
theorem dX11_isOn_7 : decode cX11_isOn 7 = .ok (.i2l, 1) := by decide +kernel
theorem dX11_isOn_8 : decode cX11_isOn 8 = .ok (.lstore 7, 2) := by decide +kernel
theorem dX11_isOn_10 : decode cX11_isOn 10 = .ok (.aload_n 0, 1) := by decide +kernel
theorem dX11_isOn_11 : decode cX11_isOn 11 = .ok (.iconst 3, 1) := by decide +kernel
theorem dX11_isOn_12 : decode cX11_isOn 12 = .ok (.iaload, 1) := by decide +kernel
theorem dX11_isOn_13 : decode cX11_isOn 13 = .ok (.aload_n 0, 1) := by decide +kernel
theorem dX11_isOn_14 : decode cX11_isOn 14 = .ok (.iconst 1, 1) := by decide +kernel
theorem dX11_isOn_15 : decode cX11_isOn 15 = .ok (.iaload, 1) := by decide +kernel
theorem dX11_isOn_16 : decode cX11_isOn 16 = .ok (.isub, 1) := by decide +kernel
theorem dX11_isOn_17 : decode cX11_isOn 17 = .ok (.i2l, 1) := by decide +kernel
theorem dX11_isOn_18 : decode cX11_isOn 18 = .ok (.lstore 9, 2) := by decide +kernel
theorem dX11_isOn_20 : decode cX11_isOn 20 = .ok (.lload_n 1, 1) := by decide +kernel
theorem dX11_isOn_21 : decode cX11_isOn 21 = .ok (.aload_n 0, 1) := by decide +kernel
theorem dX11_isOn_22 : decode cX11_isOn 22 = .ok (.iconst 0, 1) := by decide +kernel
theorem dX11_isOn_23 : decode cX11_isOn 23 = .ok (.iaload, 1) := by decide +kernel
theorem dX11_isOn_24 : decode cX11_isOn 24 = .ok (.i2l, 1) := by decide +kernel
theorem dX11_isOn_25 : decode cX11_isOn 25 = .ok (.lload 5, 2) := by decide +kernel
theorem dX11_isOn_27 : decode cX11_isOn 27 = .ok (.lmul, 1) := by decide +kernel
theorem dX11_isOn_28 : decode cX11_isOn 28 = .ok (.lsub, 1) := by decide +kernel
theorem dX11_isOn_29 : decode cX11_isOn 29 = .ok (.lload 9, 2) := by decide +kernel
theorem dX11_isOn_31 : decode cX11_isOn 31 = .ok (.lmul, 1) := by decide +kernel
theorem dX11_isOn_32 : decode cX11_isOn 32 = .ok (.lload_n 3, 1) := by decide +kernel
theorem dX11_isOn_33 : decode cX11_isOn 33 = .ok (.aload_n 0, 1) := by decide +kernel
theorem dX11_isOn_34 : decode cX11_isOn 34 = .ok (.iconst 1, 1) := by decide +kernel
theorem dX11_isOn_35 : decode cX11_isOn 35 = .ok (.iaload, 1) := by decide +kernel
theorem dX11_isOn_36 : decode cX11_isOn 36 = .ok (.i2l, 1) := by decide +kernel
theorem dX11_isOn_37 : decode cX11_isOn 37 = .ok (.lload 5, 2) := by decide +kernel
theorem dX11_isOn_39 : decode cX11_isOn 39 = .ok (.lmul, 1) := by decide +kernel
theorem dX11_isOn_40 : decode cX11_isOn 40 = .ok (.lsub, 1) := by decide +kernel
theorem dX11_isOn_41 : decode cX11_isOn 41 = .ok (.lload 7, 2) := by decide +kernel
theorem dX11_isOn_43 : decode cX11_isOn 43 = .ok (.lmul, 1) := by decide +kernel
theorem dX11_isOn_44 : decode cX11_isOn 44 = .ok (.lcmp, 1) := by decide +kernel
theorem dX11_isOn_45 : decode cX11_isOn 45 = .ok (.ifCond .eq 5, 3) := by decide +kernel
theorem dX11_isOn_48 : decode cX11_isOn 48 = .ok (.iconst 0, 1) := by decide +kernel
theorem dX11_isOn_49 : decode cX11_isOn 49 = .ok (.ireturn, 1) := by decide +kernel
theorem dX11_isOn_50 : decode cX11_isOn 50 = .ok (.lload_n 1, 1) := by decide +kernel
theorem dX11_isOn_51 : decode cX11_isOn 51 = .ok (.aload_n 0, 1) := by decide +kernel
theorem dX11_isOn_52 : decode cX11_isOn 52 = .ok (.iconst 0, 1) := by decide +kernel
theorem dX11_isOn_53 : decode cX11_isOn 53 = .ok (.iaload, 1) := by decide +kernel
theorem dX11_isOn_54 : decode cX11_isOn 54 = .ok (.i2l, 1) := by decide +kernel
theorem dX11_isOn_55 : decode cX11_isOn 55 = .ok (.lload 5, 2) := by decide +kernel
theorem dX11_isOn_57 : decode cX11_isOn 57 = .ok (.lmul, 1) := by decide +kernel
theorem dX11_isOn_58 : decode cX11_isOn 58 = .ok (.aload_n 0, 1) := by decide +kernel
theorem dX11_isOn_59 : decode cX11_isOn 59 = .ok (.iconst 2, 1) := by decide +kernel
theorem dX11_isOn_60 : decode cX11_isOn 60 = .ok (.iaload, 1) := by decide +kernel
theorem dX11_isOn_61 : decode cX11_isOn 61 = .ok (.i2l, 1) := by decide +kernel
theorem dX11_isOn_62 : decode cX11_isOn 62 = .ok (.lload 5, 2) := by decide +kernel
theorem dX11_isOn_64 : decode cX11_isOn 64 = .ok (.lmul, 1) := by decide +kernel
theorem dX11_isOn_65 : decode cX11_isOn 65 = .ok (.invokestatic 131, 3) := by decide +kernel
theorem dX11_isOn_68 : decode cX11_isOn 68 = .ok (.ifCond .eq 40, 3) := by decide +kernel
theorem dX11_isOn_71 : decode cX11_isOn 71 = .ok (.lload_n 3, 1) := by decide +kernel
theorem dX11_isOn_72 : decode cX11_isOn 72 = .ok (.aload_n 0, 1) := by decide +kernel
theorem dX11_isOn_73 : decode cX11_isOn 73 = .ok (.iconst 1, 1) := by decide +kernel
theorem dX11_isOn_74 : decode cX11_isOn 74 = .ok (.iaload, 1) := by decide +kernel
theorem dX11_isOn_75 : decode cX11_isOn 75 = .ok (.aload_n 0, 1) := by decide +kernel
theorem dX11_isOn_76 : decode cX11_isOn 76 = .ok (.iconst 3, 1) := by decide +kernel
theorem dX11_isOn_77 : decode cX11_isOn 77 = .ok (.iaload, 1) := by decide +kernel
theorem dX11_isOn_78 : decode cX11_isOn 78 = .ok (.invokestatic 135, 3) := by decide +kernel
theorem dX11_isOn_81 : decode cX11_isOn 81 = .ok (.i2l, 1) := by decide +kernel
theorem dX11_isOn_82 : decode cX11_isOn 82 = .ok (.lload 5, 2) := by decide +kernel
theorem dX11_isOn_84 : decode cX11_isOn 84 = .ok (.lmul, 1) := by decide +kernel
theorem dX11_isOn_85 : decode cX11_isOn 85 = .ok (.aload_n 0, 1) := by decide +kernel
theorem dX11_isOn_86 : decode cX11_isOn 86 = .ok (.iconst 1, 1) := by decide +kernel
theorem dX11_isOn_87 : decode cX11_isOn 87 = .ok (.iaload, 1) := by decide +kernel
theorem dX11_isOn_88 : decode cX11_isOn 88 = .ok (.aload_n 0, 1) := by decide +kernel
theorem dX11_isOn_89 : decode cX11_isOn 89 = .ok (.iconst 3, 1) := by decide +kernel
theorem dX11_isOn_90 : decode cX11_isOn 90 = .ok (.iaload, 1) := by decide +kernel
theorem dX11_isOn_91 : decode cX11_isOn 91 = .ok (.invokestatic 140, 3) := by decide +kernel
theorem dX11_isOn_94 : decode cX11_isOn 94 = .ok (.i2l, 1) := by decide +kernel
theorem dX11_isOn_95 : decode cX11_isOn 95 = .ok (.lload 5, 2) := by decide +kernel
theorem dX11_isOn_97 : decode cX11_isOn 97 = .ok (.lmul, 1) := by decide +kernel
theorem dX11_isOn_98 : decode cX11_isOn 98 = .ok (.invokestatic 131, 3) := by decide +kernel
theorem dX11_isOn_101 : decode cX11_isOn 101 = .ok (.ifCond .eq 7, 3) := by decide +kernel
theorem dX11_isOn_104 : decode cX11_isOn 104 = .ok (.iconst 1, 1) := by decide +kernel
theorem dX11_isOn_105 : decode cX11_isOn 105 = .ok (.goto 4, 3) := by decide +kernel
theorem dX11_isOn_108 : decode cX11_isOn 108 = .ok (.iconst 0, 1) := by decide +kernel
theorem dX11_isOn_109 : decode cX11_isOn 109 = .ok (.ireturn, 1) := by decide +kernel
theorem dX11_sharesPoint_0 : decode cX11_sharesPoint 0 = .ok (.lload_n 1, 1) := by decide +kernel
theorem dX11_sharesPoint_1 : decode cX11_sharesPoint 1 = .ok (.lconst 0, 1) := by decide +kernel
theorem dX11_sharesPoint_2 : decode cX11_sharesPoint 2 = .ok (.lcmp, 1) := by decide +kernel
theorem dX11_sharesPoint_3 : decode cX11_sharesPoint 3 = .ok (.ifCond .ge 8, 3) := by decide +kernel
theorem dX11_sharesPoint_6 : decode cX11_sharesPoint 6 = .ok (.lload_n 1, 1) := by decide +kernel
theorem dX11_sharesPoint_7 : decode cX11_sharesPoint 7 = .ok (.lneg, 1) := by decide +kernel
theorem dX11_sharesPoint_8 : decode cX11_sharesPoint 8 = .ok (.goto 4, 3) := by decide +kernel
theorem dX11_sharesPoint_11 : decode cX11_sharesPoint 11 = .ok (.lload_n 1, 1) := by decide +kernel
theorem dX11_sharesPoint_12 : decode cX11_sharesPoint 12 = .ok (.lload_n 3, 1) := by decide +kernel
theorem dX11_sharesPoint_13 : decode cX11_sharesPoint 13 = .ok (.lconst 0, 1) := by decide +kernel
theorem dX11_sharesPoint_14 : decode cX11_sharesPoint 14 = .ok (.lcmp, 1) := by decide +kernel
theorem dX11_sharesPoint_15 : decode cX11_sharesPoint 15 = .ok (.ifCond .ge 8, 3) := by decide +kernel
theorem dX11_sharesPoint_18 : decode cX11_sharesPoint 18 = .ok (.lload_n 3, 1) := by decide +kernel
theorem dX11_sharesPoint_19 : decode cX11_sharesPoint 19 = .ok (.lneg, 1) := by decide +kernel
theorem dX11_sharesPoint_20 : decode cX11_sharesPoint 20 = .ok (.goto 4, 3) := by decide +kernel
theorem dX11_sharesPoint_23 : decode cX11_sharesPoint 23 = .ok (.lload_n 3, 1) := by decide +kernel
theorem dX11_sharesPoint_24 : decode cX11_sharesPoint 24 = .ok (.invokestatic 143, 3) := by decide +kernel
theorem dX11_sharesPoint_27 : decode cX11_sharesPoint 27 = .ok (.lload 5, 2) := by decide +kernel
theorem dX11_sharesPoint_29 : decode cX11_sharesPoint 29 = .ok (.invokestatic 143, 3) := by decide +kernel
theorem dX11_sharesPoint_32 : decode cX11_sharesPoint 32 = .ok (.lstore 7, 2) := by decide +kernel
theorem dX11_sharesPoint_34 : decode cX11_sharesPoint 34 = .ok (.aload_n 0, 1) := by decide +kernel
theorem dX11_sharesPoint_35 : decode cX11_sharesPoint 35 = .ok (.lload_n 1, 1) := by decide +kernel
theorem dX11_sharesPoint_36 : decode cX11_sharesPoint 36 = .ok (.lload 7, 2) := by decide +kernel
theorem dX11_sharesPoint_38 : decode cX11_sharesPoint 38 = .ok (.ldiv, 1) := by decide +kernel
theorem dX11_sharesPoint_39 : decode cX11_sharesPoint 39 = .ok (.putfield 147, 3) := by decide +kernel
theorem dX11_sharesPoint_42 : decode cX11_sharesPoint 42 = .ok (.aload_n 0, 1) := by decide +kernel
theorem dX11_sharesPoint_43 : decode cX11_sharesPoint 43 = .ok (.lload_n 3, 1) := by decide +kernel
theorem dX11_sharesPoint_44 : decode cX11_sharesPoint 44 = .ok (.lload 7, 2) := by decide +kernel
theorem dX11_sharesPoint_46 : decode cX11_sharesPoint 46 = .ok (.ldiv, 1) := by decide +kernel
theorem dX11_sharesPoint_47 : decode cX11_sharesPoint 47 = .ok (.putfield 151, 3) := by decide +kernel
theorem dX11_sharesPoint_50 : decode cX11_sharesPoint 50 = .ok (.aload_n 0, 1) := by decide +kernel
theorem dX11_sharesPoint_51 : decode cX11_sharesPoint 51 = .ok (.lload 5, 2) := by decide +kernel
theorem dX11_sharesPoint_53 : decode cX11_sharesPoint 53 = .ok (.lload 7, 2) := by decide +kernel
theorem dX11_sharesPoint_55 : decode cX11_sharesPoint 55 = .ok (.ldiv, 1) := by decide +kernel
theorem dX11_sharesPoint_56 : decode cX11_sharesPoint 56 = .ok (.putfield 154, 3) := by decide +kernel
theorem dX11_sharesPoint_59 : decode cX11_sharesPoint 59 = .ok (.iconst 1, 1) := by decide +kernel
theorem dX11_sharesPoint_60 : decode cX11_sharesPoint 60 = .ok (.ireturn, 1) := by decide +kernel
theorem dX11_common_0 : decode cX11_common 0 = .ok (.lload_n 0, 1) := by decide +kernel
theorem dX11_common_1 : decode cX11_common 1 = .ok (.lstore 4, 2) := by decide +kernel
theorem dX11_common_3 : decode cX11_common 3 = .ok (.lload_n 2, 1) := by decide +kernel
theorem dX11_common_4 : decode cX11_common 4 = .ok (.lstore 6, 2) := by decide +kernel
theorem dX11_common_6 : decode cX11_common 6 = .ok (.lload 6, 2) := by decide +kernel
theorem dX11_common_8 : decode cX11_common 8 = .ok (.lconst 0, 1) := by decide +kernel
theorem dX11_common_9 : decode cX11_common 9 = .ok (.lcmp, 1) := by decide +kernel
theorem dX11_common_10 : decode cX11_common 10 = .ok (.ifCond .eq 21, 3) := by decide +kernel
theorem dX11_common_13 : decode cX11_common 13 = .ok (.lload 4, 2) := by decide +kernel
theorem dX11_common_15 : decode cX11_common 15 = .ok (.lload 6, 2) := by decide +kernel
theorem dX11_common_17 : decode cX11_common 17 = .ok (.lrem, 1) := by decide +kernel
theorem dX11_common_18 : decode cX11_common 18 = .ok (.lstore 8, 2) := by decide +kernel
theorem dX11_common_20 : decode cX11_common 20 = .ok (.lload 6, 2) := by decide +kernel
theorem dX11_common_22 : decode cX11_common 22 = .ok (.lstore 4, 2) := by decide +kernel
theorem dX11_common_24 : decode cX11_common 24 = .ok (.lload 8, 2) := by decide +kernel
theorem dX11_common_26 : decode cX11_common 26 = .ok (.lstore 6, 2) := by decide +kernel
theorem dX11_common_28 : decode cX11_common 28 = .ok (.goto (-22), 3) := by decide +kernel
theorem dX11_common_31 : decode cX11_common 31 = .ok (.lload 4, 2) := by decide +kernel
theorem dX11_common_33 : decode cX11_common 33 = .ok (.lreturn, 1) := by decide +kernel
theorem dX11_isAhead_0 : decode cX11_isAhead 0 = .ok (.iload_n 0, 1) := by decide +kernel
theorem dX11_isAhead_1 : decode cX11_isAhead 1 = .ok (.iload_n 2, 1) := by decide +kernel
theorem dX11_isAhead_2 : decode cX11_isAhead 2 = .ok (.if_icmp .lt 13, 3) := by decide +kernel
theorem dX11_isAhead_5 : decode cX11_isAhead 5 = .ok (.iload_n 0, 1) := by decide +kernel
theorem dX11_isAhead_6 : decode cX11_isAhead 6 = .ok (.iload_n 2, 1) := by decide +kernel
theorem dX11_isAhead_7 : decode cX11_isAhead 7 = .ok (.if_icmp .ne 12, 3) := by decide +kernel
theorem dX11_isAhead_10 : decode cX11_isAhead 10 = .ok (.iload_n 1, 1) := by decide +kernel
theorem dX11_isAhead_11 : decode cX11_isAhead 11 = .ok (.iload_n 3, 1) := by decide +kernel
theorem dX11_isAhead_12 : decode cX11_isAhead 12 = .ok (.if_icmp .ge 7, 3) := by decide +kernel
theorem dX11_isAhead_15 : decode cX11_isAhead 15 = .ok (.iconst 1, 1) := by decide +kernel
theorem dX11_isAhead_16 : decode cX11_isAhead 16 = .ok (.goto 4, 3) := by decide +kernel
theorem dX11_isAhead_19 : decode cX11_isAhead 19 = .ok (.iconst 0, 1) := by decide +kernel
theorem dX11_isAhead_20 : decode cX11_isAhead 20 = .ok (.ireturn, 1) := by decide +kernel
theorem dX11_sharesLine_0 : decode cX11_sharesLine 0 = .ok (.aload_n 0, 1) := by decide +kernel
theorem dX11_sharesLine_1 : decode cX11_sharesLine 1 = .ok (.getfield 26, 3) := by decide +kernel
theorem dX11_sharesLine_4 : decode cX11_sharesLine 4 = .ok (.iconst 0, 1) := by decide +kernel
theorem dX11_sharesLine_5 : decode cX11_sharesLine 5 = .ok (.iaload, 1) := by decide +kernel
theorem dX11_sharesLine_6 : decode cX11_sharesLine 6 = .ok (.aload_n 0, 1) := by decide +kernel
theorem dX11_sharesLine_7 : decode cX11_sharesLine 7 = .ok (.getfield 26, 3) := by decide +kernel
theorem dX11_sharesLine_10 : decode cX11_sharesLine 10 = .ok (.iconst 1, 1) := by decide +kernel
theorem dX11_sharesLine_11 : decode cX11_sharesLine 11 = .ok (.iaload, 1) := by decide +kernel
theorem dX11_sharesLine_12 : decode cX11_sharesLine 12 = .ok (.aload_n 0, 1) := by decide +kernel
theorem dX11_sharesLine_13 : decode cX11_sharesLine 13 = .ok (.getfield 29, 3) := by decide +kernel
theorem dX11_sharesLine_16 : decode cX11_sharesLine 16 = .ok (.iconst 0, 1) := by decide +kernel
theorem dX11_sharesLine_17 : decode cX11_sharesLine 17 = .ok (.iaload, 1) := by decide +kernel
theorem dX11_sharesLine_18 : decode cX11_sharesLine 18 = .ok (.aload_n 0, 1) := by decide +kernel
theorem dX11_sharesLine_19 : decode cX11_sharesLine 19 = .ok (.getfield 29, 3) := by decide +kernel
theorem dX11_sharesLine_22 : decode cX11_sharesLine 22 = .ok (.iconst 1, 1) := by decide +kernel
theorem dX11_sharesLine_23 : decode cX11_sharesLine 23 = .ok (.iaload, 1) := by decide +kernel
theorem dX11_sharesLine_24 : decode cX11_sharesLine 24 = .ok (.invokestatic 157, 3) := by decide +kernel
theorem dX11_sharesLine_27 : decode cX11_sharesLine 27 = .ok (.istore_n 1, 1) := by decide +kernel
theorem dX11_sharesLine_28 : decode cX11_sharesLine 28 = .ok (.aload_n 0, 1) := by decide +kernel
theorem dX11_sharesLine_29 : decode cX11_sharesLine 29 = .ok (.getfield 32, 3) := by decide +kernel
theorem dX11_sharesLine_32 : decode cX11_sharesLine 32 = .ok (.iconst 0, 1) := by decide +kernel
theorem dX11_sharesLine_33 : decode cX11_sharesLine 33 = .ok (.iload_n 1, 1) := by decide +kernel
theorem dX11_sharesLine_34 : decode cX11_sharesLine 34 = .ok (.ifCond .eq 12, 3) := by decide +kernel
theorem dX11_sharesLine_37 : decode cX11_sharesLine 37 = .ok (.aload_n 0, 1) := by decide +kernel
theorem dX11_sharesLine_38 : decode cX11_sharesLine 38 = .ok (.getfield 29, 3) := by decide +kernel
theorem dX11_sharesLine_41 : decode cX11_sharesLine 41 = .ok (.iconst 0, 1) := by decide +kernel
theorem dX11_sharesLine_42 : decode cX11_sharesLine 42 = .ok (.iaload, 1) := by decide +kernel
theorem dX11_sharesLine_43 : decode cX11_sharesLine 43 = .ok (.goto 9, 3) := by decide +kernel
theorem dX11_sharesLine_46 : decode cX11_sharesLine 46 = .ok (.aload_n 0, 1) := by decide +kernel
theorem dX11_sharesLine_47 : decode cX11_sharesLine 47 = .ok (.getfield 26, 3) := by decide +kernel
theorem dX11_sharesLine_50 : decode cX11_sharesLine 50 = .ok (.iconst 0, 1) := by decide +kernel
theorem dX11_sharesLine_51 : decode cX11_sharesLine 51 = .ok (.iaload, 1) := by decide +kernel
theorem dX11_sharesLine_52 : decode cX11_sharesLine 52 = .ok (.iastore, 1) := by decide +kernel
theorem dX11_sharesLine_53 : decode cX11_sharesLine 53 = .ok (.aload_n 0, 1) := by decide +kernel
theorem dX11_sharesLine_54 : decode cX11_sharesLine 54 = .ok (.getfield 32, 3) := by decide +kernel
theorem dX11_sharesLine_57 : decode cX11_sharesLine 57 = .ok (.iconst 1, 1) := by decide +kernel
theorem dX11_sharesLine_58 : decode cX11_sharesLine 58 = .ok (.iload_n 1, 1) := by decide +kernel
theorem dX11_sharesLine_59 : decode cX11_sharesLine 59 = .ok (.ifCond .eq 12, 3) := by decide +kernel
theorem dX11_sharesLine_62 : decode cX11_sharesLine 62 = .ok (.aload_n 0, 1) := by decide +kernel
theorem dX11_sharesLine_63 : decode cX11_sharesLine 63 = .ok (.getfield 29, 3) := by decide +kernel
theorem dX11_sharesLine_66 : decode cX11_sharesLine 66 = .ok (.iconst 1, 1) := by decide +kernel
theorem dX11_sharesLine_67 : decode cX11_sharesLine 67 = .ok (.iaload, 1) := by decide +kernel
theorem dX11_sharesLine_68 : decode cX11_sharesLine 68 = .ok (.goto 9, 3) := by decide +kernel
theorem dX11_sharesLine_71 : decode cX11_sharesLine 71 = .ok (.aload_n 0, 1) := by decide +kernel
theorem dX11_sharesLine_72 : decode cX11_sharesLine 72 = .ok (.getfield 26, 3) := by decide +kernel
theorem dX11_sharesLine_75 : decode cX11_sharesLine 75 = .ok (.iconst 1, 1) := by decide +kernel
theorem dX11_sharesLine_76 : decode cX11_sharesLine 76 = .ok (.iaload, 1) := by decide +kernel
theorem dX11_sharesLine_77 : decode cX11_sharesLine 77 = .ok (.iastore, 1) := by decide +kernel
theorem dX11_sharesLine_78 : decode cX11_sharesLine 78 = .ok (.aload_n 0, 1) := by decide +kernel
theorem dX11_sharesLine_79 : decode cX11_sharesLine 79 = .ok (.getfield 26, 3) := by decide +kernel
theorem dX11_sharesLine_82 : decode cX11_sharesLine 82 = .ok (.iconst 2, 1) := by decide +kernel
theorem dX11_sharesLine_83 : decode cX11_sharesLine 83 = .ok (.iaload, 1) := by decide +kernel
theorem dX11_sharesLine_84 : decode cX11_sharesLine 84 = .ok (.aload_n 0, 1) := by decide +kernel
theorem dX11_sharesLine_85 : decode cX11_sharesLine 85 = .ok (.getfield 26, 3) := by decide +kernel
theorem dX11_sharesLine_88 : decode cX11_sharesLine 88 = .ok (.iconst 3, 1) := by decide +kernel
theorem dX11_sharesLine_89 : decode cX11_sharesLine 89 = .ok (.iaload, 1) := by decide +kernel
theorem dX11_sharesLine_90 : decode cX11_sharesLine 90 = .ok (.aload_n 0, 1) := by decide +kernel
theorem dX11_sharesLine_91 : decode cX11_sharesLine 91 = .ok (.getfield 29, 3) := by decide +kernel
theorem dX11_sharesLine_94 : decode cX11_sharesLine 94 = .ok (.iconst 2, 1) := by decide +kernel
theorem dX11_sharesLine_95 : decode cX11_sharesLine 95 = .ok (.iaload, 1) := by decide +kernel
theorem dX11_sharesLine_96 : decode cX11_sharesLine 96 = .ok (.aload_n 0, 1) := by decide +kernel
theorem dX11_sharesLine_97 : decode cX11_sharesLine 97 = .ok (.getfield 29, 3) := by decide +kernel
theorem dX11_sharesLine_100 : decode cX11_sharesLine 100 = .ok (.iconst 3, 1) := by decide +kernel
theorem dX11_sharesLine_101 : decode cX11_sharesLine 101 = .ok (.iaload, 1) := by decide +kernel
theorem dX11_sharesLine_102 : decode cX11_sharesLine 102 = .ok (.invokestatic 157, 3) := by decide +kernel
theorem dX11_sharesLine_105 : decode cX11_sharesLine 105 = .ok (.istore_n 2, 1) := by decide +kernel
theorem dX11_sharesLine_106 : decode cX11_sharesLine 106 = .ok (.aload_n 0, 1) := by decide +kernel
theorem dX11_sharesLine_107 : decode cX11_sharesLine 107 = .ok (.getfield 32, 3) := by decide +kernel
theorem dX11_sharesLine_110 : decode cX11_sharesLine 110 = .ok (.iconst 2, 1) := by decide +kernel
theorem dX11_sharesLine_111 : decode cX11_sharesLine 111 = .ok (.iload_n 2, 1) := by decide +kernel
theorem dX11_sharesLine_112 : decode cX11_sharesLine 112 = .ok (.ifCond .eq 12, 3) := by decide +kernel
theorem dX11_sharesLine_115 : decode cX11_sharesLine 115 = .ok (.aload_n 0, 1) := by decide +kernel
theorem dX11_sharesLine_116 : decode cX11_sharesLine 116 = .ok (.getfield 26, 3) := by decide +kernel
theorem dX11_sharesLine_119 : decode cX11_sharesLine 119 = .ok (.iconst 2, 1) := by decide +kernel
theorem dX11_sharesLine_120 : decode cX11_sharesLine 120 = .ok (.iaload, 1) := by decide +kernel
theorem dX11_sharesLine_121 : decode cX11_sharesLine 121 = .ok (.goto 9, 3) := by decide +kernel
theorem dX11_sharesLine_124 : decode cX11_sharesLine 124 = .ok (.aload_n 0, 1) := by decide +kernel
theorem dX11_sharesLine_125 : decode cX11_sharesLine 125 = .ok (.getfield 29, 3) := by decide +kernel
theorem dX11_sharesLine_128 : decode cX11_sharesLine 128 = .ok (.iconst 2, 1) := by decide +kernel
theorem dX11_sharesLine_129 : decode cX11_sharesLine 129 = .ok (.iaload, 1) := by decide +kernel
theorem dX11_sharesLine_130 : decode cX11_sharesLine 130 = .ok (.iastore, 1) := by decide +kernel
theorem dX11_sharesLine_131 : decode cX11_sharesLine 131 = .ok (.aload_n 0, 1) := by decide +kernel
theorem dX11_sharesLine_132 : decode cX11_sharesLine 132 = .ok (.getfield 32, 3) := by decide +kernel
theorem dX11_sharesLine_135 : decode cX11_sharesLine 135 = .ok (.iconst 3, 1) := by decide +kernel
theorem dX11_sharesLine_136 : decode cX11_sharesLine 136 = .ok (.iload_n 2, 1) := by decide +kernel
theorem dX11_sharesLine_137 : decode cX11_sharesLine 137 = .ok (.ifCond .eq 12, 3) := by decide +kernel
theorem dX11_sharesLine_140 : decode cX11_sharesLine 140 = .ok (.aload_n 0, 1) := by decide +kernel
theorem dX11_sharesLine_141 : decode cX11_sharesLine 141 = .ok (.getfield 26, 3) := by decide +kernel
theorem dX11_sharesLine_144 : decode cX11_sharesLine 144 = .ok (.iconst 3, 1) := by decide +kernel
theorem dX11_sharesLine_145 : decode cX11_sharesLine 145 = .ok (.iaload, 1) := by decide +kernel
theorem dX11_sharesLine_146 : decode cX11_sharesLine 146 = .ok (.goto 9, 3) := by decide +kernel
theorem dX11_sharesLine_149 : decode cX11_sharesLine 149 = .ok (.aload_n 0, 1) := by decide +kernel
theorem dX11_sharesLine_150 : decode cX11_sharesLine 150 = .ok (.getfield 29, 3) := by decide +kernel
theorem dX11_sharesLine_153 : decode cX11_sharesLine 153 = .ok (.iconst 3, 1) := by decide +kernel
theorem dX11_sharesLine_154 : decode cX11_sharesLine 154 = .ok (.iaload, 1) := by decide +kernel
theorem dX11_sharesLine_155 : decode cX11_sharesLine 155 = .ok (.iastore, 1) := by decide +kernel
theorem dX11_sharesLine_156 : decode cX11_sharesLine 156 = .ok (.aload_n 0, 1) := by decide +kernel
theorem dX11_sharesLine_157 : decode cX11_sharesLine 157 = .ok (.getfield 32, 3) := by decide +kernel
theorem dX11_sharesLine_160 : decode cX11_sharesLine 160 = .ok (.iconst 2, 1) := by decide +kernel
theorem dX11_sharesLine_161 : decode cX11_sharesLine 161 = .ok (.iaload, 1) := by decide +kernel
theorem dX11_sharesLine_162 : decode cX11_sharesLine 162 = .ok (.aload_n 0, 1) := by decide +kernel
theorem dX11_sharesLine_163 : decode cX11_sharesLine 163 = .ok (.getfield 32, 3) := by decide +kernel
theorem dX11_sharesLine_166 : decode cX11_sharesLine 166 = .ok (.iconst 3, 1) := by decide +kernel
theorem dX11_sharesLine_167 : decode cX11_sharesLine 167 = .ok (.iaload, 1) := by decide +kernel
theorem dX11_sharesLine_168 : decode cX11_sharesLine 168 = .ok (.aload_n 0, 1) := by decide +kernel
theorem dX11_sharesLine_169 : decode cX11_sharesLine 169 = .ok (.getfield 32, 3) := by decide +kernel
theorem dX11_sharesLine_172 : decode cX11_sharesLine 172 = .ok (.iconst 0, 1) := by decide +kernel
theorem dX11_sharesLine_173 : decode cX11_sharesLine 173 = .ok (.iaload, 1) := by decide +kernel
theorem dX11_sharesLine_174 : decode cX11_sharesLine 174 = .ok (.aload_n 0, 1) := by decide +kernel
theorem dX11_sharesLine_175 : decode cX11_sharesLine 175 = .ok (.getfield 32, 3) := by decide +kernel
theorem dX11_sharesLine_178 : decode cX11_sharesLine 178 = .ok (.iconst 1, 1) := by decide +kernel
theorem dX11_sharesLine_179 : decode cX11_sharesLine 179 = .ok (.iaload, 1) := by decide +kernel
theorem dX11_sharesLine_180 : decode cX11_sharesLine 180 = .ok (.invokestatic 157, 3) := by decide +kernel
theorem dX11_sharesLine_183 : decode cX11_sharesLine 183 = .ok (.ifCond .eq 5, 3) := by decide +kernel
theorem dX11_sharesLine_186 : decode cX11_sharesLine 186 = .ok (.iconst 0, 1) := by decide +kernel
theorem dX11_sharesLine_187 : decode cX11_sharesLine 187 = .ok (.ireturn, 1) := by decide +kernel
theorem dX11_sharesLine_188 : decode cX11_sharesLine 188 = .ok (.aload_n 0, 1) := by decide +kernel
theorem dX11_sharesLine_189 : decode cX11_sharesLine 189 = .ok (.getfield 32, 3) := by decide +kernel
theorem dX11_sharesLine_192 : decode cX11_sharesLine 192 = .ok (.invokestatic 161, 3) := by decide +kernel
theorem dX11_sharesLine_195 : decode cX11_sharesLine 195 = .ok (.ifCond .eq 25, 3) := by decide +kernel
theorem dX11_sharesLine_198 : decode cX11_sharesLine 198 = .ok (.aload_n 0, 1) := by decide +kernel
theorem dX11_sharesLine_199 : decode cX11_sharesLine 199 = .ok (.aload_n 0, 1) := by decide +kernel
theorem dX11_sharesLine_200 : decode cX11_sharesLine 200 = .ok (.getfield 32, 3) := by decide +kernel
theorem dX11_sharesLine_203 : decode cX11_sharesLine 203 = .ok (.iconst 0, 1) := by decide +kernel
theorem dX11_sharesLine_204 : decode cX11_sharesLine 204 = .ok (.iaload, 1) := by decide +kernel
theorem dX11_sharesLine_205 : decode cX11_sharesLine 205 = .ok (.i2l, 1) := by decide +kernel
theorem dX11_sharesLine_206 : decode cX11_sharesLine 206 = .ok (.aload_n 0, 1) := by decide +kernel
theorem dX11_sharesLine_207 : decode cX11_sharesLine 207 = .ok (.getfield 32, 3) := by decide +kernel
theorem dX11_sharesLine_210 : decode cX11_sharesLine 210 = .ok (.iconst 1, 1) := by decide +kernel
theorem dX11_sharesLine_211 : decode cX11_sharesLine 211 = .ok (.iaload, 1) := by decide +kernel
theorem dX11_sharesLine_212 : decode cX11_sharesLine 212 = .ok (.i2l, 1) := by decide +kernel
theorem dX11_sharesLine_213 : decode cX11_sharesLine 213 = .ok (.lconst 1, 1) := by decide +kernel
theorem dX11_sharesLine_214 : decode cX11_sharesLine 214 = .ok (.invokevirtual 165, 3) := by decide +kernel
theorem dX11_sharesLine_217 : decode cX11_sharesLine 217 = .ok (.goto 4, 3) := by decide +kernel
theorem dX11_sharesLine_220 : decode cX11_sharesLine 220 = .ok (.iconst 2, 1) := by decide +kernel
theorem dX11_sharesLine_221 : decode cX11_sharesLine 221 = .ok (.ireturn, 1) := by decide +kernel
theorem dX11_shares_0 : decode cX11_shares 0 = .ok (.aload_n 0, 1) := by decide +kernel
theorem dX11_shares_1 : decode cX11_shares 1 = .ok (.getfield 26, 3) := by decide +kernel
theorem dX11_shares_4 : decode cX11_shares 4 = .ok (.iconst 2, 1) := by decide +kernel
theorem dX11_shares_5 : decode cX11_shares 5 = .ok (.iaload, 1) := by decide +kernel
theorem dX11_shares_6 : decode cX11_shares 6 = .ok (.aload_n 0, 1) := by decide +kernel
theorem dX11_shares_7 : decode cX11_shares 7 = .ok (.getfield 26, 3) := by decide +kernel
theorem dX11_shares_10 : decode cX11_shares 10 = .ok (.iconst 0, 1) := by decide +kernel
theorem dX11_shares_11 : decode cX11_shares 11 = .ok (.iaload, 1) := by decide +kernel
theorem dX11_shares_12 : decode cX11_shares 12 = .ok (.isub, 1) := by decide +kernel
theorem dX11_shares_13 : decode cX11_shares 13 = .ok (.i2l, 1) := by decide +kernel
theorem dX11_shares_14 : decode cX11_shares 14 = .ok (.lstore_n 1, 1) := by decide +kernel
theorem dX11_shares_15 : decode cX11_shares 15 = .ok (.aload_n 0, 1) := by decide +kernel
theorem dX11_shares_16 : decode cX11_shares 16 = .ok (.getfield 26, 3) := by decide +kernel
theorem dX11_shares_19 : decode cX11_shares 19 = .ok (.iconst 3, 1) := by decide +kernel
theorem dX11_shares_20 : decode cX11_shares 20 = .ok (.iaload, 1) := by decide +kernel
theorem dX11_shares_21 : decode cX11_shares 21 = .ok (.aload_n 0, 1) := by decide +kernel
theorem dX11_shares_22 : decode cX11_shares 22 = .ok (.getfield 26, 3) := by decide +kernel
theorem dX11_shares_25 : decode cX11_shares 25 = .ok (.iconst 1, 1) := by decide +kernel
theorem dX11_shares_26 : decode cX11_shares 26 = .ok (.iaload, 1) := by decide +kernel
theorem dX11_shares_27 : decode cX11_shares 27 = .ok (.isub, 1) := by decide +kernel
theorem dX11_shares_28 : decode cX11_shares 28 = .ok (.i2l, 1) := by decide +kernel
theorem dX11_shares_29 : decode cX11_shares 29 = .ok (.lstore_n 3, 1) := by decide +kernel
theorem dX11_shares_30 : decode cX11_shares 30 = .ok (.aload_n 0, 1) := by decide +kernel
theorem dX11_shares_31 : decode cX11_shares 31 = .ok (.getfield 29, 3) := by decide +kernel
theorem dX11_shares_34 : decode cX11_shares 34 = .ok (.iconst 2, 1) := by decide +kernel
theorem dX11_shares_35 : decode cX11_shares 35 = .ok (.iaload, 1) := by decide +kernel
theorem dX11_shares_36 : decode cX11_shares 36 = .ok (.aload_n 0, 1) := by decide +kernel
theorem dX11_shares_37 : decode cX11_shares 37 = .ok (.getfield 29, 3) := by decide +kernel
theorem dX11_shares_40 : decode cX11_shares 40 = .ok (.iconst 0, 1) := by decide +kernel
theorem dX11_shares_41 : decode cX11_shares 41 = .ok (.iaload, 1) := by decide +kernel
theorem dX11_shares_42 : decode cX11_shares 42 = .ok (.isub, 1) := by decide +kernel
theorem dX11_shares_43 : decode cX11_shares 43 = .ok (.i2l, 1) := by decide +kernel
theorem dX11_shares_44 : decode cX11_shares 44 = .ok (.lstore 5, 2) := by decide +kernel
theorem dX11_shares_46 : decode cX11_shares 46 = .ok (.aload_n 0, 1) := by decide +kernel
theorem dX11_shares_47 : decode cX11_shares 47 = .ok (.getfield 29, 3) := by decide +kernel
theorem dX11_shares_50 : decode cX11_shares 50 = .ok (.iconst 3, 1) := by decide +kernel
theorem dX11_shares_51 : decode cX11_shares 51 = .ok (.iaload, 1) := by decide +kernel
theorem dX11_shares_52 : decode cX11_shares 52 = .ok (.aload_n 0, 1) := by decide +kernel
theorem dX11_shares_53 : decode cX11_shares 53 = .ok (.getfield 29, 3) := by decide +kernel
theorem dX11_shares_56 : decode cX11_shares 56 = .ok (.iconst 1, 1) := by decide +kernel
theorem dX11_shares_57 : decode cX11_shares 57 = .ok (.iaload, 1) := by decide +kernel
theorem dX11_shares_58 : decode cX11_shares 58 = .ok (.isub, 1) := by decide +kernel
theorem dX11_shares_59 : decode cX11_shares 59 = .ok (.i2l, 1) := by decide +kernel
theorem dX11_shares_60 : decode cX11_shares 60 = .ok (.lstore 7, 2) := by decide +kernel
theorem dX11_shares_62 : decode cX11_shares 62 = .ok (.lload_n 1, 1) := by decide +kernel
theorem dX11_shares_63 : decode cX11_shares 63 = .ok (.lload 7, 2) := by decide +kernel
theorem dX11_shares_65 : decode cX11_shares 65 = .ok (.lmul, 1) := by decide +kernel
theorem dX11_shares_66 : decode cX11_shares 66 = .ok (.lload_n 3, 1) := by decide +kernel
theorem dX11_shares_67 : decode cX11_shares 67 = .ok (.lload 5, 2) := by decide +kernel
theorem dX11_shares_69 : decode cX11_shares 69 = .ok (.lmul, 1) := by decide +kernel
theorem dX11_shares_70 : decode cX11_shares 70 = .ok (.lsub, 1) := by decide +kernel
theorem dX11_shares_71 : decode cX11_shares 71 = .ok (.lstore 9, 2) := by decide +kernel
theorem dX11_shares_73 : decode cX11_shares 73 = .ok (.lload 9, 2) := by decide +kernel
theorem dX11_shares_75 : decode cX11_shares 75 = .ok (.lconst 0, 1) := by decide +kernel
theorem dX11_shares_76 : decode cX11_shares 76 = .ok (.lcmp, 1) := by decide +kernel
theorem dX11_shares_77 : decode cX11_shares 77 = .ok (.ifCond .ne 119, 3) := by decide +kernel
theorem dX11_shares_80 : decode cX11_shares 80 = .ok (.aload_n 0, 1) := by decide +kernel
theorem dX11_shares_81 : decode cX11_shares 81 = .ok (.getfield 26, 3) := by decide +kernel
theorem dX11_shares_84 : decode cX11_shares 84 = .ok (.invokestatic 161, 3) := by decide +kernel
theorem dX11_shares_87 : decode cX11_shares 87 = .ok (.ifCond .eq 52, 3) := by decide +kernel
theorem dX11_shares_90 : decode cX11_shares 90 = .ok (.aload_n 0, 1) := by decide +kernel
theorem dX11_shares_91 : decode cX11_shares 91 = .ok (.getfield 29, 3) := by decide +kernel
theorem dX11_shares_94 : decode cX11_shares 94 = .ok (.aload_n 0, 1) := by decide +kernel
theorem dX11_shares_95 : decode cX11_shares 95 = .ok (.getfield 26, 3) := by decide +kernel
theorem dX11_shares_98 : decode cX11_shares 98 = .ok (.iconst 0, 1) := by decide +kernel
theorem dX11_shares_99 : decode cX11_shares 99 = .ok (.iaload, 1) := by decide +kernel
theorem dX11_shares_100 : decode cX11_shares 100 = .ok (.i2l, 1) := by decide +kernel
theorem dX11_shares_101 : decode cX11_shares 101 = .ok (.aload_n 0, 1) := by decide +kernel
theorem dX11_shares_102 : decode cX11_shares 102 = .ok (.getfield 26, 3) := by decide +kernel
theorem dX11_shares_105 : decode cX11_shares 105 = .ok (.iconst 1, 1) := by decide +kernel
theorem dX11_shares_106 : decode cX11_shares 106 = .ok (.iaload, 1) := by decide +kernel
theorem dX11_shares_107 : decode cX11_shares 107 = .ok (.i2l, 1) := by decide +kernel
theorem dX11_shares_108 : decode cX11_shares 108 = .ok (.lconst 1, 1) := by decide +kernel
theorem dX11_shares_109 : decode cX11_shares 109 = .ok (.invokestatic 169, 3) := by decide +kernel
theorem dX11_shares_112 : decode cX11_shares 112 = .ok (.ifCond .eq 25, 3) := by decide +kernel
theorem dX11_shares_115 : decode cX11_shares 115 = .ok (.aload_n 0, 1) := by decide +kernel
theorem dX11_shares_116 : decode cX11_shares 116 = .ok (.aload_n 0, 1) := by decide +kernel
theorem dX11_shares_117 : decode cX11_shares 117 = .ok (.getfield 26, 3) := by decide +kernel
theorem dX11_shares_120 : decode cX11_shares 120 = .ok (.iconst 0, 1) := by decide +kernel
theorem dX11_shares_121 : decode cX11_shares 121 = .ok (.iaload, 1) := by decide +kernel
theorem dX11_shares_122 : decode cX11_shares 122 = .ok (.i2l, 1) := by decide +kernel
theorem dX11_shares_123 : decode cX11_shares 123 = .ok (.aload_n 0, 1) := by decide +kernel
theorem dX11_shares_124 : decode cX11_shares 124 = .ok (.getfield 26, 3) := by decide +kernel
theorem dX11_shares_127 : decode cX11_shares 127 = .ok (.iconst 1, 1) := by decide +kernel
theorem dX11_shares_128 : decode cX11_shares 128 = .ok (.iaload, 1) := by decide +kernel
theorem dX11_shares_129 : decode cX11_shares 129 = .ok (.i2l, 1) := by decide +kernel
theorem dX11_shares_130 : decode cX11_shares 130 = .ok (.lconst 1, 1) := by decide +kernel
theorem dX11_shares_131 : decode cX11_shares 131 = .ok (.invokevirtual 165, 3) := by decide +kernel
theorem dX11_shares_134 : decode cX11_shares 134 = .ok (.goto 4, 3) := by decide +kernel
theorem dX11_shares_137 : decode cX11_shares 137 = .ok (.iconst 0, 1) := by decide +kernel
theorem dX11_shares_138 : decode cX11_shares 138 = .ok (.ireturn, 1) := by decide +kernel
theorem dX11_shares_139 : decode cX11_shares 139 = .ok (.aload_n 0, 1) := by decide +kernel
theorem dX11_shares_140 : decode cX11_shares 140 = .ok (.getfield 29, 3) := by decide +kernel
theorem dX11_shares_143 : decode cX11_shares 143 = .ok (.iconst 0, 1) := by decide +kernel
theorem dX11_shares_144 : decode cX11_shares 144 = .ok (.iaload, 1) := by decide +kernel
theorem dX11_shares_145 : decode cX11_shares 145 = .ok (.aload_n 0, 1) := by decide +kernel
theorem dX11_shares_146 : decode cX11_shares 146 = .ok (.getfield 26, 3) := by decide +kernel
theorem dX11_shares_149 : decode cX11_shares 149 = .ok (.iconst 0, 1) := by decide +kernel
theorem dX11_shares_150 : decode cX11_shares 150 = .ok (.iaload, 1) := by decide +kernel
theorem dX11_shares_151 : decode cX11_shares 151 = .ok (.isub, 1) := by decide +kernel
theorem dX11_shares_152 : decode cX11_shares 152 = .ok (.i2l, 1) := by decide +kernel
theorem dX11_shares_153 : decode cX11_shares 153 = .ok (.lload_n 3, 1) := by decide +kernel
theorem dX11_shares_154 : decode cX11_shares 154 = .ok (.lmul, 1) := by decide +kernel
theorem dX11_shares_155 : decode cX11_shares 155 = .ok (.aload_n 0, 1) := by decide +kernel
theorem dX11_shares_156 : decode cX11_shares 156 = .ok (.getfield 29, 3) := by decide +kernel
theorem dX11_shares_159 : decode cX11_shares 159 = .ok (.iconst 1, 1) := by decide +kernel
theorem dX11_shares_160 : decode cX11_shares 160 = .ok (.iaload, 1) := by decide +kernel
theorem dX11_shares_161 : decode cX11_shares 161 = .ok (.aload_n 0, 1) := by decide +kernel
theorem dX11_shares_162 : decode cX11_shares 162 = .ok (.getfield 26, 3) := by decide +kernel
theorem dX11_shares_165 : decode cX11_shares 165 = .ok (.iconst 1, 1) := by decide +kernel
theorem dX11_shares_166 : decode cX11_shares 166 = .ok (.iaload, 1) := by decide +kernel
theorem dX11_shares_167 : decode cX11_shares 167 = .ok (.isub, 1) := by decide +kernel
theorem dX11_shares_168 : decode cX11_shares 168 = .ok (.i2l, 1) := by decide +kernel
theorem dX11_shares_169 : decode cX11_shares 169 = .ok (.lload_n 1, 1) := by decide +kernel
theorem dX11_shares_170 : decode cX11_shares 170 = .ok (.lmul, 1) := by decide +kernel
theorem dX11_shares_171 : decode cX11_shares 171 = .ok (.lcmp, 1) := by decide +kernel
theorem dX11_shares_172 : decode cX11_shares 172 = .ok (.ifCond .ne 7, 3) := by decide +kernel
theorem dX11_shares_175 : decode cX11_shares 175 = .ok (.iconst 1, 1) := by decide +kernel
theorem dX11_shares_176 : decode cX11_shares 176 = .ok (.goto 4, 3) := by decide +kernel
theorem dX11_shares_179 : decode cX11_shares 179 = .ok (.iconst 0, 1) := by decide +kernel
theorem dX11_shares_180 : decode cX11_shares 180 = .ok (.istore 11, 2) := by decide +kernel
theorem dX11_shares_182 : decode cX11_shares 182 = .ok (.iload 11, 2) := by decide +kernel
theorem dX11_shares_184 : decode cX11_shares 184 = .ok (.ifCond .eq 10, 3) := by decide +kernel
theorem dX11_shares_187 : decode cX11_shares 187 = .ok (.aload_n 0, 1) := by decide +kernel
theorem dX11_shares_188 : decode cX11_shares 188 = .ok (.invokevirtual 173, 3) := by decide +kernel
theorem dX11_shares_191 : decode cX11_shares 191 = .ok (.goto 4, 3) := by decide +kernel
theorem dX11_shares_194 : decode cX11_shares 194 = .ok (.iconst 0, 1) := by decide +kernel
theorem dX11_shares_195 : decode cX11_shares 195 = .ok (.ireturn, 1) := by decide +kernel
theorem dX11_shares_196 : decode cX11_shares 196 = .ok (.aload_n 0, 1) := by decide +kernel
theorem dX11_shares_197 : decode cX11_shares 197 = .ok (.getfield 29, 3) := by decide +kernel
theorem dX11_shares_200 : decode cX11_shares 200 = .ok (.iconst 0, 1) := by decide +kernel
theorem dX11_shares_201 : decode cX11_shares 201 = .ok (.iaload, 1) := by decide +kernel
theorem dX11_shares_202 : decode cX11_shares 202 = .ok (.aload_n 0, 1) := by decide +kernel
theorem dX11_shares_203 : decode cX11_shares 203 = .ok (.getfield 26, 3) := by decide +kernel
theorem dX11_shares_206 : decode cX11_shares 206 = .ok (.iconst 0, 1) := by decide +kernel
theorem dX11_shares_207 : decode cX11_shares 207 = .ok (.iaload, 1) := by decide +kernel
theorem dX11_shares_208 : decode cX11_shares 208 = .ok (.isub, 1) := by decide +kernel
theorem dX11_shares_209 : decode cX11_shares 209 = .ok (.i2l, 1) := by decide +kernel
theorem dX11_shares_210 : decode cX11_shares 210 = .ok (.lstore 11, 2) := by decide +kernel
theorem dX11_shares_212 : decode cX11_shares 212 = .ok (.aload_n 0, 1) := by decide +kernel
theorem dX11_shares_213 : decode cX11_shares 213 = .ok (.getfield 29, 3) := by decide +kernel
theorem dX11_shares_216 : decode cX11_shares 216 = .ok (.iconst 1, 1) := by decide +kernel
theorem dX11_shares_217 : decode cX11_shares 217 = .ok (.iaload, 1) := by decide +kernel
theorem dX11_shares_218 : decode cX11_shares 218 = .ok (.aload_n 0, 1) := by decide +kernel
theorem dX11_shares_219 : decode cX11_shares 219 = .ok (.getfield 26, 3) := by decide +kernel
theorem dX11_shares_222 : decode cX11_shares 222 = .ok (.iconst 1, 1) := by decide +kernel
theorem dX11_shares_223 : decode cX11_shares 223 = .ok (.iaload, 1) := by decide +kernel
theorem dX11_shares_224 : decode cX11_shares 224 = .ok (.isub, 1) := by decide +kernel
theorem dX11_shares_225 : decode cX11_shares 225 = .ok (.i2l, 1) := by decide +kernel
theorem dX11_shares_226 : decode cX11_shares 226 = .ok (.lstore 13, 2) := by decide +kernel
theorem dX11_shares_228 : decode cX11_shares 228 = .ok (.lload 11, 2) := by decide +kernel
theorem dX11_shares_230 : decode cX11_shares 230 = .ok (.lload 7, 2) := by decide +kernel
theorem dX11_shares_232 : decode cX11_shares 232 = .ok (.lmul, 1) := by decide +kernel
theorem dX11_shares_233 : decode cX11_shares 233 = .ok (.lload 13, 2) := by decide +kernel
theorem dX11_shares_235 : decode cX11_shares 235 = .ok (.lload 5, 2) := by decide +kernel
theorem dX11_shares_237 : decode cX11_shares 237 = .ok (.lmul, 1) := by decide +kernel
theorem dX11_shares_238 : decode cX11_shares 238 = .ok (.lsub, 1) := by decide +kernel
theorem dX11_shares_239 : decode cX11_shares 239 = .ok (.lstore 15, 2) := by decide +kernel
theorem dX11_shares_241 : decode cX11_shares 241 = .ok (.lload 11, 2) := by decide +kernel
theorem dX11_shares_243 : decode cX11_shares 243 = .ok (.lload_n 3, 1) := by decide +kernel
theorem dX11_shares_244 : decode cX11_shares 244 = .ok (.lmul, 1) := by decide +kernel
theorem dX11_shares_245 : decode cX11_shares 245 = .ok (.lload 13, 2) := by decide +kernel
theorem dX11_shares_247 : decode cX11_shares 247 = .ok (.lload_n 1, 1) := by decide +kernel
theorem dX11_shares_248 : decode cX11_shares 248 = .ok (.lmul, 1) := by decide +kernel
theorem dX11_shares_249 : decode cX11_shares 249 = .ok (.lsub, 1) := by decide +kernel
theorem dX11_shares_250 : decode cX11_shares 250 = .ok (.lstore 17, 2) := by decide +kernel
theorem dX11_shares_252 : decode cX11_shares 252 = .ok (.lload 9, 2) := by decide +kernel
theorem dX11_shares_254 : decode cX11_shares 254 = .ok (.lconst 0, 1) := by decide +kernel
theorem dX11_shares_255 : decode cX11_shares 255 = .ok (.lcmp, 1) := by decide +kernel
theorem dX11_shares_256 : decode cX11_shares 256 = .ok (.ifCond .ge 9, 3) := by decide +kernel
theorem dX11_shares_259 : decode cX11_shares 259 = .ok (.ldc2_w 177, 3) := by decide +kernel
theorem dX11_shares_262 : decode cX11_shares 262 = .ok (.goto 4, 3) := by decide +kernel
theorem dX11_shares_265 : decode cX11_shares 265 = .ok (.lconst 1, 1) := by decide +kernel
theorem dX11_shares_266 : decode cX11_shares 266 = .ok (.lstore 19, 2) := by decide +kernel
theorem dX11_shares_268 : decode cX11_shares 268 = .ok (.lload 19, 2) := by decide +kernel
theorem dX11_shares_270 : decode cX11_shares 270 = .ok (.lload 15, 2) := by decide +kernel
theorem dX11_shares_272 : decode cX11_shares 272 = .ok (.lmul, 1) := by decide +kernel
theorem dX11_shares_273 : decode cX11_shares 273 = .ok (.lconst 0, 1) := by decide +kernel
theorem dX11_shares_274 : decode cX11_shares 274 = .ok (.lload 19, 2) := by decide +kernel
theorem dX11_shares_276 : decode cX11_shares 276 = .ok (.lload 9, 2) := by decide +kernel
theorem dX11_shares_278 : decode cX11_shares 278 = .ok (.lmul, 1) := by decide +kernel
theorem dX11_shares_279 : decode cX11_shares 279 = .ok (.invokestatic 131, 3) := by decide +kernel
theorem dX11_shares_282 : decode cX11_shares 282 = .ok (.ifCond .eq 20, 3) := by decide +kernel
theorem dX11_shares_285 : decode cX11_shares 285 = .ok (.lload 19, 2) := by decide +kernel
theorem dX11_shares_287 : decode cX11_shares 287 = .ok (.lload 17, 2) := by decide +kernel
theorem dX11_shares_289 : decode cX11_shares 289 = .ok (.lmul, 1) := by decide +kernel
theorem dX11_shares_290 : decode cX11_shares 290 = .ok (.lconst 0, 1) := by decide +kernel
theorem dX11_shares_291 : decode cX11_shares 291 = .ok (.lload 19, 2) := by decide +kernel
theorem dX11_shares_293 : decode cX11_shares 293 = .ok (.lload 9, 2) := by decide +kernel
theorem dX11_shares_295 : decode cX11_shares 295 = .ok (.lmul, 1) := by decide +kernel
theorem dX11_shares_296 : decode cX11_shares 296 = .ok (.invokestatic 131, 3) := by decide +kernel
theorem dX11_shares_299 : decode cX11_shares 299 = .ok (.ifCond .ne 5, 3) := by decide +kernel
theorem dX11_shares_302 : decode cX11_shares 302 = .ok (.iconst 0, 1) := by decide +kernel
theorem dX11_shares_303 : decode cX11_shares 303 = .ok (.ireturn, 1) := by decide +kernel
theorem dX11_shares_304 : decode cX11_shares 304 = .ok (.aload_n 0, 1) := by decide +kernel
theorem dX11_shares_305 : decode cX11_shares 305 = .ok (.lload 19, 2) := by decide +kernel
theorem dX11_shares_307 : decode cX11_shares 307 = .ok (.aload_n 0, 1) := by decide +kernel
theorem dX11_shares_308 : decode cX11_shares 308 = .ok (.getfield 26, 3) := by decide +kernel
theorem dX11_shares_311 : decode cX11_shares 311 = .ok (.iconst 0, 1) := by decide +kernel
theorem dX11_shares_312 : decode cX11_shares 312 = .ok (.iaload, 1) := by decide +kernel
theorem dX11_shares_313 : decode cX11_shares 313 = .ok (.i2l, 1) := by decide +kernel
theorem dX11_shares_314 : decode cX11_shares 314 = .ok (.lload 9, 2) := by decide +kernel
theorem dX11_shares_316 : decode cX11_shares 316 = .ok (.lmul, 1) := by decide +kernel
theorem dX11_shares_317 : decode cX11_shares 317 = .ok (.lload 15, 2) := by decide +kernel
theorem dX11_shares_319 : decode cX11_shares 319 = .ok (.lload_n 1, 1) := by decide +kernel
theorem dX11_shares_320 : decode cX11_shares 320 = .ok (.lmul, 1) := by decide +kernel
theorem dX11_shares_321 : decode cX11_shares 321 = .ok (.ladd, 1) := by decide +kernel
theorem dX11_shares_322 : decode cX11_shares 322 = .ok (.lmul, 1) := by decide +kernel
theorem dX11_shares_323 : decode cX11_shares 323 = .ok (.lload 19, 2) := by decide +kernel
theorem dX11_shares_325 : decode cX11_shares 325 = .ok (.aload_n 0, 1) := by decide +kernel
theorem dX11_shares_326 : decode cX11_shares 326 = .ok (.getfield 26, 3) := by decide +kernel
theorem dX11_shares_329 : decode cX11_shares 329 = .ok (.iconst 1, 1) := by decide +kernel
theorem dX11_shares_330 : decode cX11_shares 330 = .ok (.iaload, 1) := by decide +kernel
theorem dX11_shares_331 : decode cX11_shares 331 = .ok (.i2l, 1) := by decide +kernel
theorem dX11_shares_332 : decode cX11_shares 332 = .ok (.lload 9, 2) := by decide +kernel
theorem dX11_shares_334 : decode cX11_shares 334 = .ok (.lmul, 1) := by decide +kernel
theorem dX11_shares_335 : decode cX11_shares 335 = .ok (.lload 15, 2) := by decide +kernel
theorem dX11_shares_337 : decode cX11_shares 337 = .ok (.lload_n 3, 1) := by decide +kernel
theorem dX11_shares_338 : decode cX11_shares 338 = .ok (.lmul, 1) := by decide +kernel
theorem dX11_shares_339 : decode cX11_shares 339 = .ok (.ladd, 1) := by decide +kernel
theorem dX11_shares_340 : decode cX11_shares 340 = .ok (.lmul, 1) := by decide +kernel
theorem dX11_shares_341 : decode cX11_shares 341 = .ok (.lload 19, 2) := by decide +kernel
theorem dX11_shares_343 : decode cX11_shares 343 = .ok (.lload 9, 2) := by decide +kernel
theorem dX11_shares_345 : decode cX11_shares 345 = .ok (.lmul, 1) := by decide +kernel
theorem dX11_shares_346 : decode cX11_shares 346 = .ok (.invokevirtual 165, 3) := by decide +kernel
theorem dX11_shares_349 : decode cX11_shares 349 = .ok (.ireturn, 1) := by decide +kernel
theorem dX11_sharesOf_0 : decode cX11_sharesOf 0 = .ok (.aload_n 0, 1) := by decide +kernel
theorem dX11_sharesOf_1 : decode cX11_sharesOf 1 = .ok (.aload_n 0, 1) := by decide +kernel
theorem dX11_sharesOf_2 : decode cX11_sharesOf 2 = .ok (.getfield 26, 3) := by decide +kernel
theorem dX11_sharesOf_5 : decode cX11_sharesOf 5 = .ok (.iload_n 1, 1) := by decide +kernel
theorem dX11_sharesOf_6 : decode cX11_sharesOf 6 = .ok (.invokevirtual 179, 3) := by decide +kernel
theorem dX11_sharesOf_9 : decode cX11_sharesOf 9 = .ok (.aload_n 0, 1) := by decide +kernel
theorem dX11_sharesOf_10 : decode cX11_sharesOf 10 = .ok (.aload_n 0, 1) := by decide +kernel
theorem dX11_sharesOf_11 : decode cX11_sharesOf 11 = .ok (.getfield 29, 3) := by decide +kernel
theorem dX11_sharesOf_14 : decode cX11_sharesOf 14 = .ok (.iload_n 2, 1) := by decide +kernel
theorem dX11_sharesOf_15 : decode cX11_sharesOf 15 = .ok (.invokevirtual 179, 3) := by decide +kernel
theorem dX11_sharesOf_18 : decode cX11_sharesOf 18 = .ok (.aload_n 0, 1) := by decide +kernel
theorem dX11_sharesOf_19 : decode cX11_sharesOf 19 = .ok (.invokevirtual 183, 3) := by decide +kernel
theorem dX11_sharesOf_22 : decode cX11_sharesOf 22 = .ok (.ireturn, 1) := by decide +kernel
theorem dX11_isEndOf_0 : decode cX11_isEndOf 0 = .ok (.lload_n 2, 1) := by decide +kernel
theorem dX11_isEndOf_1 : decode cX11_isEndOf 1 = .ok (.aload_n 0, 1) := by decide +kernel
theorem dX11_isEndOf_2 : decode cX11_isEndOf 2 = .ok (.iload_n 1, 1) := by decide +kernel
theorem dX11_isEndOf_3 : decode cX11_isEndOf 3 = .ok (.iconst 0, 1) := by decide +kernel
theorem dX11_isEndOf_4 : decode cX11_isEndOf 4 = .ok (.invokevirtual 127, 3) := by decide +kernel
theorem dX11_isEndOf_7 : decode cX11_isEndOf 7 = .ok (.i2l, 1) := by decide +kernel
theorem dX11_isEndOf_8 : decode cX11_isEndOf 8 = .ok (.lload 6, 2) := by decide +kernel
theorem dX11_isEndOf_10 : decode cX11_isEndOf 10 = .ok (.lmul, 1) := by decide +kernel
theorem dX11_isEndOf_11 : decode cX11_isEndOf 11 = .ok (.lcmp, 1) := by decide +kernel
theorem dX11_isEndOf_12 : decode cX11_isEndOf 12 = .ok (.ifCond .ne 19, 3) := by decide +kernel
theorem dX11_isEndOf_15 : decode cX11_isEndOf 15 = .ok (.lload 4, 2) := by decide +kernel
theorem dX11_isEndOf_17 : decode cX11_isEndOf 17 = .ok (.aload_n 0, 1) := by decide +kernel
theorem dX11_isEndOf_18 : decode cX11_isEndOf 18 = .ok (.iload_n 1, 1) := by decide +kernel
theorem dX11_isEndOf_19 : decode cX11_isEndOf 19 = .ok (.iconst 1, 1) := by decide +kernel
theorem dX11_isEndOf_20 : decode cX11_isEndOf 20 = .ok (.invokevirtual 127, 3) := by decide +kernel
theorem dX11_isEndOf_23 : decode cX11_isEndOf 23 = .ok (.i2l, 1) := by decide +kernel
theorem dX11_isEndOf_24 : decode cX11_isEndOf 24 = .ok (.lload 6, 2) := by decide +kernel
theorem dX11_isEndOf_26 : decode cX11_isEndOf 26 = .ok (.lmul, 1) := by decide +kernel
theorem dX11_isEndOf_27 : decode cX11_isEndOf 27 = .ok (.lcmp, 1) := by decide +kernel
theorem dX11_isEndOf_28 : decode cX11_isEndOf 28 = .ok (.ifCond .eq 34, 3) := by decide +kernel
theorem dX11_isEndOf_31 : decode cX11_isEndOf 31 = .ok (.lload_n 2, 1) := by decide +kernel
theorem dX11_isEndOf_32 : decode cX11_isEndOf 32 = .ok (.aload_n 0, 1) := by decide +kernel
theorem dX11_isEndOf_33 : decode cX11_isEndOf 33 = .ok (.iload_n 1, 1) := by decide +kernel
theorem dX11_isEndOf_34 : decode cX11_isEndOf 34 = .ok (.iconst 2, 1) := by decide +kernel
theorem dX11_isEndOf_35 : decode cX11_isEndOf 35 = .ok (.invokevirtual 127, 3) := by decide +kernel
theorem dX11_isEndOf_38 : decode cX11_isEndOf 38 = .ok (.i2l, 1) := by decide +kernel
theorem dX11_isEndOf_39 : decode cX11_isEndOf 39 = .ok (.lload 6, 2) := by decide +kernel
theorem dX11_isEndOf_41 : decode cX11_isEndOf 41 = .ok (.lmul, 1) := by decide +kernel
theorem dX11_isEndOf_42 : decode cX11_isEndOf 42 = .ok (.lcmp, 1) := by decide +kernel
theorem dX11_isEndOf_43 : decode cX11_isEndOf 43 = .ok (.ifCond .ne 23, 3) := by decide +kernel
theorem dX11_isEndOf_46 : decode cX11_isEndOf 46 = .ok (.lload 4, 2) := by decide +kernel
theorem dX11_isEndOf_48 : decode cX11_isEndOf 48 = .ok (.aload_n 0, 1) := by decide +kernel
theorem dX11_isEndOf_49 : decode cX11_isEndOf 49 = .ok (.iload_n 1, 1) := by decide +kernel
theorem dX11_isEndOf_50 : decode cX11_isEndOf 50 = .ok (.iconst 3, 1) := by decide +kernel
theorem dX11_isEndOf_51 : decode cX11_isEndOf 51 = .ok (.invokevirtual 127, 3) := by decide +kernel
theorem dX11_isEndOf_54 : decode cX11_isEndOf 54 = .ok (.i2l, 1) := by decide +kernel
theorem dX11_isEndOf_55 : decode cX11_isEndOf 55 = .ok (.lload 6, 2) := by decide +kernel
theorem dX11_isEndOf_57 : decode cX11_isEndOf 57 = .ok (.lmul, 1) := by decide +kernel
theorem dX11_isEndOf_58 : decode cX11_isEndOf 58 = .ok (.lcmp, 1) := by decide +kernel
theorem dX11_isEndOf_59 : decode cX11_isEndOf 59 = .ok (.ifCond .ne 7, 3) := by decide +kernel
theorem dX11_isEndOf_62 : decode cX11_isEndOf 62 = .ok (.iconst 1, 1) := by decide +kernel
theorem dX11_isEndOf_63 : decode cX11_isEndOf 63 = .ok (.goto 4, 3) := by decide +kernel
theorem dX11_isEndOf_66 : decode cX11_isEndOf 66 = .ok (.iconst 0, 1) := by decide +kernel
theorem dX11_isEndOf_67 : decode cX11_isEndOf 67 = .ok (.ireturn, 1) := by decide +kernel
theorem dX11_howOf_0 : decode cX11_howOf 0 = .ok (.iconst 1, 1) := by decide +kernel
theorem dX11_howOf_1 : decode cX11_howOf 1 = .ok (.istore_n 3, 1) := by decide +kernel
theorem dX11_howOf_2 : decode cX11_howOf 2 = .ok (.iconst 0, 1) := by decide +kernel
theorem dX11_howOf_3 : decode cX11_howOf 3 = .ok (.istore 4, 2) := by decide +kernel
theorem dX11_howOf_5 : decode cX11_howOf 5 = .ok (.iload 4, 2) := by decide +kernel
theorem dX11_howOf_7 : decode cX11_howOf 7 = .ok (.iconst 4, 1) := by decide +kernel
theorem dX11_howOf_8 : decode cX11_howOf 8 = .ok (.if_icmp .ge 36, 3) := by decide +kernel
theorem dX11_howOf_11 : decode cX11_howOf 11 = .ok (.iload_n 3, 1) := by decide +kernel
theorem dX11_howOf_12 : decode cX11_howOf 12 = .ok (.ifCond .eq 24, 3) := by decide +kernel
theorem dX11_howOf_15 : decode cX11_howOf 15 = .ok (.aload_n 0, 1) := by decide +kernel
theorem dX11_howOf_16 : decode cX11_howOf 16 = .ok (.iload_n 1, 1) := by decide +kernel
theorem dX11_howOf_17 : decode cX11_howOf 17 = .ok (.iload 4, 2) := by decide +kernel
theorem dX11_howOf_19 : decode cX11_howOf 19 = .ok (.invokevirtual 127, 3) := by decide +kernel
theorem dX11_howOf_22 : decode cX11_howOf 22 = .ok (.aload_n 0, 1) := by decide +kernel
theorem dX11_howOf_23 : decode cX11_howOf 23 = .ok (.iload_n 2, 1) := by decide +kernel
theorem dX11_howOf_24 : decode cX11_howOf 24 = .ok (.iload 4, 2) := by decide +kernel
theorem dX11_howOf_26 : decode cX11_howOf 26 = .ok (.invokevirtual 127, 3) := by decide +kernel
theorem dX11_howOf_29 : decode cX11_howOf 29 = .ok (.if_icmp .ne 7, 3) := by decide +kernel
theorem dX11_howOf_32 : decode cX11_howOf 32 = .ok (.iconst 1, 1) := by decide +kernel
theorem dX11_howOf_33 : decode cX11_howOf 33 = .ok (.goto 4, 3) := by decide +kernel
theorem dX11_howOf_36 : decode cX11_howOf 36 = .ok (.iconst 0, 1) := by decide +kernel
theorem dX11_howOf_37 : decode cX11_howOf 37 = .ok (.istore_n 3, 1) := by decide +kernel
theorem dX11_howOf_38 : decode cX11_howOf 38 = .ok (.iinc 4 1, 3) := by decide +kernel
theorem dX11_howOf_41 : decode cX11_howOf 41 = .ok (.goto (-36), 3) := by decide +kernel
theorem dX11_howOf_44 : decode cX11_howOf 44 = .ok (.aload_n 0, 1) := by decide +kernel
theorem dX11_howOf_45 : decode cX11_howOf 45 = .ok (.iload_n 1, 1) := by decide +kernel
theorem dX11_howOf_46 : decode cX11_howOf 46 = .ok (.iload_n 2, 1) := by decide +kernel
theorem dX11_howOf_47 : decode cX11_howOf 47 = .ok (.invokevirtual 186, 3) := by decide +kernel
theorem dX11_howOf_50 : decode cX11_howOf 50 = .ok (.istore 4, 2) := by decide +kernel
theorem dX11_howOf_52 : decode cX11_howOf 52 = .ok (.iload_n 3, 1) := by decide +kernel
theorem dX11_howOf_53 : decode cX11_howOf 53 = .ok (.ifCond .eq 5, 3) := by decide +kernel
theorem dX11_howOf_56 : decode cX11_howOf 56 = .ok (.iconst 4, 1) := by decide +kernel
theorem dX11_howOf_57 : decode cX11_howOf 57 = .ok (.ireturn, 1) := by decide +kernel
theorem dX11_howOf_58 : decode cX11_howOf 58 = .ok (.iload 4, 2) := by decide +kernel
theorem dX11_howOf_60 : decode cX11_howOf 60 = .ok (.iconst 1, 1) := by decide +kernel
theorem dX11_howOf_61 : decode cX11_howOf 61 = .ok (.if_icmp .eq 15, 3) := by decide +kernel
theorem dX11_howOf_64 : decode cX11_howOf 64 = .ok (.iload 4, 2) := by decide +kernel
theorem dX11_howOf_66 : decode cX11_howOf 66 = .ok (.iconst 2, 1) := by decide +kernel
theorem dX11_howOf_67 : decode cX11_howOf 67 = .ok (.if_icmp .ne 7, 3) := by decide +kernel
theorem dX11_howOf_70 : decode cX11_howOf 70 = .ok (.iconst 3, 1) := by decide +kernel
theorem dX11_howOf_71 : decode cX11_howOf 71 = .ok (.goto 4, 3) := by decide +kernel
theorem dX11_howOf_74 : decode cX11_howOf 74 = .ok (.iconst 0, 1) := by decide +kernel
theorem dX11_howOf_75 : decode cX11_howOf 75 = .ok (.ireturn, 1) := by decide +kernel
theorem dX11_howOf_76 : decode cX11_howOf 76 = .ok (.aload_n 0, 1) := by decide +kernel
theorem dX11_howOf_77 : decode cX11_howOf 77 = .ok (.iload_n 1, 1) := by decide +kernel
theorem dX11_howOf_78 : decode cX11_howOf 78 = .ok (.aload_n 0, 1) := by decide +kernel
theorem dX11_howOf_79 : decode cX11_howOf 79 = .ok (.getfield 147, 3) := by decide +kernel
theorem dX11_howOf_82 : decode cX11_howOf 82 = .ok (.aload_n 0, 1) := by decide +kernel
theorem dX11_howOf_83 : decode cX11_howOf 83 = .ok (.getfield 151, 3) := by decide +kernel
theorem dX11_howOf_86 : decode cX11_howOf 86 = .ok (.aload_n 0, 1) := by decide +kernel
theorem dX11_howOf_87 : decode cX11_howOf 87 = .ok (.getfield 154, 3) := by decide +kernel
theorem dX11_howOf_90 : decode cX11_howOf 90 = .ok (.invokevirtual 189, 3) := by decide +kernel
theorem dX11_howOf_93 : decode cX11_howOf 93 = .ok (.ifCond .ne 23, 3) := by decide +kernel
theorem dX11_howOf_96 : decode cX11_howOf 96 = .ok (.aload_n 0, 1) := by decide +kernel
theorem dX11_howOf_97 : decode cX11_howOf 97 = .ok (.iload_n 2, 1) := by decide +kernel
theorem dX11_howOf_98 : decode cX11_howOf 98 = .ok (.aload_n 0, 1) := by decide +kernel
theorem dX11_howOf_99 : decode cX11_howOf 99 = .ok (.getfield 147, 3) := by decide +kernel
theorem dX11_howOf_102 : decode cX11_howOf 102 = .ok (.aload_n 0, 1) := by decide +kernel
theorem dX11_howOf_103 : decode cX11_howOf 103 = .ok (.getfield 151, 3) := by decide +kernel
theorem dX11_howOf_106 : decode cX11_howOf 106 = .ok (.aload_n 0, 1) := by decide +kernel
theorem dX11_howOf_107 : decode cX11_howOf 107 = .ok (.getfield 154, 3) := by decide +kernel
theorem dX11_howOf_110 : decode cX11_howOf 110 = .ok (.invokevirtual 189, 3) := by decide +kernel
theorem dX11_howOf_113 : decode cX11_howOf 113 = .ok (.ifCond .eq 7, 3) := by decide +kernel
theorem dX11_howOf_116 : decode cX11_howOf 116 = .ok (.iconst 1, 1) := by decide +kernel
theorem dX11_howOf_117 : decode cX11_howOf 117 = .ok (.goto 4, 3) := by decide +kernel
theorem dX11_howOf_120 : decode cX11_howOf 120 = .ok (.iconst 2, 1) := by decide +kernel
theorem dX11_howOf_121 : decode cX11_howOf 121 = .ok (.ireturn, 1) := by decide +kernel
theorem dX11_against_0 : decode cX11_against 0 = .ok (.lload_n 0, 1) := by decide +kernel
theorem dX11_against_1 : decode cX11_against 1 = .ok (.lload 10, 2) := by decide +kernel
theorem dX11_against_3 : decode cX11_against 3 = .ok (.lmul, 1) := by decide +kernel
theorem dX11_against_4 : decode cX11_against 4 = .ok (.lload 6, 2) := by decide +kernel
theorem dX11_against_6 : decode cX11_against 6 = .ok (.lload 4, 2) := by decide +kernel
theorem dX11_against_8 : decode cX11_against 8 = .ok (.lmul, 1) := by decide +kernel
theorem dX11_against_9 : decode cX11_against 9 = .ok (.lsub, 1) := by decide +kernel
theorem dX11_against_10 : decode cX11_against 10 = .ok (.lstore 12, 2) := by decide +kernel
theorem dX11_against_12 : decode cX11_against 12 = .ok (.lload 12, 2) := by decide +kernel
theorem dX11_against_14 : decode cX11_against 14 = .ok (.lconst 0, 1) := by decide +kernel
theorem dX11_against_15 : decode cX11_against 15 = .ok (.lcmp, 1) := by decide +kernel
theorem dX11_against_16 : decode cX11_against 16 = .ok (.ifCond .ne 16, 3) := by decide +kernel
theorem dX11_against_19 : decode cX11_against 19 = .ok (.lload_n 2, 1) := by decide +kernel
theorem dX11_against_20 : decode cX11_against 20 = .ok (.lload 10, 2) := by decide +kernel
theorem dX11_against_22 : decode cX11_against 22 = .ok (.lmul, 1) := by decide +kernel
theorem dX11_against_23 : decode cX11_against 23 = .ok (.lload 8, 2) := by decide +kernel
theorem dX11_against_25 : decode cX11_against 25 = .ok (.lload 4, 2) := by decide +kernel
theorem dX11_against_27 : decode cX11_against 27 = .ok (.lmul, 1) := by decide +kernel
theorem dX11_against_28 : decode cX11_against 28 = .ok (.lsub, 1) := by decide +kernel
theorem dX11_against_29 : decode cX11_against 29 = .ok (.goto 5, 3) := by decide +kernel
theorem dX11_against_32 : decode cX11_against 32 = .ok (.lload 12, 2) := by decide +kernel
theorem dX11_against_34 : decode cX11_against 34 = .ok (.lstore 14, 2) := by decide +kernel
theorem dX11_against_36 : decode cX11_against 36 = .ok (.lload 14, 2) := by decide +kernel
theorem dX11_against_38 : decode cX11_against 38 = .ok (.lconst 0, 1) := by decide +kernel
theorem dX11_against_39 : decode cX11_against 39 = .ok (.lcmp, 1) := by decide +kernel
theorem dX11_against_40 : decode cX11_against 40 = .ok (.ifCond .ge 7, 3) := by decide +kernel
theorem dX11_against_43 : decode cX11_against 43 = .ok (.iconst (-1), 1) := by decide +kernel
theorem dX11_against_44 : decode cX11_against 44 = .ok (.goto 15, 3) := by decide +kernel
theorem dX11_against_47 : decode cX11_against 47 = .ok (.lload 14, 2) := by decide +kernel
theorem dX11_against_49 : decode cX11_against 49 = .ok (.lconst 0, 1) := by decide +kernel
theorem dX11_against_50 : decode cX11_against 50 = .ok (.lcmp, 1) := by decide +kernel
theorem dX11_against_51 : decode cX11_against 51 = .ok (.ifCond .le 7, 3) := by decide +kernel
theorem dX11_against_54 : decode cX11_against 54 = .ok (.iconst 1, 1) := by decide +kernel
theorem dX11_against_55 : decode cX11_against 55 = .ok (.goto 4, 3) := by decide +kernel
theorem dX11_against_58 : decode cX11_against 58 = .ok (.iconst 0, 1) := by decide +kernel
theorem dX11_against_59 : decode cX11_against 59 = .ok (.ireturn, 1) := by decide +kernel
theorem dX11_stands_0 : decode cX11_stands 0 = .ok (.iconst 0, 1) := by decide +kernel
theorem dX11_stands_1 : decode cX11_stands 1 = .ok (.istore 7, 2) := by decide +kernel
theorem dX11_stands_3 : decode cX11_stands 3 = .ok (.iload 7, 2) := by decide +kernel
theorem dX11_stands_5 : decode cX11_stands 5 = .ok (.aload_n 0, 1) := by decide +kernel
theorem dX11_stands_6 : decode cX11_stands 6 = .ok (.getfield 193, 3) := by decide +kernel
theorem dX11_stands_9 : decode cX11_stands 9 = .ok (.if_icmp .ge 40, 3) := by decide +kernel
theorem dX11_stands_12 : decode cX11_stands 12 = .ok (.aload_n 0, 1) := by decide +kernel
theorem dX11_stands_13 : decode cX11_stands 13 = .ok (.getfield 35, 3) := by decide +kernel
theorem dX11_stands_16 : decode cX11_stands 16 = .ok (.iload 7, 2) := by decide +kernel
theorem dX11_stands_18 : decode cX11_stands 18 = .ok (.laload, 1) := by decide +kernel
theorem dX11_stands_19 : decode cX11_stands 19 = .ok (.aload_n 0, 1) := by decide +kernel
theorem dX11_stands_20 : decode cX11_stands 20 = .ok (.getfield 39, 3) := by decide +kernel
theorem dX11_stands_23 : decode cX11_stands 23 = .ok (.iload 7, 2) := by decide +kernel
theorem dX11_stands_25 : decode cX11_stands 25 = .ok (.laload, 1) := by decide +kernel
theorem dX11_stands_26 : decode cX11_stands 26 = .ok (.aload_n 0, 1) := by decide +kernel
theorem dX11_stands_27 : decode cX11_stands 27 = .ok (.getfield 42, 3) := by decide +kernel
theorem dX11_stands_30 : decode cX11_stands 30 = .ok (.iload 7, 2) := by decide +kernel
theorem dX11_stands_32 : decode cX11_stands 32 = .ok (.laload, 1) := by decide +kernel
theorem dX11_stands_33 : decode cX11_stands 33 = .ok (.lload_n 1, 1) := by decide +kernel
theorem dX11_stands_34 : decode cX11_stands 34 = .ok (.lload_n 3, 1) := by decide +kernel
theorem dX11_stands_35 : decode cX11_stands 35 = .ok (.lload 5, 2) := by decide +kernel
theorem dX11_stands_37 : decode cX11_stands 37 = .ok (.invokestatic 196, 3) := by decide +kernel
theorem dX11_stands_40 : decode cX11_stands 40 = .ok (.ifCond .ge 9, 3) := by decide +kernel
theorem dX11_stands_43 : decode cX11_stands 43 = .ok (.iinc 7 1, 3) := by decide +kernel
theorem dX11_stands_46 : decode cX11_stands 46 = .ok (.goto (-43), 3) := by decide +kernel
theorem dX11_stands_49 : decode cX11_stands 49 = .ok (.iload 7, 2) := by decide +kernel
theorem dX11_stands_51 : decode cX11_stands 51 = .ok (.aload_n 0, 1) := by decide +kernel
theorem dX11_stands_52 : decode cX11_stands 52 = .ok (.getfield 193, 3) := by decide +kernel
theorem dX11_stands_55 : decode cX11_stands 55 = .ok (.if_icmp .ge 37, 3) := by decide +kernel
theorem dX11_stands_58 : decode cX11_stands 58 = .ok (.aload_n 0, 1) := by decide +kernel
theorem dX11_stands_59 : decode cX11_stands 59 = .ok (.getfield 35, 3) := by decide +kernel
theorem dX11_stands_62 : decode cX11_stands 62 = .ok (.iload 7, 2) := by decide +kernel
theorem dX11_stands_64 : decode cX11_stands 64 = .ok (.laload, 1) := by decide +kernel
theorem dX11_stands_65 : decode cX11_stands 65 = .ok (.aload_n 0, 1) := by decide +kernel
theorem dX11_stands_66 : decode cX11_stands 66 = .ok (.getfield 39, 3) := by decide +kernel
theorem dX11_stands_69 : decode cX11_stands 69 = .ok (.iload 7, 2) := by decide +kernel
theorem dX11_stands_71 : decode cX11_stands 71 = .ok (.laload, 1) := by decide +kernel
theorem dX11_stands_72 : decode cX11_stands 72 = .ok (.aload_n 0, 1) := by decide +kernel
theorem dX11_stands_73 : decode cX11_stands 73 = .ok (.getfield 42, 3) := by decide +kernel
theorem dX11_stands_76 : decode cX11_stands 76 = .ok (.iload 7, 2) := by decide +kernel
theorem dX11_stands_78 : decode cX11_stands 78 = .ok (.laload, 1) := by decide +kernel
theorem dX11_stands_79 : decode cX11_stands 79 = .ok (.lload_n 1, 1) := by decide +kernel
theorem dX11_stands_80 : decode cX11_stands 80 = .ok (.lload_n 3, 1) := by decide +kernel
theorem dX11_stands_81 : decode cX11_stands 81 = .ok (.lload 5, 2) := by decide +kernel
theorem dX11_stands_83 : decode cX11_stands 83 = .ok (.invokestatic 196, 3) := by decide +kernel
theorem dX11_stands_86 : decode cX11_stands 86 = .ok (.ifCond .ne 6, 3) := by decide +kernel
theorem dX11_stands_89 : decode cX11_stands 89 = .ok (.iload 7, 2) := by decide +kernel
theorem dX11_stands_91 : decode cX11_stands 91 = .ok (.ireturn, 1) := by decide +kernel
theorem dX11_stands_92 : decode cX11_stands 92 = .ok (.aload_n 0, 1) := by decide +kernel
theorem dX11_stands_93 : decode cX11_stands 93 = .ok (.getfield 193, 3) := by decide +kernel
theorem dX11_stands_96 : decode cX11_stands 96 = .ok (.istore 8, 2) := by decide +kernel
theorem dX11_stands_98 : decode cX11_stands 98 = .ok (.iload 8, 2) := by decide +kernel
theorem dX11_stands_100 : decode cX11_stands 100 = .ok (.iload 7, 2) := by decide +kernel
theorem dX11_stands_102 : decode cX11_stands 102 = .ok (.if_icmp .le 73, 3) := by decide +kernel
theorem dX11_stands_105 : decode cX11_stands 105 = .ok (.aload_n 0, 1) := by decide +kernel
theorem dX11_stands_106 : decode cX11_stands 106 = .ok (.getfield 35, 3) := by decide +kernel
theorem dX11_stands_109 : decode cX11_stands 109 = .ok (.iload 8, 2) := by decide +kernel
theorem dX11_stands_111 : decode cX11_stands 111 = .ok (.aload_n 0, 1) := by decide +kernel
theorem dX11_stands_112 : decode cX11_stands 112 = .ok (.getfield 35, 3) := by decide +kernel
theorem dX11_stands_115 : decode cX11_stands 115 = .ok (.iload 8, 2) := by decide +kernel
theorem dX11_stands_117 : decode cX11_stands 117 = .ok (.iconst 1, 1) := by decide +kernel
theorem dX11_stands_118 : decode cX11_stands 118 = .ok (.isub, 1) := by decide +kernel
theorem dX11_stands_119 : decode cX11_stands 119 = .ok (.laload, 1) := by decide +kernel
theorem dX11_stands_120 : decode cX11_stands 120 = .ok (.lastore, 1) := by decide +kernel
theorem dX11_stands_121 : decode cX11_stands 121 = .ok (.aload_n 0, 1) := by decide +kernel
theorem dX11_stands_122 : decode cX11_stands 122 = .ok (.getfield 39, 3) := by decide +kernel
theorem dX11_stands_125 : decode cX11_stands 125 = .ok (.iload 8, 2) := by decide +kernel
theorem dX11_stands_127 : decode cX11_stands 127 = .ok (.aload_n 0, 1) := by decide +kernel
theorem dX11_stands_128 : decode cX11_stands 128 = .ok (.getfield 39, 3) := by decide +kernel
theorem dX11_stands_131 : decode cX11_stands 131 = .ok (.iload 8, 2) := by decide +kernel
theorem dX11_stands_133 : decode cX11_stands 133 = .ok (.iconst 1, 1) := by decide +kernel
theorem dX11_stands_134 : decode cX11_stands 134 = .ok (.isub, 1) := by decide +kernel
theorem dX11_stands_135 : decode cX11_stands 135 = .ok (.laload, 1) := by decide +kernel
theorem dX11_stands_136 : decode cX11_stands 136 = .ok (.lastore, 1) := by decide +kernel
theorem dX11_stands_137 : decode cX11_stands 137 = .ok (.aload_n 0, 1) := by decide +kernel
theorem dX11_stands_138 : decode cX11_stands 138 = .ok (.getfield 42, 3) := by decide +kernel
theorem dX11_stands_141 : decode cX11_stands 141 = .ok (.iload 8, 2) := by decide +kernel
theorem dX11_stands_143 : decode cX11_stands 143 = .ok (.aload_n 0, 1) := by decide +kernel
theorem dX11_stands_144 : decode cX11_stands 144 = .ok (.getfield 42, 3) := by decide +kernel
theorem dX11_stands_147 : decode cX11_stands 147 = .ok (.iload 8, 2) := by decide +kernel
theorem dX11_stands_149 : decode cX11_stands 149 = .ok (.iconst 1, 1) := by decide +kernel
theorem dX11_stands_150 : decode cX11_stands 150 = .ok (.isub, 1) := by decide +kernel
theorem dX11_stands_151 : decode cX11_stands 151 = .ok (.laload, 1) := by decide +kernel
theorem dX11_stands_152 : decode cX11_stands 152 = .ok (.lastore, 1) := by decide +kernel
theorem dX11_stands_153 : decode cX11_stands 153 = .ok (.aload_n 0, 1) := by decide +kernel
theorem dX11_stands_154 : decode cX11_stands 154 = .ok (.getfield 45, 3) := by decide +kernel
theorem dX11_stands_157 : decode cX11_stands 157 = .ok (.iload 8, 2) := by decide +kernel
theorem dX11_stands_159 : decode cX11_stands 159 = .ok (.aload_n 0, 1) := by decide +kernel
theorem dX11_stands_160 : decode cX11_stands 160 = .ok (.getfield 45, 3) := by decide +kernel
theorem dX11_stands_163 : decode cX11_stands 163 = .ok (.iload 8, 2) := by decide +kernel
theorem dX11_stands_165 : decode cX11_stands 165 = .ok (.iconst 1, 1) := by decide +kernel
theorem dX11_stands_166 : decode cX11_stands 166 = .ok (.isub, 1) := by decide +kernel
theorem dX11_stands_167 : decode cX11_stands 167 = .ok (.iaload, 1) := by decide +kernel
theorem dX11_stands_168 : decode cX11_stands 168 = .ok (.iastore, 1) := by decide +kernel
theorem dX11_stands_169 : decode cX11_stands 169 = .ok (.iinc 8 (-1), 3) := by decide +kernel
theorem dX11_stands_172 : decode cX11_stands 172 = .ok (.goto (-74), 3) := by decide +kernel
theorem dX11_stands_175 : decode cX11_stands 175 = .ok (.aload_n 0, 1) := by decide +kernel
theorem dX11_stands_176 : decode cX11_stands 176 = .ok (.getfield 35, 3) := by decide +kernel
theorem dX11_stands_179 : decode cX11_stands 179 = .ok (.iload 7, 2) := by decide +kernel
theorem dX11_stands_181 : decode cX11_stands 181 = .ok (.lload_n 1, 1) := by decide +kernel
theorem dX11_stands_182 : decode cX11_stands 182 = .ok (.lastore, 1) := by decide +kernel
theorem dX11_stands_183 : decode cX11_stands 183 = .ok (.aload_n 0, 1) := by decide +kernel
theorem dX11_stands_184 : decode cX11_stands 184 = .ok (.getfield 39, 3) := by decide +kernel
theorem dX11_stands_187 : decode cX11_stands 187 = .ok (.iload 7, 2) := by decide +kernel
theorem dX11_stands_189 : decode cX11_stands 189 = .ok (.lload_n 3, 1) := by decide +kernel
theorem dX11_stands_190 : decode cX11_stands 190 = .ok (.lastore, 1) := by decide +kernel
theorem dX11_stands_191 : decode cX11_stands 191 = .ok (.aload_n 0, 1) := by decide +kernel
theorem dX11_stands_192 : decode cX11_stands 192 = .ok (.getfield 42, 3) := by decide +kernel
theorem dX11_stands_195 : decode cX11_stands 195 = .ok (.iload 7, 2) := by decide +kernel
theorem dX11_stands_197 : decode cX11_stands 197 = .ok (.lload 5, 2) := by decide +kernel
theorem dX11_stands_199 : decode cX11_stands 199 = .ok (.lastore, 1) := by decide +kernel
theorem dX11_stands_200 : decode cX11_stands 200 = .ok (.aload_n 0, 1) := by decide +kernel
theorem dX11_stands_201 : decode cX11_stands 201 = .ok (.getfield 45, 3) := by decide +kernel
theorem dX11_stands_204 : decode cX11_stands 204 = .ok (.iload 7, 2) := by decide +kernel
theorem dX11_stands_206 : decode cX11_stands 206 = .ok (.iconst (-1), 1) := by decide +kernel
theorem dX11_stands_207 : decode cX11_stands 207 = .ok (.iastore, 1) := by decide +kernel
theorem dX11_stands_208 : decode cX11_stands 208 = .ok (.aload_n 0, 1) := by decide +kernel
theorem dX11_stands_209 : decode cX11_stands 209 = .ok (.dup, 1) := by decide +kernel
theorem dX11_stands_210 : decode cX11_stands 210 = .ok (.getfield 193, 3) := by decide +kernel
theorem dX11_stands_213 : decode cX11_stands 213 = .ok (.iconst 1, 1) := by decide +kernel
theorem dX11_stands_214 : decode cX11_stands 214 = .ok (.iadd, 1) := by decide +kernel
theorem dX11_stands_215 : decode cX11_stands 215 = .ok (.putfield 193, 3) := by decide +kernel
theorem dX11_stands_218 : decode cX11_stands 218 = .ok (.iload 7, 2) := by decide +kernel
theorem dX11_stands_220 : decode cX11_stands 220 = .ok (.ireturn, 1) := by decide +kernel
theorem dX11_has_0 : decode cX11_has 0 = .ok (.aload_n 0, 1) := by decide +kernel
theorem dX11_has_1 : decode cX11_has 1 = .ok (.aload_n 0, 1) := by decide +kernel
theorem dX11_has_2 : decode cX11_has 2 = .ok (.getfield 26, 3) := by decide +kernel
theorem dX11_has_5 : decode cX11_has 5 = .ok (.iload_n 1, 1) := by decide +kernel
theorem dX11_has_6 : decode cX11_has 6 = .ok (.invokevirtual 179, 3) := by decide +kernel
theorem dX11_has_9 : decode cX11_has 9 = .ok (.aload_n 0, 1) := by decide +kernel
theorem dX11_has_10 : decode cX11_has 10 = .ok (.getfield 26, 3) := by decide +kernel
theorem dX11_has_13 : decode cX11_has 13 = .ok (.aload_n 0, 1) := by decide +kernel
theorem dX11_has_14 : decode cX11_has 14 = .ok (.getfield 35, 3) := by decide +kernel
theorem dX11_has_17 : decode cX11_has 17 = .ok (.iload_n 2, 1) := by decide +kernel
theorem dX11_has_18 : decode cX11_has 18 = .ok (.laload, 1) := by decide +kernel
theorem dX11_has_19 : decode cX11_has 19 = .ok (.aload_n 0, 1) := by decide +kernel
theorem dX11_has_20 : decode cX11_has 20 = .ok (.getfield 39, 3) := by decide +kernel
theorem dX11_has_23 : decode cX11_has 23 = .ok (.iload_n 2, 1) := by decide +kernel
theorem dX11_has_24 : decode cX11_has 24 = .ok (.laload, 1) := by decide +kernel
theorem dX11_has_25 : decode cX11_has 25 = .ok (.aload_n 0, 1) := by decide +kernel
theorem dX11_has_26 : decode cX11_has 26 = .ok (.getfield 42, 3) := by decide +kernel
theorem dX11_has_29 : decode cX11_has 29 = .ok (.iload_n 2, 1) := by decide +kernel
theorem dX11_has_30 : decode cX11_has 30 = .ok (.laload, 1) := by decide +kernel
theorem dX11_has_31 : decode cX11_has 31 = .ok (.invokestatic 169, 3) := by decide +kernel
theorem dX11_has_34 : decode cX11_has 34 = .ok (.ireturn, 1) := by decide +kernel
theorem dX11_lays_0 : decode cX11_lays 0 = .ok (.aload_n 0, 1) := by decide +kernel
theorem dX11_lays_1 : decode cX11_lays 1 = .ok (.getfield 109, 3) := by decide +kernel
theorem dX11_lays_4 : decode cX11_lays 4 = .ok (.ifCond .eq 4, 3) := by decide +kernel
theorem dX11_lays_7 : decode cX11_lays 7 = .ok (.return_, 1) := by decide +kernel
theorem dX11_lays_8 : decode cX11_lays 8 = .ok (.aload_n 0, 1) := by decide +kernel
theorem dX11_lays_9 : decode cX11_lays 9 = .ok (.iconst 1, 1) := by decide +kernel
theorem dX11_lays_10 : decode cX11_lays 10 = .ok (.putfield 109, 3) := by decide +kernel
theorem dX11_lays_13 : decode cX11_lays 13 = .ok (.aload_n 0, 1) := by decide +kernel
theorem dX11_lays_14 : decode cX11_lays 14 = .ok (.iconst 0, 1) := by decide +kernel
theorem dX11_lays_15 : decode cX11_lays 15 = .ok (.putfield 193, 3) := by decide +kernel
theorem dX11_lays_18 : decode cX11_lays 18 = .ok (.iconst 0, 1) := by decide +kernel
theorem dX11_lays_19 : decode cX11_lays 19 = .ok (.istore_n 1, 1) := by decide +kernel
theorem dX11_lays_20 : decode cX11_lays 20 = .ok (.iload_n 1, 1) := by decide +kernel
theorem dX11_lays_21 : decode cX11_lays 21 = .ok (.aload_n 0, 1) := by decide +kernel
theorem dX11_lays_22 : decode cX11_lays 22 = .ok (.invokevirtual 200, 3) := by decide +kernel
theorem dX11_lays_25 : decode cX11_lays 25 = .ok (.if_icmp .ge 49, 3) := by decide +kernel
theorem dX11_lays_28 : decode cX11_lays 28 = .ok (.aload_n 0, 1) := by decide +kernel
theorem dX11_lays_29 : decode cX11_lays 29 = .ok (.aload_n 0, 1) := by decide +kernel
theorem dX11_lays_30 : decode cX11_lays 30 = .ok (.iload_n 1, 1) := by decide +kernel
theorem dX11_lays_31 : decode cX11_lays 31 = .ok (.iconst 0, 1) := by decide +kernel
theorem dX11_lays_32 : decode cX11_lays 32 = .ok (.invokevirtual 127, 3) := by decide +kernel
theorem dX11_lays_35 : decode cX11_lays 35 = .ok (.i2l, 1) := by decide +kernel
theorem dX11_lays_36 : decode cX11_lays 36 = .ok (.aload_n 0, 1) := by decide +kernel
theorem dX11_lays_37 : decode cX11_lays 37 = .ok (.iload_n 1, 1) := by decide +kernel
theorem dX11_lays_38 : decode cX11_lays 38 = .ok (.iconst 1, 1) := by decide +kernel
theorem dX11_lays_39 : decode cX11_lays 39 = .ok (.invokevirtual 127, 3) := by decide +kernel
theorem dX11_lays_42 : decode cX11_lays 42 = .ok (.i2l, 1) := by decide +kernel
theorem dX11_lays_43 : decode cX11_lays 43 = .ok (.lconst 1, 1) := by decide +kernel
theorem dX11_lays_44 : decode cX11_lays 44 = .ok (.invokevirtual 203, 3) := by decide +kernel
theorem dX11_lays_47 : decode cX11_lays 47 = .ok (.istore_n 2, 1) := by decide +kernel
theorem dX11_lays_48 : decode cX11_lays 48 = .ok (.aload_n 0, 1) := by decide +kernel
theorem dX11_lays_49 : decode cX11_lays 49 = .ok (.aload_n 0, 1) := by decide +kernel
theorem dX11_lays_50 : decode cX11_lays 50 = .ok (.iload_n 1, 1) := by decide +kernel
theorem dX11_lays_51 : decode cX11_lays 51 = .ok (.iconst 2, 1) := by decide +kernel
theorem dX11_lays_52 : decode cX11_lays 52 = .ok (.invokevirtual 127, 3) := by decide +kernel
theorem dX11_lays_55 : decode cX11_lays 55 = .ok (.i2l, 1) := by decide +kernel
theorem dX11_lays_56 : decode cX11_lays 56 = .ok (.aload_n 0, 1) := by decide +kernel
theorem dX11_lays_57 : decode cX11_lays 57 = .ok (.iload_n 1, 1) := by decide +kernel
theorem dX11_lays_58 : decode cX11_lays 58 = .ok (.iconst 3, 1) := by decide +kernel
theorem dX11_lays_59 : decode cX11_lays 59 = .ok (.invokevirtual 127, 3) := by decide +kernel
theorem dX11_lays_62 : decode cX11_lays 62 = .ok (.i2l, 1) := by decide +kernel
theorem dX11_lays_63 : decode cX11_lays 63 = .ok (.lconst 1, 1) := by decide +kernel
theorem dX11_lays_64 : decode cX11_lays 64 = .ok (.invokevirtual 203, 3) := by decide +kernel
theorem dX11_lays_67 : decode cX11_lays 67 = .ok (.istore_n 3, 1) := by decide +kernel
theorem dX11_lays_68 : decode cX11_lays 68 = .ok (.iinc 1 1, 3) := by decide +kernel
theorem dX11_lays_71 : decode cX11_lays 71 = .ok (.goto (-51), 3) := by decide +kernel
theorem dX11_lays_74 : decode cX11_lays 74 = .ok (.iconst 0, 1) := by decide +kernel
theorem dX11_lays_75 : decode cX11_lays 75 = .ok (.istore_n 1, 1) := by decide +kernel
theorem dX11_lays_76 : decode cX11_lays 76 = .ok (.iload_n 1, 1) := by decide +kernel
theorem dX11_lays_77 : decode cX11_lays 77 = .ok (.aload_n 0, 1) := by decide +kernel
theorem dX11_lays_78 : decode cX11_lays 78 = .ok (.invokevirtual 200, 3) := by decide +kernel
theorem dX11_lays_81 : decode cX11_lays 81 = .ok (.if_icmp .ge 54, 3) := by decide +kernel
theorem dX11_lays_84 : decode cX11_lays 84 = .ok (.iconst 0, 1) := by decide +kernel
theorem dX11_lays_85 : decode cX11_lays 85 = .ok (.istore_n 2, 1) := by decide +kernel
theorem dX11_lays_86 : decode cX11_lays 86 = .ok (.iload_n 2, 1) := by decide +kernel
theorem dX11_lays_87 : decode cX11_lays 87 = .ok (.iload_n 1, 1) := by decide +kernel
theorem dX11_lays_88 : decode cX11_lays 88 = .ok (.if_icmp .ge 41, 3) := by decide +kernel
theorem dX11_lays_91 : decode cX11_lays 91 = .ok (.aload_n 0, 1) := by decide +kernel
theorem dX11_lays_92 : decode cX11_lays 92 = .ok (.iload_n 1, 1) := by decide +kernel
theorem dX11_lays_93 : decode cX11_lays 93 = .ok (.iload_n 2, 1) := by decide +kernel
theorem dX11_lays_94 : decode cX11_lays 94 = .ok (.invokevirtual 186, 3) := by decide +kernel
theorem dX11_lays_97 : decode cX11_lays 97 = .ok (.iconst 1, 1) := by decide +kernel
theorem dX11_lays_98 : decode cX11_lays 98 = .ok (.if_icmp .ne 25, 3) := by decide +kernel
theorem dX11_lays_101 : decode cX11_lays 101 = .ok (.aload_n 0, 1) := by decide +kernel
theorem dX11_lays_102 : decode cX11_lays 102 = .ok (.getfield 45, 3) := by decide +kernel
theorem dX11_lays_105 : decode cX11_lays 105 = .ok (.aload_n 0, 1) := by decide +kernel
theorem dX11_lays_106 : decode cX11_lays 106 = .ok (.aload_n 0, 1) := by decide +kernel
theorem dX11_lays_107 : decode cX11_lays 107 = .ok (.getfield 147, 3) := by decide +kernel
theorem dX11_lays_110 : decode cX11_lays 110 = .ok (.aload_n 0, 1) := by decide +kernel
theorem dX11_lays_111 : decode cX11_lays 111 = .ok (.getfield 151, 3) := by decide +kernel
theorem dX11_lays_114 : decode cX11_lays 114 = .ok (.aload_n 0, 1) := by decide +kernel
theorem dX11_lays_115 : decode cX11_lays 115 = .ok (.getfield 154, 3) := by decide +kernel
theorem dX11_lays_118 : decode cX11_lays 118 = .ok (.invokevirtual 203, 3) := by decide +kernel
theorem dX11_lays_121 : decode cX11_lays 121 = .ok (.iconst 0, 1) := by decide +kernel
theorem dX11_lays_122 : decode cX11_lays 122 = .ok (.iastore, 1) := by decide +kernel
theorem dX11_lays_123 : decode cX11_lays 123 = .ok (.iinc 2 1, 3) := by decide +kernel
theorem dX11_lays_126 : decode cX11_lays 126 = .ok (.goto (-40), 3) := by decide +kernel
theorem dX11_lays_129 : decode cX11_lays 129 = .ok (.iinc 1 1, 3) := by decide +kernel
theorem dX11_lays_132 : decode cX11_lays 132 = .ok (.goto (-56), 3) := by decide +kernel
theorem dX11_lays_135 : decode cX11_lays 135 = .ok (.aload_n 0, 1) := by decide +kernel
theorem dX11_lays_136 : decode cX11_lays 136 = .ok (.iconst 0, 1) := by decide +kernel
theorem dX11_lays_137 : decode cX11_lays 137 = .ok (.putfield 206, 3) := by decide +kernel
theorem dX11_lays_140 : decode cX11_lays 140 = .ok (.iconst 0, 1) := by decide +kernel
theorem dX11_lays_141 : decode cX11_lays 141 = .ok (.istore_n 1, 1) := by decide +kernel
theorem dX11_lays_142 : decode cX11_lays 142 = .ok (.iload_n 1, 1) := by decide +kernel
theorem dX11_lays_143 : decode cX11_lays 143 = .ok (.aload_n 0, 1) := by decide +kernel
theorem dX11_lays_144 : decode cX11_lays 144 = .ok (.getfield 193, 3) := by decide +kernel
theorem dX11_lays_147 : decode cX11_lays 147 = .ok (.if_icmp .ge 107, 3) := by decide +kernel
theorem dX11_lays_150 : decode cX11_lays 150 = .ok (.aload_n 0, 1) := by decide +kernel
theorem dX11_lays_151 : decode cX11_lays 151 = .ok (.getfield 48, 3) := by decide +kernel
theorem dX11_lays_154 : decode cX11_lays 154 = .ok (.iload_n 1, 1) := by decide +kernel
theorem dX11_lays_155 : decode cX11_lays 155 = .ok (.iconst 0, 1) := by decide +kernel
theorem dX11_lays_156 : decode cX11_lays 156 = .ok (.iastore, 1) := by decide +kernel
theorem dX11_lays_157 : decode cX11_lays 157 = .ok (.aload_n 0, 1) := by decide +kernel
theorem dX11_lays_158 : decode cX11_lays 158 = .ok (.getfield 54, 3) := by decide +kernel
theorem dX11_lays_161 : decode cX11_lays 161 = .ok (.iload_n 1, 1) := by decide +kernel
theorem dX11_lays_162 : decode cX11_lays 162 = .ok (.iconst 0, 1) := by decide +kernel
theorem dX11_lays_163 : decode cX11_lays 163 = .ok (.iastore, 1) := by decide +kernel
theorem dX11_lays_164 : decode cX11_lays 164 = .ok (.iconst 0, 1) := by decide +kernel
theorem dX11_lays_165 : decode cX11_lays 165 = .ok (.istore_n 2, 1) := by decide +kernel
theorem dX11_lays_166 : decode cX11_lays 166 = .ok (.iload_n 2, 1) := by decide +kernel
theorem dX11_lays_167 : decode cX11_lays 167 = .ok (.aload_n 0, 1) := by decide +kernel
theorem dX11_lays_168 : decode cX11_lays 168 = .ok (.invokevirtual 200, 3) := by decide +kernel
theorem dX11_lays_171 : decode cX11_lays 171 = .ok (.if_icmp .ge 34, 3) := by decide +kernel
theorem dX11_lays_174 : decode cX11_lays 174 = .ok (.aload_n 0, 1) := by decide +kernel
theorem dX11_lays_175 : decode cX11_lays 175 = .ok (.getfield 48, 3) := by decide +kernel
theorem dX11_lays_178 : decode cX11_lays 178 = .ok (.iload_n 1, 1) := by decide +kernel
theorem dX11_lays_179 : decode cX11_lays 179 = .ok (.dup2, 1) := by decide +kernel
theorem dX11_lays_180 : decode cX11_lays 180 = .ok (.iaload, 1) := by decide +kernel
theorem dX11_lays_181 : decode cX11_lays 181 = .ok (.aload_n 0, 1) := by decide +kernel
theorem dX11_lays_182 : decode cX11_lays 182 = .ok (.iload_n 2, 1) := by decide +kernel
theorem dX11_lays_183 : decode cX11_lays 183 = .ok (.iload_n 1, 1) := by decide +kernel
theorem dX11_lays_184 : decode cX11_lays 184 = .ok (.invokevirtual 209, 3) := by decide +kernel
theorem dX11_lays_187 : decode cX11_lays 187 = .ok (.ifCond .eq 9, 3) := by decide +kernel
theorem dX11_lays_190 : decode cX11_lays 190 = .ok (.iconst 1, 1) := by decide +kernel
theorem dX11_lays_191 : decode cX11_lays 191 = .ok (.iload_n 2, 1) := by decide +kernel
theorem dX11_lays_192 : decode cX11_lays 192 = .ok (.ishl, 1) := by decide +kernel
theorem dX11_lays_193 : decode cX11_lays 193 = .ok (.goto 4, 3) := by decide +kernel
theorem dX11_lays_196 : decode cX11_lays 196 = .ok (.iconst 0, 1) := by decide +kernel
theorem dX11_lays_197 : decode cX11_lays 197 = .ok (.ior, 1) := by decide +kernel
theorem dX11_lays_198 : decode cX11_lays 198 = .ok (.iastore, 1) := by decide +kernel
theorem dX11_lays_199 : decode cX11_lays 199 = .ok (.iinc 2 1, 3) := by decide +kernel
theorem dX11_lays_202 : decode cX11_lays 202 = .ok (.goto (-36), 3) := by decide +kernel
theorem dX11_lays_205 : decode cX11_lays 205 = .ok (.aload_n 0, 1) := by decide +kernel
theorem dX11_lays_206 : decode cX11_lays 206 = .ok (.getfield 45, 3) := by decide +kernel
theorem dX11_lays_209 : decode cX11_lays 209 = .ok (.iload_n 1, 1) := by decide +kernel
theorem dX11_lays_210 : decode cX11_lays 210 = .ok (.iaload, 1) := by decide +kernel
theorem dX11_lays_211 : decode cX11_lays 211 = .ok (.iconst (-1), 1) := by decide +kernel
theorem dX11_lays_212 : decode cX11_lays 212 = .ok (.if_icmp .ne 6, 3) := by decide +kernel
theorem dX11_lays_215 : decode cX11_lays 215 = .ok (.goto 33, 3) := by decide +kernel
theorem dX11_lays_218 : decode cX11_lays 218 = .ok (.aload_n 0, 1) := by decide +kernel
theorem dX11_lays_219 : decode cX11_lays 219 = .ok (.getfield 45, 3) := by decide +kernel
theorem dX11_lays_222 : decode cX11_lays 222 = .ok (.iload_n 1, 1) := by decide +kernel
theorem dX11_lays_223 : decode cX11_lays 223 = .ok (.aload_n 0, 1) := by decide +kernel
theorem dX11_lays_224 : decode cX11_lays 224 = .ok (.getfield 206, 3) := by decide +kernel
theorem dX11_lays_227 : decode cX11_lays 227 = .ok (.iastore, 1) := by decide +kernel
theorem dX11_lays_228 : decode cX11_lays 228 = .ok (.aload_n 0, 1) := by decide +kernel
theorem dX11_lays_229 : decode cX11_lays 229 = .ok (.getfield 51, 3) := by decide +kernel
theorem dX11_lays_232 : decode cX11_lays 232 = .ok (.aload_n 0, 1) := by decide +kernel
theorem dX11_lays_233 : decode cX11_lays 233 = .ok (.getfield 206, 3) := by decide +kernel
theorem dX11_lays_236 : decode cX11_lays 236 = .ok (.iload_n 1, 1) := by decide +kernel
theorem dX11_lays_237 : decode cX11_lays 237 = .ok (.iastore, 1) := by decide +kernel
theorem dX11_lays_238 : decode cX11_lays 238 = .ok (.aload_n 0, 1) := by decide +kernel
theorem dX11_lays_239 : decode cX11_lays 239 = .ok (.dup, 1) := by decide +kernel
theorem dX11_lays_240 : decode cX11_lays 240 = .ok (.getfield 206, 3) := by decide +kernel
theorem dX11_lays_243 : decode cX11_lays 243 = .ok (.iconst 1, 1) := by decide +kernel
theorem dX11_lays_244 : decode cX11_lays 244 = .ok (.iadd, 1) := by decide +kernel
theorem dX11_lays_245 : decode cX11_lays 245 = .ok (.putfield 206, 3) := by decide +kernel
theorem dX11_lays_248 : decode cX11_lays 248 = .ok (.iinc 1 1, 3) := by decide +kernel
theorem dX11_lays_251 : decode cX11_lays 251 = .ok (.goto (-109), 3) := by decide +kernel
theorem dX11_lays_254 : decode cX11_lays 254 = .ok (.aload_n 0, 1) := by decide +kernel
theorem dX11_lays_255 : decode cX11_lays 255 = .ok (.iconst 0, 1) := by decide +kernel
theorem dX11_lays_256 : decode cX11_lays 256 = .ok (.putfield 213, 3) := by decide +kernel
theorem dX11_lays_259 : decode cX11_lays 259 = .ok (.iconst 0, 1) := by decide +kernel
theorem dX11_lays_260 : decode cX11_lays 260 = .ok (.istore_n 1, 1) := by decide +kernel
theorem dX11_lays_261 : decode cX11_lays 261 = .ok (.iload_n 1, 1) := by decide +kernel
theorem dX11_lays_262 : decode cX11_lays 262 = .ok (.aload_n 0, 1) := by decide +kernel
theorem dX11_lays_263 : decode cX11_lays 263 = .ok (.invokevirtual 200, 3) := by decide +kernel
theorem dX11_lays_266 : decode cX11_lays 266 = .ok (.if_icmp .ge 14, 3) := by decide +kernel
theorem dX11_lays_269 : decode cX11_lays 269 = .ok (.aload_n 0, 1) := by decide +kernel
theorem dX11_lays_270 : decode cX11_lays 270 = .ok (.iload_n 1, 1) := by decide +kernel
theorem dX11_lays_271 : decode cX11_lays 271 = .ok (.invokevirtual 216, 3) := by decide +kernel
theorem dX11_lays_274 : decode cX11_lays 274 = .ok (.iinc 1 1, 3) := by decide +kernel
theorem dX11_lays_277 : decode cX11_lays 277 = .ok (.goto (-16), 3) := by decide +kernel
theorem dX11_lays_280 : decode cX11_lays 280 = .ok (.return_, 1) := by decide +kernel
theorem dX11_laysEdges_0 : decode cX11_laysEdges 0 = .ok (.iconst (-1), 1) := by decide +kernel
theorem dX11_laysEdges_1 : decode cX11_laysEdges 1 = .ok (.istore_n 2, 1) := by decide +kernel
theorem dX11_laysEdges_2 : decode cX11_laysEdges 2 = .ok (.iconst 0, 1) := by decide +kernel
theorem dX11_laysEdges_3 : decode cX11_laysEdges 3 = .ok (.istore_n 3, 1) := by decide +kernel
theorem dX11_laysEdges_4 : decode cX11_laysEdges 4 = .ok (.iload_n 3, 1) := by decide +kernel
theorem dX11_laysEdges_5 : decode cX11_laysEdges 5 = .ok (.aload_n 0, 1) := by decide +kernel
theorem dX11_laysEdges_6 : decode cX11_laysEdges 6 = .ok (.getfield 193, 3) := by decide +kernel
theorem dX11_laysEdges_9 : decode cX11_laysEdges 9 = .ok (.if_icmp .ge 91, 3) := by decide +kernel
theorem dX11_laysEdges_12 : decode cX11_laysEdges 12 = .ok (.aload_n 0, 1) := by decide +kernel
theorem dX11_laysEdges_13 : decode cX11_laysEdges 13 = .ok (.getfield 48, 3) := by decide +kernel
theorem dX11_laysEdges_16 : decode cX11_laysEdges 16 = .ok (.iload_n 3, 1) := by decide +kernel
theorem dX11_laysEdges_17 : decode cX11_laysEdges 17 = .ok (.iaload, 1) := by decide +kernel
theorem dX11_laysEdges_18 : decode cX11_laysEdges 18 = .ok (.iload_n 1, 1) := by decide +kernel
theorem dX11_laysEdges_19 : decode cX11_laysEdges 19 = .ok (.invokestatic 220, 3) := by decide +kernel
theorem dX11_laysEdges_22 : decode cX11_laysEdges 22 = .ok (.ifCond .ne 6, 3) := by decide +kernel
theorem dX11_laysEdges_25 : decode cX11_laysEdges 25 = .ok (.goto 69, 3) := by decide +kernel
theorem dX11_laysEdges_28 : decode cX11_laysEdges 28 = .ok (.iload_n 2, 1) := by decide +kernel
theorem dX11_laysEdges_29 : decode cX11_laysEdges 29 = .ok (.iconst (-1), 1) := by decide +kernel
theorem dX11_laysEdges_30 : decode cX11_laysEdges 30 = .ok (.if_icmp .eq 62, 3) := by decide +kernel
theorem dX11_laysEdges_33 : decode cX11_laysEdges 33 = .ok (.aload_n 0, 1) := by decide +kernel
theorem dX11_laysEdges_34 : decode cX11_laysEdges 34 = .ok (.iload_n 2, 1) := by decide +kernel
theorem dX11_laysEdges_35 : decode cX11_laysEdges 35 = .ok (.iload_n 3, 1) := by decide +kernel
theorem dX11_laysEdges_36 : decode cX11_laysEdges 36 = .ok (.invokevirtual 223, 3) := by decide +kernel
theorem dX11_laysEdges_39 : decode cX11_laysEdges 39 = .ok (.ifCond .ne 53, 3) := by decide +kernel
theorem dX11_laysEdges_42 : decode cX11_laysEdges 42 = .ok (.aload_n 0, 1) := by decide +kernel
theorem dX11_laysEdges_43 : decode cX11_laysEdges 43 = .ok (.getfield 57, 3) := by decide +kernel
theorem dX11_laysEdges_46 : decode cX11_laysEdges 46 = .ok (.aload_n 0, 1) := by decide +kernel
theorem dX11_laysEdges_47 : decode cX11_laysEdges 47 = .ok (.getfield 213, 3) := by decide +kernel
theorem dX11_laysEdges_50 : decode cX11_laysEdges 50 = .ok (.iload_n 2, 1) := by decide +kernel
theorem dX11_laysEdges_51 : decode cX11_laysEdges 51 = .ok (.iastore, 1) := by decide +kernel
theorem dX11_laysEdges_52 : decode cX11_laysEdges 52 = .ok (.aload_n 0, 1) := by decide +kernel
theorem dX11_laysEdges_53 : decode cX11_laysEdges 53 = .ok (.getfield 60, 3) := by decide +kernel
theorem dX11_laysEdges_56 : decode cX11_laysEdges 56 = .ok (.aload_n 0, 1) := by decide +kernel
theorem dX11_laysEdges_57 : decode cX11_laysEdges 57 = .ok (.getfield 213, 3) := by decide +kernel
theorem dX11_laysEdges_60 : decode cX11_laysEdges 60 = .ok (.iload_n 3, 1) := by decide +kernel
theorem dX11_laysEdges_61 : decode cX11_laysEdges 61 = .ok (.iastore, 1) := by decide +kernel
theorem dX11_laysEdges_62 : decode cX11_laysEdges 62 = .ok (.aload_n 0, 1) := by decide +kernel
theorem dX11_laysEdges_63 : decode cX11_laysEdges 63 = .ok (.dup, 1) := by decide +kernel
theorem dX11_laysEdges_64 : decode cX11_laysEdges 64 = .ok (.getfield 213, 3) := by decide +kernel
theorem dX11_laysEdges_67 : decode cX11_laysEdges 67 = .ok (.iconst 1, 1) := by decide +kernel
theorem dX11_laysEdges_68 : decode cX11_laysEdges 68 = .ok (.iadd, 1) := by decide +kernel
theorem dX11_laysEdges_69 : decode cX11_laysEdges 69 = .ok (.putfield 213, 3) := by decide +kernel
theorem dX11_laysEdges_72 : decode cX11_laysEdges 72 = .ok (.aload_n 0, 1) := by decide +kernel
theorem dX11_laysEdges_73 : decode cX11_laysEdges 73 = .ok (.getfield 54, 3) := by decide +kernel
theorem dX11_laysEdges_76 : decode cX11_laysEdges 76 = .ok (.iload_n 2, 1) := by decide +kernel
theorem dX11_laysEdges_77 : decode cX11_laysEdges 77 = .ok (.dup2, 1) := by decide +kernel
theorem dX11_laysEdges_78 : decode cX11_laysEdges 78 = .ok (.iaload, 1) := by decide +kernel
theorem dX11_laysEdges_79 : decode cX11_laysEdges 79 = .ok (.iconst 1, 1) := by decide +kernel
theorem dX11_laysEdges_80 : decode cX11_laysEdges 80 = .ok (.iadd, 1) := by decide +kernel
theorem dX11_laysEdges_81 : decode cX11_laysEdges 81 = .ok (.iastore, 1) := by decide +kernel
theorem dX11_laysEdges_82 : decode cX11_laysEdges 82 = .ok (.aload_n 0, 1) := by decide +kernel
theorem dX11_laysEdges_83 : decode cX11_laysEdges 83 = .ok (.getfield 54, 3) := by decide +kernel
theorem dX11_laysEdges_86 : decode cX11_laysEdges 86 = .ok (.iload_n 3, 1) := by decide +kernel
theorem dX11_laysEdges_87 : decode cX11_laysEdges 87 = .ok (.dup2, 1) := by decide +kernel
theorem dX11_laysEdges_88 : decode cX11_laysEdges 88 = .ok (.iaload, 1) := by decide +kernel
theorem dX11_laysEdges_89 : decode cX11_laysEdges 89 = .ok (.iconst 1, 1) := by decide +kernel
theorem dX11_laysEdges_90 : decode cX11_laysEdges 90 = .ok (.iadd, 1) := by decide +kernel
theorem dX11_laysEdges_91 : decode cX11_laysEdges 91 = .ok (.iastore, 1) := by decide +kernel
theorem dX11_laysEdges_92 : decode cX11_laysEdges 92 = .ok (.iload_n 3, 1) := by decide +kernel
theorem dX11_laysEdges_93 : decode cX11_laysEdges 93 = .ok (.istore_n 2, 1) := by decide +kernel
theorem dX11_laysEdges_94 : decode cX11_laysEdges 94 = .ok (.iinc 3 1, 3) := by decide +kernel
theorem dX11_laysEdges_97 : decode cX11_laysEdges 97 = .ok (.goto (-93), 3) := by decide +kernel
theorem dX11_laysEdges_100 : decode cX11_laysEdges 100 = .ok (.return_, 1) := by decide +kernel
theorem dX11_isEdge_0 : decode cX11_isEdge 0 = .ok (.iconst 0, 1) := by decide +kernel
theorem dX11_isEdge_1 : decode cX11_isEdge 1 = .ok (.istore_n 3, 1) := by decide +kernel
theorem dX11_isEdge_2 : decode cX11_isEdge 2 = .ok (.iconst 0, 1) := by decide +kernel
theorem dX11_isEdge_3 : decode cX11_isEdge 3 = .ok (.istore 4, 2) := by decide +kernel
theorem dX11_isEdge_5 : decode cX11_isEdge 5 = .ok (.iload 4, 2) := by decide +kernel
theorem dX11_isEdge_7 : decode cX11_isEdge 7 = .ok (.aload_n 0, 1) := by decide +kernel
theorem dX11_isEdge_8 : decode cX11_isEdge 8 = .ok (.getfield 213, 3) := by decide +kernel
theorem dX11_isEdge_11 : decode cX11_isEdge 11 = .ok (.if_icmp .ge 41, 3) := by decide +kernel
theorem dX11_isEdge_14 : decode cX11_isEdge 14 = .ok (.iload_n 3, 1) := by decide +kernel
theorem dX11_isEdge_15 : decode cX11_isEdge 15 = .ok (.ifCond .ne 37, 3) := by decide +kernel
theorem dX11_isEdge_18 : decode cX11_isEdge 18 = .ok (.aload_n 0, 1) := by decide +kernel
theorem dX11_isEdge_19 : decode cX11_isEdge 19 = .ok (.getfield 57, 3) := by decide +kernel
theorem dX11_isEdge_22 : decode cX11_isEdge 22 = .ok (.iload 4, 2) := by decide +kernel
theorem dX11_isEdge_24 : decode cX11_isEdge 24 = .ok (.iaload, 1) := by decide +kernel
theorem dX11_isEdge_25 : decode cX11_isEdge 25 = .ok (.iload_n 1, 1) := by decide +kernel
theorem dX11_isEdge_26 : decode cX11_isEdge 26 = .ok (.if_icmp .ne 18, 3) := by decide +kernel
theorem dX11_isEdge_29 : decode cX11_isEdge 29 = .ok (.aload_n 0, 1) := by decide +kernel
theorem dX11_isEdge_30 : decode cX11_isEdge 30 = .ok (.getfield 60, 3) := by decide +kernel
theorem dX11_isEdge_33 : decode cX11_isEdge 33 = .ok (.iload 4, 2) := by decide +kernel
theorem dX11_isEdge_35 : decode cX11_isEdge 35 = .ok (.iaload, 1) := by decide +kernel
theorem dX11_isEdge_36 : decode cX11_isEdge 36 = .ok (.iload_n 2, 1) := by decide +kernel
theorem dX11_isEdge_37 : decode cX11_isEdge 37 = .ok (.if_icmp .ne 7, 3) := by decide +kernel
theorem dX11_isEdge_40 : decode cX11_isEdge 40 = .ok (.iconst 1, 1) := by decide +kernel
theorem dX11_isEdge_41 : decode cX11_isEdge 41 = .ok (.goto 4, 3) := by decide +kernel
theorem dX11_isEdge_44 : decode cX11_isEdge 44 = .ok (.iconst 0, 1) := by decide +kernel
theorem dX11_isEdge_45 : decode cX11_isEdge 45 = .ok (.istore_n 3, 1) := by decide +kernel
theorem dX11_isEdge_46 : decode cX11_isEdge 46 = .ok (.iinc 4 1, 3) := by decide +kernel
theorem dX11_isEdge_49 : decode cX11_isEdge 49 = .ok (.goto (-44), 3) := by decide +kernel
theorem dX11_isEdge_52 : decode cX11_isEdge 52 = .ok (.iload_n 3, 1) := by decide +kernel
theorem dX11_isEdge_53 : decode cX11_isEdge 53 = .ok (.ireturn, 1) := by decide +kernel
theorem dX11_isUpright_0 : decode cX11_isUpright 0 = .ok (.aload_n 0, 1) := by decide +kernel
theorem dX11_isUpright_1 : decode cX11_isUpright 1 = .ok (.iload_n 1, 1) := by decide +kernel
theorem dX11_isUpright_2 : decode cX11_isUpright 2 = .ok (.iconst 0, 1) := by decide +kernel
theorem dX11_isUpright_3 : decode cX11_isUpright 3 = .ok (.invokevirtual 127, 3) := by decide +kernel
theorem dX11_isUpright_6 : decode cX11_isUpright 6 = .ok (.aload_n 0, 1) := by decide +kernel
theorem dX11_isUpright_7 : decode cX11_isUpright 7 = .ok (.iload_n 1, 1) := by decide +kernel
theorem dX11_isUpright_8 : decode cX11_isUpright 8 = .ok (.iconst 2, 1) := by decide +kernel
theorem dX11_isUpright_9 : decode cX11_isUpright 9 = .ok (.invokevirtual 127, 3) := by decide +kernel
theorem dX11_isUpright_12 : decode cX11_isUpright 12 = .ok (.if_icmp .ne 7, 3) := by decide +kernel
theorem dX11_isUpright_15 : decode cX11_isUpright 15 = .ok (.iconst 1, 1) := by decide +kernel
theorem dX11_isUpright_16 : decode cX11_isUpright 16 = .ok (.goto 4, 3) := by decide +kernel
theorem dX11_isUpright_19 : decode cX11_isUpright 19 = .ok (.iconst 0, 1) := by decide +kernel
theorem dX11_isUpright_20 : decode cX11_isUpright 20 = .ok (.ireturn, 1) := by decide +kernel
theorem dX11_laysY_0 : decode cX11_laysY 0 = .ok (.aload_n 0, 1) := by decide +kernel
theorem dX11_laysY_1 : decode cX11_laysY 1 = .ok (.iload_n 1, 1) := by decide +kernel
theorem dX11_laysY_2 : decode cX11_laysY 2 = .ok (.iconst 2, 1) := by decide +kernel
theorem dX11_laysY_3 : decode cX11_laysY 3 = .ok (.invokevirtual 127, 3) := by decide +kernel
theorem dX11_laysY_6 : decode cX11_laysY 6 = .ok (.aload_n 0, 1) := by decide +kernel
theorem dX11_laysY_7 : decode cX11_laysY 7 = .ok (.iload_n 1, 1) := by decide +kernel
theorem dX11_laysY_8 : decode cX11_laysY 8 = .ok (.iconst 0, 1) := by decide +kernel
theorem dX11_laysY_9 : decode cX11_laysY 9 = .ok (.invokevirtual 127, 3) := by decide +kernel
theorem dX11_laysY_12 : decode cX11_laysY 12 = .ok (.isub, 1) := by decide +kernel
theorem dX11_laysY_13 : decode cX11_laysY 13 = .ok (.i2l, 1) := by decide +kernel
theorem dX11_laysY_14 : decode cX11_laysY 14 = .ok (.lstore_n 3, 1) := by decide +kernel
theorem dX11_laysY_15 : decode cX11_laysY 15 = .ok (.aload_n 0, 1) := by decide +kernel
theorem dX11_laysY_16 : decode cX11_laysY 16 = .ok (.iload_n 1, 1) := by decide +kernel
theorem dX11_laysY_17 : decode cX11_laysY 17 = .ok (.iconst 3, 1) := by decide +kernel
theorem dX11_laysY_18 : decode cX11_laysY 18 = .ok (.invokevirtual 127, 3) := by decide +kernel
theorem dX11_laysY_21 : decode cX11_laysY 21 = .ok (.aload_n 0, 1) := by decide +kernel
theorem dX11_laysY_22 : decode cX11_laysY 22 = .ok (.iload_n 1, 1) := by decide +kernel
theorem dX11_laysY_23 : decode cX11_laysY 23 = .ok (.iconst 1, 1) := by decide +kernel
theorem dX11_laysY_24 : decode cX11_laysY 24 = .ok (.invokevirtual 127, 3) := by decide +kernel
theorem dX11_laysY_27 : decode cX11_laysY 27 = .ok (.isub, 1) := by decide +kernel
theorem dX11_laysY_28 : decode cX11_laysY 28 = .ok (.i2l, 1) := by decide +kernel
theorem dX11_laysY_29 : decode cX11_laysY 29 = .ok (.lstore 5, 2) := by decide +kernel
theorem dX11_laysY_31 : decode cX11_laysY 31 = .ok (.aload_n 0, 1) := by decide +kernel
theorem dX11_laysY_32 : decode cX11_laysY 32 = .ok (.getfield 69, 3) := by decide +kernel
theorem dX11_laysY_35 : decode cX11_laysY 35 = .ok (.iload_n 1, 1) := by decide +kernel
theorem dX11_laysY_36 : decode cX11_laysY 36 = .ok (.lload_n 3, 1) := by decide +kernel
theorem dX11_laysY_37 : decode cX11_laysY 37 = .ok (.lconst 0, 1) := by decide +kernel
theorem dX11_laysY_38 : decode cX11_laysY 38 = .ok (.lcmp, 1) := by decide +kernel
theorem dX11_laysY_39 : decode cX11_laysY 39 = .ok (.ifCond .ne 7, 3) := by decide +kernel
theorem dX11_laysY_42 : decode cX11_laysY 42 = .ok (.lconst 1, 1) := by decide +kernel
theorem dX11_laysY_43 : decode cX11_laysY 43 = .ok (.goto 4, 3) := by decide +kernel
theorem dX11_laysY_46 : decode cX11_laysY 46 = .ok (.lload_n 3, 1) := by decide +kernel
theorem dX11_laysY_47 : decode cX11_laysY 47 = .ok (.lastore, 1) := by decide +kernel
theorem dX11_laysY_48 : decode cX11_laysY 48 = .ok (.aload_n 0, 1) := by decide +kernel
theorem dX11_laysY_49 : decode cX11_laysY 49 = .ok (.getfield 66, 3) := by decide +kernel
theorem dX11_laysY_52 : decode cX11_laysY 52 = .ok (.iload_n 1, 1) := by decide +kernel
theorem dX11_laysY_53 : decode cX11_laysY 53 = .ok (.lload_n 3, 1) := by decide +kernel
theorem dX11_laysY_54 : decode cX11_laysY 54 = .ok (.lconst 0, 1) := by decide +kernel
theorem dX11_laysY_55 : decode cX11_laysY 55 = .ok (.lcmp, 1) := by decide +kernel
theorem dX11_laysY_56 : decode cX11_laysY 56 = .ok (.ifCond .ne 12, 3) := by decide +kernel
theorem dX11_laysY_59 : decode cX11_laysY 59 = .ok (.aload_n 0, 1) := by decide +kernel
theorem dX11_laysY_60 : decode cX11_laysY 60 = .ok (.getfield 39, 3) := by decide +kernel
theorem dX11_laysY_63 : decode cX11_laysY 63 = .ok (.iload_n 2, 1) := by decide +kernel
theorem dX11_laysY_64 : decode cX11_laysY 64 = .ok (.laload, 1) := by decide +kernel
theorem dX11_laysY_65 : decode cX11_laysY 65 = .ok (.goto 44, 3) := by decide +kernel
theorem dX11_laysY_68 : decode cX11_laysY 68 = .ok (.aload_n 0, 1) := by decide +kernel
theorem dX11_laysY_69 : decode cX11_laysY 69 = .ok (.iload_n 1, 1) := by decide +kernel
theorem dX11_laysY_70 : decode cX11_laysY 70 = .ok (.iconst 1, 1) := by decide +kernel
theorem dX11_laysY_71 : decode cX11_laysY 71 = .ok (.invokevirtual 127, 3) := by decide +kernel
theorem dX11_laysY_74 : decode cX11_laysY 74 = .ok (.i2l, 1) := by decide +kernel
theorem dX11_laysY_75 : decode cX11_laysY 75 = .ok (.lload_n 3, 1) := by decide +kernel
theorem dX11_laysY_76 : decode cX11_laysY 76 = .ok (.lmul, 1) := by decide +kernel
theorem dX11_laysY_77 : decode cX11_laysY 77 = .ok (.aload_n 0, 1) := by decide +kernel
theorem dX11_laysY_78 : decode cX11_laysY 78 = .ok (.getfield 42, 3) := by decide +kernel
theorem dX11_laysY_81 : decode cX11_laysY 81 = .ok (.iload_n 2, 1) := by decide +kernel
theorem dX11_laysY_82 : decode cX11_laysY 82 = .ok (.laload, 1) := by decide +kernel
theorem dX11_laysY_83 : decode cX11_laysY 83 = .ok (.lmul, 1) := by decide +kernel
theorem dX11_laysY_84 : decode cX11_laysY 84 = .ok (.lload 5, 2) := by decide +kernel
theorem dX11_laysY_86 : decode cX11_laysY 86 = .ok (.aload_n 0, 1) := by decide +kernel
theorem dX11_laysY_87 : decode cX11_laysY 87 = .ok (.getfield 35, 3) := by decide +kernel
theorem dX11_laysY_90 : decode cX11_laysY 90 = .ok (.iload_n 2, 1) := by decide +kernel
theorem dX11_laysY_91 : decode cX11_laysY 91 = .ok (.laload, 1) := by decide +kernel
theorem dX11_laysY_92 : decode cX11_laysY 92 = .ok (.aload_n 0, 1) := by decide +kernel
theorem dX11_laysY_93 : decode cX11_laysY 93 = .ok (.iload_n 1, 1) := by decide +kernel
theorem dX11_laysY_94 : decode cX11_laysY 94 = .ok (.iconst 0, 1) := by decide +kernel
theorem dX11_laysY_95 : decode cX11_laysY 95 = .ok (.invokevirtual 127, 3) := by decide +kernel
theorem dX11_laysY_98 : decode cX11_laysY 98 = .ok (.i2l, 1) := by decide +kernel
theorem dX11_laysY_99 : decode cX11_laysY 99 = .ok (.aload_n 0, 1) := by decide +kernel
theorem dX11_laysY_100 : decode cX11_laysY 100 = .ok (.getfield 42, 3) := by decide +kernel
theorem dX11_laysY_103 : decode cX11_laysY 103 = .ok (.iload_n 2, 1) := by decide +kernel
theorem dX11_laysY_104 : decode cX11_laysY 104 = .ok (.laload, 1) := by decide +kernel
theorem dX11_laysY_105 : decode cX11_laysY 105 = .ok (.lmul, 1) := by decide +kernel
theorem dX11_laysY_106 : decode cX11_laysY 106 = .ok (.lsub, 1) := by decide +kernel
theorem dX11_laysY_107 : decode cX11_laysY 107 = .ok (.lmul, 1) := by decide +kernel
theorem dX11_laysY_108 : decode cX11_laysY 108 = .ok (.ladd, 1) := by decide +kernel
theorem dX11_laysY_109 : decode cX11_laysY 109 = .ok (.lastore, 1) := by decide +kernel
theorem dX11_laysY_110 : decode cX11_laysY 110 = .ok (.return_, 1) := by decide +kernel
theorem dX11_rises_0 : decode cX11_rises 0 = .ok (.aload_n 0, 1) := by decide +kernel
theorem dX11_rises_1 : decode cX11_rises 1 = .ok (.iload_n 1, 1) := by decide +kernel
theorem dX11_rises_2 : decode cX11_rises 2 = .ok (.invokevirtual 226, 3) := by decide +kernel
theorem dX11_rises_5 : decode cX11_rises 5 = .ok (.ifCond .ne 11, 3) := by decide +kernel
theorem dX11_rises_8 : decode cX11_rises 8 = .ok (.aload_n 0, 1) := by decide +kernel
theorem dX11_rises_9 : decode cX11_rises 9 = .ok (.iload_n 2, 1) := by decide +kernel
theorem dX11_rises_10 : decode cX11_rises 10 = .ok (.invokevirtual 226, 3) := by decide +kernel
theorem dX11_rises_13 : decode cX11_rises 13 = .ok (.ifCond .eq 31, 3) := by decide +kernel
theorem dX11_rises_16 : decode cX11_rises 16 = .ok (.aload_n 0, 1) := by decide +kernel
theorem dX11_rises_17 : decode cX11_rises 17 = .ok (.iload_n 1, 1) := by decide +kernel
theorem dX11_rises_18 : decode cX11_rises 18 = .ok (.invokevirtual 226, 3) := by decide +kernel
theorem dX11_rises_21 : decode cX11_rises 21 = .ok (.ifCond .eq 7, 3) := by decide +kernel
theorem dX11_rises_24 : decode cX11_rises 24 = .ok (.iconst 1, 1) := by decide +kernel
theorem dX11_rises_25 : decode cX11_rises 25 = .ok (.goto 4, 3) := by decide +kernel
theorem dX11_rises_28 : decode cX11_rises 28 = .ok (.iconst 0, 1) := by decide +kernel
theorem dX11_rises_29 : decode cX11_rises 29 = .ok (.aload_n 0, 1) := by decide +kernel
theorem dX11_rises_30 : decode cX11_rises 30 = .ok (.iload_n 2, 1) := by decide +kernel
theorem dX11_rises_31 : decode cX11_rises 31 = .ok (.invokevirtual 226, 3) := by decide +kernel
theorem dX11_rises_34 : decode cX11_rises 34 = .ok (.ifCond .eq 7, 3) := by decide +kernel
theorem dX11_rises_37 : decode cX11_rises 37 = .ok (.iconst 1, 1) := by decide +kernel
theorem dX11_rises_38 : decode cX11_rises 38 = .ok (.goto 4, 3) := by decide +kernel
theorem dX11_rises_41 : decode cX11_rises 41 = .ok (.iconst 0, 1) := by decide +kernel
theorem dX11_rises_42 : decode cX11_rises 42 = .ok (.isub, 1) := by decide +kernel
theorem dX11_rises_43 : decode cX11_rises 43 = .ok (.ireturn, 1) := by decide +kernel
theorem dX11_rises_44 : decode cX11_rises 44 = .ok (.aload_n 0, 1) := by decide +kernel
theorem dX11_rises_45 : decode cX11_rises 45 = .ok (.iload_n 1, 1) := by decide +kernel
theorem dX11_rises_46 : decode cX11_rises 46 = .ok (.iconst 3, 1) := by decide +kernel
theorem dX11_rises_47 : decode cX11_rises 47 = .ok (.invokevirtual 127, 3) := by decide +kernel
theorem dX11_rises_50 : decode cX11_rises 50 = .ok (.aload_n 0, 1) := by decide +kernel
theorem dX11_rises_51 : decode cX11_rises 51 = .ok (.iload_n 1, 1) := by decide +kernel
theorem dX11_rises_52 : decode cX11_rises 52 = .ok (.iconst 1, 1) := by decide +kernel
theorem dX11_rises_53 : decode cX11_rises 53 = .ok (.invokevirtual 127, 3) := by decide +kernel
theorem dX11_rises_56 : decode cX11_rises 56 = .ok (.isub, 1) := by decide +kernel
theorem dX11_rises_57 : decode cX11_rises 57 = .ok (.aload_n 0, 1) := by decide +kernel
theorem dX11_rises_58 : decode cX11_rises 58 = .ok (.iload_n 2, 1) := by decide +kernel
theorem dX11_rises_59 : decode cX11_rises 59 = .ok (.iconst 2, 1) := by decide +kernel
theorem dX11_rises_60 : decode cX11_rises 60 = .ok (.invokevirtual 127, 3) := by decide +kernel
theorem dX11_rises_63 : decode cX11_rises 63 = .ok (.aload_n 0, 1) := by decide +kernel
theorem dX11_rises_64 : decode cX11_rises 64 = .ok (.iload_n 2, 1) := by decide +kernel
theorem dX11_rises_65 : decode cX11_rises 65 = .ok (.iconst 0, 1) := by decide +kernel
theorem dX11_rises_66 : decode cX11_rises 66 = .ok (.invokevirtual 127, 3) := by decide +kernel
theorem dX11_rises_69 : decode cX11_rises 69 = .ok (.isub, 1) := by decide +kernel
theorem dX11_rises_70 : decode cX11_rises 70 = .ok (.imul, 1) := by decide +kernel
theorem dX11_rises_71 : decode cX11_rises 71 = .ok (.aload_n 0, 1) := by decide +kernel
theorem dX11_rises_72 : decode cX11_rises 72 = .ok (.iload_n 2, 1) := by decide +kernel
theorem dX11_rises_73 : decode cX11_rises 73 = .ok (.iconst 3, 1) := by decide +kernel
theorem dX11_rises_74 : decode cX11_rises 74 = .ok (.invokevirtual 127, 3) := by decide +kernel
theorem dX11_rises_77 : decode cX11_rises 77 = .ok (.aload_n 0, 1) := by decide +kernel
theorem dX11_rises_78 : decode cX11_rises 78 = .ok (.iload_n 2, 1) := by decide +kernel
theorem dX11_rises_79 : decode cX11_rises 79 = .ok (.iconst 1, 1) := by decide +kernel
theorem dX11_rises_80 : decode cX11_rises 80 = .ok (.invokevirtual 127, 3) := by decide +kernel
theorem dX11_rises_83 : decode cX11_rises 83 = .ok (.isub, 1) := by decide +kernel
theorem dX11_rises_84 : decode cX11_rises 84 = .ok (.aload_n 0, 1) := by decide +kernel
theorem dX11_rises_85 : decode cX11_rises 85 = .ok (.iload_n 1, 1) := by decide +kernel
theorem dX11_rises_86 : decode cX11_rises 86 = .ok (.iconst 2, 1) := by decide +kernel
theorem dX11_rises_87 : decode cX11_rises 87 = .ok (.invokevirtual 127, 3) := by decide +kernel
theorem dX11_rises_90 : decode cX11_rises 90 = .ok (.aload_n 0, 1) := by decide +kernel
theorem dX11_rises_91 : decode cX11_rises 91 = .ok (.iload_n 1, 1) := by decide +kernel
theorem dX11_rises_92 : decode cX11_rises 92 = .ok (.iconst 0, 1) := by decide +kernel
theorem dX11_rises_93 : decode cX11_rises 93 = .ok (.invokevirtual 127, 3) := by decide +kernel
theorem dX11_rises_96 : decode cX11_rises 96 = .ok (.isub, 1) := by decide +kernel
theorem dX11_rises_97 : decode cX11_rises 97 = .ok (.imul, 1) := by decide +kernel
theorem dX11_rises_98 : decode cX11_rises 98 = .ok (.isub, 1) := by decide +kernel
theorem dX11_rises_99 : decode cX11_rises 99 = .ok (.ireturn, 1) := by decide +kernel
theorem dX11_isBelow_0 : decode cX11_isBelow 0 = .ok (.aload_n 0, 1) := by decide +kernel
theorem dX11_isBelow_1 : decode cX11_isBelow 1 = .ok (.getfield 66, 3) := by decide +kernel
theorem dX11_isBelow_4 : decode cX11_isBelow 4 = .ok (.iload_n 1, 1) := by decide +kernel
theorem dX11_isBelow_5 : decode cX11_isBelow 5 = .ok (.laload, 1) := by decide +kernel
theorem dX11_isBelow_6 : decode cX11_isBelow 6 = .ok (.aload_n 0, 1) := by decide +kernel
theorem dX11_isBelow_7 : decode cX11_isBelow 7 = .ok (.getfield 69, 3) := by decide +kernel
theorem dX11_isBelow_10 : decode cX11_isBelow 10 = .ok (.iload_n 2, 1) := by decide +kernel
theorem dX11_isBelow_11 : decode cX11_isBelow 11 = .ok (.laload, 1) := by decide +kernel
theorem dX11_isBelow_12 : decode cX11_isBelow 12 = .ok (.lmul, 1) := by decide +kernel
theorem dX11_isBelow_13 : decode cX11_isBelow 13 = .ok (.aload_n 0, 1) := by decide +kernel
theorem dX11_isBelow_14 : decode cX11_isBelow 14 = .ok (.getfield 66, 3) := by decide +kernel
theorem dX11_isBelow_17 : decode cX11_isBelow 17 = .ok (.iload_n 2, 1) := by decide +kernel
theorem dX11_isBelow_18 : decode cX11_isBelow 18 = .ok (.laload, 1) := by decide +kernel
theorem dX11_isBelow_19 : decode cX11_isBelow 19 = .ok (.aload_n 0, 1) := by decide +kernel
theorem dX11_isBelow_20 : decode cX11_isBelow 20 = .ok (.getfield 69, 3) := by decide +kernel
theorem dX11_isBelow_23 : decode cX11_isBelow 23 = .ok (.iload_n 1, 1) := by decide +kernel
theorem dX11_isBelow_24 : decode cX11_isBelow 24 = .ok (.laload, 1) := by decide +kernel
theorem dX11_isBelow_25 : decode cX11_isBelow 25 = .ok (.lmul, 1) := by decide +kernel
theorem dX11_isBelow_26 : decode cX11_isBelow 26 = .ok (.lsub, 1) := by decide +kernel
theorem dX11_isBelow_27 : decode cX11_isBelow 27 = .ok (.lstore 4, 2) := by decide +kernel
theorem dX11_isBelow_29 : decode cX11_isBelow 29 = .ok (.lload 4, 2) := by decide +kernel
theorem dX11_isBelow_31 : decode cX11_isBelow 31 = .ok (.lconst 0, 1) := by decide +kernel
theorem dX11_isBelow_32 : decode cX11_isBelow 32 = .ok (.lcmp, 1) := by decide +kernel
theorem dX11_isBelow_33 : decode cX11_isBelow 33 = .ok (.ifCond .eq 16, 3) := by decide +kernel
theorem dX11_isBelow_36 : decode cX11_isBelow 36 = .ok (.lload 4, 2) := by decide +kernel
theorem dX11_isBelow_38 : decode cX11_isBelow 38 = .ok (.lconst 0, 1) := by decide +kernel
theorem dX11_isBelow_39 : decode cX11_isBelow 39 = .ok (.lcmp, 1) := by decide +kernel
theorem dX11_isBelow_40 : decode cX11_isBelow 40 = .ok (.ifCond .ge 7, 3) := by decide +kernel
theorem dX11_isBelow_43 : decode cX11_isBelow 43 = .ok (.iconst 1, 1) := by decide +kernel
theorem dX11_isBelow_44 : decode cX11_isBelow 44 = .ok (.goto 4, 3) := by decide +kernel
theorem dX11_isBelow_47 : decode cX11_isBelow 47 = .ok (.iconst 0, 1) := by decide +kernel
theorem dX11_isBelow_48 : decode cX11_isBelow 48 = .ok (.ireturn, 1) := by decide +kernel
theorem dX11_isBelow_49 : decode cX11_isBelow 49 = .ok (.aload_n 0, 1) := by decide +kernel
theorem dX11_isBelow_50 : decode cX11_isBelow 50 = .ok (.getfield 66, 3) := by decide +kernel
theorem dX11_isBelow_53 : decode cX11_isBelow 53 = .ok (.iload_n 1, 1) := by decide +kernel
theorem dX11_isBelow_54 : decode cX11_isBelow 54 = .ok (.laload, 1) := by decide +kernel
theorem dX11_isBelow_55 : decode cX11_isBelow 55 = .ok (.aload_n 0, 1) := by decide +kernel
theorem dX11_isBelow_56 : decode cX11_isBelow 56 = .ok (.getfield 39, 3) := by decide +kernel
theorem dX11_isBelow_59 : decode cX11_isBelow 59 = .ok (.iload_n 3, 1) := by decide +kernel
theorem dX11_isBelow_60 : decode cX11_isBelow 60 = .ok (.laload, 1) := by decide +kernel
theorem dX11_isBelow_61 : decode cX11_isBelow 61 = .ok (.aload_n 0, 1) := by decide +kernel
theorem dX11_isBelow_62 : decode cX11_isBelow 62 = .ok (.getfield 69, 3) := by decide +kernel
theorem dX11_isBelow_65 : decode cX11_isBelow 65 = .ok (.iload_n 1, 1) := by decide +kernel
theorem dX11_isBelow_66 : decode cX11_isBelow 66 = .ok (.laload, 1) := by decide +kernel
theorem dX11_isBelow_67 : decode cX11_isBelow 67 = .ok (.lmul, 1) := by decide +kernel
theorem dX11_isBelow_68 : decode cX11_isBelow 68 = .ok (.lcmp, 1) := by decide +kernel
theorem dX11_isBelow_69 : decode cX11_isBelow 69 = .ok (.ifCond .le 7, 3) := by decide +kernel
theorem dX11_isBelow_72 : decode cX11_isBelow 72 = .ok (.iconst 1, 1) := by decide +kernel
theorem dX11_isBelow_73 : decode cX11_isBelow 73 = .ok (.goto 4, 3) := by decide +kernel
theorem dX11_isBelow_76 : decode cX11_isBelow 76 = .ok (.iconst 0, 1) := by decide +kernel
theorem dX11_isBelow_77 : decode cX11_isBelow 77 = .ok (.istore 6, 2) := by decide +kernel
theorem dX11_isBelow_79 : decode cX11_isBelow 79 = .ok (.iload 6, 2) := by decide +kernel
theorem dX11_isBelow_81 : decode cX11_isBelow 81 = .ok (.ifCond .eq 13, 3) := by decide +kernel
theorem dX11_isBelow_84 : decode cX11_isBelow 84 = .ok (.aload_n 0, 1) := by decide +kernel
theorem dX11_isBelow_85 : decode cX11_isBelow 85 = .ok (.iload_n 1, 1) := by decide +kernel
theorem dX11_isBelow_86 : decode cX11_isBelow 86 = .ok (.iload_n 2, 1) := by decide +kernel
theorem dX11_isBelow_87 : decode cX11_isBelow 87 = .ok (.invokevirtual 230, 3) := by decide +kernel
theorem dX11_isBelow_90 : decode cX11_isBelow 90 = .ok (.ineg, 1) := by decide +kernel
theorem dX11_isBelow_91 : decode cX11_isBelow 91 = .ok (.goto 9, 3) := by decide +kernel
theorem dX11_isBelow_94 : decode cX11_isBelow 94 = .ok (.aload_n 0, 1) := by decide +kernel
theorem dX11_isBelow_95 : decode cX11_isBelow 95 = .ok (.iload_n 1, 1) := by decide +kernel
theorem dX11_isBelow_96 : decode cX11_isBelow 96 = .ok (.iload_n 2, 1) := by decide +kernel
theorem dX11_isBelow_97 : decode cX11_isBelow 97 = .ok (.invokevirtual 230, 3) := by decide +kernel
theorem dX11_isBelow_100 : decode cX11_isBelow 100 = .ok (.istore 7, 2) := by decide +kernel
theorem dX11_isBelow_102 : decode cX11_isBelow 102 = .ok (.iload 7, 2) := by decide +kernel
theorem dX11_isBelow_104 : decode cX11_isBelow 104 = .ok (.ifCond .eq 16, 3) := by decide +kernel
theorem dX11_isBelow_107 : decode cX11_isBelow 107 = .ok (.iload 7, 2) := by decide +kernel
theorem dX11_isBelow_109 : decode cX11_isBelow 109 = .ok (.ifCond .ge 7, 3) := by decide +kernel
theorem dX11_isBelow_112 : decode cX11_isBelow 112 = .ok (.iconst 1, 1) := by decide +kernel
theorem dX11_isBelow_113 : decode cX11_isBelow 113 = .ok (.goto 17, 3) := by decide +kernel
theorem dX11_isBelow_116 : decode cX11_isBelow 116 = .ok (.iconst 0, 1) := by decide +kernel
theorem dX11_isBelow_117 : decode cX11_isBelow 117 = .ok (.goto 13, 3) := by decide +kernel
theorem dX11_isBelow_120 : decode cX11_isBelow 120 = .ok (.iload_n 1, 1) := by decide +kernel
theorem dX11_isBelow_121 : decode cX11_isBelow 121 = .ok (.iload_n 2, 1) := by decide +kernel
theorem dX11_isBelow_122 : decode cX11_isBelow 122 = .ok (.if_icmp .ge 7, 3) := by decide +kernel
theorem dX11_isBelow_125 : decode cX11_isBelow 125 = .ok (.iconst 1, 1) := by decide +kernel
theorem dX11_isBelow_126 : decode cX11_isBelow 126 = .ok (.goto 4, 3) := by decide +kernel
theorem dX11_isBelow_129 : decode cX11_isBelow 129 = .ok (.iconst 0, 1) := by decide +kernel
theorem dX11_isBelow_130 : decode cX11_isBelow 130 = .ok (.ireturn, 1) := by decide +kernel
theorem dX11_isMet_0 : decode cX11_isMet 0 = .ok (.aload_n 0, 1) := by decide +kernel
theorem dX11_isMet_1 : decode cX11_isMet 1 = .ok (.iload_n 1, 1) := by decide +kernel
theorem dX11_isMet_2 : decode cX11_isMet 2 = .ok (.iconst 0, 1) := by decide +kernel
theorem dX11_isMet_3 : decode cX11_isMet 3 = .ok (.invokevirtual 127, 3) := by decide +kernel
theorem dX11_isMet_6 : decode cX11_isMet 6 = .ok (.i2l, 1) := by decide +kernel
theorem dX11_isMet_7 : decode cX11_isMet 7 = .ok (.aload_n 0, 1) := by decide +kernel
theorem dX11_isMet_8 : decode cX11_isMet 8 = .ok (.iload_n 1, 1) := by decide +kernel
theorem dX11_isMet_9 : decode cX11_isMet 9 = .ok (.iconst 1, 1) := by decide +kernel
theorem dX11_isMet_10 : decode cX11_isMet 10 = .ok (.invokevirtual 127, 3) := by decide +kernel
theorem dX11_isMet_13 : decode cX11_isMet 13 = .ok (.i2l, 1) := by decide +kernel
theorem dX11_isMet_14 : decode cX11_isMet 14 = .ok (.lconst 1, 1) := by decide +kernel
theorem dX11_isMet_15 : decode cX11_isMet 15 = .ok (.aload_n 0, 1) := by decide +kernel
theorem dX11_isMet_16 : decode cX11_isMet 16 = .ok (.getfield 35, 3) := by decide +kernel
theorem dX11_isMet_19 : decode cX11_isMet 19 = .ok (.iload_n 2, 1) := by decide +kernel
theorem dX11_isMet_20 : decode cX11_isMet 20 = .ok (.laload, 1) := by decide +kernel
theorem dX11_isMet_21 : decode cX11_isMet 21 = .ok (.aload_n 0, 1) := by decide +kernel
theorem dX11_isMet_22 : decode cX11_isMet 22 = .ok (.getfield 39, 3) := by decide +kernel
theorem dX11_isMet_25 : decode cX11_isMet 25 = .ok (.iload_n 2, 1) := by decide +kernel
theorem dX11_isMet_26 : decode cX11_isMet 26 = .ok (.laload, 1) := by decide +kernel
theorem dX11_isMet_27 : decode cX11_isMet 27 = .ok (.aload_n 0, 1) := by decide +kernel
theorem dX11_isMet_28 : decode cX11_isMet 28 = .ok (.getfield 42, 3) := by decide +kernel
theorem dX11_isMet_31 : decode cX11_isMet 31 = .ok (.iload_n 2, 1) := by decide +kernel
theorem dX11_isMet_32 : decode cX11_isMet 32 = .ok (.laload, 1) := by decide +kernel
theorem dX11_isMet_33 : decode cX11_isMet 33 = .ok (.invokestatic 196, 3) := by decide +kernel
theorem dX11_isMet_36 : decode cX11_isMet 36 = .ok (.ifCond .gt 7, 3) := by decide +kernel
theorem dX11_isMet_39 : decode cX11_isMet 39 = .ok (.iconst 1, 1) := by decide +kernel
theorem dX11_isMet_40 : decode cX11_isMet 40 = .ok (.goto 4, 3) := by decide +kernel
theorem dX11_isMet_43 : decode cX11_isMet 43 = .ok (.iconst 0, 1) := by decide +kernel
theorem dX11_isMet_44 : decode cX11_isMet 44 = .ok (.istore_n 3, 1) := by decide +kernel
theorem dX11_isMet_45 : decode cX11_isMet 45 = .ok (.iload_n 3, 1) := by decide +kernel
theorem dX11_isMet_46 : decode cX11_isMet 46 = .ok (.ifCond .eq 46, 3) := by decide +kernel
theorem dX11_isMet_49 : decode cX11_isMet 49 = .ok (.aload_n 0, 1) := by decide +kernel
theorem dX11_isMet_50 : decode cX11_isMet 50 = .ok (.iload_n 1, 1) := by decide +kernel
theorem dX11_isMet_51 : decode cX11_isMet 51 = .ok (.iconst 2, 1) := by decide +kernel
theorem dX11_isMet_52 : decode cX11_isMet 52 = .ok (.invokevirtual 127, 3) := by decide +kernel
theorem dX11_isMet_55 : decode cX11_isMet 55 = .ok (.i2l, 1) := by decide +kernel
theorem dX11_isMet_56 : decode cX11_isMet 56 = .ok (.aload_n 0, 1) := by decide +kernel
theorem dX11_isMet_57 : decode cX11_isMet 57 = .ok (.iload_n 1, 1) := by decide +kernel
theorem dX11_isMet_58 : decode cX11_isMet 58 = .ok (.iconst 3, 1) := by decide +kernel
theorem dX11_isMet_59 : decode cX11_isMet 59 = .ok (.invokevirtual 127, 3) := by decide +kernel
theorem dX11_isMet_62 : decode cX11_isMet 62 = .ok (.i2l, 1) := by decide +kernel
theorem dX11_isMet_63 : decode cX11_isMet 63 = .ok (.lconst 1, 1) := by decide +kernel
theorem dX11_isMet_64 : decode cX11_isMet 64 = .ok (.aload_n 0, 1) := by decide +kernel
theorem dX11_isMet_65 : decode cX11_isMet 65 = .ok (.getfield 35, 3) := by decide +kernel
theorem dX11_isMet_68 : decode cX11_isMet 68 = .ok (.iload_n 2, 1) := by decide +kernel
theorem dX11_isMet_69 : decode cX11_isMet 69 = .ok (.laload, 1) := by decide +kernel
theorem dX11_isMet_70 : decode cX11_isMet 70 = .ok (.aload_n 0, 1) := by decide +kernel
theorem dX11_isMet_71 : decode cX11_isMet 71 = .ok (.getfield 39, 3) := by decide +kernel
theorem dX11_isMet_74 : decode cX11_isMet 74 = .ok (.iload_n 2, 1) := by decide +kernel
theorem dX11_isMet_75 : decode cX11_isMet 75 = .ok (.laload, 1) := by decide +kernel
theorem dX11_isMet_76 : decode cX11_isMet 76 = .ok (.aload_n 0, 1) := by decide +kernel
theorem dX11_isMet_77 : decode cX11_isMet 77 = .ok (.getfield 42, 3) := by decide +kernel
theorem dX11_isMet_80 : decode cX11_isMet 80 = .ok (.iload_n 2, 1) := by decide +kernel
theorem dX11_isMet_81 : decode cX11_isMet 81 = .ok (.laload, 1) := by decide +kernel
theorem dX11_isMet_82 : decode cX11_isMet 82 = .ok (.invokestatic 196, 3) := by decide +kernel
theorem dX11_isMet_85 : decode cX11_isMet 85 = .ok (.ifCond .le 7, 3) := by decide +kernel
theorem dX11_isMet_88 : decode cX11_isMet 88 = .ok (.iconst 1, 1) := by decide +kernel
theorem dX11_isMet_89 : decode cX11_isMet 89 = .ok (.goto 4, 3) := by decide +kernel
theorem dX11_isMet_92 : decode cX11_isMet 92 = .ok (.iconst 0, 1) := by decide +kernel
theorem dX11_isMet_93 : decode cX11_isMet 93 = .ok (.ireturn, 1) := by decide +kernel
theorem dX11_laysStatus_0 : decode cX11_laysStatus 0 = .ok (.iconst 0, 1) := by decide +kernel
theorem dX11_laysStatus_1 : decode cX11_laysStatus 1 = .ok (.istore_n 2, 1) := by decide +kernel
theorem dX11_laysStatus_2 : decode cX11_laysStatus 2 = .ok (.iconst 0, 1) := by decide +kernel
theorem dX11_laysStatus_3 : decode cX11_laysStatus 3 = .ok (.istore_n 3, 1) := by decide +kernel
theorem dX11_laysStatus_4 : decode cX11_laysStatus 4 = .ok (.iload_n 3, 1) := by decide +kernel
theorem dX11_laysStatus_5 : decode cX11_laysStatus 5 = .ok (.aload_n 0, 1) := by decide +kernel
theorem dX11_laysStatus_6 : decode cX11_laysStatus 6 = .ok (.invokevirtual 200, 3) := by decide +kernel
theorem dX11_laysStatus_9 : decode cX11_laysStatus 9 = .ok (.if_icmp .ge 86, 3) := by decide +kernel
theorem dX11_laysStatus_12 : decode cX11_laysStatus 12 = .ok (.aload_n 0, 1) := by decide +kernel
theorem dX11_laysStatus_13 : decode cX11_laysStatus 13 = .ok (.iload_n 3, 1) := by decide +kernel
theorem dX11_laysStatus_14 : decode cX11_laysStatus 14 = .ok (.iload_n 1, 1) := by decide +kernel
theorem dX11_laysStatus_15 : decode cX11_laysStatus 15 = .ok (.invokevirtual 233, 3) := by decide +kernel
theorem dX11_laysStatus_18 : decode cX11_laysStatus 18 = .ok (.ifCond .ne 6, 3) := by decide +kernel
theorem dX11_laysStatus_21 : decode cX11_laysStatus 21 = .ok (.goto 68, 3) := by decide +kernel
theorem dX11_laysStatus_24 : decode cX11_laysStatus 24 = .ok (.aload_n 0, 1) := by decide +kernel
theorem dX11_laysStatus_25 : decode cX11_laysStatus 25 = .ok (.iload_n 3, 1) := by decide +kernel
theorem dX11_laysStatus_26 : decode cX11_laysStatus 26 = .ok (.iload_n 1, 1) := by decide +kernel
theorem dX11_laysStatus_27 : decode cX11_laysStatus 27 = .ok (.invokevirtual 236, 3) := by decide +kernel
theorem dX11_laysStatus_30 : decode cX11_laysStatus 30 = .ok (.iload_n 2, 1) := by decide +kernel
theorem dX11_laysStatus_31 : decode cX11_laysStatus 31 = .ok (.istore 4, 2) := by decide +kernel
theorem dX11_laysStatus_33 : decode cX11_laysStatus 33 = .ok (.iload 4, 2) := by decide +kernel
theorem dX11_laysStatus_35 : decode cX11_laysStatus 35 = .ok (.ifCond .le 43, 3) := by decide +kernel
theorem dX11_laysStatus_38 : decode cX11_laysStatus 38 = .ok (.aload_n 0, 1) := by decide +kernel
theorem dX11_laysStatus_39 : decode cX11_laysStatus 39 = .ok (.iload_n 3, 1) := by decide +kernel
theorem dX11_laysStatus_40 : decode cX11_laysStatus 40 = .ok (.aload_n 0, 1) := by decide +kernel
theorem dX11_laysStatus_41 : decode cX11_laysStatus 41 = .ok (.getfield 63, 3) := by decide +kernel
theorem dX11_laysStatus_44 : decode cX11_laysStatus 44 = .ok (.iload 4, 2) := by decide +kernel
theorem dX11_laysStatus_46 : decode cX11_laysStatus 46 = .ok (.iconst 1, 1) := by decide +kernel
theorem dX11_laysStatus_47 : decode cX11_laysStatus 47 = .ok (.isub, 1) := by decide +kernel
theorem dX11_laysStatus_48 : decode cX11_laysStatus 48 = .ok (.iaload, 1) := by decide +kernel
theorem dX11_laysStatus_49 : decode cX11_laysStatus 49 = .ok (.iload_n 1, 1) := by decide +kernel
theorem dX11_laysStatus_50 : decode cX11_laysStatus 50 = .ok (.invokevirtual 240, 3) := by decide +kernel
theorem dX11_laysStatus_53 : decode cX11_laysStatus 53 = .ok (.ifCond .eq 25, 3) := by decide +kernel
theorem dX11_laysStatus_56 : decode cX11_laysStatus 56 = .ok (.aload_n 0, 1) := by decide +kernel
theorem dX11_laysStatus_57 : decode cX11_laysStatus 57 = .ok (.getfield 63, 3) := by decide +kernel
theorem dX11_laysStatus_60 : decode cX11_laysStatus 60 = .ok (.iload 4, 2) := by decide +kernel
theorem dX11_laysStatus_62 : decode cX11_laysStatus 62 = .ok (.aload_n 0, 1) := by decide +kernel
theorem dX11_laysStatus_63 : decode cX11_laysStatus 63 = .ok (.getfield 63, 3) := by decide +kernel
theorem dX11_laysStatus_66 : decode cX11_laysStatus 66 = .ok (.iload 4, 2) := by decide +kernel
theorem dX11_laysStatus_68 : decode cX11_laysStatus 68 = .ok (.iconst 1, 1) := by decide +kernel
theorem dX11_laysStatus_69 : decode cX11_laysStatus 69 = .ok (.isub, 1) := by decide +kernel
theorem dX11_laysStatus_70 : decode cX11_laysStatus 70 = .ok (.iaload, 1) := by decide +kernel
theorem dX11_laysStatus_71 : decode cX11_laysStatus 71 = .ok (.iastore, 1) := by decide +kernel
theorem dX11_laysStatus_72 : decode cX11_laysStatus 72 = .ok (.iinc 4 (-1), 3) := by decide +kernel
theorem dX11_laysStatus_75 : decode cX11_laysStatus 75 = .ok (.goto (-42), 3) := by decide +kernel
theorem dX11_laysStatus_78 : decode cX11_laysStatus 78 = .ok (.aload_n 0, 1) := by decide +kernel
theorem dX11_laysStatus_79 : decode cX11_laysStatus 79 = .ok (.getfield 63, 3) := by decide +kernel
theorem dX11_laysStatus_82 : decode cX11_laysStatus 82 = .ok (.iload 4, 2) := by decide +kernel
theorem dX11_laysStatus_84 : decode cX11_laysStatus 84 = .ok (.iload_n 3, 1) := by decide +kernel
theorem dX11_laysStatus_85 : decode cX11_laysStatus 85 = .ok (.iastore, 1) := by decide +kernel
theorem dX11_laysStatus_86 : decode cX11_laysStatus 86 = .ok (.iinc 2 1, 3) := by decide +kernel
theorem dX11_laysStatus_89 : decode cX11_laysStatus 89 = .ok (.iinc 3 1, 3) := by decide +kernel
theorem dX11_laysStatus_92 : decode cX11_laysStatus 92 = .ok (.goto (-88), 3) := by decide +kernel
theorem dX11_laysStatus_95 : decode cX11_laysStatus 95 = .ok (.iload_n 2, 1) := by decide +kernel
theorem dX11_laysStatus_96 : decode cX11_laysStatus 96 = .ok (.ireturn, 1) := by decide +kernel
theorem dX11_feed_0 : decode cX11_feed 0 = .ok (.aload_n 0, 1) := by decide +kernel
theorem dX11_feed_1 : decode cX11_feed 1 = .ok (.iconst 0, 1) := by decide +kernel
theorem dX11_feed_2 : decode cX11_feed 2 = .ok (.putfield 3, 3) := by decide +kernel
theorem dX11_feed_5 : decode cX11_feed 5 = .ok (.aload_n 0, 1) := by decide +kernel
theorem dX11_feed_6 : decode cX11_feed 6 = .ok (.getfield 244, 3) := by decide +kernel
theorem dX11_feed_9 : decode cX11_feed 9 = .ok (.bipush 20, 2) := by decide +kernel
theorem dX11_feed_11 : decode cX11_feed 11 = .ok (.iadd, 1) := by decide +kernel
theorem dX11_feed_12 : decode cX11_feed 12 = .ok (.sipush 400, 3) := by decide +kernel
theorem dX11_feed_15 : decode cX11_feed 15 = .ok (.if_icmp .le 5, 3) := by decide +kernel
theorem dX11_feed_18 : decode cX11_feed 18 = .ok (.iconst (-1), 1) := by decide +kernel
theorem dX11_feed_19 : decode cX11_feed 19 = .ok (.ireturn, 1) := by decide +kernel
theorem dX11_feed_20 : decode cX11_feed 20 = .ok (.aload_n 0, 1) := by decide +kernel
theorem dX11_feed_21 : decode cX11_feed 21 = .ok (.getfield 79, 3) := by decide +kernel
theorem dX11_feed_24 : decode cX11_feed 24 = .ok (.iconst 0, 1) := by decide +kernel
theorem dX11_feed_25 : decode cX11_feed 25 = .ok (.iload_n 1, 1) := by decide +kernel
theorem dX11_feed_26 : decode cX11_feed 26 = .ok (.iastore, 1) := by decide +kernel
theorem dX11_feed_27 : decode cX11_feed 27 = .ok (.aload_n 0, 1) := by decide +kernel
theorem dX11_feed_28 : decode cX11_feed 28 = .ok (.getfield 79, 3) := by decide +kernel
theorem dX11_feed_31 : decode cX11_feed 31 = .ok (.iconst 1, 1) := by decide +kernel
theorem dX11_feed_32 : decode cX11_feed 32 = .ok (.iload_n 2, 1) := by decide +kernel
theorem dX11_feed_33 : decode cX11_feed 33 = .ok (.iastore, 1) := by decide +kernel
theorem dX11_feed_34 : decode cX11_feed 34 = .ok (.aload_n 0, 1) := by decide +kernel
theorem dX11_feed_35 : decode cX11_feed 35 = .ok (.getfield 79, 3) := by decide +kernel
theorem dX11_feed_38 : decode cX11_feed 38 = .ok (.iconst 2, 1) := by decide +kernel
theorem dX11_feed_39 : decode cX11_feed 39 = .ok (.iload_n 3, 1) := by decide +kernel
theorem dX11_feed_40 : decode cX11_feed 40 = .ok (.iastore, 1) := by decide +kernel
theorem dX11_feed_41 : decode cX11_feed 41 = .ok (.aload_n 0, 1) := by decide +kernel
theorem dX11_feed_42 : decode cX11_feed 42 = .ok (.getfield 79, 3) := by decide +kernel
theorem dX11_feed_45 : decode cX11_feed 45 = .ok (.iconst 3, 1) := by decide +kernel
theorem dX11_feed_46 : decode cX11_feed 46 = .ok (.iload 4, 2) := by decide +kernel
theorem dX11_feed_48 : decode cX11_feed 48 = .ok (.iastore, 1) := by decide +kernel
theorem dX11_feed_49 : decode cX11_feed 49 = .ok (.aload_n 0, 1) := by decide +kernel
theorem dX11_feed_50 : decode cX11_feed 50 = .ok (.getfield 79, 3) := by decide +kernel
theorem dX11_feed_53 : decode cX11_feed 53 = .ok (.iconst 4, 1) := by decide +kernel
theorem dX11_feed_54 : decode cX11_feed 54 = .ok (.iload 5, 2) := by decide +kernel
theorem dX11_feed_56 : decode cX11_feed 56 = .ok (.iastore, 1) := by decide +kernel
theorem dX11_feed_57 : decode cX11_feed 57 = .ok (.iconst 0, 1) := by decide +kernel
theorem dX11_feed_58 : decode cX11_feed 58 = .ok (.istore 6, 2) := by decide +kernel
theorem dX11_feed_60 : decode cX11_feed 60 = .ok (.iload 6, 2) := by decide +kernel
theorem dX11_feed_62 : decode cX11_feed 62 = .ok (.bipush 20, 2) := by decide +kernel
theorem dX11_feed_64 : decode cX11_feed 64 = .ok (.if_icmp .ge 42, 3) := by decide +kernel
theorem dX11_feed_67 : decode cX11_feed 67 = .ok (.aload_n 0, 1) := by decide +kernel
theorem dX11_feed_68 : decode cX11_feed 68 = .ok (.getfield 72, 3) := by decide +kernel
theorem dX11_feed_71 : decode cX11_feed 71 = .ok (.aload_n 0, 1) := by decide +kernel
theorem dX11_feed_72 : decode cX11_feed 72 = .ok (.getfield 244, 3) := by decide +kernel
theorem dX11_feed_75 : decode cX11_feed 75 = .ok (.iload 6, 2) := by decide +kernel
theorem dX11_feed_77 : decode cX11_feed 77 = .ok (.iadd, 1) := by decide +kernel
theorem dX11_feed_78 : decode cX11_feed 78 = .ok (.aload_n 0, 1) := by decide +kernel
theorem dX11_feed_79 : decode cX11_feed 79 = .ok (.getfield 79, 3) := by decide +kernel
theorem dX11_feed_82 : decode cX11_feed 82 = .ok (.iload 6, 2) := by decide +kernel
theorem dX11_feed_84 : decode cX11_feed 84 = .ok (.iconst 4, 1) := by decide +kernel
theorem dX11_feed_85 : decode cX11_feed 85 = .ok (.idiv, 1) := by decide +kernel
theorem dX11_feed_86 : decode cX11_feed 86 = .ok (.iaload, 1) := by decide +kernel
theorem dX11_feed_87 : decode cX11_feed 87 = .ok (.bipush 24, 2) := by decide +kernel
theorem dX11_feed_89 : decode cX11_feed 89 = .ok (.bipush 8, 2) := by decide +kernel
theorem dX11_feed_91 : decode cX11_feed 91 = .ok (.iload 6, 2) := by decide +kernel
theorem dX11_feed_93 : decode cX11_feed 93 = .ok (.iconst 4, 1) := by decide +kernel
theorem dX11_feed_94 : decode cX11_feed 94 = .ok (.irem, 1) := by decide +kernel
theorem dX11_feed_95 : decode cX11_feed 95 = .ok (.imul, 1) := by decide +kernel
theorem dX11_feed_96 : decode cX11_feed 96 = .ok (.isub, 1) := by decide +kernel
theorem dX11_feed_97 : decode cX11_feed 97 = .ok (.ishr, 1) := by decide +kernel
theorem dX11_feed_98 : decode cX11_feed 98 = .ok (.i2b, 1) := by decide +kernel
theorem dX11_feed_99 : decode cX11_feed 99 = .ok (.bastore, 1) := by decide +kernel
theorem dX11_feed_100 : decode cX11_feed 100 = .ok (.iinc 6 1, 3) := by decide +kernel
theorem dX11_feed_103 : decode cX11_feed 103 = .ok (.goto (-43), 3) := by decide +kernel
theorem dX11_feed_106 : decode cX11_feed 106 = .ok (.aload_n 0, 1) := by decide +kernel
theorem dX11_feed_107 : decode cX11_feed 107 = .ok (.dup, 1) := by decide +kernel
theorem dX11_feed_108 : decode cX11_feed 108 = .ok (.getfield 244, 3) := by decide +kernel
theorem dX11_feed_111 : decode cX11_feed 111 = .ok (.bipush 20, 2) := by decide +kernel
theorem dX11_feed_113 : decode cX11_feed 113 = .ok (.iadd, 1) := by decide +kernel
theorem dX11_feed_114 : decode cX11_feed 114 = .ok (.putfield 244, 3) := by decide +kernel
theorem dX11_feed_117 : decode cX11_feed 117 = .ok (.aload_n 0, 1) := by decide +kernel
theorem dX11_feed_118 : decode cX11_feed 118 = .ok (.getfield 244, 3) := by decide +kernel
theorem dX11_feed_121 : decode cX11_feed 121 = .ok (.ireturn, 1) := by decide +kernel
theorem dX11_end_0 : decode cX11_end 0 = .ok (.aload_n 0, 1) := by decide +kernel
theorem dX11_end_1 : decode cX11_end 1 = .ok (.iconst 0, 1) := by decide +kernel
theorem dX11_end_2 : decode cX11_end 2 = .ok (.putfield 3, 3) := by decide +kernel
theorem dX11_end_5 : decode cX11_end 5 = .ok (.iload_n 1, 1) := by decide +kernel
theorem dX11_end_6 : decode cX11_end 6 = .ok (.ifCond .lt 11, 3) := by decide +kernel
theorem dX11_end_9 : decode cX11_end 9 = .ok (.iload_n 1, 1) := by decide +kernel
theorem dX11_end_10 : decode cX11_end 10 = .ok (.aload_n 0, 1) := by decide +kernel
theorem dX11_end_11 : decode cX11_end 11 = .ok (.getfield 244, 3) := by decide +kernel
theorem dX11_end_14 : decode cX11_end 14 = .ok (.if_icmp .le 5, 3) := by decide +kernel
theorem dX11_end_17 : decode cX11_end 17 = .ok (.iconst 0, 1) := by decide +kernel
theorem dX11_end_18 : decode cX11_end 18 = .ok (.ireturn, 1) := by decide +kernel
theorem dX11_end_19 : decode cX11_end 19 = .ok (.aload_n 0, 1) := by decide +kernel
theorem dX11_end_20 : decode cX11_end 20 = .ok (.iload_n 1, 1) := by decide +kernel
theorem dX11_end_21 : decode cX11_end 21 = .ok (.putfield 244, 3) := by decide +kernel
theorem dX11_end_24 : decode cX11_end 24 = .ok (.iconst 1, 1) := by decide +kernel
theorem dX11_end_25 : decode cX11_end 25 = .ok (.ireturn, 1) := by decide +kernel
theorem dX11_fault_0 : decode cX11_fault 0 = .ok (.aload_n 0, 1) := by decide +kernel
theorem dX11_fault_1 : decode cX11_fault 1 = .ok (.iconst 0, 1) := by decide +kernel
theorem dX11_fault_2 : decode cX11_fault 2 = .ok (.putfield 3, 3) := by decide +kernel
theorem dX11_fault_5 : decode cX11_fault 5 = .ok (.aload_n 0, 1) := by decide +kernel
theorem dX11_fault_6 : decode cX11_fault 6 = .ok (.getfield 76, 3) := by decide +kernel
theorem dX11_fault_9 : decode cX11_fault 9 = .ok (.ireturn, 1) := by decide +kernel
theorem dX11_isAt_0 : decode cX11_isAt 0 = .ok (.aload_n 0, 1) := by decide +kernel
theorem dX11_isAt_1 : decode cX11_isAt 1 = .ok (.getfield 247, 3) := by decide +kernel
theorem dX11_isAt_4 : decode cX11_isAt 4 = .ok (.aload_n 0, 1) := by decide +kernel
theorem dX11_isAt_5 : decode cX11_isAt 5 = .ok (.getfield 250, 3) := by decide +kernel
theorem dX11_isAt_8 : decode cX11_isAt 8 = .ok (.if_icmp .ge 33, 3) := by decide +kernel
theorem dX11_isAt_11 : decode cX11_isAt 11 = .ok (.aload_n 0, 1) := by decide +kernel
theorem dX11_isAt_12 : decode cX11_isAt 12 = .ok (.getfield 72, 3) := by decide +kernel
theorem dX11_isAt_15 : decode cX11_isAt 15 = .ok (.aload_n 0, 1) := by decide +kernel
theorem dX11_isAt_16 : decode cX11_isAt 16 = .ok (.getfield 247, 3) := by decide +kernel
theorem dX11_isAt_19 : decode cX11_isAt 19 = .ok (.baload, 1) := by decide +kernel
theorem dX11_isAt_20 : decode cX11_isAt 20 = .ok (.iload_n 1, 1) := by decide +kernel
theorem dX11_isAt_21 : decode cX11_isAt 21 = .ok (.if_icmp .lt 20, 3) := by decide +kernel
theorem dX11_isAt_24 : decode cX11_isAt 24 = .ok (.aload_n 0, 1) := by decide +kernel
theorem dX11_isAt_25 : decode cX11_isAt 25 = .ok (.getfield 72, 3) := by decide +kernel
theorem dX11_isAt_28 : decode cX11_isAt 28 = .ok (.aload_n 0, 1) := by decide +kernel
theorem dX11_isAt_29 : decode cX11_isAt 29 = .ok (.getfield 247, 3) := by decide +kernel
theorem dX11_isAt_32 : decode cX11_isAt 32 = .ok (.baload, 1) := by decide +kernel
theorem dX11_isAt_33 : decode cX11_isAt 33 = .ok (.iload_n 2, 1) := by decide +kernel
theorem dX11_isAt_34 : decode cX11_isAt 34 = .ok (.if_icmp .gt 7, 3) := by decide +kernel
theorem dX11_isAt_37 : decode cX11_isAt 37 = .ok (.iconst 1, 1) := by decide +kernel
theorem dX11_isAt_38 : decode cX11_isAt 38 = .ok (.goto 4, 3) := by decide +kernel
theorem dX11_isAt_41 : decode cX11_isAt 41 = .ok (.iconst 0, 1) := by decide +kernel
theorem dX11_isAt_42 : decode cX11_isAt 42 = .ok (.ireturn, 1) := by decide +kernel
theorem dX11_blanks_0 : decode cX11_blanks 0 = .ok (.aload_n 0, 1) := by decide +kernel
theorem dX11_blanks_1 : decode cX11_blanks 1 = .ok (.bipush 32, 2) := by decide +kernel
theorem dX11_blanks_3 : decode cX11_blanks 3 = .ok (.bipush 32, 2) := by decide +kernel
theorem dX11_blanks_5 : decode cX11_blanks 5 = .ok (.invokevirtual 253, 3) := by decide +kernel
theorem dX11_blanks_8 : decode cX11_blanks 8 = .ok (.ifCond .eq 16, 3) := by decide +kernel
theorem dX11_blanks_11 : decode cX11_blanks 11 = .ok (.aload_n 0, 1) := by decide +kernel
theorem dX11_blanks_12 : decode cX11_blanks 12 = .ok (.dup, 1) := by decide +kernel
theorem dX11_blanks_13 : decode cX11_blanks 13 = .ok (.getfield 247, 3) := by decide +kernel
theorem dX11_blanks_16 : decode cX11_blanks 16 = .ok (.iconst 1, 1) := by decide +kernel
theorem dX11_blanks_17 : decode cX11_blanks 17 = .ok (.iadd, 1) := by decide +kernel
theorem dX11_blanks_18 : decode cX11_blanks 18 = .ok (.putfield 247, 3) := by decide +kernel
theorem dX11_blanks_21 : decode cX11_blanks 21 = .ok (.goto (-21), 3) := by decide +kernel
theorem dX11_blanks_24 : decode cX11_blanks 24 = .ok (.aload_n 0, 1) := by decide +kernel
theorem dX11_blanks_25 : decode cX11_blanks 25 = .ok (.aload_n 0, 1) := by decide +kernel
theorem dX11_blanks_26 : decode cX11_blanks 26 = .ok (.getfield 247, 3) := by decide +kernel
theorem dX11_blanks_29 : decode cX11_blanks 29 = .ok (.putfield 256, 3) := by decide +kernel
theorem dX11_blanks_32 : decode cX11_blanks 32 = .ok (.return_, 1) := by decide +kernel
theorem dX11_letters_0 : decode cX11_letters 0 = .ok (.aload_n 0, 1) := by decide +kernel
theorem dX11_letters_1 : decode cX11_letters 1 = .ok (.invokevirtual 259, 3) := by decide +kernel
theorem dX11_letters_4 : decode cX11_letters 4 = .ok (.aload_n 0, 1) := by decide +kernel
theorem dX11_letters_5 : decode cX11_letters 5 = .ok (.bipush 97, 2) := by decide +kernel
theorem dX11_letters_7 : decode cX11_letters 7 = .ok (.bipush 122, 2) := by decide +kernel
theorem dX11_letters_9 : decode cX11_letters 9 = .ok (.invokevirtual 253, 3) := by decide +kernel
theorem dX11_letters_12 : decode cX11_letters 12 = .ok (.ifCond .eq 16, 3) := by decide +kernel
theorem dX11_letters_15 : decode cX11_letters 15 = .ok (.aload_n 0, 1) := by decide +kernel
theorem dX11_letters_16 : decode cX11_letters 16 = .ok (.dup, 1) := by decide +kernel
theorem dX11_letters_17 : decode cX11_letters 17 = .ok (.getfield 247, 3) := by decide +kernel
theorem dX11_letters_20 : decode cX11_letters 20 = .ok (.iconst 1, 1) := by decide +kernel
theorem dX11_letters_21 : decode cX11_letters 21 = .ok (.iadd, 1) := by decide +kernel
theorem dX11_letters_22 : decode cX11_letters 22 = .ok (.putfield 247, 3) := by decide +kernel
theorem dX11_letters_25 : decode cX11_letters 25 = .ok (.goto (-21), 3) := by decide +kernel
theorem dX11_letters_28 : decode cX11_letters 28 = .ok (.return_, 1) := by decide +kernel
theorem dX11_isWord_0 : decode cX11_isWord 0 = .ok (.aload_n 0, 1) := by decide +kernel
theorem dX11_isWord_1 : decode cX11_isWord 1 = .ok (.getfield 247, 3) := by decide +kernel
theorem dX11_isWord_4 : decode cX11_isWord 4 = .ok (.aload_n 0, 1) := by decide +kernel
theorem dX11_isWord_5 : decode cX11_isWord 5 = .ok (.getfield 256, 3) := by decide +kernel
theorem dX11_isWord_8 : decode cX11_isWord 8 = .ok (.isub, 1) := by decide +kernel
theorem dX11_isWord_9 : decode cX11_isWord 9 = .ok (.aload_n 1, 1) := by decide +kernel
theorem dX11_isWord_10 : decode cX11_isWord 10 = .ok (.invokevirtual 262, 3) := by decide +kernel
theorem dX11_isWord_13 : decode cX11_isWord 13 = .ok (.if_icmp .ne 7, 3) := by decide +kernel
theorem dX11_isWord_16 : decode cX11_isWord 16 = .ok (.iconst 1, 1) := by decide +kernel
theorem dX11_isWord_17 : decode cX11_isWord 17 = .ok (.goto 4, 3) := by decide +kernel
theorem dX11_isWord_20 : decode cX11_isWord 20 = .ok (.iconst 0, 1) := by decide +kernel
theorem dX11_isWord_21 : decode cX11_isWord 21 = .ok (.istore_n 2, 1) := by decide +kernel
theorem dX11_isWord_22 : decode cX11_isWord 22 = .ok (.iconst 0, 1) := by decide +kernel
theorem dX11_isWord_23 : decode cX11_isWord 23 = .ok (.istore_n 3, 1) := by decide +kernel
theorem dX11_isWord_24 : decode cX11_isWord 24 = .ok (.iload_n 2, 1) := by decide +kernel
theorem dX11_isWord_25 : decode cX11_isWord 25 = .ok (.ifCond .eq 42, 3) := by decide +kernel
theorem dX11_isWord_28 : decode cX11_isWord 28 = .ok (.iload_n 3, 1) := by decide +kernel
theorem dX11_isWord_29 : decode cX11_isWord 29 = .ok (.aload_n 1, 1) := by decide +kernel
theorem dX11_isWord_30 : decode cX11_isWord 30 = .ok (.invokevirtual 262, 3) := by decide +kernel
theorem dX11_isWord_33 : decode cX11_isWord 33 = .ok (.if_icmp .ge 34, 3) := by decide +kernel
theorem dX11_isWord_36 : decode cX11_isWord 36 = .ok (.aload_n 0, 1) := by decide +kernel
theorem dX11_isWord_37 : decode cX11_isWord 37 = .ok (.getfield 72, 3) := by decide +kernel
theorem dX11_isWord_40 : decode cX11_isWord 40 = .ok (.aload_n 0, 1) := by decide +kernel
theorem dX11_isWord_41 : decode cX11_isWord 41 = .ok (.getfield 256, 3) := by decide +kernel
theorem dX11_isWord_44 : decode cX11_isWord 44 = .ok (.iload_n 3, 1) := by decide +kernel
theorem dX11_isWord_45 : decode cX11_isWord 45 = .ok (.iadd, 1) := by decide +kernel
theorem dX11_isWord_46 : decode cX11_isWord 46 = .ok (.baload, 1) := by decide +kernel
theorem dX11_isWord_47 : decode cX11_isWord 47 = .ok (.aload_n 1, 1) := by decide +kernel
theorem dX11_isWord_48 : decode cX11_isWord 48 = .ok (.iload_n 3, 1) := by decide +kernel
theorem dX11_isWord_49 : decode cX11_isWord 49 = .ok (.invokevirtual 267, 3) := by decide +kernel
theorem dX11_isWord_52 : decode cX11_isWord 52 = .ok (.if_icmp .ne 7, 3) := by decide +kernel
theorem dX11_isWord_55 : decode cX11_isWord 55 = .ok (.iconst 1, 1) := by decide +kernel
theorem dX11_isWord_56 : decode cX11_isWord 56 = .ok (.goto 4, 3) := by decide +kernel
theorem dX11_isWord_59 : decode cX11_isWord 59 = .ok (.iconst 0, 1) := by decide +kernel
theorem dX11_isWord_60 : decode cX11_isWord 60 = .ok (.istore_n 2, 1) := by decide +kernel
theorem dX11_isWord_61 : decode cX11_isWord 61 = .ok (.iinc 3 1, 3) := by decide +kernel
theorem dX11_isWord_64 : decode cX11_isWord 64 = .ok (.goto (-40), 3) := by decide +kernel
theorem dX11_isWord_67 : decode cX11_isWord 67 = .ok (.iload_n 2, 1) := by decide +kernel
theorem dX11_isWord_68 : decode cX11_isWord 68 = .ok (.ireturn, 1) := by decide +kernel
theorem dX11_passesWord_0 : decode cX11_passesWord 0 = .ok (.aload_n 0, 1) := by decide +kernel
theorem dX11_passesWord_1 : decode cX11_passesWord 1 = .ok (.invokevirtual 271, 3) := by decide +kernel
theorem dX11_passesWord_4 : decode cX11_passesWord 4 = .ok (.aload_n 0, 1) := by decide +kernel
theorem dX11_passesWord_5 : decode cX11_passesWord 5 = .ok (.aload_n 1, 1) := by decide +kernel
theorem dX11_passesWord_6 : decode cX11_passesWord 6 = .ok (.invokevirtual 274, 3) := by decide +kernel
theorem dX11_passesWord_9 : decode cX11_passesWord 9 = .ok (.ifCond .eq 5, 3) := by decide +kernel
theorem dX11_passesWord_12 : decode cX11_passesWord 12 = .ok (.iconst 1, 1) := by decide +kernel
theorem dX11_passesWord_13 : decode cX11_passesWord 13 = .ok (.ireturn, 1) := by decide +kernel
theorem dX11_passesWord_14 : decode cX11_passesWord 14 = .ok (.aload_n 0, 1) := by decide +kernel
theorem dX11_passesWord_15 : decode cX11_passesWord 15 = .ok (.aload_n 0, 1) := by decide +kernel
theorem dX11_passesWord_16 : decode cX11_passesWord 16 = .ok (.getfield 256, 3) := by decide +kernel
theorem dX11_passesWord_19 : decode cX11_passesWord 19 = .ok (.putfield 247, 3) := by decide +kernel
theorem dX11_passesWord_22 : decode cX11_passesWord 22 = .ok (.iconst 0, 1) := by decide +kernel
theorem dX11_passesWord_23 : decode cX11_passesWord 23 = .ok (.ireturn, 1) := by decide +kernel
theorem dX11_reads_0 : decode cX11_reads 0 = .ok (.aload_n 0, 1) := by decide +kernel
theorem dX11_reads_1 : decode cX11_reads 1 = .ok (.invokevirtual 259, 3) := by decide +kernel
theorem dX11_reads_4 : decode cX11_reads 4 = .ok (.iconst 0, 1) := by decide +kernel
theorem dX11_reads_5 : decode cX11_reads 5 = .ok (.istore 4, 2) := by decide +kernel
theorem dX11_reads_7 : decode cX11_reads 7 = .ok (.iconst 0, 1) := by decide +kernel
theorem dX11_reads_8 : decode cX11_reads 8 = .ok (.istore 5, 2) := by decide +kernel
theorem dX11_reads_10 : decode cX11_reads 10 = .ok (.aload_n 0, 1) := by decide +kernel
theorem dX11_reads_11 : decode cX11_reads 11 = .ok (.bipush 48, 2) := by decide +kernel
theorem dX11_reads_13 : decode cX11_reads 13 = .ok (.bipush 57, 2) := by decide +kernel
theorem dX11_reads_15 : decode cX11_reads 15 = .ok (.invokevirtual 253, 3) := by decide +kernel
theorem dX11_reads_18 : decode cX11_reads 18 = .ok (.ifCond .eq 50, 3) := by decide +kernel
theorem dX11_reads_21 : decode cX11_reads 21 = .ok (.iload 5, 2) := by decide +kernel
theorem dX11_reads_23 : decode cX11_reads 23 = .ok (.iconst 3, 1) := by decide +kernel
theorem dX11_reads_24 : decode cX11_reads 24 = .ok (.if_icmp .ge 24, 3) := by decide +kernel
theorem dX11_reads_27 : decode cX11_reads 27 = .ok (.bipush 10, 2) := by decide +kernel
theorem dX11_reads_29 : decode cX11_reads 29 = .ok (.iload 4, 2) := by decide +kernel
theorem dX11_reads_31 : decode cX11_reads 31 = .ok (.imul, 1) := by decide +kernel
theorem dX11_reads_32 : decode cX11_reads 32 = .ok (.aload_n 0, 1) := by decide +kernel
theorem dX11_reads_33 : decode cX11_reads 33 = .ok (.getfield 72, 3) := by decide +kernel
theorem dX11_reads_36 : decode cX11_reads 36 = .ok (.aload_n 0, 1) := by decide +kernel
theorem dX11_reads_37 : decode cX11_reads 37 = .ok (.getfield 247, 3) := by decide +kernel
theorem dX11_reads_40 : decode cX11_reads 40 = .ok (.baload, 1) := by decide +kernel
theorem dX11_reads_41 : decode cX11_reads 41 = .ok (.iadd, 1) := by decide +kernel
theorem dX11_reads_42 : decode cX11_reads 42 = .ok (.bipush 48, 2) := by decide +kernel
theorem dX11_reads_44 : decode cX11_reads 44 = .ok (.isub, 1) := by decide +kernel
theorem dX11_reads_45 : decode cX11_reads 45 = .ok (.goto 5, 3) := by decide +kernel
theorem dX11_reads_48 : decode cX11_reads 48 = .ok (.iload 4, 2) := by decide +kernel
theorem dX11_reads_50 : decode cX11_reads 50 = .ok (.istore 4, 2) := by decide +kernel
theorem dX11_reads_52 : decode cX11_reads 52 = .ok (.iinc 5 1, 3) := by decide +kernel
theorem dX11_reads_55 : decode cX11_reads 55 = .ok (.aload_n 0, 1) := by decide +kernel
theorem dX11_reads_56 : decode cX11_reads 56 = .ok (.dup, 1) := by decide +kernel
theorem dX11_reads_57 : decode cX11_reads 57 = .ok (.getfield 247, 3) := by decide +kernel
theorem dX11_reads_60 : decode cX11_reads 60 = .ok (.iconst 1, 1) := by decide +kernel
theorem dX11_reads_61 : decode cX11_reads 61 = .ok (.iadd, 1) := by decide +kernel
theorem dX11_reads_62 : decode cX11_reads 62 = .ok (.putfield 247, 3) := by decide +kernel
theorem dX11_reads_65 : decode cX11_reads 65 = .ok (.goto (-55), 3) := by decide +kernel
theorem dX11_reads_68 : decode cX11_reads 68 = .ok (.aload_n 0, 1) := by decide +kernel
theorem dX11_reads_69 : decode cX11_reads 69 = .ok (.getfield 82, 3) := by decide +kernel
theorem dX11_reads_72 : decode cX11_reads 72 = .ok (.iload_n 1, 1) := by decide +kernel
theorem dX11_reads_73 : decode cX11_reads 73 = .ok (.iload 4, 2) := by decide +kernel
theorem dX11_reads_75 : decode cX11_reads 75 = .ok (.iastore, 1) := by decide +kernel
theorem dX11_reads_76 : decode cX11_reads 76 = .ok (.iload 5, 2) := by decide +kernel
theorem dX11_reads_78 : decode cX11_reads 78 = .ok (.i2l, 1) := by decide +kernel
theorem dX11_reads_79 : decode cX11_reads 79 = .ok (.lconst 1, 1) := by decide +kernel
theorem dX11_reads_80 : decode cX11_reads 80 = .ok (.ldc2_w 278, 3) := by decide +kernel
theorem dX11_reads_83 : decode cX11_reads 83 = .ok (.invokestatic 131, 3) := by decide +kernel
theorem dX11_reads_86 : decode cX11_reads 86 = .ok (.ifCond .eq 20, 3) := by decide +kernel
theorem dX11_reads_89 : decode cX11_reads 89 = .ok (.iload 4, 2) := by decide +kernel
theorem dX11_reads_91 : decode cX11_reads 91 = .ok (.i2l, 1) := by decide +kernel
theorem dX11_reads_92 : decode cX11_reads 92 = .ok (.iload_n 2, 1) := by decide +kernel
theorem dX11_reads_93 : decode cX11_reads 93 = .ok (.i2l, 1) := by decide +kernel
theorem dX11_reads_94 : decode cX11_reads 94 = .ok (.iload_n 3, 1) := by decide +kernel
theorem dX11_reads_95 : decode cX11_reads 95 = .ok (.i2l, 1) := by decide +kernel
theorem dX11_reads_96 : decode cX11_reads 96 = .ok (.invokestatic 131, 3) := by decide +kernel
theorem dX11_reads_99 : decode cX11_reads 99 = .ok (.ifCond .eq 7, 3) := by decide +kernel
theorem dX11_reads_102 : decode cX11_reads 102 = .ok (.iconst 1, 1) := by decide +kernel
theorem dX11_reads_103 : decode cX11_reads 103 = .ok (.goto 4, 3) := by decide +kernel
theorem dX11_reads_106 : decode cX11_reads 106 = .ok (.iconst 0, 1) := by decide +kernel
theorem dX11_reads_107 : decode cX11_reads 107 = .ok (.ireturn, 1) := by decide +kernel
theorem dX11_readsSigned_0 : decode cX11_readsSigned 0 = .ok (.aload_n 0, 1) := by decide +kernel
theorem dX11_readsSigned_1 : decode cX11_readsSigned 1 = .ok (.invokevirtual 259, 3) := by decide +kernel
theorem dX11_readsSigned_4 : decode cX11_readsSigned 4 = .ok (.aload_n 0, 1) := by decide +kernel
theorem dX11_readsSigned_5 : decode cX11_readsSigned 5 = .ok (.bipush 45, 2) := by decide +kernel
theorem dX11_readsSigned_7 : decode cX11_readsSigned 7 = .ok (.bipush 45, 2) := by decide +kernel
theorem dX11_readsSigned_9 : decode cX11_readsSigned 9 = .ok (.invokevirtual 253, 3) := by decide +kernel
theorem dX11_readsSigned_12 : decode cX11_readsSigned 12 = .ok (.ifCond .ne 13, 3) := by decide +kernel
theorem dX11_readsSigned_15 : decode cX11_readsSigned 15 = .ok (.aload_n 0, 1) := by decide +kernel
theorem dX11_readsSigned_16 : decode cX11_readsSigned 16 = .ok (.iload_n 1, 1) := by decide +kernel
theorem dX11_readsSigned_17 : decode cX11_readsSigned 17 = .ok (.iconst 0, 1) := by decide +kernel
theorem dX11_readsSigned_18 : decode cX11_readsSigned 18 = .ok (.sipush 999, 3) := by decide +kernel
theorem dX11_readsSigned_21 : decode cX11_readsSigned 21 = .ok (.invokevirtual 280, 3) := by decide +kernel
theorem dX11_readsSigned_24 : decode cX11_readsSigned 24 = .ok (.ireturn, 1) := by decide +kernel
theorem dX11_readsSigned_25 : decode cX11_readsSigned 25 = .ok (.aload_n 0, 1) := by decide +kernel
theorem dX11_readsSigned_26 : decode cX11_readsSigned 26 = .ok (.getfield 247, 3) := by decide +kernel
theorem dX11_readsSigned_29 : decode cX11_readsSigned 29 = .ok (.istore_n 2, 1) := by decide +kernel
theorem dX11_readsSigned_30 : decode cX11_readsSigned 30 = .ok (.aload_n 0, 1) := by decide +kernel
theorem dX11_readsSigned_31 : decode cX11_readsSigned 31 = .ok (.dup, 1) := by decide +kernel
theorem dX11_readsSigned_32 : decode cX11_readsSigned 32 = .ok (.getfield 247, 3) := by decide +kernel
theorem dX11_readsSigned_35 : decode cX11_readsSigned 35 = .ok (.iconst 1, 1) := by decide +kernel
theorem dX11_readsSigned_36 : decode cX11_readsSigned 36 = .ok (.iadd, 1) := by decide +kernel
theorem dX11_readsSigned_37 : decode cX11_readsSigned 37 = .ok (.putfield 247, 3) := by decide +kernel
theorem dX11_readsSigned_40 : decode cX11_readsSigned 40 = .ok (.aload_n 0, 1) := by decide +kernel
theorem dX11_readsSigned_41 : decode cX11_readsSigned 41 = .ok (.bipush 48, 2) := by decide +kernel
theorem dX11_readsSigned_43 : decode cX11_readsSigned 43 = .ok (.bipush 57, 2) := by decide +kernel
theorem dX11_readsSigned_45 : decode cX11_readsSigned 45 = .ok (.invokevirtual 253, 3) := by decide +kernel
theorem dX11_readsSigned_48 : decode cX11_readsSigned 48 = .ok (.ifCond .ne 13, 3) := by decide +kernel
theorem dX11_readsSigned_51 : decode cX11_readsSigned 51 = .ok (.aload_n 0, 1) := by decide +kernel
theorem dX11_readsSigned_52 : decode cX11_readsSigned 52 = .ok (.aload_n 0, 1) := by decide +kernel
theorem dX11_readsSigned_53 : decode cX11_readsSigned 53 = .ok (.getfield 247, 3) := by decide +kernel
theorem dX11_readsSigned_56 : decode cX11_readsSigned 56 = .ok (.putfield 256, 3) := by decide +kernel
theorem dX11_readsSigned_59 : decode cX11_readsSigned 59 = .ok (.iconst 0, 1) := by decide +kernel
theorem dX11_readsSigned_60 : decode cX11_readsSigned 60 = .ok (.ireturn, 1) := by decide +kernel
theorem dX11_readsSigned_61 : decode cX11_readsSigned 61 = .ok (.aload_n 0, 1) := by decide +kernel
theorem dX11_readsSigned_62 : decode cX11_readsSigned 62 = .ok (.iload_n 1, 1) := by decide +kernel
theorem dX11_readsSigned_63 : decode cX11_readsSigned 63 = .ok (.iconst 0, 1) := by decide +kernel
theorem dX11_readsSigned_64 : decode cX11_readsSigned 64 = .ok (.sipush 999, 3) := by decide +kernel
theorem dX11_readsSigned_67 : decode cX11_readsSigned 67 = .ok (.invokevirtual 280, 3) := by decide +kernel
theorem dX11_readsSigned_70 : decode cX11_readsSigned 70 = .ok (.istore_n 3, 1) := by decide +kernel
theorem dX11_readsSigned_71 : decode cX11_readsSigned 71 = .ok (.aload_n 0, 1) := by decide +kernel
theorem dX11_readsSigned_72 : decode cX11_readsSigned 72 = .ok (.getfield 82, 3) := by decide +kernel
theorem dX11_readsSigned_75 : decode cX11_readsSigned 75 = .ok (.iload_n 1, 1) := by decide +kernel
theorem dX11_readsSigned_76 : decode cX11_readsSigned 76 = .ok (.aload_n 0, 1) := by decide +kernel
theorem dX11_readsSigned_77 : decode cX11_readsSigned 77 = .ok (.getfield 82, 3) := by decide +kernel
theorem dX11_readsSigned_80 : decode cX11_readsSigned 80 = .ok (.iload_n 1, 1) := by decide +kernel
theorem dX11_readsSigned_81 : decode cX11_readsSigned 81 = .ok (.iaload, 1) := by decide +kernel
theorem dX11_readsSigned_82 : decode cX11_readsSigned 82 = .ok (.ineg, 1) := by decide +kernel
theorem dX11_readsSigned_83 : decode cX11_readsSigned 83 = .ok (.iastore, 1) := by decide +kernel
theorem dX11_readsSigned_84 : decode cX11_readsSigned 84 = .ok (.aload_n 0, 1) := by decide +kernel
theorem dX11_readsSigned_85 : decode cX11_readsSigned 85 = .ok (.iload_n 2, 1) := by decide +kernel
theorem dX11_readsSigned_86 : decode cX11_readsSigned 86 = .ok (.putfield 256, 3) := by decide +kernel
theorem dX11_readsSigned_89 : decode cX11_readsSigned 89 = .ok (.iload_n 3, 1) := by decide +kernel
theorem dX11_readsSigned_90 : decode cX11_readsSigned 90 = .ok (.ireturn, 1) := by decide +kernel
theorem dX11_readsSegment_0 : decode cX11_readsSegment 0 = .ok (.iconst 0, 1) := by decide +kernel
theorem dX11_readsSegment_1 : decode cX11_readsSegment 1 = .ok (.istore_n 1, 1) := by decide +kernel
theorem dX11_readsSegment_2 : decode cX11_readsSegment 2 = .ok (.iload_n 1, 1) := by decide +kernel
theorem dX11_readsSegment_3 : decode cX11_readsSegment 3 = .ok (.iconst 4, 1) := by decide +kernel
theorem dX11_readsSegment_4 : decode cX11_readsSegment 4 = .ok (.if_icmp .ge 19, 3) := by decide +kernel
theorem dX11_readsSegment_7 : decode cX11_readsSegment 7 = .ok (.aload_n 0, 1) := by decide +kernel
theorem dX11_readsSegment_8 : decode cX11_readsSegment 8 = .ok (.iload_n 1, 1) := by decide +kernel
theorem dX11_readsSegment_9 : decode cX11_readsSegment 9 = .ok (.invokevirtual 283, 3) := by decide +kernel
theorem dX11_readsSegment_12 : decode cX11_readsSegment 12 = .ok (.ifCond .ne 5, 3) := by decide +kernel
theorem dX11_readsSegment_15 : decode cX11_readsSegment 15 = .ok (.iconst 0, 1) := by decide +kernel
theorem dX11_readsSegment_16 : decode cX11_readsSegment 16 = .ok (.ireturn, 1) := by decide +kernel
theorem dX11_readsSegment_17 : decode cX11_readsSegment 17 = .ok (.iinc 1 1, 3) := by decide +kernel
theorem dX11_readsSegment_20 : decode cX11_readsSegment 20 = .ok (.goto (-18), 3) := by decide +kernel
theorem dX11_readsSegment_23 : decode cX11_readsSegment 23 = .ok (.aload_n 0, 1) := by decide +kernel
theorem dX11_readsSegment_24 : decode cX11_readsSegment 24 = .ok (.getfield 82, 3) := by decide +kernel
theorem dX11_readsSegment_27 : decode cX11_readsSegment 27 = .ok (.iconst 4, 1) := by decide +kernel
theorem dX11_readsSegment_28 : decode cX11_readsSegment 28 = .ok (.iconst 0, 1) := by decide +kernel
theorem dX11_readsSegment_29 : decode cX11_readsSegment 29 = .ok (.iastore, 1) := by decide +kernel
theorem dX11_readsSegment_30 : decode cX11_readsSegment 30 = .ok (.aload_n 0, 1) := by decide +kernel
theorem dX11_readsSegment_31 : decode cX11_readsSegment 31 = .ok (.ldc_w 286, 3) := by decide +kernel
theorem dX11_readsSegment_34 : decode cX11_readsSegment 34 = .ok (.invokevirtual 288, 3) := by decide +kernel
theorem dX11_readsSegment_37 : decode cX11_readsSegment 37 = .ok (.ifCond .eq 13, 3) := by decide +kernel
theorem dX11_readsSegment_40 : decode cX11_readsSegment 40 = .ok (.aload_n 0, 1) := by decide +kernel
theorem dX11_readsSegment_41 : decode cX11_readsSegment 41 = .ok (.iconst 4, 1) := by decide +kernel
theorem dX11_readsSegment_42 : decode cX11_readsSegment 42 = .ok (.iconst 0, 1) := by decide +kernel
theorem dX11_readsSegment_43 : decode cX11_readsSegment 43 = .ok (.iconst 3, 1) := by decide +kernel
theorem dX11_readsSegment_44 : decode cX11_readsSegment 44 = .ok (.invokevirtual 280, 3) := by decide +kernel
theorem dX11_readsSegment_47 : decode cX11_readsSegment 47 = .ok (.ifCond .eq 7, 3) := by decide +kernel
theorem dX11_readsSegment_50 : decode cX11_readsSegment 50 = .ok (.iconst 1, 1) := by decide +kernel
theorem dX11_readsSegment_51 : decode cX11_readsSegment 51 = .ok (.goto 4, 3) := by decide +kernel
theorem dX11_readsSegment_54 : decode cX11_readsSegment 54 = .ok (.iconst 0, 1) := by decide +kernel
theorem dX11_readsSegment_55 : decode cX11_readsSegment 55 = .ok (.ireturn, 1) := by decide +kernel
theorem dX11_wrongAt_0 : decode cX11_wrongAt 0 = .ok (.aload_n 0, 1) := by decide +kernel
theorem dX11_wrongAt_1 : decode cX11_wrongAt 1 = .ok (.iload_n 1, 1) := by decide +kernel
theorem dX11_wrongAt_2 : decode cX11_wrongAt 2 = .ok (.putfield 256, 3) := by decide +kernel
theorem dX11_wrongAt_5 : decode cX11_wrongAt 5 = .ok (.iconst 0, 1) := by decide +kernel
theorem dX11_wrongAt_6 : decode cX11_wrongAt 6 = .ok (.ireturn, 1) := by decide +kernel
theorem dX11_readAct_0 : decode cX11_readAct 0 = .ok (.aload_n 0, 1) := by decide +kernel
theorem dX11_readAct_1 : decode cX11_readAct 1 = .ok (.invokevirtual 271, 3) := by decide +kernel
theorem dX11_readAct_4 : decode cX11_readAct 4 = .ok (.aload_n 0, 1) := by decide +kernel
theorem dX11_readAct_5 : decode cX11_readAct 5 = .ok (.getfield 256, 3) := by decide +kernel
theorem dX11_readAct_8 : decode cX11_readAct 8 = .ok (.istore_n 1, 1) := by decide +kernel
theorem dX11_readAct_9 : decode cX11_readAct 9 = .ok (.aload_n 0, 1) := by decide +kernel
theorem dX11_readAct_10 : decode cX11_readAct 10 = .ok (.ldc_w 291, 3) := by decide +kernel
theorem dX11_readAct_13 : decode cX11_readAct 13 = .ok (.invokevirtual 274, 3) := by decide +kernel
theorem dX11_readAct_16 : decode cX11_readAct 16 = .ok (.ifCond .eq 64, 3) := by decide +kernel
theorem dX11_readAct_19 : decode cX11_readAct 19 = .ok (.aload_n 0, 1) := by decide +kernel
theorem dX11_readAct_20 : decode cX11_readAct 20 = .ok (.invokevirtual 293, 3) := by decide +kernel
theorem dX11_readAct_23 : decode cX11_readAct 23 = .ok (.ifCond .ne 5, 3) := by decide +kernel
theorem dX11_readAct_26 : decode cX11_readAct 26 = .ok (.iconst 0, 1) := by decide +kernel
theorem dX11_readAct_27 : decode cX11_readAct 27 = .ok (.ireturn, 1) := by decide +kernel
theorem dX11_readAct_28 : decode cX11_readAct 28 = .ok (.aload_n 0, 1) := by decide +kernel
theorem dX11_readAct_29 : decode cX11_readAct 29 = .ok (.invokevirtual 200, 3) := by decide +kernel
theorem dX11_readAct_32 : decode cX11_readAct 32 = .ok (.bipush 24, 2) := by decide +kernel
theorem dX11_readAct_34 : decode cX11_readAct 34 = .ok (.if_icmp .ne 9, 3) := by decide +kernel
theorem dX11_readAct_37 : decode cX11_readAct 37 = .ok (.aload_n 0, 1) := by decide +kernel
theorem dX11_readAct_38 : decode cX11_readAct 38 = .ok (.iload_n 1, 1) := by decide +kernel
theorem dX11_readAct_39 : decode cX11_readAct 39 = .ok (.invokevirtual 297, 3) := by decide +kernel
theorem dX11_readAct_42 : decode cX11_readAct 42 = .ok (.ireturn, 1) := by decide +kernel
theorem dX11_readAct_43 : decode cX11_readAct 43 = .ok (.aload_n 0, 1) := by decide +kernel
theorem dX11_readAct_44 : decode cX11_readAct 44 = .ok (.aload_n 0, 1) := by decide +kernel
theorem dX11_readAct_45 : decode cX11_readAct 45 = .ok (.getfield 82, 3) := by decide +kernel
theorem dX11_readAct_48 : decode cX11_readAct 48 = .ok (.iconst 0, 1) := by decide +kernel
theorem dX11_readAct_49 : decode cX11_readAct 49 = .ok (.iaload, 1) := by decide +kernel
theorem dX11_readAct_50 : decode cX11_readAct 50 = .ok (.aload_n 0, 1) := by decide +kernel
theorem dX11_readAct_51 : decode cX11_readAct 51 = .ok (.getfield 82, 3) := by decide +kernel
theorem dX11_readAct_54 : decode cX11_readAct 54 = .ok (.iconst 1, 1) := by decide +kernel
theorem dX11_readAct_55 : decode cX11_readAct 55 = .ok (.iaload, 1) := by decide +kernel
theorem dX11_readAct_56 : decode cX11_readAct 56 = .ok (.aload_n 0, 1) := by decide +kernel
theorem dX11_readAct_57 : decode cX11_readAct 57 = .ok (.getfield 82, 3) := by decide +kernel
theorem dX11_readAct_60 : decode cX11_readAct 60 = .ok (.iconst 2, 1) := by decide +kernel
theorem dX11_readAct_61 : decode cX11_readAct 61 = .ok (.iaload, 1) := by decide +kernel
theorem dX11_readAct_62 : decode cX11_readAct 62 = .ok (.aload_n 0, 1) := by decide +kernel
theorem dX11_readAct_63 : decode cX11_readAct 63 = .ok (.getfield 82, 3) := by decide +kernel
theorem dX11_readAct_66 : decode cX11_readAct 66 = .ok (.iconst 3, 1) := by decide +kernel
theorem dX11_readAct_67 : decode cX11_readAct 67 = .ok (.iaload, 1) := by decide +kernel
theorem dX11_readAct_68 : decode cX11_readAct 68 = .ok (.aload_n 0, 1) := by decide +kernel
theorem dX11_readAct_69 : decode cX11_readAct 69 = .ok (.getfield 82, 3) := by decide +kernel
theorem dX11_readAct_72 : decode cX11_readAct 72 = .ok (.iconst 4, 1) := by decide +kernel
theorem dX11_readAct_73 : decode cX11_readAct 73 = .ok (.iaload, 1) := by decide +kernel
theorem dX11_readAct_74 : decode cX11_readAct 74 = .ok (.invokevirtual 300, 3) := by decide +kernel
theorem dX11_readAct_77 : decode cX11_readAct 77 = .ok (.pop, 1) := by decide +kernel
theorem dX11_readAct_78 : decode cX11_readAct 78 = .ok (.iconst 1, 1) := by decide +kernel
theorem dX11_readAct_79 : decode cX11_readAct 79 = .ok (.ireturn, 1) := by decide +kernel
theorem dX11_readAct_80 : decode cX11_readAct 80 = .ok (.aload_n 0, 1) := by decide +kernel
theorem dX11_readAct_81 : decode cX11_readAct 81 = .ok (.ldc_w 304, 3) := by decide +kernel
theorem dX11_readAct_84 : decode cX11_readAct 84 = .ok (.invokevirtual 274, 3) := by decide +kernel
theorem dX11_readAct_87 : decode cX11_readAct 87 = .ok (.ifCond .eq 32, 3) := by decide +kernel
theorem dX11_readAct_90 : decode cX11_readAct 90 = .ok (.aload_n 0, 1) := by decide +kernel
theorem dX11_readAct_91 : decode cX11_readAct 91 = .ok (.iconst 0, 1) := by decide +kernel
theorem dX11_readAct_92 : decode cX11_readAct 92 = .ok (.iconst 0, 1) := by decide +kernel
theorem dX11_readAct_93 : decode cX11_readAct 93 = .ok (.aload_n 0, 1) := by decide +kernel
theorem dX11_readAct_94 : decode cX11_readAct 94 = .ok (.invokevirtual 200, 3) := by decide +kernel
theorem dX11_readAct_97 : decode cX11_readAct 97 = .ok (.iconst 1, 1) := by decide +kernel
theorem dX11_readAct_98 : decode cX11_readAct 98 = .ok (.isub, 1) := by decide +kernel
theorem dX11_readAct_99 : decode cX11_readAct 99 = .ok (.invokevirtual 280, 3) := by decide +kernel
theorem dX11_readAct_102 : decode cX11_readAct 102 = .ok (.ifCond .ne 5, 3) := by decide +kernel
theorem dX11_readAct_105 : decode cX11_readAct 105 = .ok (.iconst 0, 1) := by decide +kernel
theorem dX11_readAct_106 : decode cX11_readAct 106 = .ok (.ireturn, 1) := by decide +kernel
theorem dX11_readAct_107 : decode cX11_readAct 107 = .ok (.aload_n 0, 1) := by decide +kernel
theorem dX11_readAct_108 : decode cX11_readAct 108 = .ok (.aload_n 0, 1) := by decide +kernel
theorem dX11_readAct_109 : decode cX11_readAct 109 = .ok (.getfield 82, 3) := by decide +kernel
theorem dX11_readAct_112 : decode cX11_readAct 112 = .ok (.iconst 0, 1) := by decide +kernel
theorem dX11_readAct_113 : decode cX11_readAct 113 = .ok (.iaload, 1) := by decide +kernel
theorem dX11_readAct_114 : decode cX11_readAct 114 = .ok (.invokevirtual 306, 3) := by decide +kernel
theorem dX11_readAct_117 : decode cX11_readAct 117 = .ok (.iconst 1, 1) := by decide +kernel
theorem dX11_readAct_118 : decode cX11_readAct 118 = .ok (.ireturn, 1) := by decide +kernel
theorem dX11_readAct_119 : decode cX11_readAct 119 = .ok (.aload_n 0, 1) := by decide +kernel
theorem dX11_readAct_120 : decode cX11_readAct 120 = .ok (.ldc_w 309, 3) := by decide +kernel
theorem dX11_readAct_123 : decode cX11_readAct 123 = .ok (.invokevirtual 274, 3) := by decide +kernel
theorem dX11_readAct_126 : decode cX11_readAct 126 = .ok (.ifCond .eq 101, 3) := by decide +kernel
theorem dX11_readAct_129 : decode cX11_readAct 129 = .ok (.aload_n 0, 1) := by decide +kernel
theorem dX11_readAct_130 : decode cX11_readAct 130 = .ok (.iconst 2, 1) := by decide +kernel
theorem dX11_readAct_131 : decode cX11_readAct 131 = .ok (.iconst 0, 1) := by decide +kernel
theorem dX11_readAct_132 : decode cX11_readAct 132 = .ok (.aload_n 0, 1) := by decide +kernel
theorem dX11_readAct_133 : decode cX11_readAct 133 = .ok (.invokevirtual 200, 3) := by decide +kernel
theorem dX11_readAct_136 : decode cX11_readAct 136 = .ok (.iconst 1, 1) := by decide +kernel
theorem dX11_readAct_137 : decode cX11_readAct 137 = .ok (.isub, 1) := by decide +kernel
theorem dX11_readAct_138 : decode cX11_readAct 138 = .ok (.invokevirtual 280, 3) := by decide +kernel
theorem dX11_readAct_141 : decode cX11_readAct 141 = .ok (.ifCond .eq 29, 3) := by decide +kernel
theorem dX11_readAct_144 : decode cX11_readAct 144 = .ok (.aload_n 0, 1) := by decide +kernel
theorem dX11_readAct_145 : decode cX11_readAct 145 = .ok (.ldc_w 311, 3) := by decide +kernel
theorem dX11_readAct_148 : decode cX11_readAct 148 = .ok (.invokevirtual 288, 3) := by decide +kernel
theorem dX11_readAct_151 : decode cX11_readAct 151 = .ok (.ifCond .eq 19, 3) := by decide +kernel
theorem dX11_readAct_154 : decode cX11_readAct 154 = .ok (.aload_n 0, 1) := by decide +kernel
theorem dX11_readAct_155 : decode cX11_readAct 155 = .ok (.iconst 0, 1) := by decide +kernel
theorem dX11_readAct_156 : decode cX11_readAct 156 = .ok (.invokevirtual 283, 3) := by decide +kernel
theorem dX11_readAct_159 : decode cX11_readAct 159 = .ok (.ifCond .eq 11, 3) := by decide +kernel
theorem dX11_readAct_162 : decode cX11_readAct 162 = .ok (.aload_n 0, 1) := by decide +kernel
theorem dX11_readAct_163 : decode cX11_readAct 163 = .ok (.iconst 1, 1) := by decide +kernel
theorem dX11_readAct_164 : decode cX11_readAct 164 = .ok (.invokevirtual 283, 3) := by decide +kernel
theorem dX11_readAct_167 : decode cX11_readAct 167 = .ok (.ifCond .ne 5, 3) := by decide +kernel
theorem dX11_readAct_170 : decode cX11_readAct 170 = .ok (.iconst 0, 1) := by decide +kernel
theorem dX11_readAct_171 : decode cX11_readAct 171 = .ok (.ireturn, 1) := by decide +kernel
theorem dX11_readAct_172 : decode cX11_readAct 172 = .ok (.aload_n 0, 1) := by decide +kernel
theorem dX11_readAct_173 : decode cX11_readAct 173 = .ok (.aload_n 0, 1) := by decide +kernel
theorem dX11_readAct_174 : decode cX11_readAct 174 = .ok (.getfield 82, 3) := by decide +kernel
theorem dX11_readAct_177 : decode cX11_readAct 177 = .ok (.iconst 2, 1) := by decide +kernel
theorem dX11_readAct_178 : decode cX11_readAct 178 = .ok (.iaload, 1) := by decide +kernel
theorem dX11_readAct_179 : decode cX11_readAct 179 = .ok (.aload_n 0, 1) := by decide +kernel
theorem dX11_readAct_180 : decode cX11_readAct 180 = .ok (.getfield 82, 3) := by decide +kernel
theorem dX11_readAct_183 : decode cX11_readAct 183 = .ok (.iconst 0, 1) := by decide +kernel
theorem dX11_readAct_184 : decode cX11_readAct 184 = .ok (.iaload, 1) := by decide +kernel
theorem dX11_readAct_185 : decode cX11_readAct 185 = .ok (.aload_n 0, 1) := by decide +kernel
theorem dX11_readAct_186 : decode cX11_readAct 186 = .ok (.getfield 82, 3) := by decide +kernel
theorem dX11_readAct_189 : decode cX11_readAct 189 = .ok (.iconst 1, 1) := by decide +kernel
theorem dX11_readAct_190 : decode cX11_readAct 190 = .ok (.iaload, 1) := by decide +kernel
theorem dX11_readAct_191 : decode cX11_readAct 191 = .ok (.invokevirtual 313, 3) := by decide +kernel
theorem dX11_readAct_194 : decode cX11_readAct 194 = .ok (.ifCond .ne 9, 3) := by decide +kernel
theorem dX11_readAct_197 : decode cX11_readAct 197 = .ok (.aload_n 0, 1) := by decide +kernel
theorem dX11_readAct_198 : decode cX11_readAct 198 = .ok (.iload_n 1, 1) := by decide +kernel
theorem dX11_readAct_199 : decode cX11_readAct 199 = .ok (.invokevirtual 297, 3) := by decide +kernel
theorem dX11_readAct_202 : decode cX11_readAct 202 = .ok (.ireturn, 1) := by decide +kernel
theorem dX11_readAct_203 : decode cX11_readAct 203 = .ok (.aload_n 0, 1) := by decide +kernel
theorem dX11_readAct_204 : decode cX11_readAct 204 = .ok (.aload_n 0, 1) := by decide +kernel
theorem dX11_readAct_205 : decode cX11_readAct 205 = .ok (.getfield 82, 3) := by decide +kernel
theorem dX11_readAct_208 : decode cX11_readAct 208 = .ok (.iconst 2, 1) := by decide +kernel
theorem dX11_readAct_209 : decode cX11_readAct 209 = .ok (.iaload, 1) := by decide +kernel
theorem dX11_readAct_210 : decode cX11_readAct 210 = .ok (.aload_n 0, 1) := by decide +kernel
theorem dX11_readAct_211 : decode cX11_readAct 211 = .ok (.getfield 82, 3) := by decide +kernel
theorem dX11_readAct_214 : decode cX11_readAct 214 = .ok (.iconst 0, 1) := by decide +kernel
theorem dX11_readAct_215 : decode cX11_readAct 215 = .ok (.iaload, 1) := by decide +kernel
theorem dX11_readAct_216 : decode cX11_readAct 216 = .ok (.aload_n 0, 1) := by decide +kernel
theorem dX11_readAct_217 : decode cX11_readAct 217 = .ok (.getfield 82, 3) := by decide +kernel
theorem dX11_readAct_220 : decode cX11_readAct 220 = .ok (.iconst 1, 1) := by decide +kernel
theorem dX11_readAct_221 : decode cX11_readAct 221 = .ok (.iaload, 1) := by decide +kernel
theorem dX11_readAct_222 : decode cX11_readAct 222 = .ok (.invokevirtual 316, 3) := by decide +kernel
theorem dX11_readAct_225 : decode cX11_readAct 225 = .ok (.iconst 1, 1) := by decide +kernel
theorem dX11_readAct_226 : decode cX11_readAct 226 = .ok (.ireturn, 1) := by decide +kernel
theorem dX11_readAct_227 : decode cX11_readAct 227 = .ok (.aload_n 0, 1) := by decide +kernel
theorem dX11_readAct_228 : decode cX11_readAct 228 = .ok (.ldc_w 286, 3) := by decide +kernel
theorem dX11_readAct_231 : decode cX11_readAct 231 = .ok (.invokevirtual 274, 3) := by decide +kernel
theorem dX11_readAct_234 : decode cX11_readAct 234 = .ok (.ifCond .eq 55, 3) := by decide +kernel
theorem dX11_readAct_237 : decode cX11_readAct 237 = .ok (.aload_n 0, 1) := by decide +kernel
theorem dX11_readAct_238 : decode cX11_readAct 238 = .ok (.iconst 0, 1) := by decide +kernel
theorem dX11_readAct_239 : decode cX11_readAct 239 = .ok (.iconst 0, 1) := by decide +kernel
theorem dX11_readAct_240 : decode cX11_readAct 240 = .ok (.aload_n 0, 1) := by decide +kernel
theorem dX11_readAct_241 : decode cX11_readAct 241 = .ok (.invokevirtual 200, 3) := by decide +kernel
theorem dX11_readAct_244 : decode cX11_readAct 244 = .ok (.iconst 1, 1) := by decide +kernel
theorem dX11_readAct_245 : decode cX11_readAct 245 = .ok (.isub, 1) := by decide +kernel
theorem dX11_readAct_246 : decode cX11_readAct 246 = .ok (.invokevirtual 280, 3) := by decide +kernel
theorem dX11_readAct_249 : decode cX11_readAct 249 = .ok (.ifCond .eq 13, 3) := by decide +kernel
theorem dX11_readAct_252 : decode cX11_readAct 252 = .ok (.aload_n 0, 1) := by decide +kernel
theorem dX11_readAct_253 : decode cX11_readAct 253 = .ok (.iconst 1, 1) := by decide +kernel
theorem dX11_readAct_254 : decode cX11_readAct 254 = .ok (.iconst 0, 1) := by decide +kernel
theorem dX11_readAct_255 : decode cX11_readAct 255 = .ok (.iconst 3, 1) := by decide +kernel
theorem dX11_readAct_256 : decode cX11_readAct 256 = .ok (.invokevirtual 280, 3) := by decide +kernel
theorem dX11_readAct_259 : decode cX11_readAct 259 = .ok (.ifCond .ne 5, 3) := by decide +kernel
theorem dX11_readAct_262 : decode cX11_readAct 262 = .ok (.iconst 0, 1) := by decide +kernel
theorem dX11_readAct_263 : decode cX11_readAct 263 = .ok (.ireturn, 1) := by decide +kernel
theorem dX11_readAct_264 : decode cX11_readAct 264 = .ok (.aload_n 0, 1) := by decide +kernel
theorem dX11_readAct_265 : decode cX11_readAct 265 = .ok (.getfield 13, 3) := by decide +kernel
theorem dX11_readAct_268 : decode cX11_readAct 268 = .ok (.iconst 1, 1) := by decide +kernel
theorem dX11_readAct_269 : decode cX11_readAct 269 = .ok (.iconst 5, 1) := by decide +kernel
theorem dX11_readAct_270 : decode cX11_readAct 270 = .ok (.aload_n 0, 1) := by decide +kernel
theorem dX11_readAct_271 : decode cX11_readAct 271 = .ok (.getfield 82, 3) := by decide +kernel
theorem dX11_readAct_274 : decode cX11_readAct 274 = .ok (.iconst 0, 1) := by decide +kernel
theorem dX11_readAct_275 : decode cX11_readAct 275 = .ok (.iaload, 1) := by decide +kernel
theorem dX11_readAct_276 : decode cX11_readAct 276 = .ok (.imul, 1) := by decide +kernel
theorem dX11_readAct_277 : decode cX11_readAct 277 = .ok (.iadd, 1) := by decide +kernel
theorem dX11_readAct_278 : decode cX11_readAct 278 = .ok (.iconst 4, 1) := by decide +kernel
theorem dX11_readAct_279 : decode cX11_readAct 279 = .ok (.iadd, 1) := by decide +kernel
theorem dX11_readAct_280 : decode cX11_readAct 280 = .ok (.aload_n 0, 1) := by decide +kernel
theorem dX11_readAct_281 : decode cX11_readAct 281 = .ok (.getfield 82, 3) := by decide +kernel
theorem dX11_readAct_284 : decode cX11_readAct 284 = .ok (.iconst 1, 1) := by decide +kernel
theorem dX11_readAct_285 : decode cX11_readAct 285 = .ok (.iaload, 1) := by decide +kernel
theorem dX11_readAct_286 : decode cX11_readAct 286 = .ok (.iastore, 1) := by decide +kernel
theorem dX11_readAct_287 : decode cX11_readAct 287 = .ok (.iconst 1, 1) := by decide +kernel
theorem dX11_readAct_288 : decode cX11_readAct 288 = .ok (.ireturn, 1) := by decide +kernel
theorem dX11_readAct_289 : decode cX11_readAct 289 = .ok (.aload_n 0, 1) := by decide +kernel
theorem dX11_readAct_290 : decode cX11_readAct 290 = .ok (.ldc_w 320, 3) := by decide +kernel
theorem dX11_readAct_293 : decode cX11_readAct 293 = .ok (.invokevirtual 274, 3) := by decide +kernel
theorem dX11_readAct_296 : decode cX11_readAct 296 = .ok (.ifCond .ne 5, 3) := by decide +kernel
theorem dX11_readAct_299 : decode cX11_readAct 299 = .ok (.iconst 0, 1) := by decide +kernel
theorem dX11_readAct_300 : decode cX11_readAct 300 = .ok (.ireturn, 1) := by decide +kernel
theorem dX11_readAct_301 : decode cX11_readAct 301 = .ok (.aload_n 0, 1) := by decide +kernel
theorem dX11_readAct_302 : decode cX11_readAct 302 = .ok (.invokevirtual 322, 3) := by decide +kernel
theorem dX11_readAct_305 : decode cX11_readAct 305 = .ok (.iconst 1, 1) := by decide +kernel
theorem dX11_readAct_306 : decode cX11_readAct 306 = .ok (.ireturn, 1) := by decide +kernel
theorem dX11_readActs_0 : decode cX11_readActs 0 = .ok (.aload_n 0, 1) := by decide +kernel
theorem dX11_readActs_1 : decode cX11_readActs 1 = .ok (.iconst 0, 1) := by decide +kernel
theorem dX11_readActs_2 : decode cX11_readActs 2 = .ok (.putfield 325, 3) := by decide +kernel
theorem dX11_readActs_5 : decode cX11_readActs 5 = .ok (.aload_n 0, 1) := by decide +kernel
theorem dX11_readActs_6 : decode cX11_readActs 6 = .ok (.invokevirtual 259, 3) := by decide +kernel
theorem dX11_readActs_9 : decode cX11_readActs 9 = .ok (.aload_n 0, 1) := by decide +kernel
theorem dX11_readActs_10 : decode cX11_readActs 10 = .ok (.getfield 247, 3) := by decide +kernel
theorem dX11_readActs_13 : decode cX11_readActs 13 = .ok (.aload_n 0, 1) := by decide +kernel
theorem dX11_readActs_14 : decode cX11_readActs 14 = .ok (.getfield 250, 3) := by decide +kernel
theorem dX11_readActs_17 : decode cX11_readActs 17 = .ok (.if_icmp .ne 5, 3) := by decide +kernel
theorem dX11_readActs_20 : decode cX11_readActs 20 = .ok (.iconst 1, 1) := by decide +kernel
theorem dX11_readActs_21 : decode cX11_readActs 21 = .ok (.ireturn, 1) := by decide +kernel
theorem dX11_readActs_22 : decode cX11_readActs 22 = .ok (.aload_n 0, 1) := by decide +kernel
theorem dX11_readActs_23 : decode cX11_readActs 23 = .ok (.getfield 325, 3) := by decide +kernel
theorem dX11_readActs_26 : decode cX11_readActs 26 = .ok (.bipush 14, 2) := by decide +kernel
theorem dX11_readActs_28 : decode cX11_readActs 28 = .ok (.if_icmp .ne 9, 3) := by decide +kernel
theorem dX11_readActs_31 : decode cX11_readActs 31 = .ok (.aload_n 0, 1) := by decide +kernel
theorem dX11_readActs_32 : decode cX11_readActs 32 = .ok (.invokevirtual 271, 3) := by decide +kernel
theorem dX11_readActs_35 : decode cX11_readActs 35 = .ok (.iconst 0, 1) := by decide +kernel
theorem dX11_readActs_36 : decode cX11_readActs 36 = .ok (.ireturn, 1) := by decide +kernel
theorem dX11_readActs_37 : decode cX11_readActs 37 = .ok (.aload_n 0, 1) := by decide +kernel
theorem dX11_readActs_38 : decode cX11_readActs 38 = .ok (.invokevirtual 328, 3) := by decide +kernel
theorem dX11_readActs_41 : decode cX11_readActs 41 = .ok (.ifCond .ne 5, 3) := by decide +kernel
theorem dX11_readActs_44 : decode cX11_readActs 44 = .ok (.iconst 0, 1) := by decide +kernel
theorem dX11_readActs_45 : decode cX11_readActs 45 = .ok (.ireturn, 1) := by decide +kernel
theorem dX11_readActs_46 : decode cX11_readActs 46 = .ok (.aload_n 0, 1) := by decide +kernel
theorem dX11_readActs_47 : decode cX11_readActs 47 = .ok (.dup, 1) := by decide +kernel
theorem dX11_readActs_48 : decode cX11_readActs 48 = .ok (.getfield 325, 3) := by decide +kernel
theorem dX11_readActs_51 : decode cX11_readActs 51 = .ok (.iconst 1, 1) := by decide +kernel
theorem dX11_readActs_52 : decode cX11_readActs 52 = .ok (.iadd, 1) := by decide +kernel
theorem dX11_readActs_53 : decode cX11_readActs 53 = .ok (.putfield 325, 3) := by decide +kernel
theorem dX11_readActs_56 : decode cX11_readActs 56 = .ok (.aload_n 0, 1) := by decide +kernel
theorem dX11_readActs_57 : decode cX11_readActs 57 = .ok (.invokevirtual 259, 3) := by decide +kernel
theorem dX11_readActs_60 : decode cX11_readActs 60 = .ok (.aload_n 0, 1) := by decide +kernel
theorem dX11_readActs_61 : decode cX11_readActs 61 = .ok (.getfield 247, 3) := by decide +kernel
theorem dX11_readActs_64 : decode cX11_readActs 64 = .ok (.aload_n 0, 1) := by decide +kernel
theorem dX11_readActs_65 : decode cX11_readActs 65 = .ok (.getfield 250, 3) := by decide +kernel
theorem dX11_readActs_68 : decode cX11_readActs 68 = .ok (.if_icmp .ne 5, 3) := by decide +kernel
theorem dX11_readActs_71 : decode cX11_readActs 71 = .ok (.iconst 1, 1) := by decide +kernel
theorem dX11_readActs_72 : decode cX11_readActs 72 = .ok (.ireturn, 1) := by decide +kernel
theorem dX11_readActs_73 : decode cX11_readActs 73 = .ok (.aload_n 0, 1) := by decide +kernel
theorem dX11_readActs_74 : decode cX11_readActs 74 = .ok (.bipush 59, 2) := by decide +kernel
theorem dX11_readActs_76 : decode cX11_readActs 76 = .ok (.bipush 59, 2) := by decide +kernel
theorem dX11_readActs_78 : decode cX11_readActs 78 = .ok (.invokevirtual 253, 3) := by decide +kernel
theorem dX11_readActs_81 : decode cX11_readActs 81 = .ok (.ifCond .ne 5, 3) := by decide +kernel
theorem dX11_readActs_84 : decode cX11_readActs 84 = .ok (.iconst 0, 1) := by decide +kernel
theorem dX11_readActs_85 : decode cX11_readActs 85 = .ok (.ireturn, 1) := by decide +kernel
theorem dX11_readActs_86 : decode cX11_readActs 86 = .ok (.aload_n 0, 1) := by decide +kernel
theorem dX11_readActs_87 : decode cX11_readActs 87 = .ok (.dup, 1) := by decide +kernel
theorem dX11_readActs_88 : decode cX11_readActs 88 = .ok (.getfield 247, 3) := by decide +kernel
theorem dX11_readActs_91 : decode cX11_readActs 91 = .ok (.iconst 1, 1) := by decide +kernel
theorem dX11_readActs_92 : decode cX11_readActs 92 = .ok (.iadd, 1) := by decide +kernel
theorem dX11_readActs_93 : decode cX11_readActs 93 = .ok (.putfield 247, 3) := by decide +kernel
theorem dX11_readActs_96 : decode cX11_readActs 96 = .ok (.goto (-74), 3) := by decide +kernel
theorem dX11_acts_0 : decode cX11_acts 0 = .ok (.aload_n 0, 1) := by decide +kernel
theorem dX11_acts_1 : decode cX11_acts 1 = .ok (.iconst 0, 1) := by decide +kernel
theorem dX11_acts_2 : decode cX11_acts 2 = .ok (.putfield 3, 3) := by decide +kernel
theorem dX11_acts_5 : decode cX11_acts 5 = .ok (.aload_n 0, 1) := by decide +kernel
theorem dX11_acts_6 : decode cX11_acts 6 = .ok (.aload_n 0, 1) := by decide +kernel
theorem dX11_acts_7 : decode cX11_acts 7 = .ok (.getfield 244, 3) := by decide +kernel
theorem dX11_acts_10 : decode cX11_acts 10 = .ok (.putfield 250, 3) := by decide +kernel
theorem dX11_acts_13 : decode cX11_acts 13 = .ok (.aload_n 0, 1) := by decide +kernel
theorem dX11_acts_14 : decode cX11_acts 14 = .ok (.iconst 0, 1) := by decide +kernel
theorem dX11_acts_15 : decode cX11_acts 15 = .ok (.putfield 244, 3) := by decide +kernel
theorem dX11_acts_18 : decode cX11_acts 18 = .ok (.aload_n 0, 1) := by decide +kernel
theorem dX11_acts_19 : decode cX11_acts 19 = .ok (.iconst 0, 1) := by decide +kernel
theorem dX11_acts_20 : decode cX11_acts 20 = .ok (.putfield 247, 3) := by decide +kernel
theorem dX11_acts_23 : decode cX11_acts 23 = .ok (.aload_n 0, 1) := by decide +kernel
theorem dX11_acts_24 : decode cX11_acts 24 = .ok (.getfield 13, 3) := by decide +kernel
theorem dX11_acts_27 : decode cX11_acts 27 = .ok (.iconst 0, 1) := by decide +kernel
theorem dX11_acts_28 : decode cX11_acts 28 = .ok (.aload_n 0, 1) := by decide +kernel
theorem dX11_acts_29 : decode cX11_acts 29 = .ok (.getfield 20, 3) := by decide +kernel
theorem dX11_acts_32 : decode cX11_acts 32 = .ok (.iconst 0, 1) := by decide +kernel
theorem dX11_acts_33 : decode cX11_acts 33 = .ok (.invokestatic 116, 3) := by decide +kernel
theorem dX11_acts_36 : decode cX11_acts 36 = .ok (.aload_n 0, 1) := by decide +kernel
theorem dX11_acts_37 : decode cX11_acts 37 = .ok (.invokevirtual 331, 3) := by decide +kernel
theorem dX11_acts_40 : decode cX11_acts 40 = .ok (.istore_n 1, 1) := by decide +kernel
theorem dX11_acts_41 : decode cX11_acts 41 = .ok (.aload_n 0, 1) := by decide +kernel
theorem dX11_acts_42 : decode cX11_acts 42 = .ok (.iconst 0, 1) := by decide +kernel
theorem dX11_acts_43 : decode cX11_acts 43 = .ok (.putfield 109, 3) := by decide +kernel
theorem dX11_acts_46 : decode cX11_acts 46 = .ok (.aload_n 0, 1) := by decide +kernel
theorem dX11_acts_47 : decode cX11_acts 47 = .ok (.iload_n 1, 1) := by decide +kernel
theorem dX11_acts_48 : decode cX11_acts 48 = .ok (.ifCond .eq 7, 3) := by decide +kernel
theorem dX11_acts_51 : decode cX11_acts 51 = .ok (.iconst (-1), 1) := by decide +kernel
theorem dX11_acts_52 : decode cX11_acts 52 = .ok (.goto 7, 3) := by decide +kernel
theorem dX11_acts_55 : decode cX11_acts 55 = .ok (.aload_n 0, 1) := by decide +kernel
theorem dX11_acts_56 : decode cX11_acts 56 = .ok (.getfield 256, 3) := by decide +kernel
theorem dX11_acts_59 : decode cX11_acts 59 = .ok (.putfield 76, 3) := by decide +kernel
theorem dX11_acts_62 : decode cX11_acts 62 = .ok (.aload_n 0, 1) := by decide +kernel
theorem dX11_acts_63 : decode cX11_acts 63 = .ok (.iload_n 1, 1) := by decide +kernel
theorem dX11_acts_64 : decode cX11_acts 64 = .ok (.ifCond .ne 7, 3) := by decide +kernel
theorem dX11_acts_67 : decode cX11_acts 67 = .ok (.iconst 1, 1) := by decide +kernel
theorem dX11_acts_68 : decode cX11_acts 68 = .ok (.goto 4, 3) := by decide +kernel
theorem dX11_acts_71 : decode cX11_acts 71 = .ok (.iconst 0, 1) := by decide +kernel
theorem dX11_acts_72 : decode cX11_acts 72 = .ok (.iconst 1, 1) := by decide +kernel
theorem dX11_acts_73 : decode cX11_acts 73 = .ok (.invokevirtual 120, 3) := by decide +kernel
theorem dX11_acts_76 : decode cX11_acts 76 = .ok (.ifCond .eq 18, 3) := by decide +kernel
theorem dX11_acts_79 : decode cX11_acts 79 = .ok (.aload_n 0, 1) := by decide +kernel
theorem dX11_acts_80 : decode cX11_acts 80 = .ok (.getfield 20, 3) := by decide +kernel
theorem dX11_acts_83 : decode cX11_acts 83 = .ok (.iconst 0, 1) := by decide +kernel
theorem dX11_acts_84 : decode cX11_acts 84 = .ok (.aload_n 0, 1) := by decide +kernel
theorem dX11_acts_85 : decode cX11_acts 85 = .ok (.getfield 13, 3) := by decide +kernel
theorem dX11_acts_88 : decode cX11_acts 88 = .ok (.iconst 0, 1) := by decide +kernel
theorem dX11_acts_89 : decode cX11_acts 89 = .ok (.invokestatic 116, 3) := by decide +kernel
theorem dX11_acts_92 : decode cX11_acts 92 = .ok (.iconst 0, 1) := by decide +kernel
theorem dX11_acts_93 : decode cX11_acts 93 = .ok (.ireturn, 1) := by decide +kernel
theorem dX11_acts_94 : decode cX11_acts 94 = .ok (.aload_n 0, 1) := by decide +kernel
theorem dX11_acts_95 : decode cX11_acts 95 = .ok (.iconst 0, 1) := by decide +kernel
theorem dX11_acts_96 : decode cX11_acts 96 = .ok (.putfield 113, 3) := by decide +kernel
theorem dX11_acts_99 : decode cX11_acts 99 = .ok (.aload_n 0, 1) := by decide +kernel
theorem dX11_acts_100 : decode cX11_acts 100 = .ok (.getfield 325, 3) := by decide +kernel
theorem dX11_acts_103 : decode cX11_acts 103 = .ok (.ireturn, 1) := by decide +kernel
theorem dX11_adds_0 : decode cX11_adds 0 = .ok (.aload_n 0, 1) := by decide +kernel
theorem dX11_adds_1 : decode cX11_adds 1 = .ok (.invokevirtual 200, 3) := by decide +kernel
theorem dX11_adds_4 : decode cX11_adds 4 = .ok (.istore 6, 2) := by decide +kernel
theorem dX11_adds_6 : decode cX11_adds 6 = .ok (.aload_n 0, 1) := by decide +kernel
theorem dX11_adds_7 : decode cX11_adds 7 = .ok (.getfield 13, 3) := by decide +kernel
theorem dX11_adds_10 : decode cX11_adds 10 = .ok (.iconst 0, 1) := by decide +kernel
theorem dX11_adds_11 : decode cX11_adds 11 = .ok (.dup2, 1) := by decide +kernel
theorem dX11_adds_12 : decode cX11_adds 12 = .ok (.iaload, 1) := by decide +kernel
theorem dX11_adds_13 : decode cX11_adds 13 = .ok (.iconst 1, 1) := by decide +kernel
theorem dX11_adds_14 : decode cX11_adds 14 = .ok (.iadd, 1) := by decide +kernel
theorem dX11_adds_15 : decode cX11_adds 15 = .ok (.iastore, 1) := by decide +kernel
theorem dX11_adds_16 : decode cX11_adds 16 = .ok (.aload_n 0, 1) := by decide +kernel
theorem dX11_adds_17 : decode cX11_adds 17 = .ok (.iload 6, 2) := by decide +kernel
theorem dX11_adds_19 : decode cX11_adds 19 = .ok (.iload_n 1, 1) := by decide +kernel
theorem dX11_adds_20 : decode cX11_adds 20 = .ok (.iload_n 2, 1) := by decide +kernel
theorem dX11_adds_21 : decode cX11_adds 21 = .ok (.iload_n 3, 1) := by decide +kernel
theorem dX11_adds_22 : decode cX11_adds 22 = .ok (.iload 4, 2) := by decide +kernel
theorem dX11_adds_24 : decode cX11_adds 24 = .ok (.iload 5, 2) := by decide +kernel
theorem dX11_adds_26 : decode cX11_adds 26 = .ok (.invokevirtual 334, 3) := by decide +kernel
theorem dX11_adds_29 : decode cX11_adds 29 = .ok (.iload 6, 2) := by decide +kernel
theorem dX11_adds_31 : decode cX11_adds 31 = .ok (.ireturn, 1) := by decide +kernel
theorem dX11_cuts_0 : decode cX11_cuts 0 = .ok (.iconst 1, 1) := by decide +kernel
theorem dX11_cuts_1 : decode cX11_cuts 1 = .ok (.iconst 5, 1) := by decide +kernel
theorem dX11_cuts_2 : decode cX11_cuts 2 = .ok (.iload_n 1, 1) := by decide +kernel
theorem dX11_cuts_3 : decode cX11_cuts 3 = .ok (.imul, 1) := by decide +kernel
theorem dX11_cuts_4 : decode cX11_cuts 4 = .ok (.iadd, 1) := by decide +kernel
theorem dX11_cuts_5 : decode cX11_cuts 5 = .ok (.istore_n 2, 1) := by decide +kernel
theorem dX11_cuts_6 : decode cX11_cuts 6 = .ok (.iload_n 2, 1) := by decide +kernel
theorem dX11_cuts_7 : decode cX11_cuts 7 = .ok (.iconst 1, 1) := by decide +kernel
theorem dX11_cuts_8 : decode cX11_cuts 8 = .ok (.iconst 5, 1) := by decide +kernel
theorem dX11_cuts_9 : decode cX11_cuts 9 = .ok (.aload_n 0, 1) := by decide +kernel
theorem dX11_cuts_10 : decode cX11_cuts 10 = .ok (.invokevirtual 200, 3) := by decide +kernel
theorem dX11_cuts_13 : decode cX11_cuts 13 = .ok (.iconst 1, 1) := by decide +kernel
theorem dX11_cuts_14 : decode cX11_cuts 14 = .ok (.isub, 1) := by decide +kernel
theorem dX11_cuts_15 : decode cX11_cuts 15 = .ok (.imul, 1) := by decide +kernel
theorem dX11_cuts_16 : decode cX11_cuts 16 = .ok (.iadd, 1) := by decide +kernel
theorem dX11_cuts_17 : decode cX11_cuts 17 = .ok (.if_icmp .ge 23, 3) := by decide +kernel
theorem dX11_cuts_20 : decode cX11_cuts 20 = .ok (.aload_n 0, 1) := by decide +kernel
theorem dX11_cuts_21 : decode cX11_cuts 21 = .ok (.getfield 13, 3) := by decide +kernel
theorem dX11_cuts_24 : decode cX11_cuts 24 = .ok (.iload_n 2, 1) := by decide +kernel
theorem dX11_cuts_25 : decode cX11_cuts 25 = .ok (.aload_n 0, 1) := by decide +kernel
theorem dX11_cuts_26 : decode cX11_cuts 26 = .ok (.getfield 13, 3) := by decide +kernel
theorem dX11_cuts_29 : decode cX11_cuts 29 = .ok (.iload_n 2, 1) := by decide +kernel
theorem dX11_cuts_30 : decode cX11_cuts 30 = .ok (.iconst 5, 1) := by decide +kernel
theorem dX11_cuts_31 : decode cX11_cuts 31 = .ok (.iadd, 1) := by decide +kernel
theorem dX11_cuts_32 : decode cX11_cuts 32 = .ok (.iaload, 1) := by decide +kernel
theorem dX11_cuts_33 : decode cX11_cuts 33 = .ok (.iastore, 1) := by decide +kernel
theorem dX11_cuts_34 : decode cX11_cuts 34 = .ok (.iinc 2 1, 3) := by decide +kernel
theorem dX11_cuts_37 : decode cX11_cuts 37 = .ok (.goto (-31), 3) := by decide +kernel
theorem dX11_cuts_40 : decode cX11_cuts 40 = .ok (.aload_n 0, 1) := by decide +kernel
theorem dX11_cuts_41 : decode cX11_cuts 41 = .ok (.getfield 13, 3) := by decide +kernel
theorem dX11_cuts_44 : decode cX11_cuts 44 = .ok (.iconst 0, 1) := by decide +kernel
theorem dX11_cuts_45 : decode cX11_cuts 45 = .ok (.dup2, 1) := by decide +kernel
theorem dX11_cuts_46 : decode cX11_cuts 46 = .ok (.iaload, 1) := by decide +kernel
theorem dX11_cuts_47 : decode cX11_cuts 47 = .ok (.iconst 1, 1) := by decide +kernel
theorem dX11_cuts_48 : decode cX11_cuts 48 = .ok (.isub, 1) := by decide +kernel
theorem dX11_cuts_49 : decode cX11_cuts 49 = .ok (.iastore, 1) := by decide +kernel
theorem dX11_cuts_50 : decode cX11_cuts 50 = .ok (.aload_n 0, 1) := by decide +kernel
theorem dX11_cuts_51 : decode cX11_cuts 51 = .ok (.iconst 0, 1) := by decide +kernel
theorem dX11_cuts_52 : decode cX11_cuts 52 = .ok (.putfield 109, 3) := by decide +kernel
theorem dX11_cuts_55 : decode cX11_cuts 55 = .ok (.return_, 1) := by decide +kernel
theorem dX11_canMove_0 : decode cX11_canMove 0 = .ok (.aload_n 0, 1) := by decide +kernel
theorem dX11_canMove_1 : decode cX11_canMove 1 = .ok (.iload_n 1, 1) := by decide +kernel
theorem dX11_canMove_2 : decode cX11_canMove 2 = .ok (.iconst 0, 1) := by decide +kernel
theorem dX11_canMove_3 : decode cX11_canMove 3 = .ok (.invokevirtual 127, 3) := by decide +kernel
theorem dX11_canMove_6 : decode cX11_canMove 6 = .ok (.i2l, 1) := by decide +kernel
theorem dX11_canMove_7 : decode cX11_canMove 7 = .ok (.iload_n 2, 1) := by decide +kernel
theorem dX11_canMove_8 : decode cX11_canMove 8 = .ok (.i2l, 1) := by decide +kernel
theorem dX11_canMove_9 : decode cX11_canMove 9 = .ok (.ladd, 1) := by decide +kernel
theorem dX11_canMove_10 : decode cX11_canMove 10 = .ok (.ldc2_w 338, 3) := by decide +kernel
theorem dX11_canMove_13 : decode cX11_canMove 13 = .ok (.ldc2_w 340, 3) := by decide +kernel
theorem dX11_canMove_16 : decode cX11_canMove 16 = .ok (.invokestatic 131, 3) := by decide +kernel
theorem dX11_canMove_19 : decode cX11_canMove 19 = .ok (.ifCond .eq 73, 3) := by decide +kernel
theorem dX11_canMove_22 : decode cX11_canMove 22 = .ok (.aload_n 0, 1) := by decide +kernel
theorem dX11_canMove_23 : decode cX11_canMove 23 = .ok (.iload_n 1, 1) := by decide +kernel
theorem dX11_canMove_24 : decode cX11_canMove 24 = .ok (.iconst 2, 1) := by decide +kernel
theorem dX11_canMove_25 : decode cX11_canMove 25 = .ok (.invokevirtual 127, 3) := by decide +kernel
theorem dX11_canMove_28 : decode cX11_canMove 28 = .ok (.i2l, 1) := by decide +kernel
theorem dX11_canMove_29 : decode cX11_canMove 29 = .ok (.iload_n 2, 1) := by decide +kernel
theorem dX11_canMove_30 : decode cX11_canMove 30 = .ok (.i2l, 1) := by decide +kernel
theorem dX11_canMove_31 : decode cX11_canMove 31 = .ok (.ladd, 1) := by decide +kernel
theorem dX11_canMove_32 : decode cX11_canMove 32 = .ok (.ldc2_w 338, 3) := by decide +kernel
theorem dX11_canMove_35 : decode cX11_canMove 35 = .ok (.ldc2_w 340, 3) := by decide +kernel
theorem dX11_canMove_38 : decode cX11_canMove 38 = .ok (.invokestatic 131, 3) := by decide +kernel
theorem dX11_canMove_41 : decode cX11_canMove 41 = .ok (.ifCond .eq 51, 3) := by decide +kernel
theorem dX11_canMove_44 : decode cX11_canMove 44 = .ok (.aload_n 0, 1) := by decide +kernel
theorem dX11_canMove_45 : decode cX11_canMove 45 = .ok (.iload_n 1, 1) := by decide +kernel
theorem dX11_canMove_46 : decode cX11_canMove 46 = .ok (.iconst 1, 1) := by decide +kernel
theorem dX11_canMove_47 : decode cX11_canMove 47 = .ok (.invokevirtual 127, 3) := by decide +kernel
theorem dX11_canMove_50 : decode cX11_canMove 50 = .ok (.i2l, 1) := by decide +kernel
theorem dX11_canMove_51 : decode cX11_canMove 51 = .ok (.iload_n 3, 1) := by decide +kernel
theorem dX11_canMove_52 : decode cX11_canMove 52 = .ok (.i2l, 1) := by decide +kernel
theorem dX11_canMove_53 : decode cX11_canMove 53 = .ok (.ladd, 1) := by decide +kernel
theorem dX11_canMove_54 : decode cX11_canMove 54 = .ok (.ldc2_w 338, 3) := by decide +kernel
theorem dX11_canMove_57 : decode cX11_canMove 57 = .ok (.ldc2_w 340, 3) := by decide +kernel
theorem dX11_canMove_60 : decode cX11_canMove 60 = .ok (.invokestatic 131, 3) := by decide +kernel
theorem dX11_canMove_63 : decode cX11_canMove 63 = .ok (.ifCond .eq 29, 3) := by decide +kernel
theorem dX11_canMove_66 : decode cX11_canMove 66 = .ok (.aload_n 0, 1) := by decide +kernel
theorem dX11_canMove_67 : decode cX11_canMove 67 = .ok (.iload_n 1, 1) := by decide +kernel
theorem dX11_canMove_68 : decode cX11_canMove 68 = .ok (.iconst 3, 1) := by decide +kernel
theorem dX11_canMove_69 : decode cX11_canMove 69 = .ok (.invokevirtual 127, 3) := by decide +kernel
theorem dX11_canMove_72 : decode cX11_canMove 72 = .ok (.i2l, 1) := by decide +kernel
theorem dX11_canMove_73 : decode cX11_canMove 73 = .ok (.iload_n 3, 1) := by decide +kernel
theorem dX11_canMove_74 : decode cX11_canMove 74 = .ok (.i2l, 1) := by decide +kernel
theorem dX11_canMove_75 : decode cX11_canMove 75 = .ok (.ladd, 1) := by decide +kernel
theorem dX11_canMove_76 : decode cX11_canMove 76 = .ok (.ldc2_w 338, 3) := by decide +kernel
theorem dX11_canMove_79 : decode cX11_canMove 79 = .ok (.ldc2_w 340, 3) := by decide +kernel
theorem dX11_canMove_82 : decode cX11_canMove 82 = .ok (.invokestatic 131, 3) := by decide +kernel
theorem dX11_canMove_85 : decode cX11_canMove 85 = .ok (.ifCond .eq 7, 3) := by decide +kernel
theorem dX11_canMove_88 : decode cX11_canMove 88 = .ok (.iconst 1, 1) := by decide +kernel
theorem dX11_canMove_89 : decode cX11_canMove 89 = .ok (.goto 4, 3) := by decide +kernel
theorem dX11_canMove_92 : decode cX11_canMove 92 = .ok (.iconst 0, 1) := by decide +kernel
theorem dX11_canMove_93 : decode cX11_canMove 93 = .ok (.ireturn, 1) := by decide +kernel
theorem dX11_moves_0 : decode cX11_moves 0 = .ok (.aload_n 0, 1) := by decide +kernel
theorem dX11_moves_1 : decode cX11_moves 1 = .ok (.iload_n 1, 1) := by decide +kernel
theorem dX11_moves_2 : decode cX11_moves 2 = .ok (.aload_n 0, 1) := by decide +kernel
theorem dX11_moves_3 : decode cX11_moves 3 = .ok (.iload_n 1, 1) := by decide +kernel
theorem dX11_moves_4 : decode cX11_moves 4 = .ok (.iconst 0, 1) := by decide +kernel
theorem dX11_moves_5 : decode cX11_moves 5 = .ok (.invokevirtual 127, 3) := by decide +kernel
theorem dX11_moves_8 : decode cX11_moves 8 = .ok (.iload_n 2, 1) := by decide +kernel
theorem dX11_moves_9 : decode cX11_moves 9 = .ok (.iadd, 1) := by decide +kernel
theorem dX11_moves_10 : decode cX11_moves 10 = .ok (.aload_n 0, 1) := by decide +kernel
theorem dX11_moves_11 : decode cX11_moves 11 = .ok (.iload_n 1, 1) := by decide +kernel
theorem dX11_moves_12 : decode cX11_moves 12 = .ok (.iconst 1, 1) := by decide +kernel
theorem dX11_moves_13 : decode cX11_moves 13 = .ok (.invokevirtual 127, 3) := by decide +kernel
theorem dX11_moves_16 : decode cX11_moves 16 = .ok (.iload_n 3, 1) := by decide +kernel
theorem dX11_moves_17 : decode cX11_moves 17 = .ok (.iadd, 1) := by decide +kernel
theorem dX11_moves_18 : decode cX11_moves 18 = .ok (.aload_n 0, 1) := by decide +kernel
theorem dX11_moves_19 : decode cX11_moves 19 = .ok (.iload_n 1, 1) := by decide +kernel
theorem dX11_moves_20 : decode cX11_moves 20 = .ok (.iconst 2, 1) := by decide +kernel
theorem dX11_moves_21 : decode cX11_moves 21 = .ok (.invokevirtual 127, 3) := by decide +kernel
theorem dX11_moves_24 : decode cX11_moves 24 = .ok (.iload_n 2, 1) := by decide +kernel
theorem dX11_moves_25 : decode cX11_moves 25 = .ok (.iadd, 1) := by decide +kernel
theorem dX11_moves_26 : decode cX11_moves 26 = .ok (.aload_n 0, 1) := by decide +kernel
theorem dX11_moves_27 : decode cX11_moves 27 = .ok (.iload_n 1, 1) := by decide +kernel
theorem dX11_moves_28 : decode cX11_moves 28 = .ok (.iconst 3, 1) := by decide +kernel
theorem dX11_moves_29 : decode cX11_moves 29 = .ok (.invokevirtual 127, 3) := by decide +kernel
theorem dX11_moves_32 : decode cX11_moves 32 = .ok (.iload_n 3, 1) := by decide +kernel
theorem dX11_moves_33 : decode cX11_moves 33 = .ok (.iadd, 1) := by decide +kernel
theorem dX11_moves_34 : decode cX11_moves 34 = .ok (.aload_n 0, 1) := by decide +kernel
theorem dX11_moves_35 : decode cX11_moves 35 = .ok (.iload_n 1, 1) := by decide +kernel
theorem dX11_moves_36 : decode cX11_moves 36 = .ok (.iconst 4, 1) := by decide +kernel
theorem dX11_moves_37 : decode cX11_moves 37 = .ok (.invokevirtual 127, 3) := by decide +kernel
theorem dX11_moves_40 : decode cX11_moves 40 = .ok (.invokevirtual 334, 3) := by decide +kernel
theorem dX11_moves_43 : decode cX11_moves 43 = .ok (.return_, 1) := by decide +kernel
theorem dX11_turns_0 : decode cX11_turns 0 = .ok (.iconst 0, 1) := by decide +kernel
theorem dX11_turns_1 : decode cX11_turns 1 = .ok (.istore_n 1, 1) := by decide +kernel
theorem dX11_turns_2 : decode cX11_turns 2 = .ok (.iload_n 1, 1) := by decide +kernel
theorem dX11_turns_3 : decode cX11_turns 3 = .ok (.aload_n 0, 1) := by decide +kernel
theorem dX11_turns_4 : decode cX11_turns 4 = .ok (.invokevirtual 200, 3) := by decide +kernel
theorem dX11_turns_7 : decode cX11_turns 7 = .ok (.if_icmp .ge 46, 3) := by decide +kernel
theorem dX11_turns_10 : decode cX11_turns 10 = .ok (.aload_n 0, 1) := by decide +kernel
theorem dX11_turns_11 : decode cX11_turns 11 = .ok (.iload_n 1, 1) := by decide +kernel
theorem dX11_turns_12 : decode cX11_turns 12 = .ok (.aload_n 0, 1) := by decide +kernel
theorem dX11_turns_13 : decode cX11_turns 13 = .ok (.iload_n 1, 1) := by decide +kernel
theorem dX11_turns_14 : decode cX11_turns 14 = .ok (.iconst 1, 1) := by decide +kernel
theorem dX11_turns_15 : decode cX11_turns 15 = .ok (.invokevirtual 127, 3) := by decide +kernel
theorem dX11_turns_18 : decode cX11_turns 18 = .ok (.ineg, 1) := by decide +kernel
theorem dX11_turns_19 : decode cX11_turns 19 = .ok (.aload_n 0, 1) := by decide +kernel
theorem dX11_turns_20 : decode cX11_turns 20 = .ok (.iload_n 1, 1) := by decide +kernel
theorem dX11_turns_21 : decode cX11_turns 21 = .ok (.iconst 0, 1) := by decide +kernel
theorem dX11_turns_22 : decode cX11_turns 22 = .ok (.invokevirtual 127, 3) := by decide +kernel
theorem dX11_turns_25 : decode cX11_turns 25 = .ok (.aload_n 0, 1) := by decide +kernel
theorem dX11_turns_26 : decode cX11_turns 26 = .ok (.iload_n 1, 1) := by decide +kernel
theorem dX11_turns_27 : decode cX11_turns 27 = .ok (.iconst 3, 1) := by decide +kernel
theorem dX11_turns_28 : decode cX11_turns 28 = .ok (.invokevirtual 127, 3) := by decide +kernel
theorem dX11_turns_31 : decode cX11_turns 31 = .ok (.ineg, 1) := by decide +kernel
theorem dX11_turns_32 : decode cX11_turns 32 = .ok (.aload_n 0, 1) := by decide +kernel
theorem dX11_turns_33 : decode cX11_turns 33 = .ok (.iload_n 1, 1) := by decide +kernel
theorem dX11_turns_34 : decode cX11_turns 34 = .ok (.iconst 2, 1) := by decide +kernel
theorem dX11_turns_35 : decode cX11_turns 35 = .ok (.invokevirtual 127, 3) := by decide +kernel
theorem dX11_turns_38 : decode cX11_turns 38 = .ok (.aload_n 0, 1) := by decide +kernel
theorem dX11_turns_39 : decode cX11_turns 39 = .ok (.iload_n 1, 1) := by decide +kernel
theorem dX11_turns_40 : decode cX11_turns 40 = .ok (.iconst 4, 1) := by decide +kernel
theorem dX11_turns_41 : decode cX11_turns 41 = .ok (.invokevirtual 127, 3) := by decide +kernel
theorem dX11_turns_44 : decode cX11_turns 44 = .ok (.invokevirtual 334, 3) := by decide +kernel
theorem dX11_turns_47 : decode cX11_turns 47 = .ok (.iinc 1 1, 3) := by decide +kernel
theorem dX11_turns_50 : decode cX11_turns 50 = .ok (.goto (-48), 3) := by decide +kernel
theorem dX11_turns_53 : decode cX11_turns 53 = .ok (.return_, 1) := by decide +kernel
theorem dX11_isPlace_0 : decode cX11_isPlace 0 = .ok (.iload_n 0, 1) := by decide +kernel
theorem dX11_isPlace_1 : decode cX11_isPlace 1 = .ok (.i2l, 1) := by decide +kernel
theorem dX11_isPlace_2 : decode cX11_isPlace 2 = .ok (.ldc2_w 338, 3) := by decide +kernel
theorem dX11_isPlace_5 : decode cX11_isPlace 5 = .ok (.ldc2_w 340, 3) := by decide +kernel
theorem dX11_isPlace_8 : decode cX11_isPlace 8 = .ok (.invokestatic 131, 3) := by decide +kernel
theorem dX11_isPlace_11 : decode cX11_isPlace 11 = .ok (.ifCond .eq 21, 3) := by decide +kernel
theorem dX11_isPlace_14 : decode cX11_isPlace 14 = .ok (.iload_n 1, 1) := by decide +kernel
theorem dX11_isPlace_15 : decode cX11_isPlace 15 = .ok (.i2l, 1) := by decide +kernel
theorem dX11_isPlace_16 : decode cX11_isPlace 16 = .ok (.ldc2_w 338, 3) := by decide +kernel
theorem dX11_isPlace_19 : decode cX11_isPlace 19 = .ok (.ldc2_w 340, 3) := by decide +kernel
theorem dX11_isPlace_22 : decode cX11_isPlace 22 = .ok (.invokestatic 131, 3) := by decide +kernel
theorem dX11_isPlace_25 : decode cX11_isPlace 25 = .ok (.ifCond .eq 7, 3) := by decide +kernel
theorem dX11_isPlace_28 : decode cX11_isPlace 28 = .ok (.iconst 1, 1) := by decide +kernel
theorem dX11_isPlace_29 : decode cX11_isPlace 29 = .ok (.goto 4, 3) := by decide +kernel
theorem dX11_isPlace_32 : decode cX11_isPlace 32 = .ok (.iconst 0, 1) := by decide +kernel
theorem dX11_isPlace_33 : decode cX11_isPlace 33 = .ok (.ireturn, 1) := by decide +kernel
theorem dX11_add_0 : decode cX11_add 0 = .ok (.aload_n 0, 1) := by decide +kernel
theorem dX11_add_1 : decode cX11_add 1 = .ok (.iconst 0, 1) := by decide +kernel
theorem dX11_add_2 : decode cX11_add 2 = .ok (.putfield 3, 3) := by decide +kernel
theorem dX11_add_5 : decode cX11_add 5 = .ok (.aload_n 0, 1) := by decide +kernel
theorem dX11_add_6 : decode cX11_add 6 = .ok (.iload_n 1, 1) := by decide +kernel
theorem dX11_add_7 : decode cX11_add 7 = .ok (.iload_n 2, 1) := by decide +kernel
theorem dX11_add_8 : decode cX11_add 8 = .ok (.invokestatic 342, 3) := by decide +kernel
theorem dX11_add_11 : decode cX11_add 11 = .ok (.ifCond .eq 25, 3) := by decide +kernel
theorem dX11_add_14 : decode cX11_add 14 = .ok (.iload_n 3, 1) := by decide +kernel
theorem dX11_add_15 : decode cX11_add 15 = .ok (.iload 4, 2) := by decide +kernel
theorem dX11_add_17 : decode cX11_add 17 = .ok (.invokestatic 342, 3) := by decide +kernel
theorem dX11_add_20 : decode cX11_add 20 = .ok (.ifCond .eq 16, 3) := by decide +kernel
theorem dX11_add_23 : decode cX11_add 23 = .ok (.iload 5, 2) := by decide +kernel
theorem dX11_add_25 : decode cX11_add 25 = .ok (.i2l, 1) := by decide +kernel
theorem dX11_add_26 : decode cX11_add 26 = .ok (.lconst 0, 1) := by decide +kernel
theorem dX11_add_27 : decode cX11_add 27 = .ok (.ldc2_w 278, 3) := by decide +kernel
theorem dX11_add_30 : decode cX11_add 30 = .ok (.invokestatic 131, 3) := by decide +kernel
theorem dX11_add_33 : decode cX11_add 33 = .ok (.ifCond .ne 7, 3) := by decide +kernel
theorem dX11_add_36 : decode cX11_add 36 = .ok (.iconst 1, 1) := by decide +kernel
theorem dX11_add_37 : decode cX11_add 37 = .ok (.goto 4, 3) := by decide +kernel
theorem dX11_add_40 : decode cX11_add 40 = .ok (.iconst 0, 1) := by decide +kernel
theorem dX11_add_41 : decode cX11_add 41 = .ok (.iconst 1, 1) := by decide +kernel
theorem dX11_add_42 : decode cX11_add 42 = .ok (.invokevirtual 120, 3) := by decide +kernel
theorem dX11_add_45 : decode cX11_add 45 = .ok (.ifCond .ne 25, 3) := by decide +kernel
theorem dX11_add_48 : decode cX11_add 48 = .ok (.aload_n 0, 1) := by decide +kernel
theorem dX11_add_49 : decode cX11_add 49 = .ok (.aload_n 0, 1) := by decide +kernel
theorem dX11_add_50 : decode cX11_add 50 = .ok (.invokevirtual 200, 3) := by decide +kernel
theorem dX11_add_53 : decode cX11_add 53 = .ok (.bipush 24, 2) := by decide +kernel
theorem dX11_add_55 : decode cX11_add 55 = .ok (.if_icmp .ne 7, 3) := by decide +kernel
theorem dX11_add_58 : decode cX11_add 58 = .ok (.iconst 1, 1) := by decide +kernel
theorem dX11_add_59 : decode cX11_add 59 = .ok (.goto 4, 3) := by decide +kernel
theorem dX11_add_62 : decode cX11_add 62 = .ok (.iconst 0, 1) := by decide +kernel
theorem dX11_add_63 : decode cX11_add 63 = .ok (.iconst 2, 1) := by decide +kernel
theorem dX11_add_64 : decode cX11_add 64 = .ok (.invokevirtual 120, 3) := by decide +kernel
theorem dX11_add_67 : decode cX11_add 67 = .ok (.ifCond .eq 5, 3) := by decide +kernel
theorem dX11_add_70 : decode cX11_add 70 = .ok (.iconst 0, 1) := by decide +kernel
theorem dX11_add_71 : decode cX11_add 71 = .ok (.ireturn, 1) := by decide +kernel
theorem dX11_add_72 : decode cX11_add 72 = .ok (.aload_n 0, 1) := by decide +kernel
theorem dX11_add_73 : decode cX11_add 73 = .ok (.invokevirtual 345, 3) := by decide +kernel
theorem dX11_add_76 : decode cX11_add 76 = .ok (.aload_n 0, 1) := by decide +kernel
theorem dX11_add_77 : decode cX11_add 77 = .ok (.iload_n 1, 1) := by decide +kernel
theorem dX11_add_78 : decode cX11_add 78 = .ok (.iload_n 2, 1) := by decide +kernel
theorem dX11_add_79 : decode cX11_add 79 = .ok (.iload_n 3, 1) := by decide +kernel
theorem dX11_add_80 : decode cX11_add 80 = .ok (.iload 4, 2) := by decide +kernel
theorem dX11_add_82 : decode cX11_add 82 = .ok (.iload 5, 2) := by decide +kernel
theorem dX11_add_84 : decode cX11_add 84 = .ok (.invokevirtual 300, 3) := by decide +kernel
theorem dX11_add_87 : decode cX11_add 87 = .ok (.ireturn, 1) := by decide +kernel
theorem dX11_noSegment_0 : decode cX11_noSegment 0 = .ok (.aload_n 0, 1) := by decide +kernel
theorem dX11_noSegment_1 : decode cX11_noSegment 1 = .ok (.iconst 0, 1) := by decide +kernel
theorem dX11_noSegment_2 : decode cX11_noSegment 2 = .ok (.putfield 3, 3) := by decide +kernel
theorem dX11_noSegment_5 : decode cX11_noSegment 5 = .ok (.aload_n 0, 1) := by decide +kernel
theorem dX11_noSegment_6 : decode cX11_noSegment 6 = .ok (.iload_n 1, 1) := by decide +kernel
theorem dX11_noSegment_7 : decode cX11_noSegment 7 = .ok (.i2l, 1) := by decide +kernel
theorem dX11_noSegment_8 : decode cX11_noSegment 8 = .ok (.lconst 0, 1) := by decide +kernel
theorem dX11_noSegment_9 : decode cX11_noSegment 9 = .ok (.aload_n 0, 1) := by decide +kernel
theorem dX11_noSegment_10 : decode cX11_noSegment 10 = .ok (.invokevirtual 200, 3) := by decide +kernel
theorem dX11_noSegment_13 : decode cX11_noSegment 13 = .ok (.iconst 1, 1) := by decide +kernel
theorem dX11_noSegment_14 : decode cX11_noSegment 14 = .ok (.isub, 1) := by decide +kernel
theorem dX11_noSegment_15 : decode cX11_noSegment 15 = .ok (.i2l, 1) := by decide +kernel
theorem dX11_noSegment_16 : decode cX11_noSegment 16 = .ok (.invokestatic 131, 3) := by decide +kernel
theorem dX11_noSegment_19 : decode cX11_noSegment 19 = .ok (.ifCond .ne 7, 3) := by decide +kernel
theorem dX11_noSegment_22 : decode cX11_noSegment 22 = .ok (.iconst 1, 1) := by decide +kernel
theorem dX11_noSegment_23 : decode cX11_noSegment 23 = .ok (.goto 4, 3) := by decide +kernel
theorem dX11_noSegment_26 : decode cX11_noSegment 26 = .ok (.iconst 0, 1) := by decide +kernel
theorem dX11_noSegment_27 : decode cX11_noSegment 27 = .ok (.iconst 1, 1) := by decide +kernel
theorem dX11_noSegment_28 : decode cX11_noSegment 28 = .ok (.invokevirtual 120, 3) := by decide +kernel
theorem dX11_noSegment_31 : decode cX11_noSegment 31 = .ok (.ireturn, 1) := by decide +kernel
theorem dX11_crossingsNow_0 : decode cX11_crossingsNow 0 = .ok (.aload_n 0, 1) := by decide +kernel
theorem dX11_crossingsNow_1 : decode cX11_crossingsNow 1 = .ok (.invokevirtual 348, 3) := by decide +kernel
theorem dX11_crossingsNow_4 : decode cX11_crossingsNow 4 = .ok (.aload_n 0, 1) := by decide +kernel
theorem dX11_crossingsNow_5 : decode cX11_crossingsNow 5 = .ok (.getfield 206, 3) := by decide +kernel
theorem dX11_crossingsNow_8 : decode cX11_crossingsNow 8 = .ok (.ireturn, 1) := by decide +kernel
theorem dX11_cut_0 : decode cX11_cut 0 = .ok (.aload_n 0, 1) := by decide +kernel
theorem dX11_cut_1 : decode cX11_cut 1 = .ok (.iload_n 1, 1) := by decide +kernel
theorem dX11_cut_2 : decode cX11_cut 2 = .ok (.invokevirtual 351, 3) := by decide +kernel
theorem dX11_cut_5 : decode cX11_cut 5 = .ok (.ifCond .eq 5, 3) := by decide +kernel
theorem dX11_cut_8 : decode cX11_cut 8 = .ok (.iconst 0, 1) := by decide +kernel
theorem dX11_cut_9 : decode cX11_cut 9 = .ok (.ireturn, 1) := by decide +kernel
theorem dX11_cut_10 : decode cX11_cut 10 = .ok (.aload_n 0, 1) := by decide +kernel
theorem dX11_cut_11 : decode cX11_cut 11 = .ok (.invokevirtual 354, 3) := by decide +kernel
theorem dX11_cut_14 : decode cX11_cut 14 = .ok (.istore_n 2, 1) := by decide +kernel
theorem dX11_cut_15 : decode cX11_cut 15 = .ok (.aload_n 0, 1) := by decide +kernel
theorem dX11_cut_16 : decode cX11_cut 16 = .ok (.invokevirtual 345, 3) := by decide +kernel
theorem dX11_cut_19 : decode cX11_cut 19 = .ok (.aload_n 0, 1) := by decide +kernel
theorem dX11_cut_20 : decode cX11_cut 20 = .ok (.iload_n 1, 1) := by decide +kernel
theorem dX11_cut_21 : decode cX11_cut 21 = .ok (.invokevirtual 306, 3) := by decide +kernel
theorem dX11_cut_24 : decode cX11_cut 24 = .ok (.iload_n 2, 1) := by decide +kernel
theorem dX11_cut_25 : decode cX11_cut 25 = .ok (.aload_n 0, 1) := by decide +kernel
theorem dX11_cut_26 : decode cX11_cut 26 = .ok (.invokevirtual 354, 3) := by decide +kernel
theorem dX11_cut_29 : decode cX11_cut 29 = .ok (.isub, 1) := by decide +kernel
theorem dX11_cut_30 : decode cX11_cut 30 = .ok (.ireturn, 1) := by decide +kernel
theorem dX11_move_0 : decode cX11_move 0 = .ok (.aload_n 0, 1) := by decide +kernel
theorem dX11_move_1 : decode cX11_move 1 = .ok (.iload_n 1, 1) := by decide +kernel
theorem dX11_move_2 : decode cX11_move 2 = .ok (.invokevirtual 351, 3) := by decide +kernel
theorem dX11_move_5 : decode cX11_move 5 = .ok (.ifCond .ne 26, 3) := by decide +kernel
theorem dX11_move_8 : decode cX11_move 8 = .ok (.aload_n 0, 1) := by decide +kernel
theorem dX11_move_9 : decode cX11_move 9 = .ok (.aload_n 0, 1) := by decide +kernel
theorem dX11_move_10 : decode cX11_move 10 = .ok (.iload_n 1, 1) := by decide +kernel
theorem dX11_move_11 : decode cX11_move 11 = .ok (.iload_n 2, 1) := by decide +kernel
theorem dX11_move_12 : decode cX11_move 12 = .ok (.iload_n 3, 1) := by decide +kernel
theorem dX11_move_13 : decode cX11_move 13 = .ok (.invokevirtual 313, 3) := by decide +kernel
theorem dX11_move_16 : decode cX11_move 16 = .ok (.ifCond .ne 7, 3) := by decide +kernel
theorem dX11_move_19 : decode cX11_move 19 = .ok (.iconst 1, 1) := by decide +kernel
theorem dX11_move_20 : decode cX11_move 20 = .ok (.goto 4, 3) := by decide +kernel
theorem dX11_move_23 : decode cX11_move 23 = .ok (.iconst 0, 1) := by decide +kernel
theorem dX11_move_24 : decode cX11_move 24 = .ok (.iconst 2, 1) := by decide +kernel
theorem dX11_move_25 : decode cX11_move 25 = .ok (.invokevirtual 120, 3) := by decide +kernel
theorem dX11_move_28 : decode cX11_move 28 = .ok (.ifCond .eq 5, 3) := by decide +kernel
theorem dX11_move_31 : decode cX11_move 31 = .ok (.iconst 0, 1) := by decide +kernel
theorem dX11_move_32 : decode cX11_move 32 = .ok (.ireturn, 1) := by decide +kernel
theorem dX11_move_33 : decode cX11_move 33 = .ok (.aload_n 0, 1) := by decide +kernel
theorem dX11_move_34 : decode cX11_move 34 = .ok (.invokevirtual 345, 3) := by decide +kernel
theorem dX11_move_37 : decode cX11_move 37 = .ok (.aload_n 0, 1) := by decide +kernel
theorem dX11_move_38 : decode cX11_move 38 = .ok (.iload_n 1, 1) := by decide +kernel
theorem dX11_move_39 : decode cX11_move 39 = .ok (.iload_n 2, 1) := by decide +kernel
theorem dX11_move_40 : decode cX11_move 40 = .ok (.iload_n 3, 1) := by decide +kernel
theorem dX11_move_41 : decode cX11_move 41 = .ok (.invokevirtual 316, 3) := by decide +kernel
theorem dX11_move_44 : decode cX11_move 44 = .ok (.aload_n 0, 1) := by decide +kernel
theorem dX11_move_45 : decode cX11_move 45 = .ok (.invokevirtual 354, 3) := by decide +kernel
theorem dX11_move_48 : decode cX11_move 48 = .ok (.ireturn, 1) := by decide +kernel
theorem dX11_tint_0 : decode cX11_tint 0 = .ok (.aload_n 0, 1) := by decide +kernel
theorem dX11_tint_1 : decode cX11_tint 1 = .ok (.iload_n 1, 1) := by decide +kernel
theorem dX11_tint_2 : decode cX11_tint 2 = .ok (.invokevirtual 351, 3) := by decide +kernel
theorem dX11_tint_5 : decode cX11_tint 5 = .ok (.ifCond .ne 28, 3) := by decide +kernel
theorem dX11_tint_8 : decode cX11_tint 8 = .ok (.aload_n 0, 1) := by decide +kernel
theorem dX11_tint_9 : decode cX11_tint 9 = .ok (.iload_n 2, 1) := by decide +kernel
theorem dX11_tint_10 : decode cX11_tint 10 = .ok (.i2l, 1) := by decide +kernel
theorem dX11_tint_11 : decode cX11_tint 11 = .ok (.lconst 0, 1) := by decide +kernel
theorem dX11_tint_12 : decode cX11_tint 12 = .ok (.ldc2_w 278, 3) := by decide +kernel
theorem dX11_tint_15 : decode cX11_tint 15 = .ok (.invokestatic 131, 3) := by decide +kernel
theorem dX11_tint_18 : decode cX11_tint 18 = .ok (.ifCond .ne 7, 3) := by decide +kernel
theorem dX11_tint_21 : decode cX11_tint 21 = .ok (.iconst 1, 1) := by decide +kernel
theorem dX11_tint_22 : decode cX11_tint 22 = .ok (.goto 4, 3) := by decide +kernel
theorem dX11_tint_25 : decode cX11_tint 25 = .ok (.iconst 0, 1) := by decide +kernel
theorem dX11_tint_26 : decode cX11_tint 26 = .ok (.iconst 2, 1) := by decide +kernel
theorem dX11_tint_27 : decode cX11_tint 27 = .ok (.invokevirtual 120, 3) := by decide +kernel
theorem dX11_tint_30 : decode cX11_tint 30 = .ok (.ifCond .eq 5, 3) := by decide +kernel
theorem dX11_tint_33 : decode cX11_tint 33 = .ok (.iconst 0, 1) := by decide +kernel
theorem dX11_tint_34 : decode cX11_tint 34 = .ok (.ireturn, 1) := by decide +kernel
theorem dX11_tint_35 : decode cX11_tint 35 = .ok (.aload_n 0, 1) := by decide +kernel
theorem dX11_tint_36 : decode cX11_tint 36 = .ok (.invokevirtual 345, 3) := by decide +kernel
theorem dX11_tint_39 : decode cX11_tint 39 = .ok (.aload_n 0, 1) := by decide +kernel
theorem dX11_tint_40 : decode cX11_tint 40 = .ok (.iload_n 1, 1) := by decide +kernel
theorem dX11_tint_41 : decode cX11_tint 41 = .ok (.iconst 4, 1) := by decide +kernel
theorem dX11_tint_42 : decode cX11_tint 42 = .ok (.invokevirtual 127, 3) := by decide +kernel
theorem dX11_tint_45 : decode cX11_tint 45 = .ok (.istore_n 3, 1) := by decide +kernel
theorem dX11_tint_46 : decode cX11_tint 46 = .ok (.aload_n 0, 1) := by decide +kernel
theorem dX11_tint_47 : decode cX11_tint 47 = .ok (.getfield 13, 3) := by decide +kernel
theorem dX11_tint_50 : decode cX11_tint 50 = .ok (.iconst 1, 1) := by decide +kernel
theorem dX11_tint_51 : decode cX11_tint 51 = .ok (.iconst 5, 1) := by decide +kernel
theorem dX11_tint_52 : decode cX11_tint 52 = .ok (.iload_n 1, 1) := by decide +kernel
theorem dX11_tint_53 : decode cX11_tint 53 = .ok (.imul, 1) := by decide +kernel
theorem dX11_tint_54 : decode cX11_tint 54 = .ok (.iadd, 1) := by decide +kernel
theorem dX11_tint_55 : decode cX11_tint 55 = .ok (.iconst 4, 1) := by decide +kernel
theorem dX11_tint_56 : decode cX11_tint 56 = .ok (.iadd, 1) := by decide +kernel
theorem dX11_tint_57 : decode cX11_tint 57 = .ok (.iload_n 2, 1) := by decide +kernel
theorem dX11_tint_58 : decode cX11_tint 58 = .ok (.iastore, 1) := by decide +kernel
theorem dX11_tint_59 : decode cX11_tint 59 = .ok (.iload_n 3, 1) := by decide +kernel
theorem dX11_tint_60 : decode cX11_tint 60 = .ok (.ireturn, 1) := by decide +kernel
theorem dX11_turn_0 : decode cX11_turn 0 = .ok (.aload_n 0, 1) := by decide +kernel
theorem dX11_turn_1 : decode cX11_turn 1 = .ok (.iconst 0, 1) := by decide +kernel
theorem dX11_turn_2 : decode cX11_turn 2 = .ok (.putfield 3, 3) := by decide +kernel
theorem dX11_turn_5 : decode cX11_turn 5 = .ok (.aload_n 0, 1) := by decide +kernel
theorem dX11_turn_6 : decode cX11_turn 6 = .ok (.invokevirtual 345, 3) := by decide +kernel
theorem dX11_turn_9 : decode cX11_turn 9 = .ok (.aload_n 0, 1) := by decide +kernel
theorem dX11_turn_10 : decode cX11_turn 10 = .ok (.invokevirtual 322, 3) := by decide +kernel
theorem dX11_turn_13 : decode cX11_turn 13 = .ok (.aload_n 0, 1) := by decide +kernel
theorem dX11_turn_14 : decode cX11_turn 14 = .ok (.invokevirtual 348, 3) := by decide +kernel
theorem dX11_turn_17 : decode cX11_turn 17 = .ok (.aload_n 0, 1) := by decide +kernel
theorem dX11_turn_18 : decode cX11_turn 18 = .ok (.getfield 193, 3) := by decide +kernel
theorem dX11_turn_21 : decode cX11_turn 21 = .ok (.ireturn, 1) := by decide +kernel
theorem dX11_tiedTo_0 : decode cX11_tiedTo 0 = .ok (.iconst 0, 1) := by decide +kernel
theorem dX11_tiedTo_1 : decode cX11_tiedTo 1 = .ok (.istore_n 2, 1) := by decide +kernel
theorem dX11_tiedTo_2 : decode cX11_tiedTo 2 = .ok (.iconst 0, 1) := by decide +kernel
theorem dX11_tiedTo_3 : decode cX11_tiedTo 3 = .ok (.istore_n 3, 1) := by decide +kernel
theorem dX11_tiedTo_4 : decode cX11_tiedTo 4 = .ok (.iload_n 3, 1) := by decide +kernel
theorem dX11_tiedTo_5 : decode cX11_tiedTo 5 = .ok (.aload_n 0, 1) := by decide +kernel
theorem dX11_tiedTo_6 : decode cX11_tiedTo 6 = .ok (.invokevirtual 200, 3) := by decide +kernel
theorem dX11_tiedTo_9 : decode cX11_tiedTo 9 = .ok (.if_icmp .ge 33, 3) := by decide +kernel
theorem dX11_tiedTo_12 : decode cX11_tiedTo 12 = .ok (.iload_n 2, 1) := by decide +kernel
theorem dX11_tiedTo_13 : decode cX11_tiedTo 13 = .ok (.iload_n 3, 1) := by decide +kernel
theorem dX11_tiedTo_14 : decode cX11_tiedTo 14 = .ok (.iload_n 1, 1) := by decide +kernel
theorem dX11_tiedTo_15 : decode cX11_tiedTo 15 = .ok (.if_icmp .eq 18, 3) := by decide +kernel
theorem dX11_tiedTo_18 : decode cX11_tiedTo 18 = .ok (.aload_n 0, 1) := by decide +kernel
theorem dX11_tiedTo_19 : decode cX11_tiedTo 19 = .ok (.iload_n 1, 1) := by decide +kernel
theorem dX11_tiedTo_20 : decode cX11_tiedTo 20 = .ok (.iload_n 3, 1) := by decide +kernel
theorem dX11_tiedTo_21 : decode cX11_tiedTo 21 = .ok (.invokevirtual 186, 3) := by decide +kernel
theorem dX11_tiedTo_24 : decode cX11_tiedTo 24 = .ok (.ifCond .eq 9, 3) := by decide +kernel
theorem dX11_tiedTo_27 : decode cX11_tiedTo 27 = .ok (.iconst 1, 1) := by decide +kernel
theorem dX11_tiedTo_28 : decode cX11_tiedTo 28 = .ok (.iload_n 3, 1) := by decide +kernel
theorem dX11_tiedTo_29 : decode cX11_tiedTo 29 = .ok (.ishl, 1) := by decide +kernel
theorem dX11_tiedTo_30 : decode cX11_tiedTo 30 = .ok (.goto 4, 3) := by decide +kernel
theorem dX11_tiedTo_33 : decode cX11_tiedTo 33 = .ok (.iconst 0, 1) := by decide +kernel
theorem dX11_tiedTo_34 : decode cX11_tiedTo 34 = .ok (.ior, 1) := by decide +kernel
theorem dX11_tiedTo_35 : decode cX11_tiedTo 35 = .ok (.istore_n 2, 1) := by decide +kernel
theorem dX11_tiedTo_36 : decode cX11_tiedTo 36 = .ok (.iinc 3 1, 3) := by decide +kernel
theorem dX11_tiedTo_39 : decode cX11_tiedTo 39 = .ok (.goto (-35), 3) := by decide +kernel
theorem dX11_tiedTo_42 : decode cX11_tiedTo 42 = .ok (.iload_n 2, 1) := by decide +kernel
theorem dX11_tiedTo_43 : decode cX11_tiedTo 43 = .ok (.ireturn, 1) := by decide +kernel
theorem dX11_partOf_0 : decode cX11_partOf 0 = .ok (.iconst 1, 1) := by decide +kernel
theorem dX11_partOf_1 : decode cX11_partOf 1 = .ok (.iload_n 1, 1) := by decide +kernel
theorem dX11_partOf_2 : decode cX11_partOf 2 = .ok (.ishl, 1) := by decide +kernel
theorem dX11_partOf_3 : decode cX11_partOf 3 = .ok (.istore_n 2, 1) := by decide +kernel
theorem dX11_partOf_4 : decode cX11_partOf 4 = .ok (.iconst 0, 1) := by decide +kernel
theorem dX11_partOf_5 : decode cX11_partOf 5 = .ok (.istore_n 3, 1) := by decide +kernel
theorem dX11_partOf_6 : decode cX11_partOf 6 = .ok (.iload_n 2, 1) := by decide +kernel
theorem dX11_partOf_7 : decode cX11_partOf 7 = .ok (.iload_n 3, 1) := by decide +kernel
theorem dX11_partOf_8 : decode cX11_partOf 8 = .ok (.if_icmp .eq 48, 3) := by decide +kernel
theorem dX11_partOf_11 : decode cX11_partOf 11 = .ok (.iload_n 2, 1) := by decide +kernel
theorem dX11_partOf_12 : decode cX11_partOf 12 = .ok (.istore_n 3, 1) := by decide +kernel
theorem dX11_partOf_13 : decode cX11_partOf 13 = .ok (.iconst 0, 1) := by decide +kernel
theorem dX11_partOf_14 : decode cX11_partOf 14 = .ok (.istore 4, 2) := by decide +kernel
theorem dX11_partOf_16 : decode cX11_partOf 16 = .ok (.iload 4, 2) := by decide +kernel
theorem dX11_partOf_18 : decode cX11_partOf 18 = .ok (.aload_n 0, 1) := by decide +kernel
theorem dX11_partOf_19 : decode cX11_partOf 19 = .ok (.invokevirtual 200, 3) := by decide +kernel
theorem dX11_partOf_22 : decode cX11_partOf 22 = .ok (.if_icmp .ge 31, 3) := by decide +kernel
theorem dX11_partOf_25 : decode cX11_partOf 25 = .ok (.iload_n 2, 1) := by decide +kernel
theorem dX11_partOf_26 : decode cX11_partOf 26 = .ok (.iload_n 3, 1) := by decide +kernel
theorem dX11_partOf_27 : decode cX11_partOf 27 = .ok (.iload 4, 2) := by decide +kernel
theorem dX11_partOf_29 : decode cX11_partOf 29 = .ok (.invokestatic 220, 3) := by decide +kernel
theorem dX11_partOf_32 : decode cX11_partOf 32 = .ok (.ifCond .eq 12, 3) := by decide +kernel
theorem dX11_partOf_35 : decode cX11_partOf 35 = .ok (.aload_n 0, 1) := by decide +kernel
theorem dX11_partOf_36 : decode cX11_partOf 36 = .ok (.iload 4, 2) := by decide +kernel
theorem dX11_partOf_38 : decode cX11_partOf 38 = .ok (.invokevirtual 357, 3) := by decide +kernel
theorem dX11_partOf_41 : decode cX11_partOf 41 = .ok (.goto 4, 3) := by decide +kernel
theorem dX11_partOf_44 : decode cX11_partOf 44 = .ok (.iconst 0, 1) := by decide +kernel
theorem dX11_partOf_45 : decode cX11_partOf 45 = .ok (.ior, 1) := by decide +kernel
theorem dX11_partOf_46 : decode cX11_partOf 46 = .ok (.istore_n 2, 1) := by decide +kernel
theorem dX11_partOf_47 : decode cX11_partOf 47 = .ok (.iinc 4 1, 3) := by decide +kernel
theorem dX11_partOf_50 : decode cX11_partOf 50 = .ok (.goto (-34), 3) := by decide +kernel
theorem dX11_partOf_53 : decode cX11_partOf 53 = .ok (.goto (-47), 3) := by decide +kernel
theorem dX11_partOf_56 : decode cX11_partOf 56 = .ok (.iload_n 2, 1) := by decide +kernel
theorem dX11_partOf_57 : decode cX11_partOf 57 = .ok (.ireturn, 1) := by decide +kernel
theorem dX11_kindOf_0 : decode cX11_kindOf 0 = .ok (.aload_n 0, 1) := by decide +kernel
theorem dX11_kindOf_1 : decode cX11_kindOf 1 = .ok (.aload_n 0, 1) := by decide +kernel
theorem dX11_kindOf_2 : decode cX11_kindOf 2 = .ok (.getfield 26, 3) := by decide +kernel
theorem dX11_kindOf_5 : decode cX11_kindOf 5 = .ok (.iload_n 1, 1) := by decide +kernel
theorem dX11_kindOf_6 : decode cX11_kindOf 6 = .ok (.invokevirtual 179, 3) := by decide +kernel
theorem dX11_kindOf_9 : decode cX11_kindOf 9 = .ok (.aload_n 0, 1) := by decide +kernel
theorem dX11_kindOf_10 : decode cX11_kindOf 10 = .ok (.getfield 26, 3) := by decide +kernel
theorem dX11_kindOf_13 : decode cX11_kindOf 13 = .ok (.invokestatic 161, 3) := by decide +kernel
theorem dX11_kindOf_16 : decode cX11_kindOf 16 = .ok (.ifCond .eq 7, 3) := by decide +kernel
theorem dX11_kindOf_19 : decode cX11_kindOf 19 = .ok (.iconst 0, 1) := by decide +kernel
theorem dX11_kindOf_20 : decode cX11_kindOf 20 = .ok (.goto 35, 3) := by decide +kernel
theorem dX11_kindOf_23 : decode cX11_kindOf 23 = .ok (.aload_n 0, 1) := by decide +kernel
theorem dX11_kindOf_24 : decode cX11_kindOf 24 = .ok (.iload_n 1, 1) := by decide +kernel
theorem dX11_kindOf_25 : decode cX11_kindOf 25 = .ok (.invokevirtual 226, 3) := by decide +kernel
theorem dX11_kindOf_28 : decode cX11_kindOf 28 = .ok (.ifCond .eq 7, 3) := by decide +kernel
theorem dX11_kindOf_31 : decode cX11_kindOf 31 = .ok (.iconst 1, 1) := by decide +kernel
theorem dX11_kindOf_32 : decode cX11_kindOf 32 = .ok (.goto 23, 3) := by decide +kernel
theorem dX11_kindOf_35 : decode cX11_kindOf 35 = .ok (.aload_n 0, 1) := by decide +kernel
theorem dX11_kindOf_36 : decode cX11_kindOf 36 = .ok (.iload_n 1, 1) := by decide +kernel
theorem dX11_kindOf_37 : decode cX11_kindOf 37 = .ok (.iconst 1, 1) := by decide +kernel
theorem dX11_kindOf_38 : decode cX11_kindOf 38 = .ok (.invokevirtual 127, 3) := by decide +kernel
theorem dX11_kindOf_41 : decode cX11_kindOf 41 = .ok (.aload_n 0, 1) := by decide +kernel
theorem dX11_kindOf_42 : decode cX11_kindOf 42 = .ok (.iload_n 1, 1) := by decide +kernel
theorem dX11_kindOf_43 : decode cX11_kindOf 43 = .ok (.iconst 3, 1) := by decide +kernel
theorem dX11_kindOf_44 : decode cX11_kindOf 44 = .ok (.invokevirtual 127, 3) := by decide +kernel
theorem dX11_kindOf_47 : decode cX11_kindOf 47 = .ok (.if_icmp .ne 7, 3) := by decide +kernel
theorem dX11_kindOf_50 : decode cX11_kindOf 50 = .ok (.iconst 2, 1) := by decide +kernel
theorem dX11_kindOf_51 : decode cX11_kindOf 51 = .ok (.goto 4, 3) := by decide +kernel
theorem dX11_kindOf_54 : decode cX11_kindOf 54 = .ok (.iconst 3, 1) := by decide +kernel
theorem dX11_kindOf_55 : decode cX11_kindOf 55 = .ok (.ireturn, 1) := by decide +kernel
theorem dX11_eventsOn_0 : decode cX11_eventsOn 0 = .ok (.aload_n 0, 1) := by decide +kernel
theorem dX11_eventsOn_1 : decode cX11_eventsOn 1 = .ok (.invokevirtual 348, 3) := by decide +kernel
theorem dX11_eventsOn_4 : decode cX11_eventsOn 4 = .ok (.iconst 0, 1) := by decide +kernel
theorem dX11_eventsOn_5 : decode cX11_eventsOn 5 = .ok (.istore_n 3, 1) := by decide +kernel
theorem dX11_eventsOn_6 : decode cX11_eventsOn 6 = .ok (.iconst 0, 1) := by decide +kernel
theorem dX11_eventsOn_7 : decode cX11_eventsOn 7 = .ok (.istore 4, 2) := by decide +kernel
theorem dX11_eventsOn_9 : decode cX11_eventsOn 9 = .ok (.iload 4, 2) := by decide +kernel
theorem dX11_eventsOn_11 : decode cX11_eventsOn 11 = .ok (.aload_n 0, 1) := by decide +kernel
theorem dX11_eventsOn_12 : decode cX11_eventsOn 12 = .ok (.getfield 193, 3) := by decide +kernel
theorem dX11_eventsOn_15 : decode cX11_eventsOn 15 = .ok (.if_icmp .ge 46, 3) := by decide +kernel
theorem dX11_eventsOn_18 : decode cX11_eventsOn 18 = .ok (.iload_n 3, 1) := by decide +kernel
theorem dX11_eventsOn_19 : decode cX11_eventsOn 19 = .ok (.aload_n 0, 1) := by decide +kernel
theorem dX11_eventsOn_20 : decode cX11_eventsOn 20 = .ok (.getfield 48, 3) := by decide +kernel
theorem dX11_eventsOn_23 : decode cX11_eventsOn 23 = .ok (.iload 4, 2) := by decide +kernel
theorem dX11_eventsOn_25 : decode cX11_eventsOn 25 = .ok (.iaload, 1) := by decide +kernel
theorem dX11_eventsOn_26 : decode cX11_eventsOn 26 = .ok (.iload_n 1, 1) := by decide +kernel
theorem dX11_eventsOn_27 : decode cX11_eventsOn 27 = .ok (.invokestatic 220, 3) := by decide +kernel
theorem dX11_eventsOn_30 : decode cX11_eventsOn 30 = .ok (.ifCond .eq 22, 3) := by decide +kernel
theorem dX11_eventsOn_33 : decode cX11_eventsOn 33 = .ok (.iload_n 2, 1) := by decide +kernel
theorem dX11_eventsOn_34 : decode cX11_eventsOn 34 = .ok (.ifCond .eq 14, 3) := by decide +kernel
theorem dX11_eventsOn_37 : decode cX11_eventsOn 37 = .ok (.aload_n 0, 1) := by decide +kernel
theorem dX11_eventsOn_38 : decode cX11_eventsOn 38 = .ok (.getfield 45, 3) := by decide +kernel
theorem dX11_eventsOn_41 : decode cX11_eventsOn 41 = .ok (.iload 4, 2) := by decide +kernel
theorem dX11_eventsOn_43 : decode cX11_eventsOn 43 = .ok (.iaload, 1) := by decide +kernel
theorem dX11_eventsOn_44 : decode cX11_eventsOn 44 = .ok (.iconst (-1), 1) := by decide +kernel
theorem dX11_eventsOn_45 : decode cX11_eventsOn 45 = .ok (.if_icmp .eq 7, 3) := by decide +kernel
theorem dX11_eventsOn_48 : decode cX11_eventsOn 48 = .ok (.iconst 1, 1) := by decide +kernel
theorem dX11_eventsOn_49 : decode cX11_eventsOn 49 = .ok (.goto 4, 3) := by decide +kernel
theorem dX11_eventsOn_52 : decode cX11_eventsOn 52 = .ok (.iconst 0, 1) := by decide +kernel
theorem dX11_eventsOn_53 : decode cX11_eventsOn 53 = .ok (.iadd, 1) := by decide +kernel
theorem dX11_eventsOn_54 : decode cX11_eventsOn 54 = .ok (.istore_n 3, 1) := by decide +kernel
theorem dX11_eventsOn_55 : decode cX11_eventsOn 55 = .ok (.iinc 4 1, 3) := by decide +kernel
theorem dX11_eventsOn_58 : decode cX11_eventsOn 58 = .ok (.goto (-49), 3) := by decide +kernel
theorem dX11_eventsOn_61 : decode cX11_eventsOn 61 = .ok (.iload_n 3, 1) := by decide +kernel
theorem dX11_eventsOn_62 : decode cX11_eventsOn 62 = .ok (.ireturn, 1) := by decide +kernel
theorem dX11_segment_0 : decode cX11_segment 0 = .ok (.aload_n 0, 1) := by decide +kernel
theorem dX11_segment_1 : decode cX11_segment 1 = .ok (.iload_n 1, 1) := by decide +kernel
theorem dX11_segment_2 : decode cX11_segment 2 = .ok (.invokevirtual 351, 3) := by decide +kernel
theorem dX11_segment_5 : decode cX11_segment 5 = .ok (.ifCond .ne 28, 3) := by decide +kernel
theorem dX11_segment_8 : decode cX11_segment 8 = .ok (.aload_n 0, 1) := by decide +kernel
theorem dX11_segment_9 : decode cX11_segment 9 = .ok (.iload_n 2, 1) := by decide +kernel
theorem dX11_segment_10 : decode cX11_segment 10 = .ok (.i2l, 1) := by decide +kernel
theorem dX11_segment_11 : decode cX11_segment 11 = .ok (.lconst 0, 1) := by decide +kernel
theorem dX11_segment_12 : decode cX11_segment 12 = .ok (.ldc2_w 361, 3) := by decide +kernel
theorem dX11_segment_15 : decode cX11_segment 15 = .ok (.invokestatic 131, 3) := by decide +kernel
theorem dX11_segment_18 : decode cX11_segment 18 = .ok (.ifCond .ne 7, 3) := by decide +kernel
theorem dX11_segment_21 : decode cX11_segment 21 = .ok (.iconst 1, 1) := by decide +kernel
theorem dX11_segment_22 : decode cX11_segment 22 = .ok (.goto 4, 3) := by decide +kernel
theorem dX11_segment_25 : decode cX11_segment 25 = .ok (.iconst 0, 1) := by decide +kernel
theorem dX11_segment_26 : decode cX11_segment 26 = .ok (.iconst 2, 1) := by decide +kernel
theorem dX11_segment_27 : decode cX11_segment 27 = .ok (.invokevirtual 120, 3) := by decide +kernel
theorem dX11_segment_30 : decode cX11_segment 30 = .ok (.ifCond .eq 5, 3) := by decide +kernel
theorem dX11_segment_33 : decode cX11_segment 33 = .ok (.iconst 0, 1) := by decide +kernel
theorem dX11_segment_34 : decode cX11_segment 34 = .ok (.ireturn, 1) := by decide +kernel
theorem dX11_segment_35 : decode cX11_segment 35 = .ok (.iload_n 2, 1) := by decide +kernel
theorem dX11_segment_36 : decode cX11_segment 36 = .ok (.tableswitch 60 5 8 #[32, 38, 45, 54], 32) := by decide +kernel
theorem dX11_segment_68 : decode cX11_segment 68 = .ok (.aload_n 0, 1) := by decide +kernel
theorem dX11_segment_69 : decode cX11_segment 69 = .ok (.iload_n 1, 1) := by decide +kernel
theorem dX11_segment_70 : decode cX11_segment 70 = .ok (.invokevirtual 363, 3) := by decide +kernel
theorem dX11_segment_73 : decode cX11_segment 73 = .ok (.ireturn, 1) := by decide +kernel
theorem dX11_segment_74 : decode cX11_segment 74 = .ok (.aload_n 0, 1) := by decide +kernel
theorem dX11_segment_75 : decode cX11_segment 75 = .ok (.iload_n 1, 1) := by decide +kernel
theorem dX11_segment_76 : decode cX11_segment 76 = .ok (.iconst 1, 1) := by decide +kernel
theorem dX11_segment_77 : decode cX11_segment 77 = .ok (.invokevirtual 366, 3) := by decide +kernel
theorem dX11_segment_80 : decode cX11_segment 80 = .ok (.ireturn, 1) := by decide +kernel
theorem dX11_segment_81 : decode cX11_segment 81 = .ok (.aload_n 0, 1) := by decide +kernel
theorem dX11_segment_82 : decode cX11_segment 82 = .ok (.iload_n 1, 1) := by decide +kernel
theorem dX11_segment_83 : decode cX11_segment 83 = .ok (.iconst 0, 1) := by decide +kernel
theorem dX11_segment_84 : decode cX11_segment 84 = .ok (.invokevirtual 366, 3) := by decide +kernel
theorem dX11_segment_87 : decode cX11_segment 87 = .ok (.iconst 1, 1) := by decide +kernel
theorem dX11_segment_88 : decode cX11_segment 88 = .ok (.isub, 1) := by decide +kernel
theorem dX11_segment_89 : decode cX11_segment 89 = .ok (.ireturn, 1) := by decide +kernel
theorem dX11_segment_90 : decode cX11_segment 90 = .ok (.aload_n 0, 1) := by decide +kernel
theorem dX11_segment_91 : decode cX11_segment 91 = .ok (.iload_n 1, 1) := by decide +kernel
theorem dX11_segment_92 : decode cX11_segment 92 = .ok (.invokevirtual 370, 3) := by decide +kernel
theorem dX11_segment_95 : decode cX11_segment 95 = .ok (.ireturn, 1) := by decide +kernel
theorem dX11_segment_96 : decode cX11_segment 96 = .ok (.aload_n 0, 1) := by decide +kernel
theorem dX11_segment_97 : decode cX11_segment 97 = .ok (.iload_n 1, 1) := by decide +kernel
theorem dX11_segment_98 : decode cX11_segment 98 = .ok (.iload_n 2, 1) := by decide +kernel
theorem dX11_segment_99 : decode cX11_segment 99 = .ok (.invokevirtual 127, 3) := by decide +kernel
theorem dX11_segment_102 : decode cX11_segment 102 = .ok (.ireturn, 1) := by decide +kernel
theorem dX11_noTwo_0 : decode cX11_noTwo 0 = .ok (.aload_n 0, 1) := by decide +kernel
theorem dX11_noTwo_1 : decode cX11_noTwo 1 = .ok (.iload_n 1, 1) := by decide +kernel
theorem dX11_noTwo_2 : decode cX11_noTwo 2 = .ok (.invokevirtual 351, 3) := by decide +kernel
theorem dX11_noTwo_5 : decode cX11_noTwo 5 = .ok (.ifCond .ne 11, 3) := by decide +kernel
theorem dX11_noTwo_8 : decode cX11_noTwo 8 = .ok (.aload_n 0, 1) := by decide +kernel
theorem dX11_noTwo_9 : decode cX11_noTwo 9 = .ok (.iload_n 2, 1) := by decide +kernel
theorem dX11_noTwo_10 : decode cX11_noTwo 10 = .ok (.invokevirtual 351, 3) := by decide +kernel
theorem dX11_noTwo_13 : decode cX11_noTwo 13 = .ok (.ifCond .eq 7, 3) := by decide +kernel
theorem dX11_noTwo_16 : decode cX11_noTwo 16 = .ok (.iconst 1, 1) := by decide +kernel
theorem dX11_noTwo_17 : decode cX11_noTwo 17 = .ok (.goto 4, 3) := by decide +kernel
theorem dX11_noTwo_20 : decode cX11_noTwo 20 = .ok (.iconst 0, 1) := by decide +kernel
theorem dX11_noTwo_21 : decode cX11_noTwo 21 = .ok (.ireturn, 1) := by decide +kernel
theorem dX11_how_0 : decode cX11_how 0 = .ok (.aload_n 0, 1) := by decide +kernel
theorem dX11_how_1 : decode cX11_how 1 = .ok (.iload_n 1, 1) := by decide +kernel
theorem dX11_how_2 : decode cX11_how 2 = .ok (.iload_n 2, 1) := by decide +kernel
theorem dX11_how_3 : decode cX11_how 3 = .ok (.invokevirtual 373, 3) := by decide +kernel
theorem dX11_how_6 : decode cX11_how 6 = .ok (.ifCond .ne 21, 3) := by decide +kernel
theorem dX11_how_9 : decode cX11_how 9 = .ok (.aload_n 0, 1) := by decide +kernel
theorem dX11_how_10 : decode cX11_how 10 = .ok (.iload_n 1, 1) := by decide +kernel
theorem dX11_how_11 : decode cX11_how 11 = .ok (.iload_n 2, 1) := by decide +kernel
theorem dX11_how_12 : decode cX11_how 12 = .ok (.if_icmp .ne 7, 3) := by decide +kernel
theorem dX11_how_15 : decode cX11_how 15 = .ok (.iconst 1, 1) := by decide +kernel
theorem dX11_how_16 : decode cX11_how 16 = .ok (.goto 4, 3) := by decide +kernel
theorem dX11_how_19 : decode cX11_how 19 = .ok (.iconst 0, 1) := by decide +kernel
theorem dX11_how_20 : decode cX11_how 20 = .ok (.iconst 2, 1) := by decide +kernel
theorem dX11_how_21 : decode cX11_how 21 = .ok (.invokevirtual 120, 3) := by decide +kernel
theorem dX11_how_24 : decode cX11_how 24 = .ok (.ifCond .eq 7, 3) := by decide +kernel
theorem dX11_how_27 : decode cX11_how 27 = .ok (.iconst 0, 1) := by decide +kernel
theorem dX11_how_28 : decode cX11_how 28 = .ok (.goto 9, 3) := by decide +kernel
theorem dX11_how_31 : decode cX11_how 31 = .ok (.aload_n 0, 1) := by decide +kernel
theorem dX11_how_32 : decode cX11_how 32 = .ok (.iload_n 1, 1) := by decide +kernel
theorem dX11_how_33 : decode cX11_how 33 = .ok (.iload_n 2, 1) := by decide +kernel
theorem dX11_how_34 : decode cX11_how 34 = .ok (.invokevirtual 376, 3) := by decide +kernel
theorem dX11_how_37 : decode cX11_how 37 = .ok (.ireturn, 1) := by decide +kernel
theorem dX11_lowest_0 : decode cX11_lowest 0 = .ok (.lload_n 0, 1) := by decide +kernel
theorem dX11_lowest_1 : decode cX11_lowest 1 = .ok (.lconst 0, 1) := by decide +kernel
theorem dX11_lowest_2 : decode cX11_lowest 2 = .ok (.lcmp, 1) := by decide +kernel
theorem dX11_lowest_3 : decode cX11_lowest 3 = .ok (.ifCond .ge 8, 3) := by decide +kernel
theorem dX11_lowest_6 : decode cX11_lowest 6 = .ok (.lload_n 0, 1) := by decide +kernel
theorem dX11_lowest_7 : decode cX11_lowest 7 = .ok (.lneg, 1) := by decide +kernel
theorem dX11_lowest_8 : decode cX11_lowest 8 = .ok (.goto 4, 3) := by decide +kernel
theorem dX11_lowest_11 : decode cX11_lowest 11 = .ok (.lload_n 0, 1) := by decide +kernel
theorem dX11_lowest_12 : decode cX11_lowest 12 = .ok (.lload_n 2, 1) := by decide +kernel
theorem dX11_lowest_13 : decode cX11_lowest 13 = .ok (.invokestatic 143, 3) := by decide +kernel
theorem dX11_lowest_16 : decode cX11_lowest 16 = .ok (.lstore 5, 2) := by decide +kernel
theorem dX11_lowest_18 : decode cX11_lowest 18 = .ok (.iload 4, 2) := by decide +kernel
theorem dX11_lowest_20 : decode cX11_lowest 20 = .ok (.ifCond .eq 7, 3) := by decide +kernel
theorem dX11_lowest_23 : decode cX11_lowest 23 = .ok (.lload_n 2, 1) := by decide +kernel
theorem dX11_lowest_24 : decode cX11_lowest 24 = .ok (.goto 4, 3) := by decide +kernel
theorem dX11_lowest_27 : decode cX11_lowest 27 = .ok (.lload_n 0, 1) := by decide +kernel
theorem dX11_lowest_28 : decode cX11_lowest 28 = .ok (.lload 5, 2) := by decide +kernel
theorem dX11_lowest_30 : decode cX11_lowest 30 = .ok (.ldiv, 1) := by decide +kernel
theorem dX11_lowest_31 : decode cX11_lowest 31 = .ok (.lreturn, 1) := by decide +kernel
theorem dX11_partOfPoint_0 : decode cX11_partOfPoint 0 = .ok (.iload 6, 2) := by decide +kernel
theorem dX11_partOfPoint_2 : decode cX11_partOfPoint 2 = .ok (.iconst 2, 1) := by decide +kernel
theorem dX11_partOfPoint_3 : decode cX11_partOfPoint 3 = .ok (.if_icmp .ge 7, 3) := by decide +kernel
theorem dX11_partOfPoint_6 : decode cX11_partOfPoint 6 = .ok (.lload_n 0, 1) := by decide +kernel
theorem dX11_partOfPoint_7 : decode cX11_partOfPoint 7 = .ok (.goto 4, 3) := by decide +kernel
theorem dX11_partOfPoint_10 : decode cX11_partOfPoint 10 = .ok (.lload_n 2, 1) := by decide +kernel
theorem dX11_partOfPoint_11 : decode cX11_partOfPoint 11 = .ok (.lload 4, 2) := by decide +kernel
theorem dX11_partOfPoint_13 : decode cX11_partOfPoint 13 = .ok (.iload 6, 2) := by decide +kernel
theorem dX11_partOfPoint_15 : decode cX11_partOfPoint 15 = .ok (.iconst 2, 1) := by decide +kernel
theorem dX11_partOfPoint_16 : decode cX11_partOfPoint 16 = .ok (.irem, 1) := by decide +kernel
theorem dX11_partOfPoint_17 : decode cX11_partOfPoint 17 = .ok (.iconst 1, 1) := by decide +kernel
theorem dX11_partOfPoint_18 : decode cX11_partOfPoint 18 = .ok (.if_icmp .ne 7, 3) := by decide +kernel
theorem dX11_partOfPoint_21 : decode cX11_partOfPoint 21 = .ok (.iconst 1, 1) := by decide +kernel
theorem dX11_partOfPoint_22 : decode cX11_partOfPoint 22 = .ok (.goto 4, 3) := by decide +kernel
theorem dX11_partOfPoint_25 : decode cX11_partOfPoint 25 = .ok (.iconst 0, 1) := by decide +kernel
theorem dX11_partOfPoint_26 : decode cX11_partOfPoint 26 = .ok (.invokestatic 379, 3) := by decide +kernel
theorem dX11_partOfPoint_29 : decode cX11_partOfPoint 29 = .ok (.lreturn, 1) := by decide +kernel
theorem dX11_meet_0 : decode cX11_meet 0 = .ok (.aload_n 0, 1) := by decide +kernel
theorem dX11_meet_1 : decode cX11_meet 1 = .ok (.iload_n 1, 1) := by decide +kernel
theorem dX11_meet_2 : decode cX11_meet 2 = .ok (.iload_n 2, 1) := by decide +kernel
theorem dX11_meet_3 : decode cX11_meet 3 = .ok (.invokevirtual 373, 3) := by decide +kernel
theorem dX11_meet_6 : decode cX11_meet 6 = .ok (.ifCond .ne 46, 3) := by decide +kernel
theorem dX11_meet_9 : decode cX11_meet 9 = .ok (.aload_n 0, 1) := by decide +kernel
theorem dX11_meet_10 : decode cX11_meet 10 = .ok (.iload_n 3, 1) := by decide +kernel
theorem dX11_meet_11 : decode cX11_meet 11 = .ok (.i2l, 1) := by decide +kernel
theorem dX11_meet_12 : decode cX11_meet 12 = .ok (.lconst 0, 1) := by decide +kernel
theorem dX11_meet_13 : decode cX11_meet 13 = .ok (.ldc2_w 278, 3) := by decide +kernel
theorem dX11_meet_16 : decode cX11_meet 16 = .ok (.invokestatic 131, 3) := by decide +kernel
theorem dX11_meet_19 : decode cX11_meet 19 = .ok (.ifCond .ne 7, 3) := by decide +kernel
theorem dX11_meet_22 : decode cX11_meet 22 = .ok (.iconst 1, 1) := by decide +kernel
theorem dX11_meet_23 : decode cX11_meet 23 = .ok (.goto 4, 3) := by decide +kernel
theorem dX11_meet_26 : decode cX11_meet 26 = .ok (.iconst 0, 1) := by decide +kernel
theorem dX11_meet_27 : decode cX11_meet 27 = .ok (.iconst 2, 1) := by decide +kernel
theorem dX11_meet_28 : decode cX11_meet 28 = .ok (.invokevirtual 120, 3) := by decide +kernel
theorem dX11_meet_31 : decode cX11_meet 31 = .ok (.ifCond .ne 21, 3) := by decide +kernel
theorem dX11_meet_34 : decode cX11_meet 34 = .ok (.aload_n 0, 1) := by decide +kernel
theorem dX11_meet_35 : decode cX11_meet 35 = .ok (.iload_n 1, 1) := by decide +kernel
theorem dX11_meet_36 : decode cX11_meet 36 = .ok (.iload_n 2, 1) := by decide +kernel
theorem dX11_meet_37 : decode cX11_meet 37 = .ok (.if_icmp .ne 7, 3) := by decide +kernel
theorem dX11_meet_40 : decode cX11_meet 40 = .ok (.iconst 1, 1) := by decide +kernel
theorem dX11_meet_41 : decode cX11_meet 41 = .ok (.goto 4, 3) := by decide +kernel
theorem dX11_meet_44 : decode cX11_meet 44 = .ok (.iconst 0, 1) := by decide +kernel
theorem dX11_meet_45 : decode cX11_meet 45 = .ok (.iconst 3, 1) := by decide +kernel
theorem dX11_meet_46 : decode cX11_meet 46 = .ok (.invokevirtual 120, 3) := by decide +kernel
theorem dX11_meet_49 : decode cX11_meet 49 = .ok (.ifCond .eq 5, 3) := by decide +kernel
theorem dX11_meet_52 : decode cX11_meet 52 = .ok (.lconst 0, 1) := by decide +kernel
theorem dX11_meet_53 : decode cX11_meet 53 = .ok (.lreturn, 1) := by decide +kernel
theorem dX11_meet_54 : decode cX11_meet 54 = .ok (.aload_n 0, 1) := by decide +kernel
theorem dX11_meet_55 : decode cX11_meet 55 = .ok (.aload_n 0, 1) := by decide +kernel
theorem dX11_meet_56 : decode cX11_meet 56 = .ok (.iload_n 1, 1) := by decide +kernel
theorem dX11_meet_57 : decode cX11_meet 57 = .ok (.iload_n 2, 1) := by decide +kernel
theorem dX11_meet_58 : decode cX11_meet 58 = .ok (.invokevirtual 186, 3) := by decide +kernel
theorem dX11_meet_61 : decode cX11_meet 61 = .ok (.iconst 1, 1) := by decide +kernel
theorem dX11_meet_62 : decode cX11_meet 62 = .ok (.if_icmp .eq 7, 3) := by decide +kernel
theorem dX11_meet_65 : decode cX11_meet 65 = .ok (.iconst 1, 1) := by decide +kernel
theorem dX11_meet_66 : decode cX11_meet 66 = .ok (.goto 4, 3) := by decide +kernel
theorem dX11_meet_69 : decode cX11_meet 69 = .ok (.iconst 0, 1) := by decide +kernel
theorem dX11_meet_70 : decode cX11_meet 70 = .ok (.iconst 4, 1) := by decide +kernel
theorem dX11_meet_71 : decode cX11_meet 71 = .ok (.invokevirtual 120, 3) := by decide +kernel
theorem dX11_meet_74 : decode cX11_meet 74 = .ok (.ifCond .eq 7, 3) := by decide +kernel
theorem dX11_meet_77 : decode cX11_meet 77 = .ok (.lconst 0, 1) := by decide +kernel
theorem dX11_meet_78 : decode cX11_meet 78 = .ok (.goto 19, 3) := by decide +kernel
theorem dX11_meet_81 : decode cX11_meet 81 = .ok (.aload_n 0, 1) := by decide +kernel
theorem dX11_meet_82 : decode cX11_meet 82 = .ok (.getfield 147, 3) := by decide +kernel
theorem dX11_meet_85 : decode cX11_meet 85 = .ok (.aload_n 0, 1) := by decide +kernel
theorem dX11_meet_86 : decode cX11_meet 86 = .ok (.getfield 151, 3) := by decide +kernel
theorem dX11_meet_89 : decode cX11_meet 89 = .ok (.aload_n 0, 1) := by decide +kernel
theorem dX11_meet_90 : decode cX11_meet 90 = .ok (.getfield 154, 3) := by decide +kernel
theorem dX11_meet_93 : decode cX11_meet 93 = .ok (.iload_n 3, 1) := by decide +kernel
theorem dX11_meet_94 : decode cX11_meet 94 = .ok (.invokestatic 383, 3) := by decide +kernel
theorem dX11_meet_97 : decode cX11_meet 97 = .ok (.lreturn, 1) := by decide +kernel
theorem dX11_along_0 : decode cX11_along 0 = .ok (.aload_n 0, 1) := by decide +kernel
theorem dX11_along_1 : decode cX11_along 1 = .ok (.iload_n 1, 1) := by decide +kernel
theorem dX11_along_2 : decode cX11_along 2 = .ok (.iload_n 2, 1) := by decide +kernel
theorem dX11_along_3 : decode cX11_along 3 = .ok (.invokevirtual 373, 3) := by decide +kernel
theorem dX11_along_6 : decode cX11_along 6 = .ok (.ifCond .ne 46, 3) := by decide +kernel
theorem dX11_along_9 : decode cX11_along 9 = .ok (.aload_n 0, 1) := by decide +kernel
theorem dX11_along_10 : decode cX11_along 10 = .ok (.iload_n 3, 1) := by decide +kernel
theorem dX11_along_11 : decode cX11_along 11 = .ok (.i2l, 1) := by decide +kernel
theorem dX11_along_12 : decode cX11_along 12 = .ok (.lconst 0, 1) := by decide +kernel
theorem dX11_along_13 : decode cX11_along 13 = .ok (.ldc2_w 278, 3) := by decide +kernel
theorem dX11_along_16 : decode cX11_along 16 = .ok (.invokestatic 131, 3) := by decide +kernel
theorem dX11_along_19 : decode cX11_along 19 = .ok (.ifCond .ne 7, 3) := by decide +kernel
theorem dX11_along_22 : decode cX11_along 22 = .ok (.iconst 1, 1) := by decide +kernel
theorem dX11_along_23 : decode cX11_along 23 = .ok (.goto 4, 3) := by decide +kernel
theorem dX11_along_26 : decode cX11_along 26 = .ok (.iconst 0, 1) := by decide +kernel
theorem dX11_along_27 : decode cX11_along 27 = .ok (.iconst 2, 1) := by decide +kernel
theorem dX11_along_28 : decode cX11_along 28 = .ok (.invokevirtual 120, 3) := by decide +kernel
theorem dX11_along_31 : decode cX11_along 31 = .ok (.ifCond .ne 21, 3) := by decide +kernel
theorem dX11_along_34 : decode cX11_along 34 = .ok (.aload_n 0, 1) := by decide +kernel
theorem dX11_along_35 : decode cX11_along 35 = .ok (.iload_n 1, 1) := by decide +kernel
theorem dX11_along_36 : decode cX11_along 36 = .ok (.iload_n 2, 1) := by decide +kernel
theorem dX11_along_37 : decode cX11_along 37 = .ok (.if_icmp .ne 7, 3) := by decide +kernel
theorem dX11_along_40 : decode cX11_along 40 = .ok (.iconst 1, 1) := by decide +kernel
theorem dX11_along_41 : decode cX11_along 41 = .ok (.goto 4, 3) := by decide +kernel
theorem dX11_along_44 : decode cX11_along 44 = .ok (.iconst 0, 1) := by decide +kernel
theorem dX11_along_45 : decode cX11_along 45 = .ok (.iconst 3, 1) := by decide +kernel
theorem dX11_along_46 : decode cX11_along 46 = .ok (.invokevirtual 120, 3) := by decide +kernel
theorem dX11_along_49 : decode cX11_along 49 = .ok (.ifCond .eq 5, 3) := by decide +kernel
theorem dX11_along_52 : decode cX11_along 52 = .ok (.iconst 0, 1) := by decide +kernel
theorem dX11_along_53 : decode cX11_along 53 = .ok (.ireturn, 1) := by decide +kernel
theorem dX11_along_54 : decode cX11_along 54 = .ok (.aload_n 0, 1) := by decide +kernel
theorem dX11_along_55 : decode cX11_along 55 = .ok (.aload_n 0, 1) := by decide +kernel
theorem dX11_along_56 : decode cX11_along 56 = .ok (.iload_n 1, 1) := by decide +kernel
theorem dX11_along_57 : decode cX11_along 57 = .ok (.iload_n 2, 1) := by decide +kernel
theorem dX11_along_58 : decode cX11_along 58 = .ok (.invokevirtual 186, 3) := by decide +kernel
theorem dX11_along_61 : decode cX11_along 61 = .ok (.iconst 2, 1) := by decide +kernel
theorem dX11_along_62 : decode cX11_along 62 = .ok (.if_icmp .eq 7, 3) := by decide +kernel
theorem dX11_along_65 : decode cX11_along 65 = .ok (.iconst 1, 1) := by decide +kernel
theorem dX11_along_66 : decode cX11_along 66 = .ok (.goto 4, 3) := by decide +kernel
theorem dX11_along_69 : decode cX11_along 69 = .ok (.iconst 0, 1) := by decide +kernel
theorem dX11_along_70 : decode cX11_along 70 = .ok (.iconst 4, 1) := by decide +kernel
theorem dX11_along_71 : decode cX11_along 71 = .ok (.invokevirtual 120, 3) := by decide +kernel
theorem dX11_along_74 : decode cX11_along 74 = .ok (.ifCond .eq 7, 3) := by decide +kernel
theorem dX11_along_77 : decode cX11_along 77 = .ok (.iconst 0, 1) := by decide +kernel
theorem dX11_along_78 : decode cX11_along 78 = .ok (.goto 9, 3) := by decide +kernel
theorem dX11_along_81 : decode cX11_along 81 = .ok (.aload_n 0, 1) := by decide +kernel
theorem dX11_along_82 : decode cX11_along 82 = .ok (.getfield 32, 3) := by decide +kernel
theorem dX11_along_85 : decode cX11_along 85 = .ok (.iload_n 3, 1) := by decide +kernel
theorem dX11_along_86 : decode cX11_along 86 = .ok (.iaload, 1) := by decide +kernel
theorem dX11_along_87 : decode cX11_along 87 = .ok (.ireturn, 1) := by decide +kernel
theorem dX11_tintsOf_0 : decode cX11_tintsOf 0 = .ok (.iconst 0, 1) := by decide +kernel
theorem dX11_tintsOf_1 : decode cX11_tintsOf 1 = .ok (.istore_n 2, 1) := by decide +kernel
theorem dX11_tintsOf_2 : decode cX11_tintsOf 2 = .ok (.iconst 0, 1) := by decide +kernel
theorem dX11_tintsOf_3 : decode cX11_tintsOf 3 = .ok (.istore_n 3, 1) := by decide +kernel
theorem dX11_tintsOf_4 : decode cX11_tintsOf 4 = .ok (.iload_n 3, 1) := by decide +kernel
theorem dX11_tintsOf_5 : decode cX11_tintsOf 5 = .ok (.aload_n 0, 1) := by decide +kernel
theorem dX11_tintsOf_6 : decode cX11_tintsOf 6 = .ok (.invokevirtual 200, 3) := by decide +kernel
theorem dX11_tintsOf_9 : decode cX11_tintsOf 9 = .ok (.if_icmp .ge 32, 3) := by decide +kernel
theorem dX11_tintsOf_12 : decode cX11_tintsOf 12 = .ok (.iload_n 2, 1) := by decide +kernel
theorem dX11_tintsOf_13 : decode cX11_tintsOf 13 = .ok (.iload_n 1, 1) := by decide +kernel
theorem dX11_tintsOf_14 : decode cX11_tintsOf 14 = .ok (.iload_n 3, 1) := by decide +kernel
theorem dX11_tintsOf_15 : decode cX11_tintsOf 15 = .ok (.invokestatic 220, 3) := by decide +kernel
theorem dX11_tintsOf_18 : decode cX11_tintsOf 18 = .ok (.ifCond .eq 14, 3) := by decide +kernel
theorem dX11_tintsOf_21 : decode cX11_tintsOf 21 = .ok (.iconst 1, 1) := by decide +kernel
theorem dX11_tintsOf_22 : decode cX11_tintsOf 22 = .ok (.aload_n 0, 1) := by decide +kernel
theorem dX11_tintsOf_23 : decode cX11_tintsOf 23 = .ok (.iload_n 3, 1) := by decide +kernel
theorem dX11_tintsOf_24 : decode cX11_tintsOf 24 = .ok (.iconst 4, 1) := by decide +kernel
theorem dX11_tintsOf_25 : decode cX11_tintsOf 25 = .ok (.invokevirtual 127, 3) := by decide +kernel
theorem dX11_tintsOf_28 : decode cX11_tintsOf 28 = .ok (.ishl, 1) := by decide +kernel
theorem dX11_tintsOf_29 : decode cX11_tintsOf 29 = .ok (.goto 4, 3) := by decide +kernel
theorem dX11_tintsOf_32 : decode cX11_tintsOf 32 = .ok (.iconst 0, 1) := by decide +kernel
theorem dX11_tintsOf_33 : decode cX11_tintsOf 33 = .ok (.ior, 1) := by decide +kernel
theorem dX11_tintsOf_34 : decode cX11_tintsOf 34 = .ok (.istore_n 2, 1) := by decide +kernel
theorem dX11_tintsOf_35 : decode cX11_tintsOf 35 = .ok (.iinc 3 1, 3) := by decide +kernel
theorem dX11_tintsOf_38 : decode cX11_tintsOf 38 = .ok (.goto (-34), 3) := by decide +kernel
theorem dX11_tintsOf_41 : decode cX11_tintsOf 41 = .ok (.iload_n 2, 1) := by decide +kernel
theorem dX11_tintsOf_42 : decode cX11_tintsOf 42 = .ok (.ireturn, 1) := by decide +kernel
theorem dX11_noCrossing_0 : decode cX11_noCrossing 0 = .ok (.aload_n 0, 1) := by decide +kernel
theorem dX11_noCrossing_1 : decode cX11_noCrossing 1 = .ok (.iconst 0, 1) := by decide +kernel
theorem dX11_noCrossing_2 : decode cX11_noCrossing 2 = .ok (.putfield 3, 3) := by decide +kernel
theorem dX11_noCrossing_5 : decode cX11_noCrossing 5 = .ok (.aload_n 0, 1) := by decide +kernel
theorem dX11_noCrossing_6 : decode cX11_noCrossing 6 = .ok (.invokevirtual 348, 3) := by decide +kernel
theorem dX11_noCrossing_9 : decode cX11_noCrossing 9 = .ok (.aload_n 0, 1) := by decide +kernel
theorem dX11_noCrossing_10 : decode cX11_noCrossing 10 = .ok (.iload_n 1, 1) := by decide +kernel
theorem dX11_noCrossing_11 : decode cX11_noCrossing 11 = .ok (.i2l, 1) := by decide +kernel
theorem dX11_noCrossing_12 : decode cX11_noCrossing 12 = .ok (.lconst 0, 1) := by decide +kernel
theorem dX11_noCrossing_13 : decode cX11_noCrossing 13 = .ok (.aload_n 0, 1) := by decide +kernel
theorem dX11_noCrossing_14 : decode cX11_noCrossing 14 = .ok (.getfield 206, 3) := by decide +kernel
theorem dX11_noCrossing_17 : decode cX11_noCrossing 17 = .ok (.iconst 1, 1) := by decide +kernel
theorem dX11_noCrossing_18 : decode cX11_noCrossing 18 = .ok (.isub, 1) := by decide +kernel
theorem dX11_noCrossing_19 : decode cX11_noCrossing 19 = .ok (.i2l, 1) := by decide +kernel
theorem dX11_noCrossing_20 : decode cX11_noCrossing 20 = .ok (.invokestatic 131, 3) := by decide +kernel
theorem dX11_noCrossing_23 : decode cX11_noCrossing 23 = .ok (.ifCond .ne 7, 3) := by decide +kernel
theorem dX11_noCrossing_26 : decode cX11_noCrossing 26 = .ok (.iconst 1, 1) := by decide +kernel
theorem dX11_noCrossing_27 : decode cX11_noCrossing 27 = .ok (.goto 4, 3) := by decide +kernel
theorem dX11_noCrossing_30 : decode cX11_noCrossing 30 = .ok (.iconst 0, 1) := by decide +kernel
theorem dX11_noCrossing_31 : decode cX11_noCrossing 31 = .ok (.iconst 1, 1) := by decide +kernel
theorem dX11_noCrossing_32 : decode cX11_noCrossing 32 = .ok (.invokevirtual 120, 3) := by decide +kernel
theorem dX11_noCrossing_35 : decode cX11_noCrossing 35 = .ok (.ireturn, 1) := by decide +kernel
theorem dX11_noEvent_0 : decode cX11_noEvent 0 = .ok (.aload_n 0, 1) := by decide +kernel
theorem dX11_noEvent_1 : decode cX11_noEvent 1 = .ok (.iconst 0, 1) := by decide +kernel
theorem dX11_noEvent_2 : decode cX11_noEvent 2 = .ok (.putfield 3, 3) := by decide +kernel
theorem dX11_noEvent_5 : decode cX11_noEvent 5 = .ok (.aload_n 0, 1) := by decide +kernel
theorem dX11_noEvent_6 : decode cX11_noEvent 6 = .ok (.invokevirtual 348, 3) := by decide +kernel
theorem dX11_noEvent_9 : decode cX11_noEvent 9 = .ok (.aload_n 0, 1) := by decide +kernel
theorem dX11_noEvent_10 : decode cX11_noEvent 10 = .ok (.iload_n 1, 1) := by decide +kernel
theorem dX11_noEvent_11 : decode cX11_noEvent 11 = .ok (.i2l, 1) := by decide +kernel
theorem dX11_noEvent_12 : decode cX11_noEvent 12 = .ok (.lconst 0, 1) := by decide +kernel
theorem dX11_noEvent_13 : decode cX11_noEvent 13 = .ok (.aload_n 0, 1) := by decide +kernel
theorem dX11_noEvent_14 : decode cX11_noEvent 14 = .ok (.getfield 193, 3) := by decide +kernel
theorem dX11_noEvent_17 : decode cX11_noEvent 17 = .ok (.iconst 1, 1) := by decide +kernel
theorem dX11_noEvent_18 : decode cX11_noEvent 18 = .ok (.isub, 1) := by decide +kernel
theorem dX11_noEvent_19 : decode cX11_noEvent 19 = .ok (.i2l, 1) := by decide +kernel
theorem dX11_noEvent_20 : decode cX11_noEvent 20 = .ok (.invokestatic 131, 3) := by decide +kernel
theorem dX11_noEvent_23 : decode cX11_noEvent 23 = .ok (.ifCond .ne 7, 3) := by decide +kernel
theorem dX11_noEvent_26 : decode cX11_noEvent 26 = .ok (.iconst 1, 1) := by decide +kernel
theorem dX11_noEvent_27 : decode cX11_noEvent 27 = .ok (.goto 4, 3) := by decide +kernel
theorem dX11_noEvent_30 : decode cX11_noEvent 30 = .ok (.iconst 0, 1) := by decide +kernel
theorem dX11_noEvent_31 : decode cX11_noEvent 31 = .ok (.iconst 1, 1) := by decide +kernel
theorem dX11_noEvent_32 : decode cX11_noEvent 32 = .ok (.invokevirtual 120, 3) := by decide +kernel
theorem dX11_noEvent_35 : decode cX11_noEvent 35 = .ok (.ireturn, 1) := by decide +kernel
theorem dX11_crossing_0 : decode cX11_crossing 0 = .ok (.aload_n 0, 1) := by decide +kernel
theorem dX11_crossing_1 : decode cX11_crossing 1 = .ok (.iload_n 1, 1) := by decide +kernel
theorem dX11_crossing_2 : decode cX11_crossing 2 = .ok (.invokevirtual 387, 3) := by decide +kernel
theorem dX11_crossing_5 : decode cX11_crossing 5 = .ok (.ifCond .ne 28, 3) := by decide +kernel
theorem dX11_crossing_8 : decode cX11_crossing 8 = .ok (.aload_n 0, 1) := by decide +kernel
theorem dX11_crossing_9 : decode cX11_crossing 9 = .ok (.iload_n 2, 1) := by decide +kernel
theorem dX11_crossing_10 : decode cX11_crossing 10 = .ok (.i2l, 1) := by decide +kernel
theorem dX11_crossing_11 : decode cX11_crossing 11 = .ok (.lconst 0, 1) := by decide +kernel
theorem dX11_crossing_12 : decode cX11_crossing 12 = .ok (.ldc2_w 390, 3) := by decide +kernel
theorem dX11_crossing_15 : decode cX11_crossing 15 = .ok (.invokestatic 131, 3) := by decide +kernel
theorem dX11_crossing_18 : decode cX11_crossing 18 = .ok (.ifCond .ne 7, 3) := by decide +kernel
theorem dX11_crossing_21 : decode cX11_crossing 21 = .ok (.iconst 1, 1) := by decide +kernel
theorem dX11_crossing_22 : decode cX11_crossing 22 = .ok (.goto 4, 3) := by decide +kernel
theorem dX11_crossing_25 : decode cX11_crossing 25 = .ok (.iconst 0, 1) := by decide +kernel
theorem dX11_crossing_26 : decode cX11_crossing 26 = .ok (.iconst 2, 1) := by decide +kernel
theorem dX11_crossing_27 : decode cX11_crossing 27 = .ok (.invokevirtual 120, 3) := by decide +kernel
theorem dX11_crossing_30 : decode cX11_crossing 30 = .ok (.ifCond .eq 5, 3) := by decide +kernel
theorem dX11_crossing_33 : decode cX11_crossing 33 = .ok (.lconst 0, 1) := by decide +kernel
theorem dX11_crossing_34 : decode cX11_crossing 34 = .ok (.lreturn, 1) := by decide +kernel
theorem dX11_crossing_35 : decode cX11_crossing 35 = .ok (.aload_n 0, 1) := by decide +kernel
theorem dX11_crossing_36 : decode cX11_crossing 36 = .ok (.getfield 51, 3) := by decide +kernel
theorem dX11_crossing_39 : decode cX11_crossing 39 = .ok (.iload_n 1, 1) := by decide +kernel
theorem dX11_crossing_40 : decode cX11_crossing 40 = .ok (.iaload, 1) := by decide +kernel
theorem dX11_crossing_41 : decode cX11_crossing 41 = .ok (.istore_n 3, 1) := by decide +kernel
theorem dX11_crossing_42 : decode cX11_crossing 42 = .ok (.iload_n 2, 1) := by decide +kernel
theorem dX11_crossing_43 : decode cX11_crossing 43 = .ok (.tableswitch 56 4 6 #[25, 36, 44], 25) := by decide +kernel
theorem dX11_crossing_68 : decode cX11_crossing 68 = .ok (.aload_n 0, 1) := by decide +kernel
theorem dX11_crossing_69 : decode cX11_crossing 69 = .ok (.getfield 48, 3) := by decide +kernel
theorem dX11_crossing_72 : decode cX11_crossing 72 = .ok (.iload_n 3, 1) := by decide +kernel
theorem dX11_crossing_73 : decode cX11_crossing 73 = .ok (.iaload, 1) := by decide +kernel
theorem dX11_crossing_74 : decode cX11_crossing 74 = .ok (.invokestatic 392, 3) := by decide +kernel
theorem dX11_crossing_77 : decode cX11_crossing 77 = .ok (.i2l, 1) := by decide +kernel
theorem dX11_crossing_78 : decode cX11_crossing 78 = .ok (.lreturn, 1) := by decide +kernel
theorem dX11_crossing_79 : decode cX11_crossing 79 = .ok (.aload_n 0, 1) := by decide +kernel
theorem dX11_crossing_80 : decode cX11_crossing 80 = .ok (.getfield 48, 3) := by decide +kernel
theorem dX11_crossing_83 : decode cX11_crossing 83 = .ok (.iload_n 3, 1) := by decide +kernel
theorem dX11_crossing_84 : decode cX11_crossing 84 = .ok (.iaload, 1) := by decide +kernel
theorem dX11_crossing_85 : decode cX11_crossing 85 = .ok (.i2l, 1) := by decide +kernel
theorem dX11_crossing_86 : decode cX11_crossing 86 = .ok (.lreturn, 1) := by decide +kernel
theorem dX11_crossing_87 : decode cX11_crossing 87 = .ok (.aload_n 0, 1) := by decide +kernel
theorem dX11_crossing_88 : decode cX11_crossing 88 = .ok (.aload_n 0, 1) := by decide +kernel
theorem dX11_crossing_89 : decode cX11_crossing 89 = .ok (.getfield 48, 3) := by decide +kernel
theorem dX11_crossing_92 : decode cX11_crossing 92 = .ok (.iload_n 3, 1) := by decide +kernel
theorem dX11_crossing_93 : decode cX11_crossing 93 = .ok (.iaload, 1) := by decide +kernel
theorem dX11_crossing_94 : decode cX11_crossing 94 = .ok (.invokevirtual 395, 3) := by decide +kernel
theorem dX11_crossing_97 : decode cX11_crossing 97 = .ok (.i2l, 1) := by decide +kernel
theorem dX11_crossing_98 : decode cX11_crossing 98 = .ok (.lreturn, 1) := by decide +kernel
theorem dX11_crossing_99 : decode cX11_crossing 99 = .ok (.aload_n 0, 1) := by decide +kernel
theorem dX11_crossing_100 : decode cX11_crossing 100 = .ok (.getfield 35, 3) := by decide +kernel
theorem dX11_crossing_103 : decode cX11_crossing 103 = .ok (.iload_n 3, 1) := by decide +kernel
theorem dX11_crossing_104 : decode cX11_crossing 104 = .ok (.laload, 1) := by decide +kernel
theorem dX11_crossing_105 : decode cX11_crossing 105 = .ok (.aload_n 0, 1) := by decide +kernel
theorem dX11_crossing_106 : decode cX11_crossing 106 = .ok (.getfield 39, 3) := by decide +kernel
theorem dX11_crossing_109 : decode cX11_crossing 109 = .ok (.iload_n 3, 1) := by decide +kernel
theorem dX11_crossing_110 : decode cX11_crossing 110 = .ok (.laload, 1) := by decide +kernel
theorem dX11_crossing_111 : decode cX11_crossing 111 = .ok (.aload_n 0, 1) := by decide +kernel
theorem dX11_crossing_112 : decode cX11_crossing 112 = .ok (.getfield 42, 3) := by decide +kernel
theorem dX11_crossing_115 : decode cX11_crossing 115 = .ok (.iload_n 3, 1) := by decide +kernel
theorem dX11_crossing_116 : decode cX11_crossing 116 = .ok (.laload, 1) := by decide +kernel
theorem dX11_crossing_117 : decode cX11_crossing 117 = .ok (.iload_n 2, 1) := by decide +kernel
theorem dX11_crossing_118 : decode cX11_crossing 118 = .ok (.invokestatic 383, 3) := by decide +kernel
theorem dX11_crossing_121 : decode cX11_crossing 121 = .ok (.lreturn, 1) := by decide +kernel
theorem dX11_isLeftAt_0 : decode cX11_isLeftAt 0 = .ok (.aload_n 0, 1) := by decide +kernel
theorem dX11_isLeftAt_1 : decode cX11_isLeftAt 1 = .ok (.getfield 35, 3) := by decide +kernel
theorem dX11_isLeftAt_4 : decode cX11_isLeftAt 4 = .ok (.iload_n 2, 1) := by decide +kernel
theorem dX11_isLeftAt_5 : decode cX11_isLeftAt 5 = .ok (.laload, 1) := by decide +kernel
theorem dX11_isLeftAt_6 : decode cX11_isLeftAt 6 = .ok (.aload_n 0, 1) := by decide +kernel
theorem dX11_isLeftAt_7 : decode cX11_isLeftAt 7 = .ok (.iload_n 1, 1) := by decide +kernel
theorem dX11_isLeftAt_8 : decode cX11_isLeftAt 8 = .ok (.iconst 0, 1) := by decide +kernel
theorem dX11_isLeftAt_9 : decode cX11_isLeftAt 9 = .ok (.invokevirtual 127, 3) := by decide +kernel
theorem dX11_isLeftAt_12 : decode cX11_isLeftAt 12 = .ok (.i2l, 1) := by decide +kernel
theorem dX11_isLeftAt_13 : decode cX11_isLeftAt 13 = .ok (.aload_n 0, 1) := by decide +kernel
theorem dX11_isLeftAt_14 : decode cX11_isLeftAt 14 = .ok (.getfield 42, 3) := by decide +kernel
theorem dX11_isLeftAt_17 : decode cX11_isLeftAt 17 = .ok (.iload_n 2, 1) := by decide +kernel
theorem dX11_isLeftAt_18 : decode cX11_isLeftAt 18 = .ok (.laload, 1) := by decide +kernel
theorem dX11_isLeftAt_19 : decode cX11_isLeftAt 19 = .ok (.lmul, 1) := by decide +kernel
theorem dX11_isLeftAt_20 : decode cX11_isLeftAt 20 = .ok (.lcmp, 1) := by decide +kernel
theorem dX11_isLeftAt_21 : decode cX11_isLeftAt 21 = .ok (.ifCond .ne 31, 3) := by decide +kernel
theorem dX11_isLeftAt_24 : decode cX11_isLeftAt 24 = .ok (.aload_n 0, 1) := by decide +kernel
theorem dX11_isLeftAt_25 : decode cX11_isLeftAt 25 = .ok (.getfield 39, 3) := by decide +kernel
theorem dX11_isLeftAt_28 : decode cX11_isLeftAt 28 = .ok (.iload_n 2, 1) := by decide +kernel
theorem dX11_isLeftAt_29 : decode cX11_isLeftAt 29 = .ok (.laload, 1) := by decide +kernel
theorem dX11_isLeftAt_30 : decode cX11_isLeftAt 30 = .ok (.aload_n 0, 1) := by decide +kernel
theorem dX11_isLeftAt_31 : decode cX11_isLeftAt 31 = .ok (.iload_n 1, 1) := by decide +kernel
theorem dX11_isLeftAt_32 : decode cX11_isLeftAt 32 = .ok (.iconst 1, 1) := by decide +kernel
theorem dX11_isLeftAt_33 : decode cX11_isLeftAt 33 = .ok (.invokevirtual 127, 3) := by decide +kernel
theorem dX11_isLeftAt_36 : decode cX11_isLeftAt 36 = .ok (.i2l, 1) := by decide +kernel
theorem dX11_isLeftAt_37 : decode cX11_isLeftAt 37 = .ok (.aload_n 0, 1) := by decide +kernel
theorem dX11_isLeftAt_38 : decode cX11_isLeftAt 38 = .ok (.getfield 42, 3) := by decide +kernel
theorem dX11_isLeftAt_41 : decode cX11_isLeftAt 41 = .ok (.iload_n 2, 1) := by decide +kernel
theorem dX11_isLeftAt_42 : decode cX11_isLeftAt 42 = .ok (.laload, 1) := by decide +kernel
theorem dX11_isLeftAt_43 : decode cX11_isLeftAt 43 = .ok (.lmul, 1) := by decide +kernel
theorem dX11_isLeftAt_44 : decode cX11_isLeftAt 44 = .ok (.lcmp, 1) := by decide +kernel
theorem dX11_isLeftAt_45 : decode cX11_isLeftAt 45 = .ok (.ifCond .ne 7, 3) := by decide +kernel
theorem dX11_isLeftAt_48 : decode cX11_isLeftAt 48 = .ok (.iconst 1, 1) := by decide +kernel
theorem dX11_isLeftAt_49 : decode cX11_isLeftAt 49 = .ok (.goto 4, 3) := by decide +kernel
theorem dX11_isLeftAt_52 : decode cX11_isLeftAt 52 = .ok (.iconst 0, 1) := by decide +kernel
theorem dX11_isLeftAt_53 : decode cX11_isLeftAt 53 = .ok (.ireturn, 1) := by decide +kernel
theorem dX11_isRightAt_0 : decode cX11_isRightAt 0 = .ok (.aload_n 0, 1) := by decide +kernel
theorem dX11_isRightAt_1 : decode cX11_isRightAt 1 = .ok (.getfield 35, 3) := by decide +kernel
theorem dX11_isRightAt_4 : decode cX11_isRightAt 4 = .ok (.iload_n 2, 1) := by decide +kernel
theorem dX11_isRightAt_5 : decode cX11_isRightAt 5 = .ok (.laload, 1) := by decide +kernel
theorem dX11_isRightAt_6 : decode cX11_isRightAt 6 = .ok (.aload_n 0, 1) := by decide +kernel
theorem dX11_isRightAt_7 : decode cX11_isRightAt 7 = .ok (.iload_n 1, 1) := by decide +kernel
theorem dX11_isRightAt_8 : decode cX11_isRightAt 8 = .ok (.iconst 2, 1) := by decide +kernel
theorem dX11_isRightAt_9 : decode cX11_isRightAt 9 = .ok (.invokevirtual 127, 3) := by decide +kernel
theorem dX11_isRightAt_12 : decode cX11_isRightAt 12 = .ok (.i2l, 1) := by decide +kernel
theorem dX11_isRightAt_13 : decode cX11_isRightAt 13 = .ok (.aload_n 0, 1) := by decide +kernel
theorem dX11_isRightAt_14 : decode cX11_isRightAt 14 = .ok (.getfield 42, 3) := by decide +kernel
theorem dX11_isRightAt_17 : decode cX11_isRightAt 17 = .ok (.iload_n 2, 1) := by decide +kernel
theorem dX11_isRightAt_18 : decode cX11_isRightAt 18 = .ok (.laload, 1) := by decide +kernel
theorem dX11_isRightAt_19 : decode cX11_isRightAt 19 = .ok (.lmul, 1) := by decide +kernel
theorem dX11_isRightAt_20 : decode cX11_isRightAt 20 = .ok (.lcmp, 1) := by decide +kernel
theorem dX11_isRightAt_21 : decode cX11_isRightAt 21 = .ok (.ifCond .ne 31, 3) := by decide +kernel
theorem dX11_isRightAt_24 : decode cX11_isRightAt 24 = .ok (.aload_n 0, 1) := by decide +kernel
theorem dX11_isRightAt_25 : decode cX11_isRightAt 25 = .ok (.getfield 39, 3) := by decide +kernel
theorem dX11_isRightAt_28 : decode cX11_isRightAt 28 = .ok (.iload_n 2, 1) := by decide +kernel
theorem dX11_isRightAt_29 : decode cX11_isRightAt 29 = .ok (.laload, 1) := by decide +kernel
theorem dX11_isRightAt_30 : decode cX11_isRightAt 30 = .ok (.aload_n 0, 1) := by decide +kernel
theorem dX11_isRightAt_31 : decode cX11_isRightAt 31 = .ok (.iload_n 1, 1) := by decide +kernel
theorem dX11_isRightAt_32 : decode cX11_isRightAt 32 = .ok (.iconst 3, 1) := by decide +kernel
theorem dX11_isRightAt_33 : decode cX11_isRightAt 33 = .ok (.invokevirtual 127, 3) := by decide +kernel
theorem dX11_isRightAt_36 : decode cX11_isRightAt 36 = .ok (.i2l, 1) := by decide +kernel
theorem dX11_isRightAt_37 : decode cX11_isRightAt 37 = .ok (.aload_n 0, 1) := by decide +kernel
theorem dX11_isRightAt_38 : decode cX11_isRightAt 38 = .ok (.getfield 42, 3) := by decide +kernel
theorem dX11_isRightAt_41 : decode cX11_isRightAt 41 = .ok (.iload_n 2, 1) := by decide +kernel
theorem dX11_isRightAt_42 : decode cX11_isRightAt 42 = .ok (.laload, 1) := by decide +kernel
theorem dX11_isRightAt_43 : decode cX11_isRightAt 43 = .ok (.lmul, 1) := by decide +kernel
theorem dX11_isRightAt_44 : decode cX11_isRightAt 44 = .ok (.lcmp, 1) := by decide +kernel
theorem dX11_isRightAt_45 : decode cX11_isRightAt 45 = .ok (.ifCond .ne 7, 3) := by decide +kernel
theorem dX11_isRightAt_48 : decode cX11_isRightAt 48 = .ok (.iconst 1, 1) := by decide +kernel
theorem dX11_isRightAt_49 : decode cX11_isRightAt 49 = .ok (.goto 4, 3) := by decide +kernel
theorem dX11_isRightAt_52 : decode cX11_isRightAt 52 = .ok (.iconst 0, 1) := by decide +kernel
theorem dX11_isRightAt_53 : decode cX11_isRightAt 53 = .ok (.ireturn, 1) := by decide +kernel
theorem dX11_endsAt_0 : decode cX11_endsAt 0 = .ok (.iconst 0, 1) := by decide +kernel
theorem dX11_endsAt_1 : decode cX11_endsAt 1 = .ok (.istore_n 3, 1) := by decide +kernel
theorem dX11_endsAt_2 : decode cX11_endsAt 2 = .ok (.iconst 0, 1) := by decide +kernel
theorem dX11_endsAt_3 : decode cX11_endsAt 3 = .ok (.istore 4, 2) := by decide +kernel
theorem dX11_endsAt_5 : decode cX11_endsAt 5 = .ok (.iload 4, 2) := by decide +kernel
theorem dX11_endsAt_7 : decode cX11_endsAt 7 = .ok (.aload_n 0, 1) := by decide +kernel
theorem dX11_endsAt_8 : decode cX11_endsAt 8 = .ok (.invokevirtual 200, 3) := by decide +kernel
theorem dX11_endsAt_11 : decode cX11_endsAt 11 = .ok (.if_icmp .ge 47, 3) := by decide +kernel
theorem dX11_endsAt_14 : decode cX11_endsAt 14 = .ok (.iload_n 3, 1) := by decide +kernel
theorem dX11_endsAt_15 : decode cX11_endsAt 15 = .ok (.iload_n 2, 1) := by decide +kernel
theorem dX11_endsAt_16 : decode cX11_endsAt 16 = .ok (.ifCond .eq 16, 3) := by decide +kernel
theorem dX11_endsAt_19 : decode cX11_endsAt 19 = .ok (.aload_n 0, 1) := by decide +kernel
theorem dX11_endsAt_20 : decode cX11_endsAt 20 = .ok (.iload 4, 2) := by decide +kernel
theorem dX11_endsAt_22 : decode cX11_endsAt 22 = .ok (.iload_n 1, 1) := by decide +kernel
theorem dX11_endsAt_23 : decode cX11_endsAt 23 = .ok (.invokevirtual 398, 3) := by decide +kernel
theorem dX11_endsAt_26 : decode cX11_endsAt 26 = .ok (.ifCond .eq 23, 3) := by decide +kernel
theorem dX11_endsAt_29 : decode cX11_endsAt 29 = .ok (.goto 13, 3) := by decide +kernel
theorem dX11_endsAt_32 : decode cX11_endsAt 32 = .ok (.aload_n 0, 1) := by decide +kernel
theorem dX11_endsAt_33 : decode cX11_endsAt 33 = .ok (.iload 4, 2) := by decide +kernel
theorem dX11_endsAt_35 : decode cX11_endsAt 35 = .ok (.iload_n 1, 1) := by decide +kernel
theorem dX11_endsAt_36 : decode cX11_endsAt 36 = .ok (.invokevirtual 401, 3) := by decide +kernel
theorem dX11_endsAt_39 : decode cX11_endsAt 39 = .ok (.ifCond .eq 10, 3) := by decide +kernel
theorem dX11_endsAt_42 : decode cX11_endsAt 42 = .ok (.iconst 1, 1) := by decide +kernel
theorem dX11_endsAt_43 : decode cX11_endsAt 43 = .ok (.iload 4, 2) := by decide +kernel
theorem dX11_endsAt_45 : decode cX11_endsAt 45 = .ok (.ishl, 1) := by decide +kernel
theorem dX11_endsAt_46 : decode cX11_endsAt 46 = .ok (.goto 4, 3) := by decide +kernel
theorem dX11_endsAt_49 : decode cX11_endsAt 49 = .ok (.iconst 0, 1) := by decide +kernel
theorem dX11_endsAt_50 : decode cX11_endsAt 50 = .ok (.ior, 1) := by decide +kernel
theorem dX11_endsAt_51 : decode cX11_endsAt 51 = .ok (.istore_n 3, 1) := by decide +kernel
theorem dX11_endsAt_52 : decode cX11_endsAt 52 = .ok (.iinc 4 1, 3) := by decide +kernel
theorem dX11_endsAt_55 : decode cX11_endsAt 55 = .ok (.goto (-50), 3) := by decide +kernel
theorem dX11_endsAt_58 : decode cX11_endsAt 58 = .ok (.iload_n 3, 1) := by decide +kernel
theorem dX11_endsAt_59 : decode cX11_endsAt 59 = .ok (.ireturn, 1) := by decide +kernel
theorem dX11_within_0 : decode cX11_within 0 = .ok (.aload_n 0, 1) := by decide +kernel
theorem dX11_within_1 : decode cX11_within 1 = .ok (.getfield 48, 3) := by decide +kernel
theorem dX11_within_4 : decode cX11_within 4 = .ok (.iload_n 1, 1) := by decide +kernel
theorem dX11_within_5 : decode cX11_within 5 = .ok (.iaload, 1) := by decide +kernel
theorem dX11_within_6 : decode cX11_within 6 = .ok (.aload_n 0, 1) := by decide +kernel
theorem dX11_within_7 : decode cX11_within 7 = .ok (.iload_n 1, 1) := by decide +kernel
theorem dX11_within_8 : decode cX11_within 8 = .ok (.iconst 1, 1) := by decide +kernel
theorem dX11_within_9 : decode cX11_within 9 = .ok (.invokevirtual 404, 3) := by decide +kernel
theorem dX11_within_12 : decode cX11_within 12 = .ok (.iconst (-1), 1) := by decide +kernel
theorem dX11_within_13 : decode cX11_within 13 = .ok (.ixor, 1) := by decide +kernel
theorem dX11_within_14 : decode cX11_within 14 = .ok (.iand, 1) := by decide +kernel
theorem dX11_within_15 : decode cX11_within 15 = .ok (.aload_n 0, 1) := by decide +kernel
theorem dX11_within_16 : decode cX11_within 16 = .ok (.iload_n 1, 1) := by decide +kernel
theorem dX11_within_17 : decode cX11_within 17 = .ok (.iconst 0, 1) := by decide +kernel
theorem dX11_within_18 : decode cX11_within 18 = .ok (.invokevirtual 404, 3) := by decide +kernel
theorem dX11_within_21 : decode cX11_within 21 = .ok (.iconst (-1), 1) := by decide +kernel
theorem dX11_within_22 : decode cX11_within 22 = .ok (.ixor, 1) := by decide +kernel
theorem dX11_within_23 : decode cX11_within 23 = .ok (.iand, 1) := by decide +kernel
theorem dX11_within_24 : decode cX11_within 24 = .ok (.ireturn, 1) := by decide +kernel
theorem dX11_spreadOf_0 : decode cX11_spreadOf 0 = .ok (.aload_n 0, 1) := by decide +kernel
theorem dX11_spreadOf_1 : decode cX11_spreadOf 1 = .ok (.iload_n 1, 1) := by decide +kernel
theorem dX11_spreadOf_2 : decode cX11_spreadOf 2 = .ok (.invokevirtual 407, 3) := by decide +kernel
theorem dX11_spreadOf_5 : decode cX11_spreadOf 5 = .ok (.istore_n 2, 1) := by decide +kernel
theorem dX11_spreadOf_6 : decode cX11_spreadOf 6 = .ok (.iconst 0, 1) := by decide +kernel
theorem dX11_spreadOf_7 : decode cX11_spreadOf 7 = .ok (.istore_n 3, 1) := by decide +kernel
theorem dX11_spreadOf_8 : decode cX11_spreadOf 8 = .ok (.iconst 0, 1) := by decide +kernel
theorem dX11_spreadOf_9 : decode cX11_spreadOf 9 = .ok (.istore 4, 2) := by decide +kernel
theorem dX11_spreadOf_11 : decode cX11_spreadOf 11 = .ok (.iload 4, 2) := by decide +kernel
theorem dX11_spreadOf_13 : decode cX11_spreadOf 13 = .ok (.aload_n 0, 1) := by decide +kernel
theorem dX11_spreadOf_14 : decode cX11_spreadOf 14 = .ok (.invokevirtual 200, 3) := by decide +kernel
theorem dX11_spreadOf_17 : decode cX11_spreadOf 17 = .ok (.if_icmp .ge 63, 3) := by decide +kernel
theorem dX11_spreadOf_20 : decode cX11_spreadOf 20 = .ok (.iconst 0, 1) := by decide +kernel
theorem dX11_spreadOf_21 : decode cX11_spreadOf 21 = .ok (.istore 5, 2) := by decide +kernel
theorem dX11_spreadOf_23 : decode cX11_spreadOf 23 = .ok (.iload 5, 2) := by decide +kernel
theorem dX11_spreadOf_25 : decode cX11_spreadOf 25 = .ok (.iload 4, 2) := by decide +kernel
theorem dX11_spreadOf_27 : decode cX11_spreadOf 27 = .ok (.if_icmp .ge 47, 3) := by decide +kernel
theorem dX11_spreadOf_30 : decode cX11_spreadOf 30 = .ok (.iload_n 3, 1) := by decide +kernel
theorem dX11_spreadOf_31 : decode cX11_spreadOf 31 = .ok (.iload_n 2, 1) := by decide +kernel
theorem dX11_spreadOf_32 : decode cX11_spreadOf 32 = .ok (.iload 4, 2) := by decide +kernel
theorem dX11_spreadOf_34 : decode cX11_spreadOf 34 = .ok (.invokestatic 220, 3) := by decide +kernel
theorem dX11_spreadOf_37 : decode cX11_spreadOf 37 = .ok (.ifCond .eq 28, 3) := by decide +kernel
theorem dX11_spreadOf_40 : decode cX11_spreadOf 40 = .ok (.iload_n 2, 1) := by decide +kernel
theorem dX11_spreadOf_41 : decode cX11_spreadOf 41 = .ok (.iload 5, 2) := by decide +kernel
theorem dX11_spreadOf_43 : decode cX11_spreadOf 43 = .ok (.invokestatic 220, 3) := by decide +kernel
theorem dX11_spreadOf_46 : decode cX11_spreadOf 46 = .ok (.ifCond .eq 19, 3) := by decide +kernel
theorem dX11_spreadOf_49 : decode cX11_spreadOf 49 = .ok (.aload_n 0, 1) := by decide +kernel
theorem dX11_spreadOf_50 : decode cX11_spreadOf 50 = .ok (.iload 4, 2) := by decide +kernel
theorem dX11_spreadOf_52 : decode cX11_spreadOf 52 = .ok (.iload 5, 2) := by decide +kernel
theorem dX11_spreadOf_54 : decode cX11_spreadOf 54 = .ok (.invokevirtual 186, 3) := by decide +kernel
theorem dX11_spreadOf_57 : decode cX11_spreadOf 57 = .ok (.iconst 1, 1) := by decide +kernel
theorem dX11_spreadOf_58 : decode cX11_spreadOf 58 = .ok (.if_icmp .ne 7, 3) := by decide +kernel
theorem dX11_spreadOf_61 : decode cX11_spreadOf 61 = .ok (.iconst 1, 1) := by decide +kernel
theorem dX11_spreadOf_62 : decode cX11_spreadOf 62 = .ok (.goto 4, 3) := by decide +kernel
theorem dX11_spreadOf_65 : decode cX11_spreadOf 65 = .ok (.iconst 0, 1) := by decide +kernel
theorem dX11_spreadOf_66 : decode cX11_spreadOf 66 = .ok (.iadd, 1) := by decide +kernel
theorem dX11_spreadOf_67 : decode cX11_spreadOf 67 = .ok (.istore_n 3, 1) := by decide +kernel
theorem dX11_spreadOf_68 : decode cX11_spreadOf 68 = .ok (.iinc 5 1, 3) := by decide +kernel
theorem dX11_spreadOf_71 : decode cX11_spreadOf 71 = .ok (.goto (-48), 3) := by decide +kernel
theorem dX11_spreadOf_74 : decode cX11_spreadOf 74 = .ok (.iinc 4 1, 3) := by decide +kernel
theorem dX11_spreadOf_77 : decode cX11_spreadOf 77 = .ok (.goto (-66), 3) := by decide +kernel
theorem dX11_spreadOf_80 : decode cX11_spreadOf 80 = .ok (.iload_n 3, 1) := by decide +kernel
theorem dX11_spreadOf_81 : decode cX11_spreadOf 81 = .ok (.ireturn, 1) := by decide +kernel
theorem dX11_event_0 : decode cX11_event 0 = .ok (.aload_n 0, 1) := by decide +kernel
theorem dX11_event_1 : decode cX11_event 1 = .ok (.iload_n 1, 1) := by decide +kernel
theorem dX11_event_2 : decode cX11_event 2 = .ok (.invokevirtual 410, 3) := by decide +kernel
theorem dX11_event_5 : decode cX11_event 5 = .ok (.ifCond .ne 28, 3) := by decide +kernel
theorem dX11_event_8 : decode cX11_event 8 = .ok (.aload_n 0, 1) := by decide +kernel
theorem dX11_event_9 : decode cX11_event 9 = .ok (.iload_n 2, 1) := by decide +kernel
theorem dX11_event_10 : decode cX11_event 10 = .ok (.i2l, 1) := by decide +kernel
theorem dX11_event_11 : decode cX11_event 11 = .ok (.lconst 0, 1) := by decide +kernel
theorem dX11_event_12 : decode cX11_event 12 = .ok (.ldc2_w 413, 3) := by decide +kernel
theorem dX11_event_15 : decode cX11_event 15 = .ok (.invokestatic 131, 3) := by decide +kernel
theorem dX11_event_18 : decode cX11_event 18 = .ok (.ifCond .ne 7, 3) := by decide +kernel
theorem dX11_event_21 : decode cX11_event 21 = .ok (.iconst 1, 1) := by decide +kernel
theorem dX11_event_22 : decode cX11_event 22 = .ok (.goto 4, 3) := by decide +kernel
theorem dX11_event_25 : decode cX11_event 25 = .ok (.iconst 0, 1) := by decide +kernel
theorem dX11_event_26 : decode cX11_event 26 = .ok (.iconst 2, 1) := by decide +kernel
theorem dX11_event_27 : decode cX11_event 27 = .ok (.invokevirtual 120, 3) := by decide +kernel
theorem dX11_event_30 : decode cX11_event 30 = .ok (.ifCond .eq 5, 3) := by decide +kernel
theorem dX11_event_33 : decode cX11_event 33 = .ok (.lconst 0, 1) := by decide +kernel
theorem dX11_event_34 : decode cX11_event 34 = .ok (.lreturn, 1) := by decide +kernel
theorem dX11_event_35 : decode cX11_event 35 = .ok (.iload_n 2, 1) := by decide +kernel
theorem dX11_event_36 : decode cX11_event 36 = .ok (.tableswitch 86 4 9 #[40, 48, 56, 63, 71, 78], 40) := by decide +kernel
theorem dX11_event_76 : decode cX11_event 76 = .ok (.aload_n 0, 1) := by decide +kernel
theorem dX11_event_77 : decode cX11_event 77 = .ok (.iload_n 1, 1) := by decide +kernel
theorem dX11_event_78 : decode cX11_event 78 = .ok (.iconst 1, 1) := by decide +kernel
theorem dX11_event_79 : decode cX11_event 79 = .ok (.invokevirtual 404, 3) := by decide +kernel
theorem dX11_event_82 : decode cX11_event 82 = .ok (.i2l, 1) := by decide +kernel
theorem dX11_event_83 : decode cX11_event 83 = .ok (.lreturn, 1) := by decide +kernel
theorem dX11_event_84 : decode cX11_event 84 = .ok (.aload_n 0, 1) := by decide +kernel
theorem dX11_event_85 : decode cX11_event 85 = .ok (.iload_n 1, 1) := by decide +kernel
theorem dX11_event_86 : decode cX11_event 86 = .ok (.iconst 0, 1) := by decide +kernel
theorem dX11_event_87 : decode cX11_event 87 = .ok (.invokevirtual 404, 3) := by decide +kernel
theorem dX11_event_90 : decode cX11_event 90 = .ok (.i2l, 1) := by decide +kernel
theorem dX11_event_91 : decode cX11_event 91 = .ok (.lreturn, 1) := by decide +kernel
theorem dX11_event_92 : decode cX11_event 92 = .ok (.aload_n 0, 1) := by decide +kernel
theorem dX11_event_93 : decode cX11_event 93 = .ok (.iload_n 1, 1) := by decide +kernel
theorem dX11_event_94 : decode cX11_event 94 = .ok (.invokevirtual 407, 3) := by decide +kernel
theorem dX11_event_97 : decode cX11_event 97 = .ok (.i2l, 1) := by decide +kernel
theorem dX11_event_98 : decode cX11_event 98 = .ok (.lreturn, 1) := by decide +kernel
theorem dX11_event_99 : decode cX11_event 99 = .ok (.aload_n 0, 1) := by decide +kernel
theorem dX11_event_100 : decode cX11_event 100 = .ok (.getfield 45, 3) := by decide +kernel
theorem dX11_event_103 : decode cX11_event 103 = .ok (.iload_n 1, 1) := by decide +kernel
theorem dX11_event_104 : decode cX11_event 104 = .ok (.iaload, 1) := by decide +kernel
theorem dX11_event_105 : decode cX11_event 105 = .ok (.i2l, 1) := by decide +kernel
theorem dX11_event_106 : decode cX11_event 106 = .ok (.lreturn, 1) := by decide +kernel
theorem dX11_event_107 : decode cX11_event 107 = .ok (.aload_n 0, 1) := by decide +kernel
theorem dX11_event_108 : decode cX11_event 108 = .ok (.iload_n 1, 1) := by decide +kernel
theorem dX11_event_109 : decode cX11_event 109 = .ok (.invokevirtual 415, 3) := by decide +kernel
theorem dX11_event_112 : decode cX11_event 112 = .ok (.i2l, 1) := by decide +kernel
theorem dX11_event_113 : decode cX11_event 113 = .ok (.lreturn, 1) := by decide +kernel
theorem dX11_event_114 : decode cX11_event 114 = .ok (.aload_n 0, 1) := by decide +kernel
theorem dX11_event_115 : decode cX11_event 115 = .ok (.getfield 54, 3) := by decide +kernel
theorem dX11_event_118 : decode cX11_event 118 = .ok (.iload_n 1, 1) := by decide +kernel
theorem dX11_event_119 : decode cX11_event 119 = .ok (.iaload, 1) := by decide +kernel
theorem dX11_event_120 : decode cX11_event 120 = .ok (.i2l, 1) := by decide +kernel
theorem dX11_event_121 : decode cX11_event 121 = .ok (.lreturn, 1) := by decide +kernel
theorem dX11_event_122 : decode cX11_event 122 = .ok (.aload_n 0, 1) := by decide +kernel
theorem dX11_event_123 : decode cX11_event 123 = .ok (.getfield 35, 3) := by decide +kernel
theorem dX11_event_126 : decode cX11_event 126 = .ok (.iload_n 1, 1) := by decide +kernel
theorem dX11_event_127 : decode cX11_event 127 = .ok (.laload, 1) := by decide +kernel
theorem dX11_event_128 : decode cX11_event 128 = .ok (.aload_n 0, 1) := by decide +kernel
theorem dX11_event_129 : decode cX11_event 129 = .ok (.getfield 39, 3) := by decide +kernel
theorem dX11_event_132 : decode cX11_event 132 = .ok (.iload_n 1, 1) := by decide +kernel
theorem dX11_event_133 : decode cX11_event 133 = .ok (.laload, 1) := by decide +kernel
theorem dX11_event_134 : decode cX11_event 134 = .ok (.aload_n 0, 1) := by decide +kernel
theorem dX11_event_135 : decode cX11_event 135 = .ok (.getfield 42, 3) := by decide +kernel
theorem dX11_event_138 : decode cX11_event 138 = .ok (.iload_n 1, 1) := by decide +kernel
theorem dX11_event_139 : decode cX11_event 139 = .ok (.laload, 1) := by decide +kernel
theorem dX11_event_140 : decode cX11_event 140 = .ok (.iload_n 2, 1) := by decide +kernel
theorem dX11_event_141 : decode cX11_event 141 = .ok (.invokestatic 383, 3) := by decide +kernel
theorem dX11_event_144 : decode cX11_event 144 = .ok (.lreturn, 1) := by decide +kernel
theorem dX11_status_0 : decode cX11_status 0 = .ok (.aload_n 0, 1) := by decide +kernel
theorem dX11_status_1 : decode cX11_status 1 = .ok (.iload_n 1, 1) := by decide +kernel
theorem dX11_status_2 : decode cX11_status 2 = .ok (.invokevirtual 410, 3) := by decide +kernel
theorem dX11_status_5 : decode cX11_status 5 = .ok (.ifCond .eq 5, 3) := by decide +kernel
theorem dX11_status_8 : decode cX11_status 8 = .ok (.iconst 0, 1) := by decide +kernel
theorem dX11_status_9 : decode cX11_status 9 = .ok (.ireturn, 1) := by decide +kernel
theorem dX11_status_10 : decode cX11_status 10 = .ok (.aload_n 0, 1) := by decide +kernel
theorem dX11_status_11 : decode cX11_status 11 = .ok (.iload_n 1, 1) := by decide +kernel
theorem dX11_status_12 : decode cX11_status 12 = .ok (.invokevirtual 418, 3) := by decide +kernel
theorem dX11_status_15 : decode cX11_status 15 = .ok (.istore_n 3, 1) := by decide +kernel
theorem dX11_status_16 : decode cX11_status 16 = .ok (.iload_n 2, 1) := by decide +kernel
theorem dX11_status_17 : decode cX11_status 17 = .ok (.iconst (-1), 1) := by decide +kernel
theorem dX11_status_18 : decode cX11_status 18 = .ok (.if_icmp .ne 7, 3) := by decide +kernel
theorem dX11_status_21 : decode cX11_status 21 = .ok (.iload_n 3, 1) := by decide +kernel
theorem dX11_status_22 : decode cX11_status 22 = .ok (.goto 26, 3) := by decide +kernel
theorem dX11_status_25 : decode cX11_status 25 = .ok (.iload_n 2, 1) := by decide +kernel
theorem dX11_status_26 : decode cX11_status 26 = .ok (.i2l, 1) := by decide +kernel
theorem dX11_status_27 : decode cX11_status 27 = .ok (.lconst 0, 1) := by decide +kernel
theorem dX11_status_28 : decode cX11_status 28 = .ok (.iload_n 3, 1) := by decide +kernel
theorem dX11_status_29 : decode cX11_status 29 = .ok (.iconst 1, 1) := by decide +kernel
theorem dX11_status_30 : decode cX11_status 30 = .ok (.isub, 1) := by decide +kernel
theorem dX11_status_31 : decode cX11_status 31 = .ok (.i2l, 1) := by decide +kernel
theorem dX11_status_32 : decode cX11_status 32 = .ok (.invokestatic 131, 3) := by decide +kernel
theorem dX11_status_35 : decode cX11_status 35 = .ok (.ifCond .eq 12, 3) := by decide +kernel
theorem dX11_status_38 : decode cX11_status 38 = .ok (.aload_n 0, 1) := by decide +kernel
theorem dX11_status_39 : decode cX11_status 39 = .ok (.getfield 63, 3) := by decide +kernel
theorem dX11_status_42 : decode cX11_status 42 = .ok (.iload_n 2, 1) := by decide +kernel
theorem dX11_status_43 : decode cX11_status 43 = .ok (.iaload, 1) := by decide +kernel
theorem dX11_status_44 : decode cX11_status 44 = .ok (.goto 4, 3) := by decide +kernel
theorem dX11_status_47 : decode cX11_status 47 = .ok (.iconst (-1), 1) := by decide +kernel
theorem dX11_status_48 : decode cX11_status 48 = .ok (.ireturn, 1) := by decide +kernel
theorem dX11_rank_0 : decode cX11_rank 0 = .ok (.aload_n 0, 1) := by decide +kernel
theorem dX11_rank_1 : decode cX11_rank 1 = .ok (.iload_n 1, 1) := by decide +kernel
theorem dX11_rank_2 : decode cX11_rank 2 = .ok (.invokevirtual 351, 3) := by decide +kernel
theorem dX11_rank_5 : decode cX11_rank 5 = .ok (.ifCond .ne 11, 3) := by decide +kernel
theorem dX11_rank_8 : decode cX11_rank 8 = .ok (.aload_n 0, 1) := by decide +kernel
theorem dX11_rank_9 : decode cX11_rank 9 = .ok (.iload_n 2, 1) := by decide +kernel
theorem dX11_rank_10 : decode cX11_rank 10 = .ok (.invokevirtual 410, 3) := by decide +kernel
theorem dX11_rank_13 : decode cX11_rank 13 = .ok (.ifCond .eq 5, 3) := by decide +kernel
theorem dX11_rank_16 : decode cX11_rank 16 = .ok (.iconst 0, 1) := by decide +kernel
theorem dX11_rank_17 : decode cX11_rank 17 = .ok (.ireturn, 1) := by decide +kernel
theorem dX11_rank_18 : decode cX11_rank 18 = .ok (.aload_n 0, 1) := by decide +kernel
theorem dX11_rank_19 : decode cX11_rank 19 = .ok (.iload_n 2, 1) := by decide +kernel
theorem dX11_rank_20 : decode cX11_rank 20 = .ok (.invokevirtual 418, 3) := by decide +kernel
theorem dX11_rank_23 : decode cX11_rank 23 = .ok (.istore_n 3, 1) := by decide +kernel
theorem dX11_rank_24 : decode cX11_rank 24 = .ok (.iconst 0, 1) := by decide +kernel
theorem dX11_rank_25 : decode cX11_rank 25 = .ok (.istore 4, 2) := by decide +kernel
theorem dX11_rank_27 : decode cX11_rank 27 = .ok (.iload 4, 2) := by decide +kernel
theorem dX11_rank_29 : decode cX11_rank 29 = .ok (.iload_n 3, 1) := by decide +kernel
theorem dX11_rank_30 : decode cX11_rank 30 = .ok (.if_icmp .ge 23, 3) := by decide +kernel
theorem dX11_rank_33 : decode cX11_rank 33 = .ok (.aload_n 0, 1) := by decide +kernel
theorem dX11_rank_34 : decode cX11_rank 34 = .ok (.getfield 63, 3) := by decide +kernel
theorem dX11_rank_37 : decode cX11_rank 37 = .ok (.iload 4, 2) := by decide +kernel
theorem dX11_rank_39 : decode cX11_rank 39 = .ok (.iaload, 1) := by decide +kernel
theorem dX11_rank_40 : decode cX11_rank 40 = .ok (.iload_n 1, 1) := by decide +kernel
theorem dX11_rank_41 : decode cX11_rank 41 = .ok (.if_icmp .ne 6, 3) := by decide +kernel
theorem dX11_rank_44 : decode cX11_rank 44 = .ok (.iload 4, 2) := by decide +kernel
theorem dX11_rank_46 : decode cX11_rank 46 = .ok (.ireturn, 1) := by decide +kernel
theorem dX11_rank_47 : decode cX11_rank 47 = .ok (.iinc 4 1, 3) := by decide +kernel
theorem dX11_rank_50 : decode cX11_rank 50 = .ok (.goto (-23), 3) := by decide +kernel
theorem dX11_rank_53 : decode cX11_rank 53 = .ok (.iconst (-1), 1) := by decide +kernel
theorem dX11_rank_54 : decode cX11_rank 54 = .ok (.ireturn, 1) := by decide +kernel
theorem dX11_road_0 : decode cX11_road 0 = .ok (.aload_n 0, 1) := by decide +kernel
theorem dX11_road_1 : decode cX11_road 1 = .ok (.iload_n 1, 1) := by decide +kernel
theorem dX11_road_2 : decode cX11_road 2 = .ok (.invokevirtual 410, 3) := by decide +kernel
theorem dX11_road_5 : decode cX11_road 5 = .ok (.ifCond .ne 11, 3) := by decide +kernel
theorem dX11_road_8 : decode cX11_road 8 = .ok (.aload_n 0, 1) := by decide +kernel
theorem dX11_road_9 : decode cX11_road 9 = .ok (.iload_n 2, 1) := by decide +kernel
theorem dX11_road_10 : decode cX11_road 10 = .ok (.invokevirtual 410, 3) := by decide +kernel
theorem dX11_road_13 : decode cX11_road 13 = .ok (.ifCond .eq 5, 3) := by decide +kernel
theorem dX11_road_16 : decode cX11_road 16 = .ok (.iconst 0, 1) := by decide +kernel
theorem dX11_road_17 : decode cX11_road 17 = .ok (.ireturn, 1) := by decide +kernel
theorem dX11_road_18 : decode cX11_road 18 = .ok (.iconst 0, 1) := by decide +kernel
theorem dX11_road_19 : decode cX11_road 19 = .ok (.istore_n 3, 1) := by decide +kernel
theorem dX11_road_20 : decode cX11_road 20 = .ok (.iload_n 3, 1) := by decide +kernel
theorem dX11_road_21 : decode cX11_road 21 = .ok (.aload_n 0, 1) := by decide +kernel
theorem dX11_road_22 : decode cX11_road 22 = .ok (.getfield 193, 3) := by decide +kernel
theorem dX11_road_25 : decode cX11_road 25 = .ok (.if_icmp .ge 25, 3) := by decide +kernel
theorem dX11_road_28 : decode cX11_road 28 = .ok (.aload_n 0, 1) := by decide +kernel
theorem dX11_road_29 : decode cX11_road 29 = .ok (.getfield 85, 3) := by decide +kernel
theorem dX11_road_32 : decode cX11_road 32 = .ok (.iload_n 3, 1) := by decide +kernel
theorem dX11_road_33 : decode cX11_road 33 = .ok (.iload_n 3, 1) := by decide +kernel
theorem dX11_road_34 : decode cX11_road 34 = .ok (.iload_n 1, 1) := by decide +kernel
theorem dX11_road_35 : decode cX11_road 35 = .ok (.if_icmp .ne 7, 3) := by decide +kernel
theorem dX11_road_38 : decode cX11_road 38 = .ok (.iconst 0, 1) := by decide +kernel
theorem dX11_road_39 : decode cX11_road 39 = .ok (.goto 4, 3) := by decide +kernel
theorem dX11_road_42 : decode cX11_road 42 = .ok (.iconst (-1), 1) := by decide +kernel
theorem dX11_road_43 : decode cX11_road 43 = .ok (.iastore, 1) := by decide +kernel
theorem dX11_road_44 : decode cX11_road 44 = .ok (.iinc 3 1, 3) := by decide +kernel
theorem dX11_road_47 : decode cX11_road 47 = .ok (.goto (-27), 3) := by decide +kernel
theorem dX11_road_50 : decode cX11_road 50 = .ok (.iconst 1, 1) := by decide +kernel
theorem dX11_road_51 : decode cX11_road 51 = .ok (.istore_n 3, 1) := by decide +kernel
theorem dX11_road_52 : decode cX11_road 52 = .ok (.iconst 0, 1) := by decide +kernel
theorem dX11_road_53 : decode cX11_road 53 = .ok (.istore 4, 2) := by decide +kernel
theorem dX11_road_55 : decode cX11_road 55 = .ok (.iload_n 3, 1) := by decide +kernel
theorem dX11_road_56 : decode cX11_road 56 = .ok (.ifCond .eq 123, 3) := by decide +kernel
theorem dX11_road_59 : decode cX11_road 59 = .ok (.iconst 0, 1) := by decide +kernel
theorem dX11_road_60 : decode cX11_road 60 = .ok (.istore_n 3, 1) := by decide +kernel
theorem dX11_road_61 : decode cX11_road 61 = .ok (.iconst 0, 1) := by decide +kernel
theorem dX11_road_62 : decode cX11_road 62 = .ok (.istore 5, 2) := by decide +kernel
theorem dX11_road_64 : decode cX11_road 64 = .ok (.iload 5, 2) := by decide +kernel
theorem dX11_road_66 : decode cX11_road 66 = .ok (.aload_n 0, 1) := by decide +kernel
theorem dX11_road_67 : decode cX11_road 67 = .ok (.getfield 213, 3) := by decide +kernel
theorem dX11_road_70 : decode cX11_road 70 = .ok (.if_icmp .ge 103, 3) := by decide +kernel
theorem dX11_road_73 : decode cX11_road 73 = .ok (.aload_n 0, 1) := by decide +kernel
theorem dX11_road_74 : decode cX11_road 74 = .ok (.getfield 57, 3) := by decide +kernel
theorem dX11_road_77 : decode cX11_road 77 = .ok (.iload 5, 2) := by decide +kernel
theorem dX11_road_79 : decode cX11_road 79 = .ok (.iaload, 1) := by decide +kernel
theorem dX11_road_80 : decode cX11_road 80 = .ok (.istore 6, 2) := by decide +kernel
theorem dX11_road_82 : decode cX11_road 82 = .ok (.aload_n 0, 1) := by decide +kernel
theorem dX11_road_83 : decode cX11_road 83 = .ok (.getfield 60, 3) := by decide +kernel
theorem dX11_road_86 : decode cX11_road 86 = .ok (.iload 5, 2) := by decide +kernel
theorem dX11_road_88 : decode cX11_road 88 = .ok (.iaload, 1) := by decide +kernel
theorem dX11_road_89 : decode cX11_road 89 = .ok (.istore 7, 2) := by decide +kernel
theorem dX11_road_91 : decode cX11_road 91 = .ok (.aload_n 0, 1) := by decide +kernel
theorem dX11_road_92 : decode cX11_road 92 = .ok (.getfield 85, 3) := by decide +kernel
theorem dX11_road_95 : decode cX11_road 95 = .ok (.iload 6, 2) := by decide +kernel
theorem dX11_road_97 : decode cX11_road 97 = .ok (.iaload, 1) := by decide +kernel
theorem dX11_road_98 : decode cX11_road 98 = .ok (.iload 4, 2) := by decide +kernel
theorem dX11_road_100 : decode cX11_road 100 = .ok (.if_icmp .ne 14, 3) := by decide +kernel
theorem dX11_road_103 : decode cX11_road 103 = .ok (.aload_n 0, 1) := by decide +kernel
theorem dX11_road_104 : decode cX11_road 104 = .ok (.getfield 85, 3) := by decide +kernel
theorem dX11_road_107 : decode cX11_road 107 = .ok (.iload 7, 2) := by decide +kernel
theorem dX11_road_109 : decode cX11_road 109 = .ok (.iaload, 1) := by decide +kernel
theorem dX11_road_110 : decode cX11_road 110 = .ok (.iconst (-1), 1) := by decide +kernel
theorem dX11_road_111 : decode cX11_road 111 = .ok (.if_icmp .eq 26, 3) := by decide +kernel
theorem dX11_road_114 : decode cX11_road 114 = .ok (.aload_n 0, 1) := by decide +kernel
theorem dX11_road_115 : decode cX11_road 115 = .ok (.getfield 85, 3) := by decide +kernel
theorem dX11_road_118 : decode cX11_road 118 = .ok (.iload 7, 2) := by decide +kernel
theorem dX11_road_120 : decode cX11_road 120 = .ok (.iaload, 1) := by decide +kernel
theorem dX11_road_121 : decode cX11_road 121 = .ok (.iload 4, 2) := by decide +kernel
theorem dX11_road_123 : decode cX11_road 123 = .ok (.if_icmp .ne 44, 3) := by decide +kernel
theorem dX11_road_126 : decode cX11_road 126 = .ok (.aload_n 0, 1) := by decide +kernel
theorem dX11_road_127 : decode cX11_road 127 = .ok (.getfield 85, 3) := by decide +kernel
theorem dX11_road_130 : decode cX11_road 130 = .ok (.iload 6, 2) := by decide +kernel
theorem dX11_road_132 : decode cX11_road 132 = .ok (.iaload, 1) := by decide +kernel
theorem dX11_road_133 : decode cX11_road 133 = .ok (.iconst (-1), 1) := by decide +kernel
theorem dX11_road_134 : decode cX11_road 134 = .ok (.if_icmp .ne 33, 3) := by decide +kernel
theorem dX11_road_137 : decode cX11_road 137 = .ok (.aload_n 0, 1) := by decide +kernel
theorem dX11_road_138 : decode cX11_road 138 = .ok (.getfield 85, 3) := by decide +kernel
theorem dX11_road_141 : decode cX11_road 141 = .ok (.aload_n 0, 1) := by decide +kernel
theorem dX11_road_142 : decode cX11_road 142 = .ok (.getfield 85, 3) := by decide +kernel
theorem dX11_road_145 : decode cX11_road 145 = .ok (.iload 6, 2) := by decide +kernel
theorem dX11_road_147 : decode cX11_road 147 = .ok (.iaload, 1) := by decide +kernel
theorem dX11_road_148 : decode cX11_road 148 = .ok (.iload 4, 2) := by decide +kernel
theorem dX11_road_150 : decode cX11_road 150 = .ok (.if_icmp .ne 8, 3) := by decide +kernel
theorem dX11_road_153 : decode cX11_road 153 = .ok (.iload 7, 2) := by decide +kernel
theorem dX11_road_155 : decode cX11_road 155 = .ok (.goto 5, 3) := by decide +kernel
theorem dX11_road_158 : decode cX11_road 158 = .ok (.iload 6, 2) := by decide +kernel
theorem dX11_road_160 : decode cX11_road 160 = .ok (.iload 4, 2) := by decide +kernel
theorem dX11_road_162 : decode cX11_road 162 = .ok (.iconst 1, 1) := by decide +kernel
theorem dX11_road_163 : decode cX11_road 163 = .ok (.iadd, 1) := by decide +kernel
theorem dX11_road_164 : decode cX11_road 164 = .ok (.iastore, 1) := by decide +kernel
theorem dX11_road_165 : decode cX11_road 165 = .ok (.iconst 1, 1) := by decide +kernel
theorem dX11_road_166 : decode cX11_road 166 = .ok (.istore_n 3, 1) := by decide +kernel
theorem dX11_road_167 : decode cX11_road 167 = .ok (.iinc 5 1, 3) := by decide +kernel
theorem dX11_road_170 : decode cX11_road 170 = .ok (.goto (-106), 3) := by decide +kernel
theorem dX11_road_173 : decode cX11_road 173 = .ok (.iinc 4 1, 3) := by decide +kernel
theorem dX11_road_176 : decode cX11_road 176 = .ok (.goto (-121), 3) := by decide +kernel
theorem dX11_road_179 : decode cX11_road 179 = .ok (.aload_n 0, 1) := by decide +kernel
theorem dX11_road_180 : decode cX11_road 180 = .ok (.getfield 85, 3) := by decide +kernel
theorem dX11_road_183 : decode cX11_road 183 = .ok (.iload_n 2, 1) := by decide +kernel
theorem dX11_road_184 : decode cX11_road 184 = .ok (.iaload, 1) := by decide +kernel
theorem dX11_road_185 : decode cX11_road 185 = .ok (.ireturn, 1) := by decide +kernel
theorem dX11_laysView_0 : decode cX11_laysView 0 = .ok (.aload_n 0, 1) := by decide +kernel
theorem dX11_laysView_1 : decode cX11_laysView 1 = .ok (.invokevirtual 348, 3) := by decide +kernel
theorem dX11_laysView_4 : decode cX11_laysView 4 = .ok (.iconst 0, 1) := by decide +kernel
theorem dX11_laysView_5 : decode cX11_laysView 5 = .ok (.istore_n 1, 1) := by decide +kernel
theorem dX11_laysView_6 : decode cX11_laysView 6 = .ok (.iconst 0, 1) := by decide +kernel
theorem dX11_laysView_7 : decode cX11_laysView 7 = .ok (.istore_n 2, 1) := by decide +kernel
theorem dX11_laysView_8 : decode cX11_laysView 8 = .ok (.iload_n 2, 1) := by decide +kernel
theorem dX11_laysView_9 : decode cX11_laysView 9 = .ok (.iconst 1, 1) := by decide +kernel
theorem dX11_laysView_10 : decode cX11_laysView 10 = .ok (.iadd, 1) := by decide +kernel
theorem dX11_laysView_11 : decode cX11_laysView 11 = .ok (.aload_n 0, 1) := by decide +kernel
theorem dX11_laysView_12 : decode cX11_laysView 12 = .ok (.getfield 193, 3) := by decide +kernel
theorem dX11_laysView_15 : decode cX11_laysView 15 = .ok (.if_icmp .ge 101, 3) := by decide +kernel
theorem dX11_laysView_18 : decode cX11_laysView 18 = .ok (.aload_n 0, 1) := by decide +kernel
theorem dX11_laysView_19 : decode cX11_laysView 19 = .ok (.getfield 35, 3) := by decide +kernel
theorem dX11_laysView_22 : decode cX11_laysView 22 = .ok (.iload_n 2, 1) := by decide +kernel
theorem dX11_laysView_23 : decode cX11_laysView 23 = .ok (.laload, 1) := by decide +kernel
theorem dX11_laysView_24 : decode cX11_laysView 24 = .ok (.aload_n 0, 1) := by decide +kernel
theorem dX11_laysView_25 : decode cX11_laysView 25 = .ok (.getfield 42, 3) := by decide +kernel
theorem dX11_laysView_28 : decode cX11_laysView 28 = .ok (.iload_n 2, 1) := by decide +kernel
theorem dX11_laysView_29 : decode cX11_laysView 29 = .ok (.iconst 1, 1) := by decide +kernel
theorem dX11_laysView_30 : decode cX11_laysView 30 = .ok (.iadd, 1) := by decide +kernel
theorem dX11_laysView_31 : decode cX11_laysView 31 = .ok (.laload, 1) := by decide +kernel
theorem dX11_laysView_32 : decode cX11_laysView 32 = .ok (.lmul, 1) := by decide +kernel
theorem dX11_laysView_33 : decode cX11_laysView 33 = .ok (.aload_n 0, 1) := by decide +kernel
theorem dX11_laysView_34 : decode cX11_laysView 34 = .ok (.getfield 35, 3) := by decide +kernel
theorem dX11_laysView_37 : decode cX11_laysView 37 = .ok (.iload_n 2, 1) := by decide +kernel
theorem dX11_laysView_38 : decode cX11_laysView 38 = .ok (.iconst 1, 1) := by decide +kernel
theorem dX11_laysView_39 : decode cX11_laysView 39 = .ok (.iadd, 1) := by decide +kernel
theorem dX11_laysView_40 : decode cX11_laysView 40 = .ok (.laload, 1) := by decide +kernel
theorem dX11_laysView_41 : decode cX11_laysView 41 = .ok (.aload_n 0, 1) := by decide +kernel
theorem dX11_laysView_42 : decode cX11_laysView 42 = .ok (.getfield 42, 3) := by decide +kernel
theorem dX11_laysView_45 : decode cX11_laysView 45 = .ok (.iload_n 2, 1) := by decide +kernel
theorem dX11_laysView_46 : decode cX11_laysView 46 = .ok (.laload, 1) := by decide +kernel
theorem dX11_laysView_47 : decode cX11_laysView 47 = .ok (.lmul, 1) := by decide +kernel
theorem dX11_laysView_48 : decode cX11_laysView 48 = .ok (.lcmp, 1) := by decide +kernel
theorem dX11_laysView_49 : decode cX11_laysView 49 = .ok (.ifCond .ne 6, 3) := by decide +kernel
theorem dX11_laysView_52 : decode cX11_laysView 52 = .ok (.goto 58, 3) := by decide +kernel
theorem dX11_laysView_55 : decode cX11_laysView 55 = .ok (.aload_n 0, 1) := by decide +kernel
theorem dX11_laysView_56 : decode cX11_laysView 56 = .ok (.iload_n 2, 1) := by decide +kernel
theorem dX11_laysView_57 : decode cX11_laysView 57 = .ok (.invokevirtual 418, 3) := by decide +kernel
theorem dX11_laysView_60 : decode cX11_laysView 60 = .ok (.istore_n 3, 1) := by decide +kernel
theorem dX11_laysView_61 : decode cX11_laysView 61 = .ok (.iload_n 3, 1) := by decide +kernel
theorem dX11_laysView_62 : decode cX11_laysView 62 = .ok (.ifCond .ne 7, 3) := by decide +kernel
theorem dX11_laysView_65 : decode cX11_laysView 65 = .ok (.iconst (-1), 1) := by decide +kernel
theorem dX11_laysView_66 : decode cX11_laysView 66 = .ok (.goto 11, 3) := by decide +kernel
theorem dX11_laysView_69 : decode cX11_laysView 69 = .ok (.aload_n 0, 1) := by decide +kernel
theorem dX11_laysView_70 : decode cX11_laysView 70 = .ok (.getfield 63, 3) := by decide +kernel
theorem dX11_laysView_73 : decode cX11_laysView 73 = .ok (.iload_n 3, 1) := by decide +kernel
theorem dX11_laysView_74 : decode cX11_laysView 74 = .ok (.iconst 1, 1) := by decide +kernel
theorem dX11_laysView_75 : decode cX11_laysView 75 = .ok (.isub, 1) := by decide +kernel
theorem dX11_laysView_76 : decode cX11_laysView 76 = .ok (.iaload, 1) := by decide +kernel
theorem dX11_laysView_77 : decode cX11_laysView 77 = .ok (.istore 4, 2) := by decide +kernel
theorem dX11_laysView_79 : decode cX11_laysView 79 = .ok (.iload_n 1, 1) := by decide +kernel
theorem dX11_laysView_80 : decode cX11_laysView 80 = .ok (.ifCond .le 19, 3) := by decide +kernel
theorem dX11_laysView_83 : decode cX11_laysView 83 = .ok (.aload_n 0, 1) := by decide +kernel
theorem dX11_laysView_84 : decode cX11_laysView 84 = .ok (.getfield 88, 3) := by decide +kernel
theorem dX11_laysView_87 : decode cX11_laysView 87 = .ok (.iload_n 1, 1) := by decide +kernel
theorem dX11_laysView_88 : decode cX11_laysView 88 = .ok (.iconst 1, 1) := by decide +kernel
theorem dX11_laysView_89 : decode cX11_laysView 89 = .ok (.isub, 1) := by decide +kernel
theorem dX11_laysView_90 : decode cX11_laysView 90 = .ok (.iaload, 1) := by decide +kernel
theorem dX11_laysView_91 : decode cX11_laysView 91 = .ok (.iload 4, 2) := by decide +kernel
theorem dX11_laysView_93 : decode cX11_laysView 93 = .ok (.if_icmp .ne 6, 3) := by decide +kernel
theorem dX11_laysView_96 : decode cX11_laysView 96 = .ok (.goto 14, 3) := by decide +kernel
theorem dX11_laysView_99 : decode cX11_laysView 99 = .ok (.aload_n 0, 1) := by decide +kernel
theorem dX11_laysView_100 : decode cX11_laysView 100 = .ok (.getfield 88, 3) := by decide +kernel
theorem dX11_laysView_103 : decode cX11_laysView 103 = .ok (.iload_n 1, 1) := by decide +kernel
theorem dX11_laysView_104 : decode cX11_laysView 104 = .ok (.iload 4, 2) := by decide +kernel
theorem dX11_laysView_106 : decode cX11_laysView 106 = .ok (.iastore, 1) := by decide +kernel
theorem dX11_laysView_107 : decode cX11_laysView 107 = .ok (.iinc 1 1, 3) := by decide +kernel
theorem dX11_laysView_110 : decode cX11_laysView 110 = .ok (.iinc 2 1, 3) := by decide +kernel
theorem dX11_laysView_113 : decode cX11_laysView 113 = .ok (.goto (-105), 3) := by decide +kernel
theorem dX11_laysView_116 : decode cX11_laysView 116 = .ok (.iload_n 1, 1) := by decide +kernel
theorem dX11_laysView_117 : decode cX11_laysView 117 = .ok (.ireturn, 1) := by decide +kernel
theorem dX11_view_0 : decode cX11_view 0 = .ok (.aload_n 0, 1) := by decide +kernel
theorem dX11_view_1 : decode cX11_view 1 = .ok (.iconst 0, 1) := by decide +kernel
theorem dX11_view_2 : decode cX11_view 2 = .ok (.putfield 3, 3) := by decide +kernel
theorem dX11_view_5 : decode cX11_view 5 = .ok (.aload_n 0, 1) := by decide +kernel
theorem dX11_view_6 : decode cX11_view 6 = .ok (.invokevirtual 421, 3) := by decide +kernel
theorem dX11_view_9 : decode cX11_view 9 = .ok (.istore_n 2, 1) := by decide +kernel
theorem dX11_view_10 : decode cX11_view 10 = .ok (.iload_n 1, 1) := by decide +kernel
theorem dX11_view_11 : decode cX11_view 11 = .ok (.iconst (-1), 1) := by decide +kernel
theorem dX11_view_12 : decode cX11_view 12 = .ok (.if_icmp .ne 7, 3) := by decide +kernel
theorem dX11_view_15 : decode cX11_view 15 = .ok (.iload_n 2, 1) := by decide +kernel
theorem dX11_view_16 : decode cX11_view 16 = .ok (.goto 26, 3) := by decide +kernel
theorem dX11_view_19 : decode cX11_view 19 = .ok (.iload_n 1, 1) := by decide +kernel
theorem dX11_view_20 : decode cX11_view 20 = .ok (.i2l, 1) := by decide +kernel
theorem dX11_view_21 : decode cX11_view 21 = .ok (.lconst 0, 1) := by decide +kernel
theorem dX11_view_22 : decode cX11_view 22 = .ok (.iload_n 2, 1) := by decide +kernel
theorem dX11_view_23 : decode cX11_view 23 = .ok (.iconst 1, 1) := by decide +kernel
theorem dX11_view_24 : decode cX11_view 24 = .ok (.isub, 1) := by decide +kernel
theorem dX11_view_25 : decode cX11_view 25 = .ok (.i2l, 1) := by decide +kernel
theorem dX11_view_26 : decode cX11_view 26 = .ok (.invokestatic 131, 3) := by decide +kernel
theorem dX11_view_29 : decode cX11_view 29 = .ok (.ifCond .eq 12, 3) := by decide +kernel
theorem dX11_view_32 : decode cX11_view 32 = .ok (.aload_n 0, 1) := by decide +kernel
theorem dX11_view_33 : decode cX11_view 33 = .ok (.getfield 88, 3) := by decide +kernel
theorem dX11_view_36 : decode cX11_view 36 = .ok (.iload_n 1, 1) := by decide +kernel
theorem dX11_view_37 : decode cX11_view 37 = .ok (.iaload, 1) := by decide +kernel
theorem dX11_view_38 : decode cX11_view 38 = .ok (.goto 4, 3) := by decide +kernel
theorem dX11_view_41 : decode cX11_view 41 = .ok (.iconst (-1), 1) := by decide +kernel
theorem dX11_view_42 : decode cX11_view 42 = .ok (.ireturn, 1) := by decide +kernel
theorem dX11_tied_0 : decode cX11_tied 0 = .ok (.aload_n 0, 1) := by decide +kernel
theorem dX11_tied_1 : decode cX11_tied 1 = .ok (.iload_n 1, 1) := by decide +kernel
theorem dX11_tied_2 : decode cX11_tied 2 = .ok (.invokevirtual 351, 3) := by decide +kernel
theorem dX11_tied_5 : decode cX11_tied 5 = .ok (.ifCond .eq 7, 3) := by decide +kernel
theorem dX11_tied_8 : decode cX11_tied 8 = .ok (.iconst 0, 1) := by decide +kernel
theorem dX11_tied_9 : decode cX11_tied 9 = .ok (.goto 8, 3) := by decide +kernel
theorem dX11_tied_12 : decode cX11_tied 12 = .ok (.aload_n 0, 1) := by decide +kernel
theorem dX11_tied_13 : decode cX11_tied 13 = .ok (.iload_n 1, 1) := by decide +kernel
theorem dX11_tied_14 : decode cX11_tied 14 = .ok (.invokevirtual 357, 3) := by decide +kernel
theorem dX11_tied_17 : decode cX11_tied 17 = .ok (.ireturn, 1) := by decide +kernel
theorem dX11_steps_0 : decode cX11_steps 0 = .ok (.aload_n 0, 1) := by decide +kernel
theorem dX11_steps_1 : decode cX11_steps 1 = .ok (.iload_n 1, 1) := by decide +kernel
theorem dX11_steps_2 : decode cX11_steps 2 = .ok (.iload_n 2, 1) := by decide +kernel
theorem dX11_steps_3 : decode cX11_steps 3 = .ok (.invokevirtual 373, 3) := by decide +kernel
theorem dX11_steps_6 : decode cX11_steps 6 = .ok (.ifCond .eq 5, 3) := by decide +kernel
theorem dX11_steps_9 : decode cX11_steps 9 = .ok (.iconst 0, 1) := by decide +kernel
theorem dX11_steps_10 : decode cX11_steps 10 = .ok (.ireturn, 1) := by decide +kernel
theorem dX11_steps_11 : decode cX11_steps 11 = .ok (.iconst 1, 1) := by decide +kernel
theorem dX11_steps_12 : decode cX11_steps 12 = .ok (.iload_n 1, 1) := by decide +kernel
theorem dX11_steps_13 : decode cX11_steps 13 = .ok (.ishl, 1) := by decide +kernel
theorem dX11_steps_14 : decode cX11_steps 14 = .ok (.istore_n 3, 1) := by decide +kernel
theorem dX11_steps_15 : decode cX11_steps 15 = .ok (.iconst 0, 1) := by decide +kernel
theorem dX11_steps_16 : decode cX11_steps 16 = .ok (.istore 4, 2) := by decide +kernel
theorem dX11_steps_18 : decode cX11_steps 18 = .ok (.iload_n 3, 1) := by decide +kernel
theorem dX11_steps_19 : decode cX11_steps 19 = .ok (.iload_n 2, 1) := by decide +kernel
theorem dX11_steps_20 : decode cX11_steps 20 = .ok (.invokestatic 220, 3) := by decide +kernel
theorem dX11_steps_23 : decode cX11_steps 23 = .ok (.ifCond .eq 6, 3) := by decide +kernel
theorem dX11_steps_26 : decode cX11_steps 26 = .ok (.iload 4, 2) := by decide +kernel
theorem dX11_steps_28 : decode cX11_steps 28 = .ok (.ireturn, 1) := by decide +kernel
theorem dX11_steps_29 : decode cX11_steps 29 = .ok (.iload_n 3, 1) := by decide +kernel
theorem dX11_steps_30 : decode cX11_steps 30 = .ok (.istore 5, 2) := by decide +kernel
theorem dX11_steps_32 : decode cX11_steps 32 = .ok (.iconst 0, 1) := by decide +kernel
theorem dX11_steps_33 : decode cX11_steps 33 = .ok (.istore 6, 2) := by decide +kernel
theorem dX11_steps_35 : decode cX11_steps 35 = .ok (.iload 6, 2) := by decide +kernel
theorem dX11_steps_37 : decode cX11_steps 37 = .ok (.aload_n 0, 1) := by decide +kernel
theorem dX11_steps_38 : decode cX11_steps 38 = .ok (.invokevirtual 200, 3) := by decide +kernel
theorem dX11_steps_41 : decode cX11_steps 41 = .ok (.if_icmp .ge 33, 3) := by decide +kernel
theorem dX11_steps_44 : decode cX11_steps 44 = .ok (.iload 5, 2) := by decide +kernel
theorem dX11_steps_46 : decode cX11_steps 46 = .ok (.iload_n 3, 1) := by decide +kernel
theorem dX11_steps_47 : decode cX11_steps 47 = .ok (.iload 6, 2) := by decide +kernel
theorem dX11_steps_49 : decode cX11_steps 49 = .ok (.invokestatic 220, 3) := by decide +kernel
theorem dX11_steps_52 : decode cX11_steps 52 = .ok (.ifCond .eq 12, 3) := by decide +kernel
theorem dX11_steps_55 : decode cX11_steps 55 = .ok (.aload_n 0, 1) := by decide +kernel
theorem dX11_steps_56 : decode cX11_steps 56 = .ok (.iload 6, 2) := by decide +kernel
theorem dX11_steps_58 : decode cX11_steps 58 = .ok (.invokevirtual 357, 3) := by decide +kernel
theorem dX11_steps_61 : decode cX11_steps 61 = .ok (.goto 4, 3) := by decide +kernel
theorem dX11_steps_64 : decode cX11_steps 64 = .ok (.iconst 0, 1) := by decide +kernel
theorem dX11_steps_65 : decode cX11_steps 65 = .ok (.ior, 1) := by decide +kernel
theorem dX11_steps_66 : decode cX11_steps 66 = .ok (.istore 5, 2) := by decide +kernel
theorem dX11_steps_68 : decode cX11_steps 68 = .ok (.iinc 6 1, 3) := by decide +kernel
theorem dX11_steps_71 : decode cX11_steps 71 = .ok (.goto (-36), 3) := by decide +kernel
theorem dX11_steps_74 : decode cX11_steps 74 = .ok (.iload 5, 2) := by decide +kernel
theorem dX11_steps_76 : decode cX11_steps 76 = .ok (.iload_n 3, 1) := by decide +kernel
theorem dX11_steps_77 : decode cX11_steps 77 = .ok (.if_icmp .ne 5, 3) := by decide +kernel
theorem dX11_steps_80 : decode cX11_steps 80 = .ok (.iconst (-1), 1) := by decide +kernel
theorem dX11_steps_81 : decode cX11_steps 81 = .ok (.ireturn, 1) := by decide +kernel
theorem dX11_steps_82 : decode cX11_steps 82 = .ok (.iload 5, 2) := by decide +kernel
theorem dX11_steps_84 : decode cX11_steps 84 = .ok (.istore_n 3, 1) := by decide +kernel
theorem dX11_steps_85 : decode cX11_steps 85 = .ok (.iinc 4 1, 3) := by decide +kernel
theorem dX11_steps_88 : decode cX11_steps 88 = .ok (.goto (-70), 3) := by decide +kernel
theorem dX11_laysEnds_0 : decode cX11_laysEnds 0 = .ok (.iconst 0, 1) := by decide +kernel
theorem dX11_laysEnds_1 : decode cX11_laysEnds 1 = .ok (.istore_n 1, 1) := by decide +kernel
theorem dX11_laysEnds_2 : decode cX11_laysEnds 2 = .ok (.iload_n 1, 1) := by decide +kernel
theorem dX11_laysEnds_3 : decode cX11_laysEnds 3 = .ok (.aload_n 0, 1) := by decide +kernel
theorem dX11_laysEnds_4 : decode cX11_laysEnds 4 = .ok (.invokevirtual 200, 3) := by decide +kernel
theorem dX11_laysEnds_7 : decode cX11_laysEnds 7 = .ok (.if_icmp .ge 69, 3) := by decide +kernel
theorem dX11_laysEnds_10 : decode cX11_laysEnds 10 = .ok (.aload_n 0, 1) := by decide +kernel
theorem dX11_laysEnds_11 : decode cX11_laysEnds 11 = .ok (.getfield 97, 3) := by decide +kernel
theorem dX11_laysEnds_14 : decode cX11_laysEnds 14 = .ok (.iconst 2, 1) := by decide +kernel
theorem dX11_laysEnds_15 : decode cX11_laysEnds 15 = .ok (.iload_n 1, 1) := by decide +kernel
theorem dX11_laysEnds_16 : decode cX11_laysEnds 16 = .ok (.imul, 1) := by decide +kernel
theorem dX11_laysEnds_17 : decode cX11_laysEnds 17 = .ok (.aload_n 0, 1) := by decide +kernel
theorem dX11_laysEnds_18 : decode cX11_laysEnds 18 = .ok (.iload_n 1, 1) := by decide +kernel
theorem dX11_laysEnds_19 : decode cX11_laysEnds 19 = .ok (.iconst 0, 1) := by decide +kernel
theorem dX11_laysEnds_20 : decode cX11_laysEnds 20 = .ok (.invokevirtual 127, 3) := by decide +kernel
theorem dX11_laysEnds_23 : decode cX11_laysEnds 23 = .ok (.iastore, 1) := by decide +kernel
theorem dX11_laysEnds_24 : decode cX11_laysEnds 24 = .ok (.aload_n 0, 1) := by decide +kernel
theorem dX11_laysEnds_25 : decode cX11_laysEnds 25 = .ok (.getfield 100, 3) := by decide +kernel
theorem dX11_laysEnds_28 : decode cX11_laysEnds 28 = .ok (.iconst 2, 1) := by decide +kernel
theorem dX11_laysEnds_29 : decode cX11_laysEnds 29 = .ok (.iload_n 1, 1) := by decide +kernel
theorem dX11_laysEnds_30 : decode cX11_laysEnds 30 = .ok (.imul, 1) := by decide +kernel
theorem dX11_laysEnds_31 : decode cX11_laysEnds 31 = .ok (.aload_n 0, 1) := by decide +kernel
theorem dX11_laysEnds_32 : decode cX11_laysEnds 32 = .ok (.iload_n 1, 1) := by decide +kernel
theorem dX11_laysEnds_33 : decode cX11_laysEnds 33 = .ok (.iconst 1, 1) := by decide +kernel
theorem dX11_laysEnds_34 : decode cX11_laysEnds 34 = .ok (.invokevirtual 127, 3) := by decide +kernel
theorem dX11_laysEnds_37 : decode cX11_laysEnds 37 = .ok (.iastore, 1) := by decide +kernel
theorem dX11_laysEnds_38 : decode cX11_laysEnds 38 = .ok (.aload_n 0, 1) := by decide +kernel
theorem dX11_laysEnds_39 : decode cX11_laysEnds 39 = .ok (.getfield 97, 3) := by decide +kernel
theorem dX11_laysEnds_42 : decode cX11_laysEnds 42 = .ok (.iconst 2, 1) := by decide +kernel
theorem dX11_laysEnds_43 : decode cX11_laysEnds 43 = .ok (.iload_n 1, 1) := by decide +kernel
theorem dX11_laysEnds_44 : decode cX11_laysEnds 44 = .ok (.imul, 1) := by decide +kernel
theorem dX11_laysEnds_45 : decode cX11_laysEnds 45 = .ok (.iconst 1, 1) := by decide +kernel
theorem dX11_laysEnds_46 : decode cX11_laysEnds 46 = .ok (.iadd, 1) := by decide +kernel
theorem dX11_laysEnds_47 : decode cX11_laysEnds 47 = .ok (.aload_n 0, 1) := by decide +kernel
theorem dX11_laysEnds_48 : decode cX11_laysEnds 48 = .ok (.iload_n 1, 1) := by decide +kernel
theorem dX11_laysEnds_49 : decode cX11_laysEnds 49 = .ok (.iconst 2, 1) := by decide +kernel
theorem dX11_laysEnds_50 : decode cX11_laysEnds 50 = .ok (.invokevirtual 127, 3) := by decide +kernel
theorem dX11_laysEnds_53 : decode cX11_laysEnds 53 = .ok (.iastore, 1) := by decide +kernel
theorem dX11_laysEnds_54 : decode cX11_laysEnds 54 = .ok (.aload_n 0, 1) := by decide +kernel
theorem dX11_laysEnds_55 : decode cX11_laysEnds 55 = .ok (.getfield 100, 3) := by decide +kernel
theorem dX11_laysEnds_58 : decode cX11_laysEnds 58 = .ok (.iconst 2, 1) := by decide +kernel
theorem dX11_laysEnds_59 : decode cX11_laysEnds 59 = .ok (.iload_n 1, 1) := by decide +kernel
theorem dX11_laysEnds_60 : decode cX11_laysEnds 60 = .ok (.imul, 1) := by decide +kernel
theorem dX11_laysEnds_61 : decode cX11_laysEnds 61 = .ok (.iconst 1, 1) := by decide +kernel
theorem dX11_laysEnds_62 : decode cX11_laysEnds 62 = .ok (.iadd, 1) := by decide +kernel
theorem dX11_laysEnds_63 : decode cX11_laysEnds 63 = .ok (.aload_n 0, 1) := by decide +kernel
theorem dX11_laysEnds_64 : decode cX11_laysEnds 64 = .ok (.iload_n 1, 1) := by decide +kernel
theorem dX11_laysEnds_65 : decode cX11_laysEnds 65 = .ok (.iconst 3, 1) := by decide +kernel
theorem dX11_laysEnds_66 : decode cX11_laysEnds 66 = .ok (.invokevirtual 127, 3) := by decide +kernel
theorem dX11_laysEnds_69 : decode cX11_laysEnds 69 = .ok (.iastore, 1) := by decide +kernel
theorem dX11_laysEnds_70 : decode cX11_laysEnds 70 = .ok (.iinc 1 1, 3) := by decide +kernel
theorem dX11_laysEnds_73 : decode cX11_laysEnds 73 = .ok (.goto (-71), 3) := by decide +kernel
theorem dX11_laysEnds_76 : decode cX11_laysEnds 76 = .ok (.return_, 1) := by decide +kernel
theorem dX11_isFurther_0 : decode cX11_isFurther 0 = .ok (.aload_n 0, 1) := by decide +kernel
theorem dX11_isFurther_1 : decode cX11_isFurther 1 = .ok (.getfield 97, 3) := by decide +kernel
theorem dX11_isFurther_4 : decode cX11_isFurther 4 = .ok (.iload_n 3, 1) := by decide +kernel
theorem dX11_isFurther_5 : decode cX11_isFurther 5 = .ok (.iaload, 1) := by decide +kernel
theorem dX11_isFurther_6 : decode cX11_isFurther 6 = .ok (.iload_n 1, 1) := by decide +kernel
theorem dX11_isFurther_7 : decode cX11_isFurther 7 = .ok (.isub, 1) := by decide +kernel
theorem dX11_isFurther_8 : decode cX11_isFurther 8 = .ok (.i2l, 1) := by decide +kernel
theorem dX11_isFurther_9 : decode cX11_isFurther 9 = .ok (.aload_n 0, 1) := by decide +kernel
theorem dX11_isFurther_10 : decode cX11_isFurther 10 = .ok (.getfield 100, 3) := by decide +kernel
theorem dX11_isFurther_13 : decode cX11_isFurther 13 = .ok (.iload 4, 2) := by decide +kernel
theorem dX11_isFurther_15 : decode cX11_isFurther 15 = .ok (.iaload, 1) := by decide +kernel
theorem dX11_isFurther_16 : decode cX11_isFurther 16 = .ok (.iload_n 2, 1) := by decide +kernel
theorem dX11_isFurther_17 : decode cX11_isFurther 17 = .ok (.isub, 1) := by decide +kernel
theorem dX11_isFurther_18 : decode cX11_isFurther 18 = .ok (.i2l, 1) := by decide +kernel
theorem dX11_isFurther_19 : decode cX11_isFurther 19 = .ok (.lmul, 1) := by decide +kernel
theorem dX11_isFurther_20 : decode cX11_isFurther 20 = .ok (.aload_n 0, 1) := by decide +kernel
theorem dX11_isFurther_21 : decode cX11_isFurther 21 = .ok (.getfield 100, 3) := by decide +kernel
theorem dX11_isFurther_24 : decode cX11_isFurther 24 = .ok (.iload_n 3, 1) := by decide +kernel
theorem dX11_isFurther_25 : decode cX11_isFurther 25 = .ok (.iaload, 1) := by decide +kernel
theorem dX11_isFurther_26 : decode cX11_isFurther 26 = .ok (.iload_n 2, 1) := by decide +kernel
theorem dX11_isFurther_27 : decode cX11_isFurther 27 = .ok (.isub, 1) := by decide +kernel
theorem dX11_isFurther_28 : decode cX11_isFurther 28 = .ok (.i2l, 1) := by decide +kernel
theorem dX11_isFurther_29 : decode cX11_isFurther 29 = .ok (.aload_n 0, 1) := by decide +kernel
theorem dX11_isFurther_30 : decode cX11_isFurther 30 = .ok (.getfield 97, 3) := by decide +kernel
theorem dX11_isFurther_33 : decode cX11_isFurther 33 = .ok (.iload 4, 2) := by decide +kernel
theorem dX11_isFurther_35 : decode cX11_isFurther 35 = .ok (.iaload, 1) := by decide +kernel
theorem dX11_isFurther_36 : decode cX11_isFurther 36 = .ok (.iload_n 1, 1) := by decide +kernel
theorem dX11_isFurther_37 : decode cX11_isFurther 37 = .ok (.isub, 1) := by decide +kernel
theorem dX11_isFurther_38 : decode cX11_isFurther 38 = .ok (.i2l, 1) := by decide +kernel
theorem dX11_isFurther_39 : decode cX11_isFurther 39 = .ok (.lmul, 1) := by decide +kernel
theorem dX11_isFurther_40 : decode cX11_isFurther 40 = .ok (.lsub, 1) := by decide +kernel
theorem dX11_isFurther_41 : decode cX11_isFurther 41 = .ok (.lstore 5, 2) := by decide +kernel
theorem dX11_isFurther_43 : decode cX11_isFurther 43 = .ok (.lload 5, 2) := by decide +kernel
theorem dX11_isFurther_45 : decode cX11_isFurther 45 = .ok (.lconst 0, 1) := by decide +kernel
theorem dX11_isFurther_46 : decode cX11_isFurther 46 = .ok (.lcmp, 1) := by decide +kernel
theorem dX11_isFurther_47 : decode cX11_isFurther 47 = .ok (.ifCond .eq 16, 3) := by decide +kernel
theorem dX11_isFurther_50 : decode cX11_isFurther 50 = .ok (.lload 5, 2) := by decide +kernel
theorem dX11_isFurther_52 : decode cX11_isFurther 52 = .ok (.lconst 0, 1) := by decide +kernel
theorem dX11_isFurther_53 : decode cX11_isFurther 53 = .ok (.lcmp, 1) := by decide +kernel
theorem dX11_isFurther_54 : decode cX11_isFurther 54 = .ok (.ifCond .ge 7, 3) := by decide +kernel
theorem dX11_isFurther_57 : decode cX11_isFurther 57 = .ok (.iconst 1, 1) := by decide +kernel
theorem dX11_isFurther_58 : decode cX11_isFurther 58 = .ok (.goto 4, 3) := by decide +kernel
theorem dX11_isFurther_61 : decode cX11_isFurther 61 = .ok (.iconst 0, 1) := by decide +kernel
theorem dX11_isFurther_62 : decode cX11_isFurther 62 = .ok (.ireturn, 1) := by decide +kernel
theorem dX11_isFurther_63 : decode cX11_isFurther 63 = .ok (.aload_n 0, 1) := by decide +kernel
theorem dX11_isFurther_64 : decode cX11_isFurther 64 = .ok (.getfield 97, 3) := by decide +kernel
theorem dX11_isFurther_67 : decode cX11_isFurther 67 = .ok (.iload 4, 2) := by decide +kernel
theorem dX11_isFurther_69 : decode cX11_isFurther 69 = .ok (.iaload, 1) := by decide +kernel
theorem dX11_isFurther_70 : decode cX11_isFurther 70 = .ok (.iload_n 1, 1) := by decide +kernel
theorem dX11_isFurther_71 : decode cX11_isFurther 71 = .ok (.isub, 1) := by decide +kernel
theorem dX11_isFurther_72 : decode cX11_isFurther 72 = .ok (.invokestatic 424, 3) := by decide +kernel
theorem dX11_isFurther_75 : decode cX11_isFurther 75 = .ok (.aload_n 0, 1) := by decide +kernel
theorem dX11_isFurther_76 : decode cX11_isFurther 76 = .ok (.getfield 100, 3) := by decide +kernel
theorem dX11_isFurther_79 : decode cX11_isFurther 79 = .ok (.iload 4, 2) := by decide +kernel
theorem dX11_isFurther_81 : decode cX11_isFurther 81 = .ok (.iaload, 1) := by decide +kernel
theorem dX11_isFurther_82 : decode cX11_isFurther 82 = .ok (.iload_n 2, 1) := by decide +kernel
theorem dX11_isFurther_83 : decode cX11_isFurther 83 = .ok (.isub, 1) := by decide +kernel
theorem dX11_isFurther_84 : decode cX11_isFurther 84 = .ok (.invokestatic 424, 3) := by decide +kernel
theorem dX11_isFurther_87 : decode cX11_isFurther 87 = .ok (.iadd, 1) := by decide +kernel
theorem dX11_isFurther_88 : decode cX11_isFurther 88 = .ok (.aload_n 0, 1) := by decide +kernel
theorem dX11_isFurther_89 : decode cX11_isFurther 89 = .ok (.getfield 97, 3) := by decide +kernel
theorem dX11_isFurther_92 : decode cX11_isFurther 92 = .ok (.iload_n 3, 1) := by decide +kernel
theorem dX11_isFurther_93 : decode cX11_isFurther 93 = .ok (.iaload, 1) := by decide +kernel
theorem dX11_isFurther_94 : decode cX11_isFurther 94 = .ok (.iload_n 1, 1) := by decide +kernel
theorem dX11_isFurther_95 : decode cX11_isFurther 95 = .ok (.isub, 1) := by decide +kernel
theorem dX11_isFurther_96 : decode cX11_isFurther 96 = .ok (.invokestatic 424, 3) := by decide +kernel
theorem dX11_isFurther_99 : decode cX11_isFurther 99 = .ok (.aload_n 0, 1) := by decide +kernel
theorem dX11_isFurther_100 : decode cX11_isFurther 100 = .ok (.getfield 100, 3) := by decide +kernel
theorem dX11_isFurther_103 : decode cX11_isFurther 103 = .ok (.iload_n 3, 1) := by decide +kernel
theorem dX11_isFurther_104 : decode cX11_isFurther 104 = .ok (.iaload, 1) := by decide +kernel
theorem dX11_isFurther_105 : decode cX11_isFurther 105 = .ok (.iload_n 2, 1) := by decide +kernel
theorem dX11_isFurther_106 : decode cX11_isFurther 106 = .ok (.isub, 1) := by decide +kernel
theorem dX11_isFurther_107 : decode cX11_isFurther 107 = .ok (.invokestatic 424, 3) := by decide +kernel
theorem dX11_isFurther_110 : decode cX11_isFurther 110 = .ok (.iadd, 1) := by decide +kernel
theorem dX11_isFurther_111 : decode cX11_isFurther 111 = .ok (.if_icmp .le 7, 3) := by decide +kernel
theorem dX11_isFurther_114 : decode cX11_isFurther 114 = .ok (.iconst 1, 1) := by decide +kernel
theorem dX11_isFurther_115 : decode cX11_isFurther 115 = .ok (.goto 4, 3) := by decide +kernel
theorem dX11_isFurther_118 : decode cX11_isFurther 118 = .ok (.iconst 0, 1) := by decide +kernel
theorem dX11_isFurther_119 : decode cX11_isFurther 119 = .ok (.ireturn, 1) := by decide +kernel
theorem dX11_laysHull_0 : decode cX11_laysHull 0 = .ok (.aload_n 0, 1) := by decide +kernel
theorem dX11_laysHull_1 : decode cX11_laysHull 1 = .ok (.invokevirtual 427, 3) := by decide +kernel
theorem dX11_laysHull_4 : decode cX11_laysHull 4 = .ok (.aload_n 0, 1) := by decide +kernel
theorem dX11_laysHull_5 : decode cX11_laysHull 5 = .ok (.invokevirtual 200, 3) := by decide +kernel
theorem dX11_laysHull_8 : decode cX11_laysHull 8 = .ok (.ifCond .ne 5, 3) := by decide +kernel
theorem dX11_laysHull_11 : decode cX11_laysHull 11 = .ok (.iconst 0, 1) := by decide +kernel
theorem dX11_laysHull_12 : decode cX11_laysHull 12 = .ok (.ireturn, 1) := by decide +kernel
theorem dX11_laysHull_13 : decode cX11_laysHull 13 = .ok (.iconst 0, 1) := by decide +kernel
theorem dX11_laysHull_14 : decode cX11_laysHull 14 = .ok (.istore_n 1, 1) := by decide +kernel
theorem dX11_laysHull_15 : decode cX11_laysHull 15 = .ok (.iconst 1, 1) := by decide +kernel
theorem dX11_laysHull_16 : decode cX11_laysHull 16 = .ok (.istore_n 2, 1) := by decide +kernel
theorem dX11_laysHull_17 : decode cX11_laysHull 17 = .ok (.iload_n 2, 1) := by decide +kernel
theorem dX11_laysHull_18 : decode cX11_laysHull 18 = .ok (.iconst 2, 1) := by decide +kernel
theorem dX11_laysHull_19 : decode cX11_laysHull 19 = .ok (.aload_n 0, 1) := by decide +kernel
theorem dX11_laysHull_20 : decode cX11_laysHull 20 = .ok (.invokevirtual 200, 3) := by decide +kernel
theorem dX11_laysHull_23 : decode cX11_laysHull 23 = .ok (.imul, 1) := by decide +kernel
theorem dX11_laysHull_24 : decode cX11_laysHull 24 = .ok (.if_icmp .ge 41, 3) := by decide +kernel
theorem dX11_laysHull_27 : decode cX11_laysHull 27 = .ok (.aload_n 0, 1) := by decide +kernel
theorem dX11_laysHull_28 : decode cX11_laysHull 28 = .ok (.getfield 97, 3) := by decide +kernel
theorem dX11_laysHull_31 : decode cX11_laysHull 31 = .ok (.iload_n 2, 1) := by decide +kernel
theorem dX11_laysHull_32 : decode cX11_laysHull 32 = .ok (.iaload, 1) := by decide +kernel
theorem dX11_laysHull_33 : decode cX11_laysHull 33 = .ok (.aload_n 0, 1) := by decide +kernel
theorem dX11_laysHull_34 : decode cX11_laysHull 34 = .ok (.getfield 100, 3) := by decide +kernel
theorem dX11_laysHull_37 : decode cX11_laysHull 37 = .ok (.iload_n 2, 1) := by decide +kernel
theorem dX11_laysHull_38 : decode cX11_laysHull 38 = .ok (.iaload, 1) := by decide +kernel
theorem dX11_laysHull_39 : decode cX11_laysHull 39 = .ok (.aload_n 0, 1) := by decide +kernel
theorem dX11_laysHull_40 : decode cX11_laysHull 40 = .ok (.getfield 97, 3) := by decide +kernel
theorem dX11_laysHull_43 : decode cX11_laysHull 43 = .ok (.iload_n 1, 1) := by decide +kernel
theorem dX11_laysHull_44 : decode cX11_laysHull 44 = .ok (.iaload, 1) := by decide +kernel
theorem dX11_laysHull_45 : decode cX11_laysHull 45 = .ok (.aload_n 0, 1) := by decide +kernel
theorem dX11_laysHull_46 : decode cX11_laysHull 46 = .ok (.getfield 100, 3) := by decide +kernel
theorem dX11_laysHull_49 : decode cX11_laysHull 49 = .ok (.iload_n 1, 1) := by decide +kernel
theorem dX11_laysHull_50 : decode cX11_laysHull 50 = .ok (.iaload, 1) := by decide +kernel
theorem dX11_laysHull_51 : decode cX11_laysHull 51 = .ok (.invokestatic 157, 3) := by decide +kernel
theorem dX11_laysHull_54 : decode cX11_laysHull 54 = .ok (.ifCond .eq 5, 3) := by decide +kernel
theorem dX11_laysHull_57 : decode cX11_laysHull 57 = .ok (.iload_n 2, 1) := by decide +kernel
theorem dX11_laysHull_58 : decode cX11_laysHull 58 = .ok (.istore_n 1, 1) := by decide +kernel
theorem dX11_laysHull_59 : decode cX11_laysHull 59 = .ok (.iinc 2 1, 3) := by decide +kernel
theorem dX11_laysHull_62 : decode cX11_laysHull 62 = .ok (.goto (-45), 3) := by decide +kernel
theorem dX11_laysHull_65 : decode cX11_laysHull 65 = .ok (.iconst 0, 1) := by decide +kernel
theorem dX11_laysHull_66 : decode cX11_laysHull 66 = .ok (.istore_n 2, 1) := by decide +kernel
theorem dX11_laysHull_67 : decode cX11_laysHull 67 = .ok (.iload_n 1, 1) := by decide +kernel
theorem dX11_laysHull_68 : decode cX11_laysHull 68 = .ok (.istore_n 3, 1) := by decide +kernel
theorem dX11_laysHull_69 : decode cX11_laysHull 69 = .ok (.aload_n 0, 1) := by decide +kernel
theorem dX11_laysHull_70 : decode cX11_laysHull 70 = .ok (.getfield 91, 3) := by decide +kernel
theorem dX11_laysHull_73 : decode cX11_laysHull 73 = .ok (.iload_n 2, 1) := by decide +kernel
theorem dX11_laysHull_74 : decode cX11_laysHull 74 = .ok (.aload_n 0, 1) := by decide +kernel
theorem dX11_laysHull_75 : decode cX11_laysHull 75 = .ok (.getfield 97, 3) := by decide +kernel
theorem dX11_laysHull_78 : decode cX11_laysHull 78 = .ok (.iload_n 3, 1) := by decide +kernel
theorem dX11_laysHull_79 : decode cX11_laysHull 79 = .ok (.iaload, 1) := by decide +kernel
theorem dX11_laysHull_80 : decode cX11_laysHull 80 = .ok (.iastore, 1) := by decide +kernel
theorem dX11_laysHull_81 : decode cX11_laysHull 81 = .ok (.aload_n 0, 1) := by decide +kernel
theorem dX11_laysHull_82 : decode cX11_laysHull 82 = .ok (.getfield 94, 3) := by decide +kernel
theorem dX11_laysHull_85 : decode cX11_laysHull 85 = .ok (.iload_n 2, 1) := by decide +kernel
theorem dX11_laysHull_86 : decode cX11_laysHull 86 = .ok (.aload_n 0, 1) := by decide +kernel
theorem dX11_laysHull_87 : decode cX11_laysHull 87 = .ok (.getfield 100, 3) := by decide +kernel
theorem dX11_laysHull_90 : decode cX11_laysHull 90 = .ok (.iload_n 3, 1) := by decide +kernel
theorem dX11_laysHull_91 : decode cX11_laysHull 91 = .ok (.iaload, 1) := by decide +kernel
theorem dX11_laysHull_92 : decode cX11_laysHull 92 = .ok (.iastore, 1) := by decide +kernel
theorem dX11_laysHull_93 : decode cX11_laysHull 93 = .ok (.iinc 2 1, 3) := by decide +kernel
theorem dX11_laysHull_96 : decode cX11_laysHull 96 = .ok (.iconst (-1), 1) := by decide +kernel
theorem dX11_laysHull_97 : decode cX11_laysHull 97 = .ok (.istore 4, 2) := by decide +kernel
theorem dX11_laysHull_99 : decode cX11_laysHull 99 = .ok (.iconst 0, 1) := by decide +kernel
theorem dX11_laysHull_100 : decode cX11_laysHull 100 = .ok (.istore 5, 2) := by decide +kernel
theorem dX11_laysHull_102 : decode cX11_laysHull 102 = .ok (.iload 5, 2) := by decide +kernel
theorem dX11_laysHull_104 : decode cX11_laysHull 104 = .ok (.iconst 2, 1) := by decide +kernel
theorem dX11_laysHull_105 : decode cX11_laysHull 105 = .ok (.aload_n 0, 1) := by decide +kernel
theorem dX11_laysHull_106 : decode cX11_laysHull 106 = .ok (.invokevirtual 200, 3) := by decide +kernel
theorem dX11_laysHull_109 : decode cX11_laysHull 109 = .ok (.imul, 1) := by decide +kernel
theorem dX11_laysHull_110 : decode cX11_laysHull 110 = .ok (.if_icmp .ge 77, 3) := by decide +kernel
theorem dX11_laysHull_113 : decode cX11_laysHull 113 = .ok (.aload_n 0, 1) := by decide +kernel
theorem dX11_laysHull_114 : decode cX11_laysHull 114 = .ok (.getfield 97, 3) := by decide +kernel
theorem dX11_laysHull_117 : decode cX11_laysHull 117 = .ok (.iload 5, 2) := by decide +kernel
theorem dX11_laysHull_119 : decode cX11_laysHull 119 = .ok (.iaload, 1) := by decide +kernel
theorem dX11_laysHull_120 : decode cX11_laysHull 120 = .ok (.aload_n 0, 1) := by decide +kernel
theorem dX11_laysHull_121 : decode cX11_laysHull 121 = .ok (.getfield 97, 3) := by decide +kernel
theorem dX11_laysHull_124 : decode cX11_laysHull 124 = .ok (.iload_n 3, 1) := by decide +kernel
theorem dX11_laysHull_125 : decode cX11_laysHull 125 = .ok (.iaload, 1) := by decide +kernel
theorem dX11_laysHull_126 : decode cX11_laysHull 126 = .ok (.if_icmp .ne 22, 3) := by decide +kernel
theorem dX11_laysHull_129 : decode cX11_laysHull 129 = .ok (.aload_n 0, 1) := by decide +kernel
theorem dX11_laysHull_130 : decode cX11_laysHull 130 = .ok (.getfield 100, 3) := by decide +kernel
theorem dX11_laysHull_133 : decode cX11_laysHull 133 = .ok (.iload 5, 2) := by decide +kernel
theorem dX11_laysHull_135 : decode cX11_laysHull 135 = .ok (.iaload, 1) := by decide +kernel
theorem dX11_laysHull_136 : decode cX11_laysHull 136 = .ok (.aload_n 0, 1) := by decide +kernel
theorem dX11_laysHull_137 : decode cX11_laysHull 137 = .ok (.getfield 100, 3) := by decide +kernel
theorem dX11_laysHull_140 : decode cX11_laysHull 140 = .ok (.iload_n 3, 1) := by decide +kernel
theorem dX11_laysHull_141 : decode cX11_laysHull 141 = .ok (.iaload, 1) := by decide +kernel
theorem dX11_laysHull_142 : decode cX11_laysHull 142 = .ok (.if_icmp .ne 6, 3) := by decide +kernel
theorem dX11_laysHull_145 : decode cX11_laysHull 145 = .ok (.goto 36, 3) := by decide +kernel
theorem dX11_laysHull_148 : decode cX11_laysHull 148 = .ok (.iload 4, 2) := by decide +kernel
theorem dX11_laysHull_150 : decode cX11_laysHull 150 = .ok (.iconst (-1), 1) := by decide +kernel
theorem dX11_laysHull_151 : decode cX11_laysHull 151 = .ok (.if_icmp .eq 26, 3) := by decide +kernel
theorem dX11_laysHull_154 : decode cX11_laysHull 154 = .ok (.aload_n 0, 1) := by decide +kernel
theorem dX11_laysHull_155 : decode cX11_laysHull 155 = .ok (.aload_n 0, 1) := by decide +kernel
theorem dX11_laysHull_156 : decode cX11_laysHull 156 = .ok (.getfield 97, 3) := by decide +kernel
theorem dX11_laysHull_159 : decode cX11_laysHull 159 = .ok (.iload_n 3, 1) := by decide +kernel
theorem dX11_laysHull_160 : decode cX11_laysHull 160 = .ok (.iaload, 1) := by decide +kernel
theorem dX11_laysHull_161 : decode cX11_laysHull 161 = .ok (.aload_n 0, 1) := by decide +kernel
theorem dX11_laysHull_162 : decode cX11_laysHull 162 = .ok (.getfield 100, 3) := by decide +kernel
theorem dX11_laysHull_165 : decode cX11_laysHull 165 = .ok (.iload_n 3, 1) := by decide +kernel
theorem dX11_laysHull_166 : decode cX11_laysHull 166 = .ok (.iaload, 1) := by decide +kernel
theorem dX11_laysHull_167 : decode cX11_laysHull 167 = .ok (.iload 4, 2) := by decide +kernel
theorem dX11_laysHull_169 : decode cX11_laysHull 169 = .ok (.iload 5, 2) := by decide +kernel
theorem dX11_laysHull_171 : decode cX11_laysHull 171 = .ok (.invokevirtual 430, 3) := by decide +kernel
theorem dX11_laysHull_174 : decode cX11_laysHull 174 = .ok (.ifCond .eq 7, 3) := by decide +kernel
theorem dX11_laysHull_177 : decode cX11_laysHull 177 = .ok (.iload 5, 2) := by decide +kernel
theorem dX11_laysHull_179 : decode cX11_laysHull 179 = .ok (.istore 4, 2) := by decide +kernel
theorem dX11_laysHull_181 : decode cX11_laysHull 181 = .ok (.iinc 5 1, 3) := by decide +kernel
theorem dX11_laysHull_184 : decode cX11_laysHull 184 = .ok (.goto (-82), 3) := by decide +kernel
theorem dX11_laysHull_187 : decode cX11_laysHull 187 = .ok (.iload 4, 2) := by decide +kernel
theorem dX11_laysHull_189 : decode cX11_laysHull 189 = .ok (.istore_n 3, 1) := by decide +kernel
theorem dX11_laysHull_190 : decode cX11_laysHull 190 = .ok (.iload_n 3, 1) := by decide +kernel
theorem dX11_laysHull_191 : decode cX11_laysHull 191 = .ok (.iconst (-1), 1) := by decide +kernel
theorem dX11_laysHull_192 : decode cX11_laysHull 192 = .ok (.if_icmp .eq 33, 3) := by decide +kernel
theorem dX11_laysHull_195 : decode cX11_laysHull 195 = .ok (.aload_n 0, 1) := by decide +kernel
theorem dX11_laysHull_196 : decode cX11_laysHull 196 = .ok (.getfield 97, 3) := by decide +kernel
theorem dX11_laysHull_199 : decode cX11_laysHull 199 = .ok (.iload_n 3, 1) := by decide +kernel
theorem dX11_laysHull_200 : decode cX11_laysHull 200 = .ok (.iaload, 1) := by decide +kernel
theorem dX11_laysHull_201 : decode cX11_laysHull 201 = .ok (.aload_n 0, 1) := by decide +kernel
theorem dX11_laysHull_202 : decode cX11_laysHull 202 = .ok (.getfield 97, 3) := by decide +kernel
theorem dX11_laysHull_205 : decode cX11_laysHull 205 = .ok (.iload_n 1, 1) := by decide +kernel
theorem dX11_laysHull_206 : decode cX11_laysHull 206 = .ok (.iaload, 1) := by decide +kernel
theorem dX11_laysHull_207 : decode cX11_laysHull 207 = .ok (.if_icmp .ne (-138), 3) := by decide +kernel
theorem dX11_laysHull_210 : decode cX11_laysHull 210 = .ok (.aload_n 0, 1) := by decide +kernel
theorem dX11_laysHull_211 : decode cX11_laysHull 211 = .ok (.getfield 100, 3) := by decide +kernel
theorem dX11_laysHull_214 : decode cX11_laysHull 214 = .ok (.iload_n 3, 1) := by decide +kernel
theorem dX11_laysHull_215 : decode cX11_laysHull 215 = .ok (.iaload, 1) := by decide +kernel
theorem dX11_laysHull_216 : decode cX11_laysHull 216 = .ok (.aload_n 0, 1) := by decide +kernel
theorem dX11_laysHull_217 : decode cX11_laysHull 217 = .ok (.getfield 100, 3) := by decide +kernel
theorem dX11_laysHull_220 : decode cX11_laysHull 220 = .ok (.iload_n 1, 1) := by decide +kernel
theorem dX11_laysHull_221 : decode cX11_laysHull 221 = .ok (.iaload, 1) := by decide +kernel
theorem dX11_laysHull_222 : decode cX11_laysHull 222 = .ok (.if_icmp .ne (-153), 3) := by decide +kernel
theorem dX11_laysHull_225 : decode cX11_laysHull 225 = .ok (.iload_n 2, 1) := by decide +kernel
theorem dX11_laysHull_226 : decode cX11_laysHull 226 = .ok (.ireturn, 1) := by decide +kernel
theorem dX11_hull_0 : decode cX11_hull 0 = .ok (.aload_n 0, 1) := by decide +kernel
theorem dX11_hull_1 : decode cX11_hull 1 = .ok (.iconst 0, 1) := by decide +kernel
theorem dX11_hull_2 : decode cX11_hull 2 = .ok (.putfield 3, 3) := by decide +kernel
theorem dX11_hull_5 : decode cX11_hull 5 = .ok (.aload_n 0, 1) := by decide +kernel
theorem dX11_hull_6 : decode cX11_hull 6 = .ok (.iload_n 1, 1) := by decide +kernel
theorem dX11_hull_7 : decode cX11_hull 7 = .ok (.i2l, 1) := by decide +kernel
theorem dX11_hull_8 : decode cX11_hull 8 = .ok (.lconst 0, 1) := by decide +kernel
theorem dX11_hull_9 : decode cX11_hull 9 = .ok (.aload_n 0, 1) := by decide +kernel
theorem dX11_hull_10 : decode cX11_hull 10 = .ok (.invokevirtual 433, 3) := by decide +kernel
theorem dX11_hull_13 : decode cX11_hull 13 = .ok (.iconst 1, 1) := by decide +kernel
theorem dX11_hull_14 : decode cX11_hull 14 = .ok (.isub, 1) := by decide +kernel
theorem dX11_hull_15 : decode cX11_hull 15 = .ok (.i2l, 1) := by decide +kernel
theorem dX11_hull_16 : decode cX11_hull 16 = .ok (.invokestatic 131, 3) := by decide +kernel
theorem dX11_hull_19 : decode cX11_hull 19 = .ok (.ifCond .ne 7, 3) := by decide +kernel
theorem dX11_hull_22 : decode cX11_hull 22 = .ok (.iconst 1, 1) := by decide +kernel
theorem dX11_hull_23 : decode cX11_hull 23 = .ok (.goto 4, 3) := by decide +kernel
theorem dX11_hull_26 : decode cX11_hull 26 = .ok (.iconst 0, 1) := by decide +kernel
theorem dX11_hull_27 : decode cX11_hull 27 = .ok (.iconst 1, 1) := by decide +kernel
theorem dX11_hull_28 : decode cX11_hull 28 = .ok (.invokevirtual 120, 3) := by decide +kernel
theorem dX11_hull_31 : decode cX11_hull 31 = .ok (.ifCond .eq 7, 3) := by decide +kernel
theorem dX11_hull_34 : decode cX11_hull 34 = .ok (.iconst 0, 1) := by decide +kernel
theorem dX11_hull_35 : decode cX11_hull 35 = .ok (.goto 22, 3) := by decide +kernel
theorem dX11_hull_38 : decode cX11_hull 38 = .ok (.iload_n 2, 1) := by decide +kernel
theorem dX11_hull_39 : decode cX11_hull 39 = .ok (.ifCond .eq 12, 3) := by decide +kernel
theorem dX11_hull_42 : decode cX11_hull 42 = .ok (.aload_n 0, 1) := by decide +kernel
theorem dX11_hull_43 : decode cX11_hull 43 = .ok (.getfield 94, 3) := by decide +kernel
theorem dX11_hull_46 : decode cX11_hull 46 = .ok (.iload_n 1, 1) := by decide +kernel
theorem dX11_hull_47 : decode cX11_hull 47 = .ok (.iaload, 1) := by decide +kernel
theorem dX11_hull_48 : decode cX11_hull 48 = .ok (.goto 9, 3) := by decide +kernel
theorem dX11_hull_51 : decode cX11_hull 51 = .ok (.aload_n 0, 1) := by decide +kernel
theorem dX11_hull_52 : decode cX11_hull 52 = .ok (.getfield 91, 3) := by decide +kernel
theorem dX11_hull_55 : decode cX11_hull 55 = .ok (.iload_n 1, 1) := by decide +kernel
theorem dX11_hull_56 : decode cX11_hull 56 = .ok (.iaload, 1) := by decide +kernel
theorem dX11_hull_57 : decode cX11_hull 57 = .ok (.ireturn, 1) := by decide +kernel
theorem dX11_on_0 : decode cX11_on 0 = .ok (.aload_n 0, 1) := by decide +kernel
theorem dX11_on_1 : decode cX11_on 1 = .ok (.iload_n 1, 1) := by decide +kernel
theorem dX11_on_2 : decode cX11_on 2 = .ok (.invokevirtual 351, 3) := by decide +kernel
theorem dX11_on_5 : decode cX11_on 5 = .ok (.ifCond .eq 5, 3) := by decide +kernel
theorem dX11_on_8 : decode cX11_on 8 = .ok (.iconst 0, 1) := by decide +kernel
theorem dX11_on_9 : decode cX11_on 9 = .ok (.ireturn, 1) := by decide +kernel
theorem dX11_on_10 : decode cX11_on 10 = .ok (.aload_n 0, 1) := by decide +kernel
theorem dX11_on_11 : decode cX11_on 11 = .ok (.invokevirtual 348, 3) := by decide +kernel
theorem dX11_on_14 : decode cX11_on 14 = .ok (.iload_n 2, 1) := by decide +kernel
theorem dX11_on_15 : decode cX11_on 15 = .ok (.istore_n 3, 1) := by decide +kernel
theorem dX11_on_16 : decode cX11_on 16 = .ok (.iconst 0, 1) := by decide +kernel
theorem dX11_on_17 : decode cX11_on 17 = .ok (.istore 4, 2) := by decide +kernel
theorem dX11_on_19 : decode cX11_on 19 = .ok (.iload 4, 2) := by decide +kernel
theorem dX11_on_21 : decode cX11_on 21 = .ok (.aload_n 0, 1) := by decide +kernel
theorem dX11_on_22 : decode cX11_on 22 = .ok (.getfield 193, 3) := by decide +kernel
theorem dX11_on_25 : decode cX11_on 25 = .ok (.if_icmp .ge 52, 3) := by decide +kernel
theorem dX11_on_28 : decode cX11_on 28 = .ok (.aload_n 0, 1) := by decide +kernel
theorem dX11_on_29 : decode cX11_on 29 = .ok (.getfield 48, 3) := by decide +kernel
theorem dX11_on_32 : decode cX11_on 32 = .ok (.iload 4, 2) := by decide +kernel
theorem dX11_on_34 : decode cX11_on 34 = .ok (.iaload, 1) := by decide +kernel
theorem dX11_on_35 : decode cX11_on 35 = .ok (.iload_n 1, 1) := by decide +kernel
theorem dX11_on_36 : decode cX11_on 36 = .ok (.invokestatic 220, 3) := by decide +kernel
theorem dX11_on_39 : decode cX11_on 39 = .ok (.ifCond .eq 32, 3) := by decide +kernel
theorem dX11_on_42 : decode cX11_on 42 = .ok (.aload_n 0, 1) := by decide +kernel
theorem dX11_on_43 : decode cX11_on 43 = .ok (.getfield 45, 3) := by decide +kernel
theorem dX11_on_46 : decode cX11_on 46 = .ok (.iload 4, 2) := by decide +kernel
theorem dX11_on_48 : decode cX11_on 48 = .ok (.iaload, 1) := by decide +kernel
theorem dX11_on_49 : decode cX11_on 49 = .ok (.iconst (-1), 1) := by decide +kernel
theorem dX11_on_50 : decode cX11_on 50 = .ok (.if_icmp .ne 6, 3) := by decide +kernel
theorem dX11_on_53 : decode cX11_on 53 = .ok (.goto 18, 3) := by decide +kernel
theorem dX11_on_56 : decode cX11_on 56 = .ok (.iload_n 3, 1) := by decide +kernel
theorem dX11_on_57 : decode cX11_on 57 = .ok (.ifCond .ne 11, 3) := by decide +kernel
theorem dX11_on_60 : decode cX11_on 60 = .ok (.aload_n 0, 1) := by decide +kernel
theorem dX11_on_61 : decode cX11_on 61 = .ok (.getfield 45, 3) := by decide +kernel
theorem dX11_on_64 : decode cX11_on 64 = .ok (.iload 4, 2) := by decide +kernel
theorem dX11_on_66 : decode cX11_on 66 = .ok (.iaload, 1) := by decide +kernel
theorem dX11_on_67 : decode cX11_on 67 = .ok (.ireturn, 1) := by decide +kernel
theorem dX11_on_68 : decode cX11_on 68 = .ok (.iinc 3 (-1), 3) := by decide +kernel
theorem dX11_on_71 : decode cX11_on 71 = .ok (.iinc 4 1, 3) := by decide +kernel
theorem dX11_on_74 : decode cX11_on 74 = .ok (.goto (-55), 3) := by decide +kernel
theorem dX11_on_77 : decode cX11_on 77 = .ok (.iconst (-1), 1) := by decide +kernel
theorem dX11_on_78 : decode cX11_on 78 = .ok (.ireturn, 1) := by decide +kernel
theorem dX11_noPlace_0 : decode cX11_noPlace 0 = .ok (.aload_n 0, 1) := by decide +kernel
theorem dX11_noPlace_1 : decode cX11_noPlace 1 = .ok (.iload_n 1, 1) := by decide +kernel
theorem dX11_noPlace_2 : decode cX11_noPlace 2 = .ok (.iload_n 2, 1) := by decide +kernel
theorem dX11_noPlace_3 : decode cX11_noPlace 3 = .ok (.invokestatic 342, 3) := by decide +kernel
theorem dX11_noPlace_6 : decode cX11_noPlace 6 = .ok (.ifCond .ne 7, 3) := by decide +kernel
theorem dX11_noPlace_9 : decode cX11_noPlace 9 = .ok (.iconst 1, 1) := by decide +kernel
theorem dX11_noPlace_10 : decode cX11_noPlace 10 = .ok (.goto 4, 3) := by decide +kernel
theorem dX11_noPlace_13 : decode cX11_noPlace 13 = .ok (.iconst 0, 1) := by decide +kernel
theorem dX11_noPlace_14 : decode cX11_noPlace 14 = .ok (.iconst 1, 1) := by decide +kernel
theorem dX11_noPlace_15 : decode cX11_noPlace 15 = .ok (.invokevirtual 120, 3) := by decide +kernel
theorem dX11_noPlace_18 : decode cX11_noPlace 18 = .ok (.ireturn, 1) := by decide +kernel
theorem dX11_whoHas_0 : decode cX11_whoHas 0 = .ok (.iconst 0, 1) := by decide +kernel
theorem dX11_whoHas_1 : decode cX11_whoHas 1 = .ok (.istore_n 3, 1) := by decide +kernel
theorem dX11_whoHas_2 : decode cX11_whoHas 2 = .ok (.iconst 0, 1) := by decide +kernel
theorem dX11_whoHas_3 : decode cX11_whoHas 3 = .ok (.istore 4, 2) := by decide +kernel
theorem dX11_whoHas_5 : decode cX11_whoHas 5 = .ok (.iload 4, 2) := by decide +kernel
theorem dX11_whoHas_7 : decode cX11_whoHas 7 = .ok (.aload_n 0, 1) := by decide +kernel
theorem dX11_whoHas_8 : decode cX11_whoHas 8 = .ok (.invokevirtual 200, 3) := by decide +kernel
theorem dX11_whoHas_11 : decode cX11_whoHas 11 = .ok (.if_icmp .ge 45, 3) := by decide +kernel
theorem dX11_whoHas_14 : decode cX11_whoHas 14 = .ok (.aload_n 0, 1) := by decide +kernel
theorem dX11_whoHas_15 : decode cX11_whoHas 15 = .ok (.aload_n 0, 1) := by decide +kernel
theorem dX11_whoHas_16 : decode cX11_whoHas 16 = .ok (.getfield 26, 3) := by decide +kernel
theorem dX11_whoHas_19 : decode cX11_whoHas 19 = .ok (.iload 4, 2) := by decide +kernel
theorem dX11_whoHas_21 : decode cX11_whoHas 21 = .ok (.invokevirtual 179, 3) := by decide +kernel
theorem dX11_whoHas_24 : decode cX11_whoHas 24 = .ok (.iload_n 3, 1) := by decide +kernel
theorem dX11_whoHas_25 : decode cX11_whoHas 25 = .ok (.aload_n 0, 1) := by decide +kernel
theorem dX11_whoHas_26 : decode cX11_whoHas 26 = .ok (.getfield 26, 3) := by decide +kernel
theorem dX11_whoHas_29 : decode cX11_whoHas 29 = .ok (.iload_n 1, 1) := by decide +kernel
theorem dX11_whoHas_30 : decode cX11_whoHas 30 = .ok (.i2l, 1) := by decide +kernel
theorem dX11_whoHas_31 : decode cX11_whoHas 31 = .ok (.iload_n 2, 1) := by decide +kernel
theorem dX11_whoHas_32 : decode cX11_whoHas 32 = .ok (.i2l, 1) := by decide +kernel
theorem dX11_whoHas_33 : decode cX11_whoHas 33 = .ok (.lconst 1, 1) := by decide +kernel
theorem dX11_whoHas_34 : decode cX11_whoHas 34 = .ok (.invokestatic 169, 3) := by decide +kernel
theorem dX11_whoHas_37 : decode cX11_whoHas 37 = .ok (.ifCond .eq 10, 3) := by decide +kernel
theorem dX11_whoHas_40 : decode cX11_whoHas 40 = .ok (.iconst 1, 1) := by decide +kernel
theorem dX11_whoHas_41 : decode cX11_whoHas 41 = .ok (.iload 4, 2) := by decide +kernel
theorem dX11_whoHas_43 : decode cX11_whoHas 43 = .ok (.ishl, 1) := by decide +kernel
theorem dX11_whoHas_44 : decode cX11_whoHas 44 = .ok (.goto 4, 3) := by decide +kernel
theorem dX11_whoHas_47 : decode cX11_whoHas 47 = .ok (.iconst 0, 1) := by decide +kernel
theorem dX11_whoHas_48 : decode cX11_whoHas 48 = .ok (.ior, 1) := by decide +kernel
theorem dX11_whoHas_49 : decode cX11_whoHas 49 = .ok (.istore_n 3, 1) := by decide +kernel
theorem dX11_whoHas_50 : decode cX11_whoHas 50 = .ok (.iinc 4 1, 3) := by decide +kernel
theorem dX11_whoHas_53 : decode cX11_whoHas 53 = .ok (.goto (-48), 3) := by decide +kernel
theorem dX11_whoHas_56 : decode cX11_whoHas 56 = .ok (.iload_n 3, 1) := by decide +kernel
theorem dX11_whoHas_57 : decode cX11_whoHas 57 = .ok (.ireturn, 1) := by decide +kernel
theorem dX11_at_0 : decode cX11_at 0 = .ok (.aload_n 0, 1) := by decide +kernel
theorem dX11_at_1 : decode cX11_at 1 = .ok (.iconst 0, 1) := by decide +kernel
theorem dX11_at_2 : decode cX11_at 2 = .ok (.putfield 3, 3) := by decide +kernel
theorem dX11_at_5 : decode cX11_at 5 = .ok (.aload_n 0, 1) := by decide +kernel
theorem dX11_at_6 : decode cX11_at 6 = .ok (.iload_n 1, 1) := by decide +kernel
theorem dX11_at_7 : decode cX11_at 7 = .ok (.iload_n 2, 1) := by decide +kernel
theorem dX11_at_8 : decode cX11_at 8 = .ok (.invokevirtual 436, 3) := by decide +kernel
theorem dX11_at_11 : decode cX11_at 11 = .ok (.ifCond .eq 7, 3) := by decide +kernel
theorem dX11_at_14 : decode cX11_at 14 = .ok (.iconst 0, 1) := by decide +kernel
theorem dX11_at_15 : decode cX11_at 15 = .ok (.goto 9, 3) := by decide +kernel
theorem dX11_at_18 : decode cX11_at 18 = .ok (.aload_n 0, 1) := by decide +kernel
theorem dX11_at_19 : decode cX11_at 19 = .ok (.iload_n 1, 1) := by decide +kernel
theorem dX11_at_20 : decode cX11_at 20 = .ok (.iload_n 2, 1) := by decide +kernel
theorem dX11_at_21 : decode cX11_at 21 = .ok (.invokevirtual 439, 3) := by decide +kernel
theorem dX11_at_24 : decode cX11_at 24 = .ok (.ireturn, 1) := by decide +kernel
theorem dX11_hasHeight_0 : decode cX11_hasHeight 0 = .ok (.iload_n 2, 1) := by decide +kernel
theorem dX11_hasHeight_1 : decode cX11_hasHeight 1 = .ok (.i2l, 1) := by decide +kernel
theorem dX11_hasHeight_2 : decode cX11_hasHeight 2 = .ok (.aload_n 0, 1) := by decide +kernel
theorem dX11_hasHeight_3 : decode cX11_hasHeight 3 = .ok (.iload_n 1, 1) := by decide +kernel
theorem dX11_hasHeight_4 : decode cX11_hasHeight 4 = .ok (.iconst 0, 1) := by decide +kernel
theorem dX11_hasHeight_5 : decode cX11_hasHeight 5 = .ok (.invokevirtual 127, 3) := by decide +kernel
theorem dX11_hasHeight_8 : decode cX11_hasHeight 8 = .ok (.i2l, 1) := by decide +kernel
theorem dX11_hasHeight_9 : decode cX11_hasHeight 9 = .ok (.aload_n 0, 1) := by decide +kernel
theorem dX11_hasHeight_10 : decode cX11_hasHeight 10 = .ok (.iload_n 1, 1) := by decide +kernel
theorem dX11_hasHeight_11 : decode cX11_hasHeight 11 = .ok (.iconst 2, 1) := by decide +kernel
theorem dX11_hasHeight_12 : decode cX11_hasHeight 12 = .ok (.invokevirtual 127, 3) := by decide +kernel
theorem dX11_hasHeight_15 : decode cX11_hasHeight 15 = .ok (.i2l, 1) := by decide +kernel
theorem dX11_hasHeight_16 : decode cX11_hasHeight 16 = .ok (.invokestatic 131, 3) := by decide +kernel
theorem dX11_hasHeight_19 : decode cX11_hasHeight 19 = .ok (.ifCond .ne 5, 3) := by decide +kernel
theorem dX11_hasHeight_22 : decode cX11_hasHeight 22 = .ok (.iconst 0, 1) := by decide +kernel
theorem dX11_hasHeight_23 : decode cX11_hasHeight 23 = .ok (.ireturn, 1) := by decide +kernel
theorem dX11_hasHeight_24 : decode cX11_hasHeight 24 = .ok (.aload_n 0, 1) := by decide +kernel
theorem dX11_hasHeight_25 : decode cX11_hasHeight 25 = .ok (.iload_n 1, 1) := by decide +kernel
theorem dX11_hasHeight_26 : decode cX11_hasHeight 26 = .ok (.iconst 2, 1) := by decide +kernel
theorem dX11_hasHeight_27 : decode cX11_hasHeight 27 = .ok (.invokevirtual 127, 3) := by decide +kernel
theorem dX11_hasHeight_30 : decode cX11_hasHeight 30 = .ok (.aload_n 0, 1) := by decide +kernel
theorem dX11_hasHeight_31 : decode cX11_hasHeight 31 = .ok (.iload_n 1, 1) := by decide +kernel
theorem dX11_hasHeight_32 : decode cX11_hasHeight 32 = .ok (.iconst 0, 1) := by decide +kernel
theorem dX11_hasHeight_33 : decode cX11_hasHeight 33 = .ok (.invokevirtual 127, 3) := by decide +kernel
theorem dX11_hasHeight_36 : decode cX11_hasHeight 36 = .ok (.isub, 1) := by decide +kernel
theorem dX11_hasHeight_37 : decode cX11_hasHeight 37 = .ok (.i2l, 1) := by decide +kernel
theorem dX11_hasHeight_38 : decode cX11_hasHeight 38 = .ok (.lstore 4, 2) := by decide +kernel
theorem dX11_hasHeight_40 : decode cX11_hasHeight 40 = .ok (.aload_n 0, 1) := by decide +kernel
theorem dX11_hasHeight_41 : decode cX11_hasHeight 41 = .ok (.lload 4, 2) := by decide +kernel
theorem dX11_hasHeight_43 : decode cX11_hasHeight 43 = .ok (.lconst 0, 1) := by decide +kernel
theorem dX11_hasHeight_44 : decode cX11_hasHeight 44 = .ok (.lcmp, 1) := by decide +kernel
theorem dX11_hasHeight_45 : decode cX11_hasHeight 45 = .ok (.ifCond .ne 7, 3) := by decide +kernel
theorem dX11_hasHeight_48 : decode cX11_hasHeight 48 = .ok (.lconst 1, 1) := by decide +kernel
theorem dX11_hasHeight_49 : decode cX11_hasHeight 49 = .ok (.goto 5, 3) := by decide +kernel
theorem dX11_hasHeight_52 : decode cX11_hasHeight 52 = .ok (.lload 4, 2) := by decide +kernel
theorem dX11_hasHeight_54 : decode cX11_hasHeight 54 = .ok (.putfield 442, 3) := by decide +kernel
theorem dX11_hasHeight_57 : decode cX11_hasHeight 57 = .ok (.aload_n 0, 1) := by decide +kernel
theorem dX11_hasHeight_58 : decode cX11_hasHeight 58 = .ok (.lload 4, 2) := by decide +kernel
theorem dX11_hasHeight_60 : decode cX11_hasHeight 60 = .ok (.lconst 0, 1) := by decide +kernel
theorem dX11_hasHeight_61 : decode cX11_hasHeight 61 = .ok (.lcmp, 1) := by decide +kernel
theorem dX11_hasHeight_62 : decode cX11_hasHeight 62 = .ok (.ifCond .ne 21, 3) := by decide +kernel
theorem dX11_hasHeight_65 : decode cX11_hasHeight 65 = .ok (.aload_n 0, 1) := by decide +kernel
theorem dX11_hasHeight_66 : decode cX11_hasHeight 66 = .ok (.iload_n 1, 1) := by decide +kernel
theorem dX11_hasHeight_67 : decode cX11_hasHeight 67 = .ok (.iload_n 3, 1) := by decide +kernel
theorem dX11_hasHeight_68 : decode cX11_hasHeight 68 = .ok (.ifCond .eq 7, 3) := by decide +kernel
theorem dX11_hasHeight_71 : decode cX11_hasHeight 71 = .ok (.iconst 1, 1) := by decide +kernel
theorem dX11_hasHeight_72 : decode cX11_hasHeight 72 = .ok (.goto 4, 3) := by decide +kernel
theorem dX11_hasHeight_75 : decode cX11_hasHeight 75 = .ok (.iconst 3, 1) := by decide +kernel
theorem dX11_hasHeight_76 : decode cX11_hasHeight 76 = .ok (.invokevirtual 127, 3) := by decide +kernel
theorem dX11_hasHeight_79 : decode cX11_hasHeight 79 = .ok (.i2l, 1) := by decide +kernel
theorem dX11_hasHeight_80 : decode cX11_hasHeight 80 = .ok (.goto 38, 3) := by decide +kernel
theorem dX11_hasHeight_83 : decode cX11_hasHeight 83 = .ok (.aload_n 0, 1) := by decide +kernel
theorem dX11_hasHeight_84 : decode cX11_hasHeight 84 = .ok (.iload_n 1, 1) := by decide +kernel
theorem dX11_hasHeight_85 : decode cX11_hasHeight 85 = .ok (.iconst 1, 1) := by decide +kernel
theorem dX11_hasHeight_86 : decode cX11_hasHeight 86 = .ok (.invokevirtual 127, 3) := by decide +kernel
theorem dX11_hasHeight_89 : decode cX11_hasHeight 89 = .ok (.i2l, 1) := by decide +kernel
theorem dX11_hasHeight_90 : decode cX11_hasHeight 90 = .ok (.lload 4, 2) := by decide +kernel
theorem dX11_hasHeight_92 : decode cX11_hasHeight 92 = .ok (.lmul, 1) := by decide +kernel
theorem dX11_hasHeight_93 : decode cX11_hasHeight 93 = .ok (.aload_n 0, 1) := by decide +kernel
theorem dX11_hasHeight_94 : decode cX11_hasHeight 94 = .ok (.iload_n 1, 1) := by decide +kernel
theorem dX11_hasHeight_95 : decode cX11_hasHeight 95 = .ok (.iconst 3, 1) := by decide +kernel
theorem dX11_hasHeight_96 : decode cX11_hasHeight 96 = .ok (.invokevirtual 127, 3) := by decide +kernel
theorem dX11_hasHeight_99 : decode cX11_hasHeight 99 = .ok (.aload_n 0, 1) := by decide +kernel
theorem dX11_hasHeight_100 : decode cX11_hasHeight 100 = .ok (.iload_n 1, 1) := by decide +kernel
theorem dX11_hasHeight_101 : decode cX11_hasHeight 101 = .ok (.iconst 1, 1) := by decide +kernel
theorem dX11_hasHeight_102 : decode cX11_hasHeight 102 = .ok (.invokevirtual 127, 3) := by decide +kernel
theorem dX11_hasHeight_105 : decode cX11_hasHeight 105 = .ok (.isub, 1) := by decide +kernel
theorem dX11_hasHeight_106 : decode cX11_hasHeight 106 = .ok (.i2l, 1) := by decide +kernel
theorem dX11_hasHeight_107 : decode cX11_hasHeight 107 = .ok (.iload_n 2, 1) := by decide +kernel
theorem dX11_hasHeight_108 : decode cX11_hasHeight 108 = .ok (.aload_n 0, 1) := by decide +kernel
theorem dX11_hasHeight_109 : decode cX11_hasHeight 109 = .ok (.iload_n 1, 1) := by decide +kernel
theorem dX11_hasHeight_110 : decode cX11_hasHeight 110 = .ok (.iconst 0, 1) := by decide +kernel
theorem dX11_hasHeight_111 : decode cX11_hasHeight 111 = .ok (.invokevirtual 127, 3) := by decide +kernel
theorem dX11_hasHeight_114 : decode cX11_hasHeight 114 = .ok (.isub, 1) := by decide +kernel
theorem dX11_hasHeight_115 : decode cX11_hasHeight 115 = .ok (.i2l, 1) := by decide +kernel
theorem dX11_hasHeight_116 : decode cX11_hasHeight 116 = .ok (.lmul, 1) := by decide +kernel
theorem dX11_hasHeight_117 : decode cX11_hasHeight 117 = .ok (.ladd, 1) := by decide +kernel
theorem dX11_hasHeight_118 : decode cX11_hasHeight 118 = .ok (.putfield 445, 3) := by decide +kernel
theorem dX11_hasHeight_121 : decode cX11_hasHeight 121 = .ok (.iconst 1, 1) := by decide +kernel
theorem dX11_hasHeight_122 : decode cX11_hasHeight 122 = .ok (.ireturn, 1) := by decide +kernel
theorem dX11_next_0 : decode cX11_next 0 = .ok (.aload_n 0, 1) := by decide +kernel
theorem dX11_next_1 : decode cX11_next 1 = .ok (.iconst 0, 1) := by decide +kernel
theorem dX11_next_2 : decode cX11_next 2 = .ok (.putfield 3, 3) := by decide +kernel
theorem dX11_next_5 : decode cX11_next 5 = .ok (.aload_n 0, 1) := by decide +kernel
theorem dX11_next_6 : decode cX11_next 6 = .ok (.iload_n 1, 1) := by decide +kernel
theorem dX11_next_7 : decode cX11_next 7 = .ok (.iload_n 2, 1) := by decide +kernel
theorem dX11_next_8 : decode cX11_next 8 = .ok (.invokevirtual 436, 3) := by decide +kernel
theorem dX11_next_11 : decode cX11_next 11 = .ok (.ifCond .eq 5, 3) := by decide +kernel
theorem dX11_next_14 : decode cX11_next 14 = .ok (.iconst 0, 1) := by decide +kernel
theorem dX11_next_15 : decode cX11_next 15 = .ok (.ireturn, 1) := by decide +kernel
theorem dX11_next_16 : decode cX11_next 16 = .ok (.aload_n 0, 1) := by decide +kernel
theorem dX11_next_17 : decode cX11_next 17 = .ok (.iload_n 1, 1) := by decide +kernel
theorem dX11_next_18 : decode cX11_next 18 = .ok (.iload_n 2, 1) := by decide +kernel
theorem dX11_next_19 : decode cX11_next 19 = .ok (.invokevirtual 439, 3) := by decide +kernel
theorem dX11_next_22 : decode cX11_next 22 = .ok (.istore 4, 2) := by decide +kernel
theorem dX11_next_24 : decode cX11_next 24 = .ok (.iconst (-1), 1) := by decide +kernel
theorem dX11_next_25 : decode cX11_next 25 = .ok (.istore 5, 2) := by decide +kernel
theorem dX11_next_27 : decode cX11_next 27 = .ok (.lconst 0, 1) := by decide +kernel
theorem dX11_next_28 : decode cX11_next 28 = .ok (.lstore 6, 2) := by decide +kernel
theorem dX11_next_30 : decode cX11_next 30 = .ok (.lconst 1, 1) := by decide +kernel
theorem dX11_next_31 : decode cX11_next 31 = .ok (.lstore 8, 2) := by decide +kernel
theorem dX11_next_33 : decode cX11_next 33 = .ok (.iconst 0, 1) := by decide +kernel
theorem dX11_next_34 : decode cX11_next 34 = .ok (.istore 10, 2) := by decide +kernel
theorem dX11_next_36 : decode cX11_next 36 = .ok (.iload 10, 2) := by decide +kernel
theorem dX11_next_38 : decode cX11_next 38 = .ok (.aload_n 0, 1) := by decide +kernel
theorem dX11_next_39 : decode cX11_next 39 = .ok (.invokevirtual 200, 3) := by decide +kernel
theorem dX11_next_42 : decode cX11_next 42 = .ok (.if_icmp .ge 112, 3) := by decide +kernel
theorem dX11_next_45 : decode cX11_next 45 = .ok (.iload 4, 2) := by decide +kernel
theorem dX11_next_47 : decode cX11_next 47 = .ok (.iload 10, 2) := by decide +kernel
theorem dX11_next_49 : decode cX11_next 49 = .ok (.invokestatic 220, 3) := by decide +kernel
theorem dX11_next_52 : decode cX11_next 52 = .ok (.ifCond .ne 96, 3) := by decide +kernel
theorem dX11_next_55 : decode cX11_next 55 = .ok (.aload_n 0, 1) := by decide +kernel
theorem dX11_next_56 : decode cX11_next 56 = .ok (.iload 10, 2) := by decide +kernel
theorem dX11_next_58 : decode cX11_next 58 = .ok (.iload_n 1, 1) := by decide +kernel
theorem dX11_next_59 : decode cX11_next 59 = .ok (.iload_n 3, 1) := by decide +kernel
theorem dX11_next_60 : decode cX11_next 60 = .ok (.invokevirtual 448, 3) := by decide +kernel
theorem dX11_next_63 : decode cX11_next 63 = .ok (.ifCond .ne 6, 3) := by decide +kernel
theorem dX11_next_66 : decode cX11_next 66 = .ok (.goto 82, 3) := by decide +kernel
theorem dX11_next_69 : decode cX11_next 69 = .ok (.iload_n 3, 1) := by decide +kernel
theorem dX11_next_70 : decode cX11_next 70 = .ok (.ifCond .eq 18, 3) := by decide +kernel
theorem dX11_next_73 : decode cX11_next 73 = .ok (.aload_n 0, 1) := by decide +kernel
theorem dX11_next_74 : decode cX11_next 74 = .ok (.getfield 445, 3) := by decide +kernel
theorem dX11_next_77 : decode cX11_next 77 = .ok (.iload_n 2, 1) := by decide +kernel
theorem dX11_next_78 : decode cX11_next 78 = .ok (.i2l, 1) := by decide +kernel
theorem dX11_next_79 : decode cX11_next 79 = .ok (.aload_n 0, 1) := by decide +kernel
theorem dX11_next_80 : decode cX11_next 80 = .ok (.getfield 442, 3) := by decide +kernel
theorem dX11_next_83 : decode cX11_next 83 = .ok (.lmul, 1) := by decide +kernel
theorem dX11_next_84 : decode cX11_next 84 = .ok (.lsub, 1) := by decide +kernel
theorem dX11_next_85 : decode cX11_next 85 = .ok (.goto 15, 3) := by decide +kernel
theorem dX11_next_88 : decode cX11_next 88 = .ok (.iload_n 2, 1) := by decide +kernel
theorem dX11_next_89 : decode cX11_next 89 = .ok (.i2l, 1) := by decide +kernel
theorem dX11_next_90 : decode cX11_next 90 = .ok (.aload_n 0, 1) := by decide +kernel
theorem dX11_next_91 : decode cX11_next 91 = .ok (.getfield 442, 3) := by decide +kernel
theorem dX11_next_94 : decode cX11_next 94 = .ok (.lmul, 1) := by decide +kernel
theorem dX11_next_95 : decode cX11_next 95 = .ok (.aload_n 0, 1) := by decide +kernel
theorem dX11_next_96 : decode cX11_next 96 = .ok (.getfield 445, 3) := by decide +kernel
theorem dX11_next_99 : decode cX11_next 99 = .ok (.lsub, 1) := by decide +kernel
theorem dX11_next_100 : decode cX11_next 100 = .ok (.lstore 11, 2) := by decide +kernel
theorem dX11_next_102 : decode cX11_next 102 = .ok (.lload 11, 2) := by decide +kernel
theorem dX11_next_104 : decode cX11_next 104 = .ok (.lconst 0, 1) := by decide +kernel
theorem dX11_next_105 : decode cX11_next 105 = .ok (.lcmp, 1) := by decide +kernel
theorem dX11_next_106 : decode cX11_next 106 = .ok (.ifCond .le 42, 3) := by decide +kernel
theorem dX11_next_109 : decode cX11_next 109 = .ok (.iload 5, 2) := by decide +kernel
theorem dX11_next_111 : decode cX11_next 111 = .ok (.iconst (-1), 1) := by decide +kernel
theorem dX11_next_112 : decode cX11_next 112 = .ok (.if_icmp .eq 22, 3) := by decide +kernel
theorem dX11_next_115 : decode cX11_next 115 = .ok (.lload 11, 2) := by decide +kernel
theorem dX11_next_117 : decode cX11_next 117 = .ok (.lload 8, 2) := by decide +kernel
theorem dX11_next_119 : decode cX11_next 119 = .ok (.lmul, 1) := by decide +kernel
theorem dX11_next_120 : decode cX11_next 120 = .ok (.lload 6, 2) := by decide +kernel
theorem dX11_next_122 : decode cX11_next 122 = .ok (.aload_n 0, 1) := by decide +kernel
theorem dX11_next_123 : decode cX11_next 123 = .ok (.getfield 442, 3) := by decide +kernel
theorem dX11_next_126 : decode cX11_next 126 = .ok (.lmul, 1) := by decide +kernel
theorem dX11_next_127 : decode cX11_next 127 = .ok (.lcmp, 1) := by decide +kernel
theorem dX11_next_128 : decode cX11_next 128 = .ok (.ifCond .lt 6, 3) := by decide +kernel
theorem dX11_next_131 : decode cX11_next 131 = .ok (.goto 17, 3) := by decide +kernel
theorem dX11_next_134 : decode cX11_next 134 = .ok (.iload 10, 2) := by decide +kernel
theorem dX11_next_136 : decode cX11_next 136 = .ok (.istore 5, 2) := by decide +kernel
theorem dX11_next_138 : decode cX11_next 138 = .ok (.lload 11, 2) := by decide +kernel
theorem dX11_next_140 : decode cX11_next 140 = .ok (.lstore 6, 2) := by decide +kernel
theorem dX11_next_142 : decode cX11_next 142 = .ok (.aload_n 0, 1) := by decide +kernel
theorem dX11_next_143 : decode cX11_next 143 = .ok (.getfield 442, 3) := by decide +kernel
theorem dX11_next_146 : decode cX11_next 146 = .ok (.lstore 8, 2) := by decide +kernel
theorem dX11_next_148 : decode cX11_next 148 = .ok (.iinc 10 1, 3) := by decide +kernel
theorem dX11_next_151 : decode cX11_next 151 = .ok (.goto (-115), 3) := by decide +kernel
theorem dX11_next_154 : decode cX11_next 154 = .ok (.iload 5, 2) := by decide +kernel
theorem dX11_next_156 : decode cX11_next 156 = .ok (.ireturn, 1) := by decide +kernel
theorem dX11_over_0 : decode cX11_over 0 = .ok (.aload_n 0, 1) := by decide +kernel
theorem dX11_over_1 : decode cX11_over 1 = .ok (.iconst 0, 1) := by decide +kernel
theorem dX11_over_2 : decode cX11_over 2 = .ok (.putfield 3, 3) := by decide +kernel
theorem dX11_over_5 : decode cX11_over 5 = .ok (.aload_n 0, 1) := by decide +kernel
theorem dX11_over_6 : decode cX11_over 6 = .ok (.iload_n 1, 1) := by decide +kernel
theorem dX11_over_7 : decode cX11_over 7 = .ok (.iload_n 2, 1) := by decide +kernel
theorem dX11_over_8 : decode cX11_over 8 = .ok (.invokevirtual 436, 3) := by decide +kernel
theorem dX11_over_11 : decode cX11_over 11 = .ok (.ifCond .eq 5, 3) := by decide +kernel
theorem dX11_over_14 : decode cX11_over 14 = .ok (.iconst 0, 1) := by decide +kernel
theorem dX11_over_15 : decode cX11_over 15 = .ok (.ireturn, 1) := by decide +kernel
theorem dX11_over_16 : decode cX11_over 16 = .ok (.iconst 0, 1) := by decide +kernel
theorem dX11_over_17 : decode cX11_over 17 = .ok (.istore_n 3, 1) := by decide +kernel
theorem dX11_over_18 : decode cX11_over 18 = .ok (.iconst 0, 1) := by decide +kernel
theorem dX11_over_19 : decode cX11_over 19 = .ok (.istore 4, 2) := by decide +kernel
theorem dX11_over_21 : decode cX11_over 21 = .ok (.iload 4, 2) := by decide +kernel
theorem dX11_over_23 : decode cX11_over 23 = .ok (.aload_n 0, 1) := by decide +kernel
theorem dX11_over_24 : decode cX11_over 24 = .ok (.invokevirtual 200, 3) := by decide +kernel
theorem dX11_over_27 : decode cX11_over 27 = .ok (.if_icmp .ge 63, 3) := by decide +kernel
theorem dX11_over_30 : decode cX11_over 30 = .ok (.iload_n 3, 1) := by decide +kernel
theorem dX11_over_31 : decode cX11_over 31 = .ok (.aload_n 0, 1) := by decide +kernel
theorem dX11_over_32 : decode cX11_over 32 = .ok (.iload 4, 2) := by decide +kernel
theorem dX11_over_34 : decode cX11_over 34 = .ok (.invokevirtual 226, 3) := by decide +kernel
theorem dX11_over_37 : decode cX11_over 37 = .ok (.ifCond .ne 44, 3) := by decide +kernel
theorem dX11_over_40 : decode cX11_over 40 = .ok (.iload_n 1, 1) := by decide +kernel
theorem dX11_over_41 : decode cX11_over 41 = .ok (.aload_n 0, 1) := by decide +kernel
theorem dX11_over_42 : decode cX11_over 42 = .ok (.iload 4, 2) := by decide +kernel
theorem dX11_over_44 : decode cX11_over 44 = .ok (.iconst 2, 1) := by decide +kernel
theorem dX11_over_45 : decode cX11_over 45 = .ok (.invokevirtual 127, 3) := by decide +kernel
theorem dX11_over_48 : decode cX11_over 48 = .ok (.if_icmp .ge 33, 3) := by decide +kernel
theorem dX11_over_51 : decode cX11_over 51 = .ok (.aload_n 0, 1) := by decide +kernel
theorem dX11_over_52 : decode cX11_over 52 = .ok (.iload 4, 2) := by decide +kernel
theorem dX11_over_54 : decode cX11_over 54 = .ok (.iload_n 1, 1) := by decide +kernel
theorem dX11_over_55 : decode cX11_over 55 = .ok (.iconst 1, 1) := by decide +kernel
theorem dX11_over_56 : decode cX11_over 56 = .ok (.invokevirtual 448, 3) := by decide +kernel
theorem dX11_over_59 : decode cX11_over 59 = .ok (.ifCond .eq 22, 3) := by decide +kernel
theorem dX11_over_62 : decode cX11_over 62 = .ok (.aload_n 0, 1) := by decide +kernel
theorem dX11_over_63 : decode cX11_over 63 = .ok (.getfield 445, 3) := by decide +kernel
theorem dX11_over_66 : decode cX11_over 66 = .ok (.iload_n 2, 1) := by decide +kernel
theorem dX11_over_67 : decode cX11_over 67 = .ok (.i2l, 1) := by decide +kernel
theorem dX11_over_68 : decode cX11_over 68 = .ok (.aload_n 0, 1) := by decide +kernel
theorem dX11_over_69 : decode cX11_over 69 = .ok (.getfield 442, 3) := by decide +kernel
theorem dX11_over_72 : decode cX11_over 72 = .ok (.lmul, 1) := by decide +kernel
theorem dX11_over_73 : decode cX11_over 73 = .ok (.lcmp, 1) := by decide +kernel
theorem dX11_over_74 : decode cX11_over 74 = .ok (.ifCond .le 7, 3) := by decide +kernel
theorem dX11_over_77 : decode cX11_over 77 = .ok (.iconst 1, 1) := by decide +kernel
theorem dX11_over_78 : decode cX11_over 78 = .ok (.goto 4, 3) := by decide +kernel
theorem dX11_over_81 : decode cX11_over 81 = .ok (.iconst 0, 1) := by decide +kernel
theorem dX11_over_82 : decode cX11_over 82 = .ok (.iadd, 1) := by decide +kernel
theorem dX11_over_83 : decode cX11_over 83 = .ok (.istore_n 3, 1) := by decide +kernel
theorem dX11_over_84 : decode cX11_over 84 = .ok (.iinc 4 1, 3) := by decide +kernel
theorem dX11_over_87 : decode cX11_over 87 = .ok (.goto (-66), 3) := by decide +kernel
theorem dX11_over_90 : decode cX11_over 90 = .ok (.iload_n 3, 1) := by decide +kernel
theorem dX11_over_91 : decode cX11_over 91 = .ok (.ireturn, 1) := by decide +kernel
theorem dX11_takesStretch_0 : decode cX11_takesStretch 0 = .ok (.iload_n 3, 1) := by decide +kernel
theorem dX11_takesStretch_1 : decode cX11_takesStretch 1 = .ok (.iload 4, 2) := by decide +kernel
theorem dX11_takesStretch_3 : decode cX11_takesStretch 3 = .ok (.iload_n 1, 1) := by decide +kernel
theorem dX11_takesStretch_4 : decode cX11_takesStretch 4 = .ok (.iload_n 2, 1) := by decide +kernel
theorem dX11_takesStretch_5 : decode cX11_takesStretch 5 = .ok (.invokestatic 157, 3) := by decide +kernel
theorem dX11_takesStretch_8 : decode cX11_takesStretch 8 = .ok (.ifCond .ne 7, 3) := by decide +kernel
theorem dX11_takesStretch_11 : decode cX11_takesStretch 11 = .ok (.iconst 1, 1) := by decide +kernel
theorem dX11_takesStretch_12 : decode cX11_takesStretch 12 = .ok (.goto 4, 3) := by decide +kernel
theorem dX11_takesStretch_15 : decode cX11_takesStretch 15 = .ok (.iconst 0, 1) := by decide +kernel
theorem dX11_takesStretch_16 : decode cX11_takesStretch 16 = .ok (.istore 5, 2) := by decide +kernel
theorem dX11_takesStretch_18 : decode cX11_takesStretch 18 = .ok (.aload_n 0, 1) := by decide +kernel
theorem dX11_takesStretch_19 : decode cX11_takesStretch 19 = .ok (.getfield 29, 3) := by decide +kernel
theorem dX11_takesStretch_22 : decode cX11_takesStretch 22 = .ok (.iconst 0, 1) := by decide +kernel
theorem dX11_takesStretch_23 : decode cX11_takesStretch 23 = .ok (.iload 5, 2) := by decide +kernel
theorem dX11_takesStretch_25 : decode cX11_takesStretch 25 = .ok (.ifCond .eq 7, 3) := by decide +kernel
theorem dX11_takesStretch_28 : decode cX11_takesStretch 28 = .ok (.iload_n 1, 1) := by decide +kernel
theorem dX11_takesStretch_29 : decode cX11_takesStretch 29 = .ok (.goto 4, 3) := by decide +kernel
theorem dX11_takesStretch_32 : decode cX11_takesStretch 32 = .ok (.iload_n 3, 1) := by decide +kernel
theorem dX11_takesStretch_33 : decode cX11_takesStretch 33 = .ok (.iastore, 1) := by decide +kernel
theorem dX11_takesStretch_34 : decode cX11_takesStretch 34 = .ok (.aload_n 0, 1) := by decide +kernel
theorem dX11_takesStretch_35 : decode cX11_takesStretch 35 = .ok (.getfield 29, 3) := by decide +kernel
theorem dX11_takesStretch_38 : decode cX11_takesStretch 38 = .ok (.iconst 1, 1) := by decide +kernel
theorem dX11_takesStretch_39 : decode cX11_takesStretch 39 = .ok (.iload 5, 2) := by decide +kernel
theorem dX11_takesStretch_41 : decode cX11_takesStretch 41 = .ok (.ifCond .eq 7, 3) := by decide +kernel
theorem dX11_takesStretch_44 : decode cX11_takesStretch 44 = .ok (.iload_n 2, 1) := by decide +kernel
theorem dX11_takesStretch_45 : decode cX11_takesStretch 45 = .ok (.goto 5, 3) := by decide +kernel
theorem dX11_takesStretch_48 : decode cX11_takesStretch 48 = .ok (.iload 4, 2) := by decide +kernel
theorem dX11_takesStretch_50 : decode cX11_takesStretch 50 = .ok (.iastore, 1) := by decide +kernel
theorem dX11_takesStretch_51 : decode cX11_takesStretch 51 = .ok (.aload_n 0, 1) := by decide +kernel
theorem dX11_takesStretch_52 : decode cX11_takesStretch 52 = .ok (.getfield 29, 3) := by decide +kernel
theorem dX11_takesStretch_55 : decode cX11_takesStretch 55 = .ok (.iconst 2, 1) := by decide +kernel
theorem dX11_takesStretch_56 : decode cX11_takesStretch 56 = .ok (.iload 5, 2) := by decide +kernel
theorem dX11_takesStretch_58 : decode cX11_takesStretch 58 = .ok (.ifCond .eq 7, 3) := by decide +kernel
theorem dX11_takesStretch_61 : decode cX11_takesStretch 61 = .ok (.iload_n 3, 1) := by decide +kernel
theorem dX11_takesStretch_62 : decode cX11_takesStretch 62 = .ok (.goto 4, 3) := by decide +kernel
theorem dX11_takesStretch_65 : decode cX11_takesStretch 65 = .ok (.iload_n 1, 1) := by decide +kernel
theorem dX11_takesStretch_66 : decode cX11_takesStretch 66 = .ok (.iastore, 1) := by decide +kernel
theorem dX11_takesStretch_67 : decode cX11_takesStretch 67 = .ok (.aload_n 0, 1) := by decide +kernel
theorem dX11_takesStretch_68 : decode cX11_takesStretch 68 = .ok (.getfield 29, 3) := by decide +kernel
theorem dX11_takesStretch_71 : decode cX11_takesStretch 71 = .ok (.iconst 3, 1) := by decide +kernel
theorem dX11_takesStretch_72 : decode cX11_takesStretch 72 = .ok (.iload 5, 2) := by decide +kernel
theorem dX11_takesStretch_74 : decode cX11_takesStretch 74 = .ok (.ifCond .eq 8, 3) := by decide +kernel
theorem dX11_takesStretch_77 : decode cX11_takesStretch 77 = .ok (.iload 4, 2) := by decide +kernel
theorem dX11_takesStretch_79 : decode cX11_takesStretch 79 = .ok (.goto 4, 3) := by decide +kernel
theorem dX11_takesStretch_82 : decode cX11_takesStretch 82 = .ok (.iload_n 2, 1) := by decide +kernel
theorem dX11_takesStretch_83 : decode cX11_takesStretch 83 = .ok (.iastore, 1) := by decide +kernel
theorem dX11_takesStretch_84 : decode cX11_takesStretch 84 = .ok (.return_, 1) := by decide +kernel
theorem dX11_takesNearer_0 : decode cX11_takesNearer 0 = .ok (.aload_n 0, 1) := by decide +kernel
theorem dX11_takesNearer_1 : decode cX11_takesNearer 1 = .ok (.getfield 32, 3) := by decide +kernel
theorem dX11_takesNearer_4 : decode cX11_takesNearer 4 = .ok (.iconst 0, 1) := by decide +kernel
theorem dX11_takesNearer_5 : decode cX11_takesNearer 5 = .ok (.iaload, 1) := by decide +kernel
theorem dX11_takesNearer_6 : decode cX11_takesNearer 6 = .ok (.i2l, 1) := by decide +kernel
theorem dX11_takesNearer_7 : decode cX11_takesNearer 7 = .ok (.iload_n 1, 1) := by decide +kernel
theorem dX11_takesNearer_8 : decode cX11_takesNearer 8 = .ok (.i2l, 1) := by decide +kernel
theorem dX11_takesNearer_9 : decode cX11_takesNearer 9 = .ok (.lsub, 1) := by decide +kernel
theorem dX11_takesNearer_10 : decode cX11_takesNearer 10 = .ok (.invokestatic 452, 3) := by decide +kernel
theorem dX11_takesNearer_13 : decode cX11_takesNearer 13 = .ok (.aload_n 0, 1) := by decide +kernel
theorem dX11_takesNearer_14 : decode cX11_takesNearer 14 = .ok (.getfield 32, 3) := by decide +kernel
theorem dX11_takesNearer_17 : decode cX11_takesNearer 17 = .ok (.iconst 1, 1) := by decide +kernel
theorem dX11_takesNearer_18 : decode cX11_takesNearer 18 = .ok (.iaload, 1) := by decide +kernel
theorem dX11_takesNearer_19 : decode cX11_takesNearer 19 = .ok (.i2l, 1) := by decide +kernel
theorem dX11_takesNearer_20 : decode cX11_takesNearer 20 = .ok (.iload_n 2, 1) := by decide +kernel
theorem dX11_takesNearer_21 : decode cX11_takesNearer 21 = .ok (.i2l, 1) := by decide +kernel
theorem dX11_takesNearer_22 : decode cX11_takesNearer 22 = .ok (.lsub, 1) := by decide +kernel
theorem dX11_takesNearer_23 : decode cX11_takesNearer 23 = .ok (.invokestatic 452, 3) := by decide +kernel
theorem dX11_takesNearer_26 : decode cX11_takesNearer 26 = .ok (.ladd, 1) := by decide +kernel
theorem dX11_takesNearer_27 : decode cX11_takesNearer 27 = .ok (.lstore_n 3, 1) := by decide +kernel
theorem dX11_takesNearer_28 : decode cX11_takesNearer 28 = .ok (.aload_n 0, 1) := by decide +kernel
theorem dX11_takesNearer_29 : decode cX11_takesNearer 29 = .ok (.getfield 32, 3) := by decide +kernel
theorem dX11_takesNearer_32 : decode cX11_takesNearer 32 = .ok (.iconst 2, 1) := by decide +kernel
theorem dX11_takesNearer_33 : decode cX11_takesNearer 33 = .ok (.iaload, 1) := by decide +kernel
theorem dX11_takesNearer_34 : decode cX11_takesNearer 34 = .ok (.i2l, 1) := by decide +kernel
theorem dX11_takesNearer_35 : decode cX11_takesNearer 35 = .ok (.iload_n 1, 1) := by decide +kernel
theorem dX11_takesNearer_36 : decode cX11_takesNearer 36 = .ok (.i2l, 1) := by decide +kernel
theorem dX11_takesNearer_37 : decode cX11_takesNearer 37 = .ok (.lsub, 1) := by decide +kernel
theorem dX11_takesNearer_38 : decode cX11_takesNearer 38 = .ok (.invokestatic 452, 3) := by decide +kernel
theorem dX11_takesNearer_41 : decode cX11_takesNearer 41 = .ok (.aload_n 0, 1) := by decide +kernel
theorem dX11_takesNearer_42 : decode cX11_takesNearer 42 = .ok (.getfield 32, 3) := by decide +kernel
theorem dX11_takesNearer_45 : decode cX11_takesNearer 45 = .ok (.iconst 3, 1) := by decide +kernel
theorem dX11_takesNearer_46 : decode cX11_takesNearer 46 = .ok (.iaload, 1) := by decide +kernel
theorem dX11_takesNearer_47 : decode cX11_takesNearer 47 = .ok (.i2l, 1) := by decide +kernel
theorem dX11_takesNearer_48 : decode cX11_takesNearer 48 = .ok (.iload_n 2, 1) := by decide +kernel
theorem dX11_takesNearer_49 : decode cX11_takesNearer 49 = .ok (.i2l, 1) := by decide +kernel
theorem dX11_takesNearer_50 : decode cX11_takesNearer 50 = .ok (.lsub, 1) := by decide +kernel
theorem dX11_takesNearer_51 : decode cX11_takesNearer 51 = .ok (.invokestatic 452, 3) := by decide +kernel
theorem dX11_takesNearer_54 : decode cX11_takesNearer 54 = .ok (.ladd, 1) := by decide +kernel
theorem dX11_takesNearer_55 : decode cX11_takesNearer 55 = .ok (.lstore 5, 2) := by decide +kernel
theorem dX11_takesNearer_57 : decode cX11_takesNearer 57 = .ok (.lload_n 3, 1) := by decide +kernel
theorem dX11_takesNearer_58 : decode cX11_takesNearer 58 = .ok (.lload 5, 2) := by decide +kernel
theorem dX11_takesNearer_60 : decode cX11_takesNearer 60 = .ok (.lcmp, 1) := by decide +kernel
theorem dX11_takesNearer_61 : decode cX11_takesNearer 61 = .ok (.ifCond .ge 7, 3) := by decide +kernel
theorem dX11_takesNearer_64 : decode cX11_takesNearer 64 = .ok (.iconst 1, 1) := by decide +kernel
theorem dX11_takesNearer_65 : decode cX11_takesNearer 65 = .ok (.goto 4, 3) := by decide +kernel
theorem dX11_takesNearer_68 : decode cX11_takesNearer 68 = .ok (.iconst 0, 1) := by decide +kernel
theorem dX11_takesNearer_69 : decode cX11_takesNearer 69 = .ok (.istore 7, 2) := by decide +kernel
theorem dX11_takesNearer_71 : decode cX11_takesNearer 71 = .ok (.aload_n 0, 1) := by decide +kernel
theorem dX11_takesNearer_72 : decode cX11_takesNearer 72 = .ok (.getfield 32, 3) := by decide +kernel
theorem dX11_takesNearer_75 : decode cX11_takesNearer 75 = .ok (.iload_n 1, 1) := by decide +kernel
theorem dX11_takesNearer_76 : decode cX11_takesNearer 76 = .ok (.i2l, 1) := by decide +kernel
theorem dX11_takesNearer_77 : decode cX11_takesNearer 77 = .ok (.iload_n 2, 1) := by decide +kernel
theorem dX11_takesNearer_78 : decode cX11_takesNearer 78 = .ok (.i2l, 1) := by decide +kernel
theorem dX11_takesNearer_79 : decode cX11_takesNearer 79 = .ok (.lconst 1, 1) := by decide +kernel
theorem dX11_takesNearer_80 : decode cX11_takesNearer 80 = .ok (.invokestatic 169, 3) := by decide +kernel
theorem dX11_takesNearer_83 : decode cX11_takesNearer 83 = .ok (.ifCond .eq 15, 3) := by decide +kernel
theorem dX11_takesNearer_86 : decode cX11_takesNearer 86 = .ok (.aload_n 0, 1) := by decide +kernel
theorem dX11_takesNearer_87 : decode cX11_takesNearer 87 = .ok (.iload_n 1, 1) := by decide +kernel
theorem dX11_takesNearer_88 : decode cX11_takesNearer 88 = .ok (.i2l, 1) := by decide +kernel
theorem dX11_takesNearer_89 : decode cX11_takesNearer 89 = .ok (.iload_n 2, 1) := by decide +kernel
theorem dX11_takesNearer_90 : decode cX11_takesNearer 90 = .ok (.i2l, 1) := by decide +kernel
theorem dX11_takesNearer_91 : decode cX11_takesNearer 91 = .ok (.lconst 1, 1) := by decide +kernel
theorem dX11_takesNearer_92 : decode cX11_takesNearer 92 = .ok (.invokevirtual 165, 3) := by decide +kernel
theorem dX11_takesNearer_95 : decode cX11_takesNearer 95 = .ok (.goto 52, 3) := by decide +kernel
theorem dX11_takesNearer_98 : decode cX11_takesNearer 98 = .ok (.aload_n 0, 1) := by decide +kernel
theorem dX11_takesNearer_99 : decode cX11_takesNearer 99 = .ok (.iload 7, 2) := by decide +kernel
theorem dX11_takesNearer_101 : decode cX11_takesNearer 101 = .ok (.ifCond .eq 13, 3) := by decide +kernel
theorem dX11_takesNearer_104 : decode cX11_takesNearer 104 = .ok (.aload_n 0, 1) := by decide +kernel
theorem dX11_takesNearer_105 : decode cX11_takesNearer 105 = .ok (.getfield 32, 3) := by decide +kernel
theorem dX11_takesNearer_108 : decode cX11_takesNearer 108 = .ok (.iconst 0, 1) := by decide +kernel
theorem dX11_takesNearer_109 : decode cX11_takesNearer 109 = .ok (.iaload, 1) := by decide +kernel
theorem dX11_takesNearer_110 : decode cX11_takesNearer 110 = .ok (.i2l, 1) := by decide +kernel
theorem dX11_takesNearer_111 : decode cX11_takesNearer 111 = .ok (.goto 10, 3) := by decide +kernel
theorem dX11_takesNearer_114 : decode cX11_takesNearer 114 = .ok (.aload_n 0, 1) := by decide +kernel
theorem dX11_takesNearer_115 : decode cX11_takesNearer 115 = .ok (.getfield 32, 3) := by decide +kernel
theorem dX11_takesNearer_118 : decode cX11_takesNearer 118 = .ok (.iconst 2, 1) := by decide +kernel
theorem dX11_takesNearer_119 : decode cX11_takesNearer 119 = .ok (.iaload, 1) := by decide +kernel
theorem dX11_takesNearer_120 : decode cX11_takesNearer 120 = .ok (.i2l, 1) := by decide +kernel
theorem dX11_takesNearer_121 : decode cX11_takesNearer 121 = .ok (.iload 7, 2) := by decide +kernel
theorem dX11_takesNearer_123 : decode cX11_takesNearer 123 = .ok (.ifCond .eq 13, 3) := by decide +kernel
theorem dX11_takesNearer_126 : decode cX11_takesNearer 126 = .ok (.aload_n 0, 1) := by decide +kernel
theorem dX11_takesNearer_127 : decode cX11_takesNearer 127 = .ok (.getfield 32, 3) := by decide +kernel
theorem dX11_takesNearer_130 : decode cX11_takesNearer 130 = .ok (.iconst 1, 1) := by decide +kernel
theorem dX11_takesNearer_131 : decode cX11_takesNearer 131 = .ok (.iaload, 1) := by decide +kernel
theorem dX11_takesNearer_132 : decode cX11_takesNearer 132 = .ok (.i2l, 1) := by decide +kernel
theorem dX11_takesNearer_133 : decode cX11_takesNearer 133 = .ok (.goto 10, 3) := by decide +kernel
theorem dX11_takesNearer_136 : decode cX11_takesNearer 136 = .ok (.aload_n 0, 1) := by decide +kernel
theorem dX11_takesNearer_137 : decode cX11_takesNearer 137 = .ok (.getfield 32, 3) := by decide +kernel
theorem dX11_takesNearer_140 : decode cX11_takesNearer 140 = .ok (.iconst 3, 1) := by decide +kernel
theorem dX11_takesNearer_141 : decode cX11_takesNearer 141 = .ok (.iaload, 1) := by decide +kernel
theorem dX11_takesNearer_142 : decode cX11_takesNearer 142 = .ok (.i2l, 1) := by decide +kernel
theorem dX11_takesNearer_143 : decode cX11_takesNearer 143 = .ok (.lconst 1, 1) := by decide +kernel
theorem dX11_takesNearer_144 : decode cX11_takesNearer 144 = .ok (.invokevirtual 165, 3) := by decide +kernel
theorem dX11_takesNearer_147 : decode cX11_takesNearer 147 = .ok (.istore 8, 2) := by decide +kernel
theorem dX11_takesNearer_149 : decode cX11_takesNearer 149 = .ok (.return_, 1) := by decide +kernel
theorem dX11_sight_0 : decode cX11_sight 0 = .ok (.aload_n 0, 1) := by decide +kernel
theorem dX11_sight_1 : decode cX11_sight 1 = .ok (.iconst 0, 1) := by decide +kernel
theorem dX11_sight_2 : decode cX11_sight 2 = .ok (.putfield 3, 3) := by decide +kernel
theorem dX11_sight_5 : decode cX11_sight 5 = .ok (.aload_n 0, 1) := by decide +kernel
theorem dX11_sight_6 : decode cX11_sight 6 = .ok (.iload_n 1, 1) := by decide +kernel
theorem dX11_sight_7 : decode cX11_sight 7 = .ok (.iload_n 2, 1) := by decide +kernel
theorem dX11_sight_8 : decode cX11_sight 8 = .ok (.invokevirtual 436, 3) := by decide +kernel
theorem dX11_sight_11 : decode cX11_sight 11 = .ok (.ifCond .ne 13, 3) := by decide +kernel
theorem dX11_sight_14 : decode cX11_sight 14 = .ok (.aload_n 0, 1) := by decide +kernel
theorem dX11_sight_15 : decode cX11_sight 15 = .ok (.iload_n 3, 1) := by decide +kernel
theorem dX11_sight_16 : decode cX11_sight 16 = .ok (.iload 4, 2) := by decide +kernel
theorem dX11_sight_18 : decode cX11_sight 18 = .ok (.invokevirtual 436, 3) := by decide +kernel
theorem dX11_sight_21 : decode cX11_sight 21 = .ok (.ifCond .eq 5, 3) := by decide +kernel
theorem dX11_sight_24 : decode cX11_sight 24 = .ok (.iconst 0, 1) := by decide +kernel
theorem dX11_sight_25 : decode cX11_sight 25 = .ok (.ireturn, 1) := by decide +kernel
theorem dX11_sight_26 : decode cX11_sight 26 = .ok (.iconst (-1), 1) := by decide +kernel
theorem dX11_sight_27 : decode cX11_sight 27 = .ok (.istore 5, 2) := by decide +kernel
theorem dX11_sight_29 : decode cX11_sight 29 = .ok (.lconst 0, 1) := by decide +kernel
theorem dX11_sight_30 : decode cX11_sight 30 = .ok (.lstore 6, 2) := by decide +kernel
theorem dX11_sight_32 : decode cX11_sight 32 = .ok (.lconst 1, 1) := by decide +kernel
theorem dX11_sight_33 : decode cX11_sight 33 = .ok (.lstore 8, 2) := by decide +kernel
theorem dX11_sight_35 : decode cX11_sight 35 = .ok (.iconst 0, 1) := by decide +kernel
theorem dX11_sight_36 : decode cX11_sight 36 = .ok (.istore 10, 2) := by decide +kernel
theorem dX11_sight_38 : decode cX11_sight 38 = .ok (.iload 10, 2) := by decide +kernel
theorem dX11_sight_40 : decode cX11_sight 40 = .ok (.aload_n 0, 1) := by decide +kernel
theorem dX11_sight_41 : decode cX11_sight 41 = .ok (.invokevirtual 200, 3) := by decide +kernel
theorem dX11_sight_44 : decode cX11_sight 44 = .ok (.if_icmp .ge 139, 3) := by decide +kernel
theorem dX11_sight_47 : decode cX11_sight 47 = .ok (.aload_n 0, 1) := by decide +kernel
theorem dX11_sight_48 : decode cX11_sight 48 = .ok (.aload_n 0, 1) := by decide +kernel
theorem dX11_sight_49 : decode cX11_sight 49 = .ok (.getfield 26, 3) := by decide +kernel
theorem dX11_sight_52 : decode cX11_sight 52 = .ok (.iload 10, 2) := by decide +kernel
theorem dX11_sight_54 : decode cX11_sight 54 = .ok (.invokevirtual 179, 3) := by decide +kernel
theorem dX11_sight_57 : decode cX11_sight 57 = .ok (.aload_n 0, 1) := by decide +kernel
theorem dX11_sight_58 : decode cX11_sight 58 = .ok (.iload_n 1, 1) := by decide +kernel
theorem dX11_sight_59 : decode cX11_sight 59 = .ok (.iload_n 2, 1) := by decide +kernel
theorem dX11_sight_60 : decode cX11_sight 60 = .ok (.iload_n 3, 1) := by decide +kernel
theorem dX11_sight_61 : decode cX11_sight 61 = .ok (.iload 4, 2) := by decide +kernel
theorem dX11_sight_63 : decode cX11_sight 63 = .ok (.invokevirtual 455, 3) := by decide +kernel
theorem dX11_sight_66 : decode cX11_sight 66 = .ok (.aload_n 0, 1) := by decide +kernel
theorem dX11_sight_67 : decode cX11_sight 67 = .ok (.invokevirtual 183, 3) := by decide +kernel
theorem dX11_sight_70 : decode cX11_sight 70 = .ok (.istore 11, 2) := by decide +kernel
theorem dX11_sight_72 : decode cX11_sight 72 = .ok (.iload 11, 2) := by decide +kernel
theorem dX11_sight_74 : decode cX11_sight 74 = .ok (.ifCond .ne 6, 3) := by decide +kernel
theorem dX11_sight_77 : decode cX11_sight 77 = .ok (.goto 100, 3) := by decide +kernel
theorem dX11_sight_80 : decode cX11_sight 80 = .ok (.iload 11, 2) := by decide +kernel
theorem dX11_sight_82 : decode cX11_sight 82 = .ok (.iconst 2, 1) := by decide +kernel
theorem dX11_sight_83 : decode cX11_sight 83 = .ok (.if_icmp .ne 9, 3) := by decide +kernel
theorem dX11_sight_86 : decode cX11_sight 86 = .ok (.aload_n 0, 1) := by decide +kernel
theorem dX11_sight_87 : decode cX11_sight 87 = .ok (.iload_n 1, 1) := by decide +kernel
theorem dX11_sight_88 : decode cX11_sight 88 = .ok (.iload_n 2, 1) := by decide +kernel
theorem dX11_sight_89 : decode cX11_sight 89 = .ok (.invokevirtual 459, 3) := by decide +kernel
theorem dX11_sight_92 : decode cX11_sight 92 = .ok (.iload_n 1, 1) := by decide +kernel
theorem dX11_sight_93 : decode cX11_sight 93 = .ok (.iload_n 3, 1) := by decide +kernel
theorem dX11_sight_94 : decode cX11_sight 94 = .ok (.if_icmp .ne 18, 3) := by decide +kernel
theorem dX11_sight_97 : decode cX11_sight 97 = .ok (.aload_n 0, 1) := by decide +kernel
theorem dX11_sight_98 : decode cX11_sight 98 = .ok (.getfield 151, 3) := by decide +kernel
theorem dX11_sight_101 : decode cX11_sight 101 = .ok (.iload_n 2, 1) := by decide +kernel
theorem dX11_sight_102 : decode cX11_sight 102 = .ok (.i2l, 1) := by decide +kernel
theorem dX11_sight_103 : decode cX11_sight 103 = .ok (.aload_n 0, 1) := by decide +kernel
theorem dX11_sight_104 : decode cX11_sight 104 = .ok (.getfield 154, 3) := by decide +kernel
theorem dX11_sight_107 : decode cX11_sight 107 = .ok (.lmul, 1) := by decide +kernel
theorem dX11_sight_108 : decode cX11_sight 108 = .ok (.lsub, 1) := by decide +kernel
theorem dX11_sight_109 : decode cX11_sight 109 = .ok (.goto 15, 3) := by decide +kernel
theorem dX11_sight_112 : decode cX11_sight 112 = .ok (.aload_n 0, 1) := by decide +kernel
theorem dX11_sight_113 : decode cX11_sight 113 = .ok (.getfield 147, 3) := by decide +kernel
theorem dX11_sight_116 : decode cX11_sight 116 = .ok (.iload_n 1, 1) := by decide +kernel
theorem dX11_sight_117 : decode cX11_sight 117 = .ok (.i2l, 1) := by decide +kernel
theorem dX11_sight_118 : decode cX11_sight 118 = .ok (.aload_n 0, 1) := by decide +kernel
theorem dX11_sight_119 : decode cX11_sight 119 = .ok (.getfield 154, 3) := by decide +kernel
theorem dX11_sight_122 : decode cX11_sight 122 = .ok (.lmul, 1) := by decide +kernel
theorem dX11_sight_123 : decode cX11_sight 123 = .ok (.lsub, 1) := by decide +kernel
theorem dX11_sight_124 : decode cX11_sight 124 = .ok (.lstore 12, 2) := by decide +kernel
theorem dX11_sight_126 : decode cX11_sight 126 = .ok (.lload 12, 2) := by decide +kernel
theorem dX11_sight_128 : decode cX11_sight 128 = .ok (.lconst 0, 1) := by decide +kernel
theorem dX11_sight_129 : decode cX11_sight 129 = .ok (.lcmp, 1) := by decide +kernel
theorem dX11_sight_130 : decode cX11_sight 130 = .ok (.ifCond .ge 8, 3) := by decide +kernel
theorem dX11_sight_133 : decode cX11_sight 133 = .ok (.lload 12, 2) := by decide +kernel
theorem dX11_sight_135 : decode cX11_sight 135 = .ok (.lneg, 1) := by decide +kernel
theorem dX11_sight_136 : decode cX11_sight 136 = .ok (.lstore 12, 2) := by decide +kernel
theorem dX11_sight_138 : decode cX11_sight 138 = .ok (.iload 5, 2) := by decide +kernel
theorem dX11_sight_140 : decode cX11_sight 140 = .ok (.iconst (-1), 1) := by decide +kernel
theorem dX11_sight_141 : decode cX11_sight 141 = .ok (.if_icmp .eq 22, 3) := by decide +kernel
theorem dX11_sight_144 : decode cX11_sight 144 = .ok (.lload 12, 2) := by decide +kernel
theorem dX11_sight_146 : decode cX11_sight 146 = .ok (.lload 8, 2) := by decide +kernel
theorem dX11_sight_148 : decode cX11_sight 148 = .ok (.lmul, 1) := by decide +kernel
theorem dX11_sight_149 : decode cX11_sight 149 = .ok (.lload 6, 2) := by decide +kernel
theorem dX11_sight_151 : decode cX11_sight 151 = .ok (.aload_n 0, 1) := by decide +kernel
theorem dX11_sight_152 : decode cX11_sight 152 = .ok (.getfield 154, 3) := by decide +kernel
theorem dX11_sight_155 : decode cX11_sight 155 = .ok (.lmul, 1) := by decide +kernel
theorem dX11_sight_156 : decode cX11_sight 156 = .ok (.lcmp, 1) := by decide +kernel
theorem dX11_sight_157 : decode cX11_sight 157 = .ok (.ifCond .lt 6, 3) := by decide +kernel
theorem dX11_sight_160 : decode cX11_sight 160 = .ok (.goto 17, 3) := by decide +kernel
theorem dX11_sight_163 : decode cX11_sight 163 = .ok (.iload 10, 2) := by decide +kernel
theorem dX11_sight_165 : decode cX11_sight 165 = .ok (.istore 5, 2) := by decide +kernel
theorem dX11_sight_167 : decode cX11_sight 167 = .ok (.lload 12, 2) := by decide +kernel
theorem dX11_sight_169 : decode cX11_sight 169 = .ok (.lstore 6, 2) := by decide +kernel
theorem dX11_sight_171 : decode cX11_sight 171 = .ok (.aload_n 0, 1) := by decide +kernel
theorem dX11_sight_172 : decode cX11_sight 172 = .ok (.getfield 154, 3) := by decide +kernel
theorem dX11_sight_175 : decode cX11_sight 175 = .ok (.lstore 8, 2) := by decide +kernel
theorem dX11_sight_177 : decode cX11_sight 177 = .ok (.iinc 10 1, 3) := by decide +kernel
theorem dX11_sight_180 : decode cX11_sight 180 = .ok (.goto (-142), 3) := by decide +kernel
theorem dX11_sight_183 : decode cX11_sight 183 = .ok (.iload 5, 2) := by decide +kernel
theorem dX11_sight_185 : decode cX11_sight 185 = .ok (.ireturn, 1) := by decide +kernel
theorem dX11_hits_0 : decode cX11_hits 0 = .ok (.aload_n 0, 1) := by decide +kernel
theorem dX11_hits_1 : decode cX11_hits 1 = .ok (.aload_n 0, 1) := by decide +kernel
theorem dX11_hits_2 : decode cX11_hits 2 = .ok (.getfield 26, 3) := by decide +kernel
theorem dX11_hits_5 : decode cX11_hits 5 = .ok (.iload_n 1, 1) := by decide +kernel
theorem dX11_hits_6 : decode cX11_hits 6 = .ok (.invokevirtual 179, 3) := by decide +kernel
theorem dX11_hits_9 : decode cX11_hits 9 = .ok (.aload_n 0, 1) := by decide +kernel
theorem dX11_hits_10 : decode cX11_hits 10 = .ok (.iload_n 2, 1) := by decide +kernel
theorem dX11_hits_11 : decode cX11_hits 11 = .ok (.iload_n 3, 1) := by decide +kernel
theorem dX11_hits_12 : decode cX11_hits 12 = .ok (.iload 4, 2) := by decide +kernel
theorem dX11_hits_14 : decode cX11_hits 14 = .ok (.iload 5, 2) := by decide +kernel
theorem dX11_hits_16 : decode cX11_hits 16 = .ok (.invokevirtual 455, 3) := by decide +kernel
theorem dX11_hits_19 : decode cX11_hits 19 = .ok (.aload_n 0, 1) := by decide +kernel
theorem dX11_hits_20 : decode cX11_hits 20 = .ok (.invokevirtual 183, 3) := by decide +kernel
theorem dX11_hits_23 : decode cX11_hits 23 = .ok (.ifCond .eq 7, 3) := by decide +kernel
theorem dX11_hits_26 : decode cX11_hits 26 = .ok (.iconst 1, 1) := by decide +kernel
theorem dX11_hits_27 : decode cX11_hits 27 = .ok (.goto 4, 3) := by decide +kernel
theorem dX11_hits_30 : decode cX11_hits 30 = .ok (.iconst 0, 1) := by decide +kernel
theorem dX11_hits_31 : decode cX11_hits 31 = .ok (.ireturn, 1) := by decide +kernel
theorem dX11_box_0 : decode cX11_box 0 = .ok (.aload_n 0, 1) := by decide +kernel
theorem dX11_box_1 : decode cX11_box 1 = .ok (.iconst 0, 1) := by decide +kernel
theorem dX11_box_2 : decode cX11_box 2 = .ok (.putfield 3, 3) := by decide +kernel
theorem dX11_box_5 : decode cX11_box 5 = .ok (.aload_n 0, 1) := by decide +kernel
theorem dX11_box_6 : decode cX11_box 6 = .ok (.iload_n 1, 1) := by decide +kernel
theorem dX11_box_7 : decode cX11_box 7 = .ok (.iload_n 2, 1) := by decide +kernel
theorem dX11_box_8 : decode cX11_box 8 = .ok (.invokestatic 342, 3) := by decide +kernel
theorem dX11_box_11 : decode cX11_box 11 = .ok (.ifCond .eq 23, 3) := by decide +kernel
theorem dX11_box_14 : decode cX11_box 14 = .ok (.iload_n 3, 1) := by decide +kernel
theorem dX11_box_15 : decode cX11_box 15 = .ok (.iload 4, 2) := by decide +kernel
theorem dX11_box_17 : decode cX11_box 17 = .ok (.invokestatic 342, 3) := by decide +kernel
theorem dX11_box_20 : decode cX11_box 20 = .ok (.ifCond .eq 14, 3) := by decide +kernel
theorem dX11_box_23 : decode cX11_box 23 = .ok (.iload_n 1, 1) := by decide +kernel
theorem dX11_box_24 : decode cX11_box 24 = .ok (.iload_n 3, 1) := by decide +kernel
theorem dX11_box_25 : decode cX11_box 25 = .ok (.if_icmp .gt 9, 3) := by decide +kernel
theorem dX11_box_28 : decode cX11_box 28 = .ok (.iload_n 2, 1) := by decide +kernel
theorem dX11_box_29 : decode cX11_box 29 = .ok (.iload 4, 2) := by decide +kernel
theorem dX11_box_31 : decode cX11_box 31 = .ok (.if_icmp .le 7, 3) := by decide +kernel
theorem dX11_box_34 : decode cX11_box 34 = .ok (.iconst 1, 1) := by decide +kernel
theorem dX11_box_35 : decode cX11_box 35 = .ok (.goto 4, 3) := by decide +kernel
theorem dX11_box_38 : decode cX11_box 38 = .ok (.iconst 0, 1) := by decide +kernel
theorem dX11_box_39 : decode cX11_box 39 = .ok (.iconst 1, 1) := by decide +kernel
theorem dX11_box_40 : decode cX11_box 40 = .ok (.invokevirtual 120, 3) := by decide +kernel
theorem dX11_box_43 : decode cX11_box 43 = .ok (.ifCond .eq 5, 3) := by decide +kernel
theorem dX11_box_46 : decode cX11_box 46 = .ok (.iconst 0, 1) := by decide +kernel
theorem dX11_box_47 : decode cX11_box 47 = .ok (.ireturn, 1) := by decide +kernel
theorem dX11_box_48 : decode cX11_box 48 = .ok (.iconst 0, 1) := by decide +kernel
theorem dX11_box_49 : decode cX11_box 49 = .ok (.istore 5, 2) := by decide +kernel
theorem dX11_box_51 : decode cX11_box 51 = .ok (.iconst 0, 1) := by decide +kernel
theorem dX11_box_52 : decode cX11_box 52 = .ok (.istore 6, 2) := by decide +kernel
theorem dX11_box_54 : decode cX11_box 54 = .ok (.iload 6, 2) := by decide +kernel
theorem dX11_box_56 : decode cX11_box 56 = .ok (.aload_n 0, 1) := by decide +kernel
theorem dX11_box_57 : decode cX11_box 57 = .ok (.invokevirtual 200, 3) := by decide +kernel
theorem dX11_box_60 : decode cX11_box 60 = .ok (.if_icmp .ge 139, 3) := by decide +kernel
theorem dX11_box_63 : decode cX11_box 63 = .ok (.aload_n 0, 1) := by decide +kernel
theorem dX11_box_64 : decode cX11_box 64 = .ok (.iload 6, 2) := by decide +kernel
theorem dX11_box_66 : decode cX11_box 66 = .ok (.iconst 0, 1) := by decide +kernel
theorem dX11_box_67 : decode cX11_box 67 = .ok (.invokevirtual 127, 3) := by decide +kernel
theorem dX11_box_70 : decode cX11_box 70 = .ok (.i2l, 1) := by decide +kernel
theorem dX11_box_71 : decode cX11_box 71 = .ok (.iload_n 1, 1) := by decide +kernel
theorem dX11_box_72 : decode cX11_box 72 = .ok (.i2l, 1) := by decide +kernel
theorem dX11_box_73 : decode cX11_box 73 = .ok (.iload_n 3, 1) := by decide +kernel
theorem dX11_box_74 : decode cX11_box 74 = .ok (.i2l, 1) := by decide +kernel
theorem dX11_box_75 : decode cX11_box 75 = .ok (.invokestatic 131, 3) := by decide +kernel
theorem dX11_box_78 : decode cX11_box 78 = .ok (.ifCond .eq 26, 3) := by decide +kernel
theorem dX11_box_81 : decode cX11_box 81 = .ok (.aload_n 0, 1) := by decide +kernel
theorem dX11_box_82 : decode cX11_box 82 = .ok (.iload 6, 2) := by decide +kernel
theorem dX11_box_84 : decode cX11_box 84 = .ok (.iconst 1, 1) := by decide +kernel
theorem dX11_box_85 : decode cX11_box 85 = .ok (.invokevirtual 127, 3) := by decide +kernel
theorem dX11_box_88 : decode cX11_box 88 = .ok (.i2l, 1) := by decide +kernel
theorem dX11_box_89 : decode cX11_box 89 = .ok (.iload_n 2, 1) := by decide +kernel
theorem dX11_box_90 : decode cX11_box 90 = .ok (.i2l, 1) := by decide +kernel
theorem dX11_box_91 : decode cX11_box 91 = .ok (.iload 4, 2) := by decide +kernel
theorem dX11_box_93 : decode cX11_box 93 = .ok (.i2l, 1) := by decide +kernel
theorem dX11_box_94 : decode cX11_box 94 = .ok (.invokestatic 131, 3) := by decide +kernel
theorem dX11_box_97 : decode cX11_box 97 = .ok (.ifCond .eq 7, 3) := by decide +kernel
theorem dX11_box_100 : decode cX11_box 100 = .ok (.iconst 1, 1) := by decide +kernel
theorem dX11_box_101 : decode cX11_box 101 = .ok (.goto 4, 3) := by decide +kernel
theorem dX11_box_104 : decode cX11_box 104 = .ok (.iconst 0, 1) := by decide +kernel
theorem dX11_box_105 : decode cX11_box 105 = .ok (.istore 7, 2) := by decide +kernel
theorem dX11_box_107 : decode cX11_box 107 = .ok (.iload 7, 2) := by decide +kernel
theorem dX11_box_109 : decode cX11_box 109 = .ok (.ifCond .ne 59, 3) := by decide +kernel
theorem dX11_box_112 : decode cX11_box 112 = .ok (.aload_n 0, 1) := by decide +kernel
theorem dX11_box_113 : decode cX11_box 113 = .ok (.iload 6, 2) := by decide +kernel
theorem dX11_box_115 : decode cX11_box 115 = .ok (.iload_n 1, 1) := by decide +kernel
theorem dX11_box_116 : decode cX11_box 116 = .ok (.iload_n 2, 1) := by decide +kernel
theorem dX11_box_117 : decode cX11_box 117 = .ok (.iload_n 3, 1) := by decide +kernel
theorem dX11_box_118 : decode cX11_box 118 = .ok (.iload_n 2, 1) := by decide +kernel
theorem dX11_box_119 : decode cX11_box 119 = .ok (.invokevirtual 462, 3) := by decide +kernel
theorem dX11_box_122 : decode cX11_box 122 = .ok (.ifCond .ne 46, 3) := by decide +kernel
theorem dX11_box_125 : decode cX11_box 125 = .ok (.aload_n 0, 1) := by decide +kernel
theorem dX11_box_126 : decode cX11_box 126 = .ok (.iload 6, 2) := by decide +kernel
theorem dX11_box_128 : decode cX11_box 128 = .ok (.iload_n 1, 1) := by decide +kernel
theorem dX11_box_129 : decode cX11_box 129 = .ok (.iload 4, 2) := by decide +kernel
theorem dX11_box_131 : decode cX11_box 131 = .ok (.iload_n 3, 1) := by decide +kernel
theorem dX11_box_132 : decode cX11_box 132 = .ok (.iload 4, 2) := by decide +kernel
theorem dX11_box_134 : decode cX11_box 134 = .ok (.invokevirtual 462, 3) := by decide +kernel
theorem dX11_box_137 : decode cX11_box 137 = .ok (.ifCond .ne 31, 3) := by decide +kernel
theorem dX11_box_140 : decode cX11_box 140 = .ok (.aload_n 0, 1) := by decide +kernel
theorem dX11_box_141 : decode cX11_box 141 = .ok (.iload 6, 2) := by decide +kernel
theorem dX11_box_143 : decode cX11_box 143 = .ok (.iload_n 1, 1) := by decide +kernel
theorem dX11_box_144 : decode cX11_box 144 = .ok (.iload_n 2, 1) := by decide +kernel
theorem dX11_box_145 : decode cX11_box 145 = .ok (.iload_n 1, 1) := by decide +kernel
theorem dX11_box_146 : decode cX11_box 146 = .ok (.iload 4, 2) := by decide +kernel
theorem dX11_box_148 : decode cX11_box 148 = .ok (.invokevirtual 462, 3) := by decide +kernel
theorem dX11_box_151 : decode cX11_box 151 = .ok (.ifCond .ne 17, 3) := by decide +kernel
theorem dX11_box_154 : decode cX11_box 154 = .ok (.aload_n 0, 1) := by decide +kernel
theorem dX11_box_155 : decode cX11_box 155 = .ok (.iload 6, 2) := by decide +kernel
theorem dX11_box_157 : decode cX11_box 157 = .ok (.iload_n 3, 1) := by decide +kernel
theorem dX11_box_158 : decode cX11_box 158 = .ok (.iload_n 2, 1) := by decide +kernel
theorem dX11_box_159 : decode cX11_box 159 = .ok (.iload_n 3, 1) := by decide +kernel
theorem dX11_box_160 : decode cX11_box 160 = .ok (.iload 4, 2) := by decide +kernel
theorem dX11_box_162 : decode cX11_box 162 = .ok (.invokevirtual 462, 3) := by decide +kernel
theorem dX11_box_165 : decode cX11_box 165 = .ok (.ifCond .eq 7, 3) := by decide +kernel
theorem dX11_box_168 : decode cX11_box 168 = .ok (.iconst 1, 1) := by decide +kernel
theorem dX11_box_169 : decode cX11_box 169 = .ok (.goto 4, 3) := by decide +kernel
theorem dX11_box_172 : decode cX11_box 172 = .ok (.iconst 0, 1) := by decide +kernel
theorem dX11_box_173 : decode cX11_box 173 = .ok (.istore 7, 2) := by decide +kernel
theorem dX11_box_175 : decode cX11_box 175 = .ok (.iload 5, 2) := by decide +kernel
theorem dX11_box_177 : decode cX11_box 177 = .ok (.iload 7, 2) := by decide +kernel
theorem dX11_box_179 : decode cX11_box 179 = .ok (.ifCond .eq 10, 3) := by decide +kernel
theorem dX11_box_182 : decode cX11_box 182 = .ok (.iconst 1, 1) := by decide +kernel
theorem dX11_box_183 : decode cX11_box 183 = .ok (.iload 6, 2) := by decide +kernel
theorem dX11_box_185 : decode cX11_box 185 = .ok (.ishl, 1) := by decide +kernel
theorem dX11_box_186 : decode cX11_box 186 = .ok (.goto 4, 3) := by decide +kernel
theorem dX11_box_189 : decode cX11_box 189 = .ok (.iconst 0, 1) := by decide +kernel
theorem dX11_box_190 : decode cX11_box 190 = .ok (.ior, 1) := by decide +kernel
theorem dX11_box_191 : decode cX11_box 191 = .ok (.istore 5, 2) := by decide +kernel
theorem dX11_box_193 : decode cX11_box 193 = .ok (.iinc 6 1, 3) := by decide +kernel
theorem dX11_box_196 : decode cX11_box 196 = .ok (.goto (-142), 3) := by decide +kernel
theorem dX11_box_199 : decode cX11_box 199 = .ok (.iload 5, 2) := by decide +kernel
theorem dX11_box_201 : decode cX11_box 201 = .ok (.ireturn, 1) := by decide +kernel
theorem dX11_tinted_0 : decode cX11_tinted 0 = .ok (.aload_n 0, 1) := by decide +kernel
theorem dX11_tinted_1 : decode cX11_tinted 1 = .ok (.iconst 0, 1) := by decide +kernel
theorem dX11_tinted_2 : decode cX11_tinted 2 = .ok (.putfield 3, 3) := by decide +kernel
theorem dX11_tinted_5 : decode cX11_tinted 5 = .ok (.aload_n 0, 1) := by decide +kernel
theorem dX11_tinted_6 : decode cX11_tinted 6 = .ok (.iload_n 1, 1) := by decide +kernel
theorem dX11_tinted_7 : decode cX11_tinted 7 = .ok (.i2l, 1) := by decide +kernel
theorem dX11_tinted_8 : decode cX11_tinted 8 = .ok (.lconst 0, 1) := by decide +kernel
theorem dX11_tinted_9 : decode cX11_tinted 9 = .ok (.ldc2_w 278, 3) := by decide +kernel
theorem dX11_tinted_12 : decode cX11_tinted 12 = .ok (.invokestatic 131, 3) := by decide +kernel
theorem dX11_tinted_15 : decode cX11_tinted 15 = .ok (.ifCond .eq 15, 3) := by decide +kernel
theorem dX11_tinted_18 : decode cX11_tinted 18 = .ok (.iload_n 2, 1) := by decide +kernel
theorem dX11_tinted_19 : decode cX11_tinted 19 = .ok (.i2l, 1) := by decide +kernel
theorem dX11_tinted_20 : decode cX11_tinted 20 = .ok (.lconst 0, 1) := by decide +kernel
theorem dX11_tinted_21 : decode cX11_tinted 21 = .ok (.ldc2_w 278, 3) := by decide +kernel
theorem dX11_tinted_24 : decode cX11_tinted 24 = .ok (.invokestatic 131, 3) := by decide +kernel
theorem dX11_tinted_27 : decode cX11_tinted 27 = .ok (.ifCond .ne 7, 3) := by decide +kernel
theorem dX11_tinted_30 : decode cX11_tinted 30 = .ok (.iconst 1, 1) := by decide +kernel
theorem dX11_tinted_31 : decode cX11_tinted 31 = .ok (.goto 4, 3) := by decide +kernel
theorem dX11_tinted_34 : decode cX11_tinted 34 = .ok (.iconst 0, 1) := by decide +kernel
theorem dX11_tinted_35 : decode cX11_tinted 35 = .ok (.iconst 1, 1) := by decide +kernel
theorem dX11_tinted_36 : decode cX11_tinted 36 = .ok (.invokevirtual 120, 3) := by decide +kernel
theorem dX11_tinted_39 : decode cX11_tinted 39 = .ok (.ifCond .eq 5, 3) := by decide +kernel
theorem dX11_tinted_42 : decode cX11_tinted 42 = .ok (.iconst 0, 1) := by decide +kernel
theorem dX11_tinted_43 : decode cX11_tinted 43 = .ok (.ireturn, 1) := by decide +kernel
theorem dX11_tinted_44 : decode cX11_tinted 44 = .ok (.aload_n 0, 1) := by decide +kernel
theorem dX11_tinted_45 : decode cX11_tinted 45 = .ok (.invokevirtual 348, 3) := by decide +kernel
theorem dX11_tinted_48 : decode cX11_tinted 48 = .ok (.iconst 0, 1) := by decide +kernel
theorem dX11_tinted_49 : decode cX11_tinted 49 = .ok (.istore_n 3, 1) := by decide +kernel
theorem dX11_tinted_50 : decode cX11_tinted 50 = .ok (.iconst 0, 1) := by decide +kernel
theorem dX11_tinted_51 : decode cX11_tinted 51 = .ok (.istore 4, 2) := by decide +kernel
theorem dX11_tinted_53 : decode cX11_tinted 53 = .ok (.iload 4, 2) := by decide +kernel
theorem dX11_tinted_55 : decode cX11_tinted 55 = .ok (.aload_n 0, 1) := by decide +kernel
theorem dX11_tinted_56 : decode cX11_tinted 56 = .ok (.getfield 206, 3) := by decide +kernel
theorem dX11_tinted_59 : decode cX11_tinted 59 = .ok (.if_icmp .ge 135, 3) := by decide +kernel
theorem dX11_tinted_62 : decode cX11_tinted 62 = .ok (.iconst 0, 1) := by decide +kernel
theorem dX11_tinted_63 : decode cX11_tinted 63 = .ok (.istore 5, 2) := by decide +kernel
theorem dX11_tinted_65 : decode cX11_tinted 65 = .ok (.iconst 0, 1) := by decide +kernel
theorem dX11_tinted_66 : decode cX11_tinted 66 = .ok (.istore 6, 2) := by decide +kernel
theorem dX11_tinted_68 : decode cX11_tinted 68 = .ok (.iconst 0, 1) := by decide +kernel
theorem dX11_tinted_69 : decode cX11_tinted 69 = .ok (.istore 7, 2) := by decide +kernel
theorem dX11_tinted_71 : decode cX11_tinted 71 = .ok (.iload 7, 2) := by decide +kernel
theorem dX11_tinted_73 : decode cX11_tinted 73 = .ok (.aload_n 0, 1) := by decide +kernel
theorem dX11_tinted_74 : decode cX11_tinted 74 = .ok (.invokevirtual 200, 3) := by decide +kernel
theorem dX11_tinted_77 : decode cX11_tinted 77 = .ok (.if_icmp .ge 74, 3) := by decide +kernel
theorem dX11_tinted_80 : decode cX11_tinted 80 = .ok (.aload_n 0, 1) := by decide +kernel
theorem dX11_tinted_81 : decode cX11_tinted 81 = .ok (.getfield 48, 3) := by decide +kernel
theorem dX11_tinted_84 : decode cX11_tinted 84 = .ok (.aload_n 0, 1) := by decide +kernel
theorem dX11_tinted_85 : decode cX11_tinted 85 = .ok (.getfield 51, 3) := by decide +kernel
theorem dX11_tinted_88 : decode cX11_tinted 88 = .ok (.iload 4, 2) := by decide +kernel
theorem dX11_tinted_90 : decode cX11_tinted 90 = .ok (.iaload, 1) := by decide +kernel
theorem dX11_tinted_91 : decode cX11_tinted 91 = .ok (.iaload, 1) := by decide +kernel
theorem dX11_tinted_92 : decode cX11_tinted 92 = .ok (.iload 7, 2) := by decide +kernel
theorem dX11_tinted_94 : decode cX11_tinted 94 = .ok (.invokestatic 220, 3) := by decide +kernel
theorem dX11_tinted_97 : decode cX11_tinted 97 = .ok (.ifCond .ne 6, 3) := by decide +kernel
theorem dX11_tinted_100 : decode cX11_tinted 100 = .ok (.goto 45, 3) := by decide +kernel
theorem dX11_tinted_103 : decode cX11_tinted 103 = .ok (.iload 5, 2) := by decide +kernel
theorem dX11_tinted_105 : decode cX11_tinted 105 = .ok (.aload_n 0, 1) := by decide +kernel
theorem dX11_tinted_106 : decode cX11_tinted 106 = .ok (.iload 7, 2) := by decide +kernel
theorem dX11_tinted_108 : decode cX11_tinted 108 = .ok (.iconst 4, 1) := by decide +kernel
theorem dX11_tinted_109 : decode cX11_tinted 109 = .ok (.invokevirtual 127, 3) := by decide +kernel
theorem dX11_tinted_112 : decode cX11_tinted 112 = .ok (.iload_n 1, 1) := by decide +kernel
theorem dX11_tinted_113 : decode cX11_tinted 113 = .ok (.if_icmp .ne 7, 3) := by decide +kernel
theorem dX11_tinted_116 : decode cX11_tinted 116 = .ok (.iconst 1, 1) := by decide +kernel
theorem dX11_tinted_117 : decode cX11_tinted 117 = .ok (.goto 4, 3) := by decide +kernel
theorem dX11_tinted_120 : decode cX11_tinted 120 = .ok (.iconst 0, 1) := by decide +kernel
theorem dX11_tinted_121 : decode cX11_tinted 121 = .ok (.iadd, 1) := by decide +kernel
theorem dX11_tinted_122 : decode cX11_tinted 122 = .ok (.istore 5, 2) := by decide +kernel
theorem dX11_tinted_124 : decode cX11_tinted 124 = .ok (.iload 6, 2) := by decide +kernel
theorem dX11_tinted_126 : decode cX11_tinted 126 = .ok (.aload_n 0, 1) := by decide +kernel
theorem dX11_tinted_127 : decode cX11_tinted 127 = .ok (.iload 7, 2) := by decide +kernel
theorem dX11_tinted_129 : decode cX11_tinted 129 = .ok (.iconst 4, 1) := by decide +kernel
theorem dX11_tinted_130 : decode cX11_tinted 130 = .ok (.invokevirtual 127, 3) := by decide +kernel
theorem dX11_tinted_133 : decode cX11_tinted 133 = .ok (.iload_n 2, 1) := by decide +kernel
theorem dX11_tinted_134 : decode cX11_tinted 134 = .ok (.if_icmp .ne 7, 3) := by decide +kernel
theorem dX11_tinted_137 : decode cX11_tinted 137 = .ok (.iconst 1, 1) := by decide +kernel
theorem dX11_tinted_138 : decode cX11_tinted 138 = .ok (.goto 4, 3) := by decide +kernel
theorem dX11_tinted_141 : decode cX11_tinted 141 = .ok (.iconst 0, 1) := by decide +kernel
theorem dX11_tinted_142 : decode cX11_tinted 142 = .ok (.iadd, 1) := by decide +kernel
theorem dX11_tinted_143 : decode cX11_tinted 143 = .ok (.istore 6, 2) := by decide +kernel
theorem dX11_tinted_145 : decode cX11_tinted 145 = .ok (.iinc 7 1, 3) := by decide +kernel
theorem dX11_tinted_148 : decode cX11_tinted 148 = .ok (.goto (-77), 3) := by decide +kernel
theorem dX11_tinted_151 : decode cX11_tinted 151 = .ok (.iload_n 3, 1) := by decide +kernel
theorem dX11_tinted_152 : decode cX11_tinted 152 = .ok (.iload_n 1, 1) := by decide +kernel
theorem dX11_tinted_153 : decode cX11_tinted 153 = .ok (.iload_n 2, 1) := by decide +kernel
theorem dX11_tinted_154 : decode cX11_tinted 154 = .ok (.if_icmp .ne 17, 3) := by decide +kernel
theorem dX11_tinted_157 : decode cX11_tinted 157 = .ok (.iload 5, 2) := by decide +kernel
theorem dX11_tinted_159 : decode cX11_tinted 159 = .ok (.iconst 1, 1) := by decide +kernel
theorem dX11_tinted_160 : decode cX11_tinted 160 = .ok (.if_icmp .le 7, 3) := by decide +kernel
theorem dX11_tinted_163 : decode cX11_tinted 163 = .ok (.iconst 1, 1) := by decide +kernel
theorem dX11_tinted_164 : decode cX11_tinted 164 = .ok (.goto 22, 3) := by decide +kernel
theorem dX11_tinted_167 : decode cX11_tinted 167 = .ok (.iconst 0, 1) := by decide +kernel
theorem dX11_tinted_168 : decode cX11_tinted 168 = .ok (.goto 18, 3) := by decide +kernel
theorem dX11_tinted_171 : decode cX11_tinted 171 = .ok (.iload 5, 2) := by decide +kernel
theorem dX11_tinted_173 : decode cX11_tinted 173 = .ok (.ifCond .le 12, 3) := by decide +kernel
theorem dX11_tinted_176 : decode cX11_tinted 176 = .ok (.iload 6, 2) := by decide +kernel
theorem dX11_tinted_178 : decode cX11_tinted 178 = .ok (.ifCond .le 7, 3) := by decide +kernel
theorem dX11_tinted_181 : decode cX11_tinted 181 = .ok (.iconst 1, 1) := by decide +kernel
theorem dX11_tinted_182 : decode cX11_tinted 182 = .ok (.goto 4, 3) := by decide +kernel
theorem dX11_tinted_185 : decode cX11_tinted 185 = .ok (.iconst 0, 1) := by decide +kernel
theorem dX11_tinted_186 : decode cX11_tinted 186 = .ok (.iadd, 1) := by decide +kernel
theorem dX11_tinted_187 : decode cX11_tinted 187 = .ok (.istore_n 3, 1) := by decide +kernel
theorem dX11_tinted_188 : decode cX11_tinted 188 = .ok (.iinc 4 1, 3) := by decide +kernel
theorem dX11_tinted_191 : decode cX11_tinted 191 = .ok (.goto (-138), 3) := by decide +kernel
theorem dX11_tinted_194 : decode cX11_tinted 194 = .ok (.iload_n 3, 1) := by decide +kernel
theorem dX11_tinted_195 : decode cX11_tinted 195 = .ok (.ireturn, 1) := by decide +kernel
theorem dX11_pairs_0 : decode cX11_pairs 0 = .ok (.iconst 0, 1) := by decide +kernel
theorem dX11_pairs_1 : decode cX11_pairs 1 = .ok (.istore_n 2, 1) := by decide +kernel
theorem dX11_pairs_2 : decode cX11_pairs 2 = .ok (.iconst 0, 1) := by decide +kernel
theorem dX11_pairs_3 : decode cX11_pairs 3 = .ok (.istore_n 3, 1) := by decide +kernel
theorem dX11_pairs_4 : decode cX11_pairs 4 = .ok (.iload_n 3, 1) := by decide +kernel
theorem dX11_pairs_5 : decode cX11_pairs 5 = .ok (.aload_n 0, 1) := by decide +kernel
theorem dX11_pairs_6 : decode cX11_pairs 6 = .ok (.invokevirtual 200, 3) := by decide +kernel
theorem dX11_pairs_9 : decode cX11_pairs 9 = .ok (.if_icmp .ge 43, 3) := by decide +kernel
theorem dX11_pairs_12 : decode cX11_pairs 12 = .ok (.iconst 0, 1) := by decide +kernel
theorem dX11_pairs_13 : decode cX11_pairs 13 = .ok (.istore 4, 2) := by decide +kernel
theorem dX11_pairs_15 : decode cX11_pairs 15 = .ok (.iload 4, 2) := by decide +kernel
theorem dX11_pairs_17 : decode cX11_pairs 17 = .ok (.iload_n 3, 1) := by decide +kernel
theorem dX11_pairs_18 : decode cX11_pairs 18 = .ok (.if_icmp .ge 28, 3) := by decide +kernel
theorem dX11_pairs_21 : decode cX11_pairs 21 = .ok (.iload_n 2, 1) := by decide +kernel
theorem dX11_pairs_22 : decode cX11_pairs 22 = .ok (.aload_n 0, 1) := by decide +kernel
theorem dX11_pairs_23 : decode cX11_pairs 23 = .ok (.iload_n 3, 1) := by decide +kernel
theorem dX11_pairs_24 : decode cX11_pairs 24 = .ok (.iload 4, 2) := by decide +kernel
theorem dX11_pairs_26 : decode cX11_pairs 26 = .ok (.invokevirtual 186, 3) := by decide +kernel
theorem dX11_pairs_29 : decode cX11_pairs 29 = .ok (.iload_n 1, 1) := by decide +kernel
theorem dX11_pairs_30 : decode cX11_pairs 30 = .ok (.if_icmp .ne 7, 3) := by decide +kernel
theorem dX11_pairs_33 : decode cX11_pairs 33 = .ok (.iconst 1, 1) := by decide +kernel
theorem dX11_pairs_34 : decode cX11_pairs 34 = .ok (.goto 4, 3) := by decide +kernel
theorem dX11_pairs_37 : decode cX11_pairs 37 = .ok (.iconst 0, 1) := by decide +kernel
theorem dX11_pairs_38 : decode cX11_pairs 38 = .ok (.iadd, 1) := by decide +kernel
theorem dX11_pairs_39 : decode cX11_pairs 39 = .ok (.istore_n 2, 1) := by decide +kernel
theorem dX11_pairs_40 : decode cX11_pairs 40 = .ok (.iinc 4 1, 3) := by decide +kernel
theorem dX11_pairs_43 : decode cX11_pairs 43 = .ok (.goto (-28), 3) := by decide +kernel
theorem dX11_pairs_46 : decode cX11_pairs 46 = .ok (.iinc 3 1, 3) := by decide +kernel
theorem dX11_pairs_49 : decode cX11_pairs 49 = .ok (.goto (-45), 3) := by decide +kernel
theorem dX11_pairs_52 : decode cX11_pairs 52 = .ok (.iload_n 2, 1) := by decide +kernel
theorem dX11_pairs_53 : decode cX11_pairs 53 = .ok (.ireturn, 1) := by decide +kernel
theorem dX11_parts_0 : decode cX11_parts 0 = .ok (.iconst 0, 1) := by decide +kernel
theorem dX11_parts_1 : decode cX11_parts 1 = .ok (.istore_n 1, 1) := by decide +kernel
theorem dX11_parts_2 : decode cX11_parts 2 = .ok (.iconst 0, 1) := by decide +kernel
theorem dX11_parts_3 : decode cX11_parts 3 = .ok (.istore_n 2, 1) := by decide +kernel
theorem dX11_parts_4 : decode cX11_parts 4 = .ok (.iload_n 2, 1) := by decide +kernel
theorem dX11_parts_5 : decode cX11_parts 5 = .ok (.aload_n 0, 1) := by decide +kernel
theorem dX11_parts_6 : decode cX11_parts 6 = .ok (.invokevirtual 200, 3) := by decide +kernel
theorem dX11_parts_9 : decode cX11_parts 9 = .ok (.if_icmp .ge 31, 3) := by decide +kernel
theorem dX11_parts_12 : decode cX11_parts 12 = .ok (.iload_n 1, 1) := by decide +kernel
theorem dX11_parts_13 : decode cX11_parts 13 = .ok (.aload_n 0, 1) := by decide +kernel
theorem dX11_parts_14 : decode cX11_parts 14 = .ok (.iload_n 2, 1) := by decide +kernel
theorem dX11_parts_15 : decode cX11_parts 15 = .ok (.invokevirtual 370, 3) := by decide +kernel
theorem dX11_parts_18 : decode cX11_parts 18 = .ok (.iconst 1, 1) := by decide +kernel
theorem dX11_parts_19 : decode cX11_parts 19 = .ok (.iload_n 2, 1) := by decide +kernel
theorem dX11_parts_20 : decode cX11_parts 20 = .ok (.ishl, 1) := by decide +kernel
theorem dX11_parts_21 : decode cX11_parts 21 = .ok (.iconst 1, 1) := by decide +kernel
theorem dX11_parts_22 : decode cX11_parts 22 = .ok (.isub, 1) := by decide +kernel
theorem dX11_parts_23 : decode cX11_parts 23 = .ok (.iand, 1) := by decide +kernel
theorem dX11_parts_24 : decode cX11_parts 24 = .ok (.ifCond .ne 7, 3) := by decide +kernel
theorem dX11_parts_27 : decode cX11_parts 27 = .ok (.iconst 1, 1) := by decide +kernel
theorem dX11_parts_28 : decode cX11_parts 28 = .ok (.goto 4, 3) := by decide +kernel
theorem dX11_parts_31 : decode cX11_parts 31 = .ok (.iconst 0, 1) := by decide +kernel
theorem dX11_parts_32 : decode cX11_parts 32 = .ok (.iadd, 1) := by decide +kernel
theorem dX11_parts_33 : decode cX11_parts 33 = .ok (.istore_n 1, 1) := by decide +kernel
theorem dX11_parts_34 : decode cX11_parts 34 = .ok (.iinc 2 1, 3) := by decide +kernel
theorem dX11_parts_37 : decode cX11_parts 37 = .ok (.goto (-33), 3) := by decide +kernel
theorem dX11_parts_40 : decode cX11_parts 40 = .ok (.iload_n 1, 1) := by decide +kernel
theorem dX11_parts_41 : decode cX11_parts 41 = .ok (.ireturn, 1) := by decide +kernel
theorem dX11_blame_0 : decode cX11_blame 0 = .ok (.iconst 0, 1) := by decide +kernel
theorem dX11_blame_1 : decode cX11_blame 1 = .ok (.istore_n 1, 1) := by decide +kernel
theorem dX11_blame_2 : decode cX11_blame 2 = .ok (.iload_n 1, 1) := by decide +kernel
theorem dX11_blame_3 : decode cX11_blame 3 = .ok (.aload_n 0, 1) := by decide +kernel
theorem dX11_blame_4 : decode cX11_blame 4 = .ok (.getfield 206, 3) := by decide +kernel
theorem dX11_blame_7 : decode cX11_blame 7 = .ok (.if_icmp .ge 42, 3) := by decide +kernel
theorem dX11_blame_10 : decode cX11_blame 10 = .ok (.aload_n 0, 1) := by decide +kernel
theorem dX11_blame_11 : decode cX11_blame 11 = .ok (.getfield 103, 3) := by decide +kernel
theorem dX11_blame_14 : decode cX11_blame 14 = .ok (.iload_n 1, 1) := by decide +kernel
theorem dX11_blame_15 : decode cX11_blame 15 = .ok (.iconst 0, 1) := by decide +kernel
theorem dX11_blame_16 : decode cX11_blame 16 = .ok (.iastore, 1) := by decide +kernel
theorem dX11_blame_17 : decode cX11_blame 17 = .ok (.iconst 0, 1) := by decide +kernel
theorem dX11_blame_18 : decode cX11_blame 18 = .ok (.istore_n 2, 1) := by decide +kernel
theorem dX11_blame_19 : decode cX11_blame 19 = .ok (.iload_n 2, 1) := by decide +kernel
theorem dX11_blame_20 : decode cX11_blame 20 = .ok (.bipush 24, 2) := by decide +kernel
theorem dX11_blame_22 : decode cX11_blame 22 = .ok (.if_icmp .ge 21, 3) := by decide +kernel
theorem dX11_blame_25 : decode cX11_blame 25 = .ok (.aload_n 0, 1) := by decide +kernel
theorem dX11_blame_26 : decode cX11_blame 26 = .ok (.getfield 106, 3) := by decide +kernel
theorem dX11_blame_29 : decode cX11_blame 29 = .ok (.bipush 24, 2) := by decide +kernel
theorem dX11_blame_31 : decode cX11_blame 31 = .ok (.iload_n 1, 1) := by decide +kernel
theorem dX11_blame_32 : decode cX11_blame 32 = .ok (.imul, 1) := by decide +kernel
theorem dX11_blame_33 : decode cX11_blame 33 = .ok (.iload_n 2, 1) := by decide +kernel
theorem dX11_blame_34 : decode cX11_blame 34 = .ok (.iadd, 1) := by decide +kernel
theorem dX11_blame_35 : decode cX11_blame 35 = .ok (.iconst 0, 1) := by decide +kernel
theorem dX11_blame_36 : decode cX11_blame 36 = .ok (.iastore, 1) := by decide +kernel
theorem dX11_blame_37 : decode cX11_blame 37 = .ok (.iinc 2 1, 3) := by decide +kernel
theorem dX11_blame_40 : decode cX11_blame 40 = .ok (.goto (-21), 3) := by decide +kernel
theorem dX11_blame_43 : decode cX11_blame 43 = .ok (.iinc 1 1, 3) := by decide +kernel
theorem dX11_blame_46 : decode cX11_blame 46 = .ok (.goto (-44), 3) := by decide +kernel
theorem dX11_blame_49 : decode cX11_blame 49 = .ok (.iconst 0, 1) := by decide +kernel
theorem dX11_blame_50 : decode cX11_blame 50 = .ok (.istore_n 1, 1) := by decide +kernel
theorem dX11_blame_51 : decode cX11_blame 51 = .ok (.iload_n 1, 1) := by decide +kernel
theorem dX11_blame_52 : decode cX11_blame 52 = .ok (.aload_n 0, 1) := by decide +kernel
theorem dX11_blame_53 : decode cX11_blame 53 = .ok (.invokevirtual 200, 3) := by decide +kernel
theorem dX11_blame_56 : decode cX11_blame 56 = .ok (.if_icmp .ge 97, 3) := by decide +kernel
theorem dX11_blame_59 : decode cX11_blame 59 = .ok (.iconst 0, 1) := by decide +kernel
theorem dX11_blame_60 : decode cX11_blame 60 = .ok (.istore_n 2, 1) := by decide +kernel
theorem dX11_blame_61 : decode cX11_blame 61 = .ok (.iload_n 2, 1) := by decide +kernel
theorem dX11_blame_62 : decode cX11_blame 62 = .ok (.iload_n 1, 1) := by decide +kernel
theorem dX11_blame_63 : decode cX11_blame 63 = .ok (.if_icmp .ge 84, 3) := by decide +kernel
theorem dX11_blame_66 : decode cX11_blame 66 = .ok (.aload_n 0, 1) := by decide +kernel
theorem dX11_blame_67 : decode cX11_blame 67 = .ok (.iload_n 1, 1) := by decide +kernel
theorem dX11_blame_68 : decode cX11_blame 68 = .ok (.iload_n 2, 1) := by decide +kernel
theorem dX11_blame_69 : decode cX11_blame 69 = .ok (.invokevirtual 186, 3) := by decide +kernel
theorem dX11_blame_72 : decode cX11_blame 72 = .ok (.iconst 1, 1) := by decide +kernel
theorem dX11_blame_73 : decode cX11_blame 73 = .ok (.if_icmp .eq 6, 3) := by decide +kernel
theorem dX11_blame_76 : decode cX11_blame 76 = .ok (.goto 65, 3) := by decide +kernel
theorem dX11_blame_79 : decode cX11_blame 79 = .ok (.aload_n 0, 1) := by decide +kernel
theorem dX11_blame_80 : decode cX11_blame 80 = .ok (.getfield 45, 3) := by decide +kernel
theorem dX11_blame_83 : decode cX11_blame 83 = .ok (.aload_n 0, 1) := by decide +kernel
theorem dX11_blame_84 : decode cX11_blame 84 = .ok (.aload_n 0, 1) := by decide +kernel
theorem dX11_blame_85 : decode cX11_blame 85 = .ok (.getfield 147, 3) := by decide +kernel
theorem dX11_blame_88 : decode cX11_blame 88 = .ok (.aload_n 0, 1) := by decide +kernel
theorem dX11_blame_89 : decode cX11_blame 89 = .ok (.getfield 151, 3) := by decide +kernel
theorem dX11_blame_92 : decode cX11_blame 92 = .ok (.aload_n 0, 1) := by decide +kernel
theorem dX11_blame_93 : decode cX11_blame 93 = .ok (.getfield 154, 3) := by decide +kernel
theorem dX11_blame_96 : decode cX11_blame 96 = .ok (.invokevirtual 203, 3) := by decide +kernel
theorem dX11_blame_99 : decode cX11_blame 99 = .ok (.iaload, 1) := by decide +kernel
theorem dX11_blame_100 : decode cX11_blame 100 = .ok (.istore_n 3, 1) := by decide +kernel
theorem dX11_blame_101 : decode cX11_blame 101 = .ok (.aload_n 0, 1) := by decide +kernel
theorem dX11_blame_102 : decode cX11_blame 102 = .ok (.getfield 103, 3) := by decide +kernel
theorem dX11_blame_105 : decode cX11_blame 105 = .ok (.iload_n 3, 1) := by decide +kernel
theorem dX11_blame_106 : decode cX11_blame 106 = .ok (.dup2, 1) := by decide +kernel
theorem dX11_blame_107 : decode cX11_blame 107 = .ok (.iaload, 1) := by decide +kernel
theorem dX11_blame_108 : decode cX11_blame 108 = .ok (.iconst 1, 1) := by decide +kernel
theorem dX11_blame_109 : decode cX11_blame 109 = .ok (.iadd, 1) := by decide +kernel
theorem dX11_blame_110 : decode cX11_blame 110 = .ok (.iastore, 1) := by decide +kernel
theorem dX11_blame_111 : decode cX11_blame 111 = .ok (.aload_n 0, 1) := by decide +kernel
theorem dX11_blame_112 : decode cX11_blame 112 = .ok (.getfield 106, 3) := by decide +kernel
theorem dX11_blame_115 : decode cX11_blame 115 = .ok (.bipush 24, 2) := by decide +kernel
theorem dX11_blame_117 : decode cX11_blame 117 = .ok (.iload_n 3, 1) := by decide +kernel
theorem dX11_blame_118 : decode cX11_blame 118 = .ok (.imul, 1) := by decide +kernel
theorem dX11_blame_119 : decode cX11_blame 119 = .ok (.iload_n 1, 1) := by decide +kernel
theorem dX11_blame_120 : decode cX11_blame 120 = .ok (.iadd, 1) := by decide +kernel
theorem dX11_blame_121 : decode cX11_blame 121 = .ok (.dup2, 1) := by decide +kernel
theorem dX11_blame_122 : decode cX11_blame 122 = .ok (.iaload, 1) := by decide +kernel
theorem dX11_blame_123 : decode cX11_blame 123 = .ok (.iconst 1, 1) := by decide +kernel
theorem dX11_blame_124 : decode cX11_blame 124 = .ok (.iadd, 1) := by decide +kernel
theorem dX11_blame_125 : decode cX11_blame 125 = .ok (.iastore, 1) := by decide +kernel
theorem dX11_blame_126 : decode cX11_blame 126 = .ok (.aload_n 0, 1) := by decide +kernel
theorem dX11_blame_127 : decode cX11_blame 127 = .ok (.getfield 106, 3) := by decide +kernel
theorem dX11_blame_130 : decode cX11_blame 130 = .ok (.bipush 24, 2) := by decide +kernel
theorem dX11_blame_132 : decode cX11_blame 132 = .ok (.iload_n 3, 1) := by decide +kernel
theorem dX11_blame_133 : decode cX11_blame 133 = .ok (.imul, 1) := by decide +kernel
theorem dX11_blame_134 : decode cX11_blame 134 = .ok (.iload_n 2, 1) := by decide +kernel
theorem dX11_blame_135 : decode cX11_blame 135 = .ok (.iadd, 1) := by decide +kernel
theorem dX11_blame_136 : decode cX11_blame 136 = .ok (.dup2, 1) := by decide +kernel
theorem dX11_blame_137 : decode cX11_blame 137 = .ok (.iaload, 1) := by decide +kernel
theorem dX11_blame_138 : decode cX11_blame 138 = .ok (.iconst 1, 1) := by decide +kernel
theorem dX11_blame_139 : decode cX11_blame 139 = .ok (.iadd, 1) := by decide +kernel
theorem dX11_blame_140 : decode cX11_blame 140 = .ok (.iastore, 1) := by decide +kernel
theorem dX11_blame_141 : decode cX11_blame 141 = .ok (.iinc 2 1, 3) := by decide +kernel
theorem dX11_blame_144 : decode cX11_blame 144 = .ok (.goto (-83), 3) := by decide +kernel
theorem dX11_blame_147 : decode cX11_blame 147 = .ok (.iinc 1 1, 3) := by decide +kernel
theorem dX11_blame_150 : decode cX11_blame 150 = .ok (.goto (-99), 3) := by decide +kernel
theorem dX11_blame_153 : decode cX11_blame 153 = .ok (.iconst (-1), 1) := by decide +kernel
theorem dX11_blame_154 : decode cX11_blame 154 = .ok (.istore_n 1, 1) := by decide +kernel
theorem dX11_blame_155 : decode cX11_blame 155 = .ok (.iconst 0, 1) := by decide +kernel
theorem dX11_blame_156 : decode cX11_blame 156 = .ok (.istore_n 2, 1) := by decide +kernel
theorem dX11_blame_157 : decode cX11_blame 157 = .ok (.iconst 0, 1) := by decide +kernel
theorem dX11_blame_158 : decode cX11_blame 158 = .ok (.istore_n 3, 1) := by decide +kernel
theorem dX11_blame_159 : decode cX11_blame 159 = .ok (.iload_n 3, 1) := by decide +kernel
theorem dX11_blame_160 : decode cX11_blame 160 = .ok (.aload_n 0, 1) := by decide +kernel
theorem dX11_blame_161 : decode cX11_blame 161 = .ok (.invokevirtual 200, 3) := by decide +kernel
theorem dX11_blame_164 : decode cX11_blame 164 = .ok (.if_icmp .ge 81, 3) := by decide +kernel
theorem dX11_blame_167 : decode cX11_blame 167 = .ok (.iconst 0, 1) := by decide +kernel
theorem dX11_blame_168 : decode cX11_blame 168 = .ok (.istore 4, 2) := by decide +kernel
theorem dX11_blame_170 : decode cX11_blame 170 = .ok (.iconst 0, 1) := by decide +kernel
theorem dX11_blame_171 : decode cX11_blame 171 = .ok (.istore 5, 2) := by decide +kernel
theorem dX11_blame_173 : decode cX11_blame 173 = .ok (.iload 5, 2) := by decide +kernel
theorem dX11_blame_175 : decode cX11_blame 175 = .ok (.aload_n 0, 1) := by decide +kernel
theorem dX11_blame_176 : decode cX11_blame 176 = .ok (.getfield 206, 3) := by decide +kernel
theorem dX11_blame_179 : decode cX11_blame 179 = .ok (.if_icmp .ge 41, 3) := by decide +kernel
theorem dX11_blame_182 : decode cX11_blame 182 = .ok (.iload 4, 2) := by decide +kernel
theorem dX11_blame_184 : decode cX11_blame 184 = .ok (.aload_n 0, 1) := by decide +kernel
theorem dX11_blame_185 : decode cX11_blame 185 = .ok (.getfield 103, 3) := by decide +kernel
theorem dX11_blame_188 : decode cX11_blame 188 = .ok (.iload 5, 2) := by decide +kernel
theorem dX11_blame_190 : decode cX11_blame 190 = .ok (.iaload, 1) := by decide +kernel
theorem dX11_blame_191 : decode cX11_blame 191 = .ok (.aload_n 0, 1) := by decide +kernel
theorem dX11_blame_192 : decode cX11_blame 192 = .ok (.getfield 106, 3) := by decide +kernel
theorem dX11_blame_195 : decode cX11_blame 195 = .ok (.bipush 24, 2) := by decide +kernel
theorem dX11_blame_197 : decode cX11_blame 197 = .ok (.iload 5, 2) := by decide +kernel
theorem dX11_blame_199 : decode cX11_blame 199 = .ok (.imul, 1) := by decide +kernel
theorem dX11_blame_200 : decode cX11_blame 200 = .ok (.iload_n 3, 1) := by decide +kernel
theorem dX11_blame_201 : decode cX11_blame 201 = .ok (.iadd, 1) := by decide +kernel
theorem dX11_blame_202 : decode cX11_blame 202 = .ok (.iaload, 1) := by decide +kernel
theorem dX11_blame_203 : decode cX11_blame 203 = .ok (.if_icmp .le 7, 3) := by decide +kernel
theorem dX11_blame_206 : decode cX11_blame 206 = .ok (.iconst 1, 1) := by decide +kernel
theorem dX11_blame_207 : decode cX11_blame 207 = .ok (.goto 4, 3) := by decide +kernel
theorem dX11_blame_210 : decode cX11_blame 210 = .ok (.iconst 0, 1) := by decide +kernel
theorem dX11_blame_211 : decode cX11_blame 211 = .ok (.iadd, 1) := by decide +kernel
theorem dX11_blame_212 : decode cX11_blame 212 = .ok (.istore 4, 2) := by decide +kernel
theorem dX11_blame_214 : decode cX11_blame 214 = .ok (.iinc 5 1, 3) := by decide +kernel
theorem dX11_blame_217 : decode cX11_blame 217 = .ok (.goto (-44), 3) := by decide +kernel
theorem dX11_blame_220 : decode cX11_blame 220 = .ok (.iload_n 1, 1) := by decide +kernel
theorem dX11_blame_221 : decode cX11_blame 221 = .ok (.iconst (-1), 1) := by decide +kernel
theorem dX11_blame_222 : decode cX11_blame 222 = .ok (.if_icmp .eq 12, 3) := by decide +kernel
theorem dX11_blame_225 : decode cX11_blame 225 = .ok (.iload 4, 2) := by decide +kernel
theorem dX11_blame_227 : decode cX11_blame 227 = .ok (.iload_n 2, 1) := by decide +kernel
theorem dX11_blame_228 : decode cX11_blame 228 = .ok (.if_icmp .lt 6, 3) := by decide +kernel
theorem dX11_blame_231 : decode cX11_blame 231 = .ok (.goto 8, 3) := by decide +kernel
theorem dX11_blame_234 : decode cX11_blame 234 = .ok (.iload_n 3, 1) := by decide +kernel
theorem dX11_blame_235 : decode cX11_blame 235 = .ok (.istore_n 1, 1) := by decide +kernel
theorem dX11_blame_236 : decode cX11_blame 236 = .ok (.iload 4, 2) := by decide +kernel
theorem dX11_blame_238 : decode cX11_blame 238 = .ok (.istore_n 2, 1) := by decide +kernel
theorem dX11_blame_239 : decode cX11_blame 239 = .ok (.iinc 3 1, 3) := by decide +kernel
theorem dX11_blame_242 : decode cX11_blame 242 = .ok (.goto (-83), 3) := by decide +kernel
theorem dX11_blame_245 : decode cX11_blame 245 = .ok (.iload_n 1, 1) := by decide +kernel
theorem dX11_blame_246 : decode cX11_blame 246 = .ok (.ireturn, 1) := by decide +kernel
theorem dX11_mostStatus_0 : decode cX11_mostStatus 0 = .ok (.iconst (-1), 1) := by decide +kernel
theorem dX11_mostStatus_1 : decode cX11_mostStatus 1 = .ok (.istore_n 2, 1) := by decide +kernel
theorem dX11_mostStatus_2 : decode cX11_mostStatus 2 = .ok (.iconst (-1), 1) := by decide +kernel
theorem dX11_mostStatus_3 : decode cX11_mostStatus 3 = .ok (.istore_n 3, 1) := by decide +kernel
theorem dX11_mostStatus_4 : decode cX11_mostStatus 4 = .ok (.iconst 0, 1) := by decide +kernel
theorem dX11_mostStatus_5 : decode cX11_mostStatus 5 = .ok (.istore 4, 2) := by decide +kernel
theorem dX11_mostStatus_7 : decode cX11_mostStatus 7 = .ok (.iload 4, 2) := by decide +kernel
theorem dX11_mostStatus_9 : decode cX11_mostStatus 9 = .ok (.aload_n 0, 1) := by decide +kernel
theorem dX11_mostStatus_10 : decode cX11_mostStatus 10 = .ok (.getfield 193, 3) := by decide +kernel
theorem dX11_mostStatus_13 : decode cX11_mostStatus 13 = .ok (.if_icmp .ge 32, 3) := by decide +kernel
theorem dX11_mostStatus_16 : decode cX11_mostStatus 16 = .ok (.aload_n 0, 1) := by decide +kernel
theorem dX11_mostStatus_17 : decode cX11_mostStatus 17 = .ok (.iload 4, 2) := by decide +kernel
theorem dX11_mostStatus_19 : decode cX11_mostStatus 19 = .ok (.invokevirtual 418, 3) := by decide +kernel
theorem dX11_mostStatus_22 : decode cX11_mostStatus 22 = .ok (.istore 5, 2) := by decide +kernel
theorem dX11_mostStatus_24 : decode cX11_mostStatus 24 = .ok (.iload 5, 2) := by decide +kernel
theorem dX11_mostStatus_26 : decode cX11_mostStatus 26 = .ok (.iload_n 3, 1) := by decide +kernel
theorem dX11_mostStatus_27 : decode cX11_mostStatus 27 = .ok (.if_icmp .gt 6, 3) := by decide +kernel
theorem dX11_mostStatus_30 : decode cX11_mostStatus 30 = .ok (.goto 9, 3) := by decide +kernel
theorem dX11_mostStatus_33 : decode cX11_mostStatus 33 = .ok (.iload 5, 2) := by decide +kernel
theorem dX11_mostStatus_35 : decode cX11_mostStatus 35 = .ok (.istore_n 3, 1) := by decide +kernel
theorem dX11_mostStatus_36 : decode cX11_mostStatus 36 = .ok (.iload 4, 2) := by decide +kernel
theorem dX11_mostStatus_38 : decode cX11_mostStatus 38 = .ok (.istore_n 2, 1) := by decide +kernel
theorem dX11_mostStatus_39 : decode cX11_mostStatus 39 = .ok (.iinc 4 1, 3) := by decide +kernel
theorem dX11_mostStatus_42 : decode cX11_mostStatus 42 = .ok (.goto (-35), 3) := by decide +kernel
theorem dX11_mostStatus_45 : decode cX11_mostStatus 45 = .ok (.iload_n 1, 1) := by decide +kernel
theorem dX11_mostStatus_46 : decode cX11_mostStatus 46 = .ok (.ifCond .eq 7, 3) := by decide +kernel
theorem dX11_mostStatus_49 : decode cX11_mostStatus 49 = .ok (.iload_n 2, 1) := by decide +kernel
theorem dX11_mostStatus_50 : decode cX11_mostStatus 50 = .ok (.goto 8, 3) := by decide +kernel
theorem dX11_mostStatus_53 : decode cX11_mostStatus 53 = .ok (.iconst 0, 1) := by decide +kernel
theorem dX11_mostStatus_54 : decode cX11_mostStatus 54 = .ok (.iload_n 3, 1) := by decide +kernel
theorem dX11_mostStatus_55 : decode cX11_mostStatus 55 = .ok (.invokestatic 140, 3) := by decide +kernel
theorem dX11_mostStatus_58 : decode cX11_mostStatus 58 = .ok (.ireturn, 1) := by decide +kernel
theorem dX11_odd_0 : decode cX11_odd 0 = .ok (.iconst 0, 1) := by decide +kernel
theorem dX11_odd_1 : decode cX11_odd 1 = .ok (.istore_n 1, 1) := by decide +kernel
theorem dX11_odd_2 : decode cX11_odd 2 = .ok (.iconst 0, 1) := by decide +kernel
theorem dX11_odd_3 : decode cX11_odd 3 = .ok (.istore_n 2, 1) := by decide +kernel
theorem dX11_odd_4 : decode cX11_odd 4 = .ok (.iload_n 2, 1) := by decide +kernel
theorem dX11_odd_5 : decode cX11_odd 5 = .ok (.aload_n 0, 1) := by decide +kernel
theorem dX11_odd_6 : decode cX11_odd 6 = .ok (.getfield 193, 3) := by decide +kernel
theorem dX11_odd_9 : decode cX11_odd 9 = .ok (.if_icmp .ge 20, 3) := by decide +kernel
theorem dX11_odd_12 : decode cX11_odd 12 = .ok (.iload_n 1, 1) := by decide +kernel
theorem dX11_odd_13 : decode cX11_odd 13 = .ok (.aload_n 0, 1) := by decide +kernel
theorem dX11_odd_14 : decode cX11_odd 14 = .ok (.getfield 54, 3) := by decide +kernel
theorem dX11_odd_17 : decode cX11_odd 17 = .ok (.iload_n 2, 1) := by decide +kernel
theorem dX11_odd_18 : decode cX11_odd 18 = .ok (.iaload, 1) := by decide +kernel
theorem dX11_odd_19 : decode cX11_odd 19 = .ok (.iconst 2, 1) := by decide +kernel
theorem dX11_odd_20 : decode cX11_odd 20 = .ok (.irem, 1) := by decide +kernel
theorem dX11_odd_21 : decode cX11_odd 21 = .ok (.iadd, 1) := by decide +kernel
theorem dX11_odd_22 : decode cX11_odd 22 = .ok (.istore_n 1, 1) := by decide +kernel
theorem dX11_odd_23 : decode cX11_odd 23 = .ok (.iinc 2 1, 3) := by decide +kernel
theorem dX11_odd_26 : decode cX11_odd 26 = .ok (.goto (-22), 3) := by decide +kernel
theorem dX11_odd_29 : decode cX11_odd 29 = .ok (.iload_n 1, 1) := by decide +kernel
theorem dX11_odd_30 : decode cX11_odd 30 = .ok (.ireturn, 1) := by decide +kernel
theorem dX11_spreads_0 : decode cX11_spreads 0 = .ok (.iconst 0, 1) := by decide +kernel
theorem dX11_spreads_1 : decode cX11_spreads 1 = .ok (.istore_n 1, 1) := by decide +kernel
theorem dX11_spreads_2 : decode cX11_spreads 2 = .ok (.iconst 0, 1) := by decide +kernel
theorem dX11_spreads_3 : decode cX11_spreads 3 = .ok (.istore_n 2, 1) := by decide +kernel
theorem dX11_spreads_4 : decode cX11_spreads 4 = .ok (.iload_n 2, 1) := by decide +kernel
theorem dX11_spreads_5 : decode cX11_spreads 5 = .ok (.aload_n 0, 1) := by decide +kernel
theorem dX11_spreads_6 : decode cX11_spreads 6 = .ok (.getfield 193, 3) := by decide +kernel
theorem dX11_spreads_9 : decode cX11_spreads 9 = .ok (.if_icmp .ge 17, 3) := by decide +kernel
theorem dX11_spreads_12 : decode cX11_spreads 12 = .ok (.iload_n 1, 1) := by decide +kernel
theorem dX11_spreads_13 : decode cX11_spreads 13 = .ok (.aload_n 0, 1) := by decide +kernel
theorem dX11_spreads_14 : decode cX11_spreads 14 = .ok (.iload_n 2, 1) := by decide +kernel
theorem dX11_spreads_15 : decode cX11_spreads 15 = .ok (.invokevirtual 415, 3) := by decide +kernel
theorem dX11_spreads_18 : decode cX11_spreads 18 = .ok (.iadd, 1) := by decide +kernel
theorem dX11_spreads_19 : decode cX11_spreads 19 = .ok (.istore_n 1, 1) := by decide +kernel
theorem dX11_spreads_20 : decode cX11_spreads 20 = .ok (.iinc 2 1, 3) := by decide +kernel
theorem dX11_spreads_23 : decode cX11_spreads 23 = .ok (.goto (-19), 3) := by decide +kernel
theorem dX11_spreads_26 : decode cX11_spreads 26 = .ok (.iload_n 1, 1) := by decide +kernel
theorem dX11_spreads_27 : decode cX11_spreads 27 = .ok (.ireturn, 1) := by decide +kernel
theorem dX11_widestBundle_0 : decode cX11_widestBundle 0 = .ok (.iconst 0, 1) := by decide +kernel
theorem dX11_widestBundle_1 : decode cX11_widestBundle 1 = .ok (.istore_n 1, 1) := by decide +kernel
theorem dX11_widestBundle_2 : decode cX11_widestBundle 2 = .ok (.iconst 0, 1) := by decide +kernel
theorem dX11_widestBundle_3 : decode cX11_widestBundle 3 = .ok (.istore_n 2, 1) := by decide +kernel
theorem dX11_widestBundle_4 : decode cX11_widestBundle 4 = .ok (.iload_n 2, 1) := by decide +kernel
theorem dX11_widestBundle_5 : decode cX11_widestBundle 5 = .ok (.aload_n 0, 1) := by decide +kernel
theorem dX11_widestBundle_6 : decode cX11_widestBundle 6 = .ok (.getfield 206, 3) := by decide +kernel
theorem dX11_widestBundle_9 : decode cX11_widestBundle 9 = .ok (.if_icmp .ge 28, 3) := by decide +kernel
theorem dX11_widestBundle_12 : decode cX11_widestBundle 12 = .ok (.iload_n 1, 1) := by decide +kernel
theorem dX11_widestBundle_13 : decode cX11_widestBundle 13 = .ok (.aload_n 0, 1) := by decide +kernel
theorem dX11_widestBundle_14 : decode cX11_widestBundle 14 = .ok (.getfield 48, 3) := by decide +kernel
theorem dX11_widestBundle_17 : decode cX11_widestBundle 17 = .ok (.aload_n 0, 1) := by decide +kernel
theorem dX11_widestBundle_18 : decode cX11_widestBundle 18 = .ok (.getfield 51, 3) := by decide +kernel
theorem dX11_widestBundle_21 : decode cX11_widestBundle 21 = .ok (.iload_n 2, 1) := by decide +kernel
theorem dX11_widestBundle_22 : decode cX11_widestBundle 22 = .ok (.iaload, 1) := by decide +kernel
theorem dX11_widestBundle_23 : decode cX11_widestBundle 23 = .ok (.iaload, 1) := by decide +kernel
theorem dX11_widestBundle_24 : decode cX11_widestBundle 24 = .ok (.invokestatic 392, 3) := by decide +kernel
theorem dX11_widestBundle_27 : decode cX11_widestBundle 27 = .ok (.invokestatic 140, 3) := by decide +kernel
theorem dX11_widestBundle_30 : decode cX11_widestBundle 30 = .ok (.istore_n 1, 1) := by decide +kernel
theorem dX11_widestBundle_31 : decode cX11_widestBundle 31 = .ok (.iinc 2 1, 3) := by decide +kernel
theorem dX11_widestBundle_34 : decode cX11_widestBundle 34 = .ok (.goto (-30), 3) := by decide +kernel
theorem dX11_widestBundle_37 : decode cX11_widestBundle 37 = .ok (.iload_n 1, 1) := by decide +kernel
theorem dX11_widestBundle_38 : decode cX11_widestBundle 38 = .ok (.ireturn, 1) := by decide +kernel
theorem dX11_count_0 : decode cX11_count 0 = .ok (.aload_n 0, 1) := by decide +kernel
theorem dX11_count_1 : decode cX11_count 1 = .ok (.iconst 0, 1) := by decide +kernel
theorem dX11_count_2 : decode cX11_count 2 = .ok (.putfield 3, 3) := by decide +kernel
theorem dX11_count_5 : decode cX11_count 5 = .ok (.aload_n 0, 1) := by decide +kernel
theorem dX11_count_6 : decode cX11_count 6 = .ok (.invokevirtual 348, 3) := by decide +kernel
theorem dX11_count_9 : decode cX11_count 9 = .ok (.iload_n 1, 1) := by decide +kernel
theorem dX11_count_10 : decode cX11_count 10 = .ok (.tableswitch 174 0 15 #[78, 83, 88, 93, 99, 104, 109, 126, 131, 137, 143, 148, 153, 158, 163, 168], 78) := by decide +kernel
theorem dX11_count_88 : decode cX11_count 88 = .ok (.aload_n 0, 1) := by decide +kernel
theorem dX11_count_89 : decode cX11_count 89 = .ok (.invokevirtual 200, 3) := by decide +kernel
theorem dX11_count_92 : decode cX11_count 92 = .ok (.ireturn, 1) := by decide +kernel
theorem dX11_count_93 : decode cX11_count 93 = .ok (.aload_n 0, 1) := by decide +kernel
theorem dX11_count_94 : decode cX11_count 94 = .ok (.getfield 206, 3) := by decide +kernel
theorem dX11_count_97 : decode cX11_count 97 = .ok (.ireturn, 1) := by decide +kernel
theorem dX11_count_98 : decode cX11_count 98 = .ok (.aload_n 0, 1) := by decide +kernel
theorem dX11_count_99 : decode cX11_count 99 = .ok (.getfield 193, 3) := by decide +kernel
theorem dX11_count_102 : decode cX11_count 102 = .ok (.ireturn, 1) := by decide +kernel
theorem dX11_count_103 : decode cX11_count 103 = .ok (.aload_n 0, 1) := by decide +kernel
theorem dX11_count_104 : decode cX11_count 104 = .ok (.iconst 2, 1) := by decide +kernel
theorem dX11_count_105 : decode cX11_count 105 = .ok (.invokevirtual 466, 3) := by decide +kernel
theorem dX11_count_108 : decode cX11_count 108 = .ok (.ireturn, 1) := by decide +kernel
theorem dX11_count_109 : decode cX11_count 109 = .ok (.aload_n 0, 1) := by decide +kernel
theorem dX11_count_110 : decode cX11_count 110 = .ok (.getfield 213, 3) := by decide +kernel
theorem dX11_count_113 : decode cX11_count 113 = .ok (.ireturn, 1) := by decide +kernel
theorem dX11_count_114 : decode cX11_count 114 = .ok (.aload_n 0, 1) := by decide +kernel
theorem dX11_count_115 : decode cX11_count 115 = .ok (.invokevirtual 469, 3) := by decide +kernel
theorem dX11_count_118 : decode cX11_count 118 = .ok (.ireturn, 1) := by decide +kernel
theorem dX11_count_119 : decode cX11_count 119 = .ok (.aload_n 0, 1) := by decide +kernel
theorem dX11_count_120 : decode cX11_count 120 = .ok (.getfield 213, 3) := by decide +kernel
theorem dX11_count_123 : decode cX11_count 123 = .ok (.aload_n 0, 1) := by decide +kernel
theorem dX11_count_124 : decode cX11_count 124 = .ok (.invokevirtual 469, 3) := by decide +kernel
theorem dX11_count_127 : decode cX11_count 127 = .ok (.iadd, 1) := by decide +kernel
theorem dX11_count_128 : decode cX11_count 128 = .ok (.iconst 1, 1) := by decide +kernel
theorem dX11_count_129 : decode cX11_count 129 = .ok (.iadd, 1) := by decide +kernel
theorem dX11_count_130 : decode cX11_count 130 = .ok (.aload_n 0, 1) := by decide +kernel
theorem dX11_count_131 : decode cX11_count 131 = .ok (.getfield 193, 3) := by decide +kernel
theorem dX11_count_134 : decode cX11_count 134 = .ok (.isub, 1) := by decide +kernel
theorem dX11_count_135 : decode cX11_count 135 = .ok (.ireturn, 1) := by decide +kernel
theorem dX11_count_136 : decode cX11_count 136 = .ok (.aload_n 0, 1) := by decide +kernel
theorem dX11_count_137 : decode cX11_count 137 = .ok (.invokevirtual 472, 3) := by decide +kernel
theorem dX11_count_140 : decode cX11_count 140 = .ok (.ireturn, 1) := by decide +kernel
theorem dX11_count_141 : decode cX11_count 141 = .ok (.aload_n 0, 1) := by decide +kernel
theorem dX11_count_142 : decode cX11_count 142 = .ok (.iconst 0, 1) := by decide +kernel
theorem dX11_count_143 : decode cX11_count 143 = .ok (.invokevirtual 475, 3) := by decide +kernel
theorem dX11_count_146 : decode cX11_count 146 = .ok (.ireturn, 1) := by decide +kernel
theorem dX11_count_147 : decode cX11_count 147 = .ok (.aload_n 0, 1) := by decide +kernel
theorem dX11_count_148 : decode cX11_count 148 = .ok (.iconst 1, 1) := by decide +kernel
theorem dX11_count_149 : decode cX11_count 149 = .ok (.invokevirtual 475, 3) := by decide +kernel
theorem dX11_count_152 : decode cX11_count 152 = .ok (.ireturn, 1) := by decide +kernel
theorem dX11_count_153 : decode cX11_count 153 = .ok (.aload_n 0, 1) := by decide +kernel
theorem dX11_count_154 : decode cX11_count 154 = .ok (.invokevirtual 479, 3) := by decide +kernel
theorem dX11_count_157 : decode cX11_count 157 = .ok (.ireturn, 1) := by decide +kernel
theorem dX11_count_158 : decode cX11_count 158 = .ok (.aload_n 0, 1) := by decide +kernel
theorem dX11_count_159 : decode cX11_count 159 = .ok (.getfield 113, 3) := by decide +kernel
theorem dX11_count_162 : decode cX11_count 162 = .ok (.ireturn, 1) := by decide +kernel
theorem dX11_count_163 : decode cX11_count 163 = .ok (.aload_n 0, 1) := by decide +kernel
theorem dX11_count_164 : decode cX11_count 164 = .ok (.invokevirtual 482, 3) := by decide +kernel
theorem dX11_count_167 : decode cX11_count 167 = .ok (.ireturn, 1) := by decide +kernel
theorem dX11_count_168 : decode cX11_count 168 = .ok (.aload_n 0, 1) := by decide +kernel
theorem dX11_count_169 : decode cX11_count 169 = .ok (.invokevirtual 485, 3) := by decide +kernel
theorem dX11_count_172 : decode cX11_count 172 = .ok (.ireturn, 1) := by decide +kernel
theorem dX11_count_173 : decode cX11_count 173 = .ok (.aload_n 0, 1) := by decide +kernel
theorem dX11_count_174 : decode cX11_count 174 = .ok (.invokevirtual 433, 3) := by decide +kernel
theorem dX11_count_177 : decode cX11_count 177 = .ok (.ireturn, 1) := by decide +kernel
theorem dX11_count_178 : decode cX11_count 178 = .ok (.aload_n 0, 1) := by decide +kernel
theorem dX11_count_179 : decode cX11_count 179 = .ok (.iconst 1, 1) := by decide +kernel
theorem dX11_count_180 : decode cX11_count 180 = .ok (.invokevirtual 466, 3) := by decide +kernel
theorem dX11_count_183 : decode cX11_count 183 = .ok (.ireturn, 1) := by decide +kernel
theorem dX11_count_184 : decode cX11_count 184 = .ok (.iconst (-1), 1) := by decide +kernel
theorem dX11_count_185 : decode cX11_count 185 = .ok (.ireturn, 1) := by decide +kernel

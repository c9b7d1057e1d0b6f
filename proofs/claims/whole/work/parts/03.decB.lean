theorem dX11_init_0 : decode cX11_init 0 = .ok (.aload_n 0, 1) := by decide +kernel
theorem dX11_init_1 : decode cX11_init 1 = .ok (.invokespecial 5, 3) := by decide +kernel
theorem dX11_init_4 : decode cX11_init 4 = .ok (.aload_n 0, 1) := by decide +kernel
theorem dX11_init_5 : decode cX11_init 5 = .ok (.sipush 173, 3) := by decide +kernel
theorem dX11_init_8 : decode cX11_init 8 = .ok (.newarray .int, 2) := by decide +kernel
theorem dX11_init_10 : decode cX11_init 10 = .ok (.putfield 11, 3) := by decide +kernel
theorem dX11_init_13 : decode cX11_init 13 = .ok (.aload_n 0, 1) := by decide +kernel
theorem dX11_init_14 : decode cX11_init 14 = .ok (.sipush 173, 3) := by decide +kernel
theorem dX11_init_17 : decode cX11_init 17 = .ok (.newarray .int, 2) := by decide +kernel
theorem dX11_init_19 : decode cX11_init 19 = .ok (.putfield 15, 3) := by decide +kernel
theorem dX11_init_22 : decode cX11_init 22 = .ok (.aload_n 0, 1) := by decide +kernel
theorem dX11_init_23 : decode cX11_init 23 = .ok (.iconst 4, 1) := by decide +kernel
theorem dX11_init_24 : decode cX11_init 24 = .ok (.newarray .int, 2) := by decide +kernel
theorem dX11_init_26 : decode cX11_init 26 = .ok (.putfield 18, 3) := by decide +kernel
theorem dX11_init_29 : decode cX11_init 29 = .ok (.aload_n 0, 1) := by decide +kernel
theorem dX11_init_30 : decode cX11_init 30 = .ok (.bipush 96, 2) := by decide +kernel
theorem dX11_init_32 : decode cX11_init 32 = .ok (.newarray .int, 2) := by decide +kernel
theorem dX11_init_34 : decode cX11_init 34 = .ok (.putfield 21, 3) := by decide +kernel
theorem dX11_init_37 : decode cX11_init 37 = .ok (.aload_n 0, 1) := by decide +kernel
theorem dX11_init_38 : decode cX11_init 38 = .ok (.sipush 546, 3) := by decide +kernel
theorem dX11_init_41 : decode cX11_init 41 = .ok (.newarray .float, 2) := by decide +kernel
theorem dX11_init_43 : decode cX11_init 43 = .ok (.putfield 24, 3) := by decide +kernel
theorem dX11_init_46 : decode cX11_init 46 = .ok (.aload_n 0, 1) := by decide +kernel
theorem dX11_init_47 : decode cX11_init 47 = .ok (.sipush 504, 3) := by decide +kernel
theorem dX11_init_50 : decode cX11_init 50 = .ok (.newarray .int, 2) := by decide +kernel
theorem dX11_init_52 : decode cX11_init 52 = .ok (.putfield 28, 3) := by decide +kernel
theorem dX11_init_55 : decode cX11_init 55 = .ok (.aload_n 0, 1) := by decide +kernel
theorem dX11_init_56 : decode cX11_init 56 = .ok (.bipush 6, 2) := by decide +kernel
theorem dX11_init_58 : decode cX11_init 58 = .ok (.newarray .int, 2) := by decide +kernel
theorem dX11_init_60 : decode cX11_init 60 = .ok (.putfield 31, 3) := by decide +kernel
theorem dX11_init_63 : decode cX11_init 63 = .ok (.aload_n 0, 1) := by decide +kernel
theorem dX11_init_64 : decode cX11_init 64 = .ok (.bipush 6, 2) := by decide +kernel
theorem dX11_init_66 : decode cX11_init 66 = .ok (.newarray .int, 2) := by decide +kernel
theorem dX11_init_68 : decode cX11_init 68 = .ok (.putfield 34, 3) := by decide +kernel
theorem dX11_init_71 : decode cX11_init 71 = .ok (.aload_n 0, 1) := by decide +kernel
theorem dX11_init_72 : decode cX11_init 72 = .ok (.bipush 6, 2) := by decide +kernel
theorem dX11_init_74 : decode cX11_init 74 = .ok (.newarray .float, 2) := by decide +kernel
theorem dX11_init_76 : decode cX11_init 76 = .ok (.putfield 37, 3) := by decide +kernel
theorem dX11_init_79 : decode cX11_init 79 = .ok (.aload_n 0, 1) := by decide +kernel
theorem dX11_init_80 : decode cX11_init 80 = .ok (.bipush 25, 2) := by decide +kernel
theorem dX11_init_82 : decode cX11_init 82 = .ok (.newarray .int, 2) := by decide +kernel
theorem dX11_init_84 : decode cX11_init 84 = .ok (.putfield 40, 3) := by decide +kernel
theorem dX11_init_87 : decode cX11_init 87 = .ok (.aload_n 0, 1) := by decide +kernel
theorem dX11_init_88 : decode cX11_init 88 = .ok (.sipush 173, 3) := by decide +kernel
theorem dX11_init_91 : decode cX11_init 91 = .ok (.newarray .int, 2) := by decide +kernel
theorem dX11_init_93 : decode cX11_init 93 = .ok (.putfield 43, 3) := by decide +kernel
theorem dX11_init_96 : decode cX11_init 96 = .ok (.aload_n 0, 1) := by decide +kernel
theorem dX11_init_97 : decode cX11_init 97 = .ok (.bipush 100, 2) := by decide +kernel
theorem dX11_init_99 : decode cX11_init 99 = .ok (.newarray .byte, 2) := by decide +kernel
theorem dX11_init_101 : decode cX11_init 101 = .ok (.putfield 46, 3) := by decide +kernel
theorem dX11_init_104 : decode cX11_init 104 = .ok (.aload_n 0, 1) := by decide +kernel
theorem dX11_init_105 : decode cX11_init 105 = .ok (.bipush 84, 2) := by decide +kernel
theorem dX11_init_107 : decode cX11_init 107 = .ok (.newarray .int, 2) := by decide +kernel
theorem dX11_init_109 : decode cX11_init 109 = .ok (.putfield 50, 3) := by decide +kernel
theorem dX11_init_112 : decode cX11_init 112 = .ok (.aload_n 0, 1) := by decide +kernel
theorem dX11_init_113 : decode cX11_init 113 = .ok (.bipush 6, 2) := by decide +kernel
theorem dX11_init_115 : decode cX11_init 115 = .ok (.newarray .int, 2) := by decide +kernel
theorem dX11_init_117 : decode cX11_init 117 = .ok (.dup, 1) := by decide +kernel
theorem dX11_init_118 : decode cX11_init 118 = .ok (.iconst 0, 1) := by decide +kernel
theorem dX11_init_119 : decode cX11_init 119 = .ok (.iconst (-1), 1) := by decide +kernel
theorem dX11_init_120 : decode cX11_init 120 = .ok (.iastore, 1) := by decide +kernel
theorem dX11_init_121 : decode cX11_init 121 = .ok (.dup, 1) := by decide +kernel
theorem dX11_init_122 : decode cX11_init 122 = .ok (.iconst 1, 1) := by decide +kernel
theorem dX11_init_123 : decode cX11_init 123 = .ok (.iconst (-1), 1) := by decide +kernel
theorem dX11_init_124 : decode cX11_init 124 = .ok (.iastore, 1) := by decide +kernel
theorem dX11_init_125 : decode cX11_init 125 = .ok (.dup, 1) := by decide +kernel
theorem dX11_init_126 : decode cX11_init 126 = .ok (.iconst 2, 1) := by decide +kernel
theorem dX11_init_127 : decode cX11_init 127 = .ok (.iconst (-1), 1) := by decide +kernel
theorem dX11_init_128 : decode cX11_init 128 = .ok (.iastore, 1) := by decide +kernel
theorem dX11_init_129 : decode cX11_init 129 = .ok (.dup, 1) := by decide +kernel
theorem dX11_init_130 : decode cX11_init 130 = .ok (.iconst 3, 1) := by decide +kernel
theorem dX11_init_131 : decode cX11_init 131 = .ok (.iconst (-1), 1) := by decide +kernel
theorem dX11_init_132 : decode cX11_init 132 = .ok (.iastore, 1) := by decide +kernel
theorem dX11_init_133 : decode cX11_init 133 = .ok (.dup, 1) := by decide +kernel
theorem dX11_init_134 : decode cX11_init 134 = .ok (.iconst 4, 1) := by decide +kernel
theorem dX11_init_135 : decode cX11_init 135 = .ok (.iconst (-1), 1) := by decide +kernel
theorem dX11_init_136 : decode cX11_init 136 = .ok (.iastore, 1) := by decide +kernel
theorem dX11_init_137 : decode cX11_init 137 = .ok (.dup, 1) := by decide +kernel
theorem dX11_init_138 : decode cX11_init 138 = .ok (.iconst 5, 1) := by decide +kernel
theorem dX11_init_139 : decode cX11_init 139 = .ok (.iconst (-1), 1) := by decide +kernel
theorem dX11_init_140 : decode cX11_init 140 = .ok (.iastore, 1) := by decide +kernel
theorem dX11_init_141 : decode cX11_init 141 = .ok (.putfield 53, 3) := by decide +kernel
theorem dX11_init_144 : decode cX11_init 144 = .ok (.aload_n 0, 1) := by decide +kernel
theorem dX11_init_145 : decode cX11_init 145 = .ok (.bipush 6, 2) := by decide +kernel
theorem dX11_init_147 : decode cX11_init 147 = .ok (.newarray .int, 2) := by decide +kernel
theorem dX11_init_149 : decode cX11_init 149 = .ok (.putfield 56, 3) := by decide +kernel
theorem dX11_init_152 : decode cX11_init 152 = .ok (.aload_n 0, 1) := by decide +kernel
theorem dX11_init_153 : decode cX11_init 153 = .ok (.sipush 360, 3) := by decide +kernel
theorem dX11_init_156 : decode cX11_init 156 = .ok (.newarray .long, 2) := by decide +kernel
theorem dX11_init_158 : decode cX11_init 158 = .ok (.putfield 59, 3) := by decide +kernel
theorem dX11_init_161 : decode cX11_init 161 = .ok (.aload_n 0, 1) := by decide +kernel
theorem dX11_init_162 : decode cX11_init 162 = .ok (.getfield 11, 3) := by decide +kernel
theorem dX11_init_165 : decode cX11_init 165 = .ok (.iconst 0, 1) := by decide +kernel
theorem dX11_init_166 : decode cX11_init 166 = .ok (.bipush 8, 2) := by decide +kernel
theorem dX11_init_168 : decode cX11_init 168 = .ok (.iastore, 1) := by decide +kernel
theorem dX11_init_169 : decode cX11_init 169 = .ok (.aload_n 0, 1) := by decide +kernel
theorem dX11_init_170 : decode cX11_init 170 = .ok (.getfield 11, 3) := by decide +kernel
theorem dX11_init_173 : decode cX11_init 173 = .ok (.iconst 1, 1) := by decide +kernel
theorem dX11_init_174 : decode cX11_init 174 = .ok (.bipush 6, 2) := by decide +kernel
theorem dX11_init_176 : decode cX11_init 176 = .ok (.iastore, 1) := by decide +kernel
theorem dX11_init_177 : decode cX11_init 177 = .ok (.aload_n 0, 1) := by decide +kernel
theorem dX11_init_178 : decode cX11_init 178 = .ok (.getfield 11, 3) := by decide +kernel
theorem dX11_init_181 : decode cX11_init 181 = .ok (.iconst 2, 1) := by decide +kernel
theorem dX11_init_182 : decode cX11_init 182 = .ok (.iconst 2, 1) := by decide +kernel
theorem dX11_init_183 : decode cX11_init 183 = .ok (.iastore, 1) := by decide +kernel
theorem dX11_init_184 : decode cX11_init 184 = .ok (.aload_n 0, 1) := by decide +kernel
theorem dX11_init_185 : decode cX11_init 185 = .ok (.getfield 11, 3) := by decide +kernel
theorem dX11_init_188 : decode cX11_init 188 = .ok (.iconst 3, 1) := by decide +kernel
theorem dX11_init_189 : decode cX11_init 189 = .ok (.iconst 3, 1) := by decide +kernel
theorem dX11_init_190 : decode cX11_init 190 = .ok (.iastore, 1) := by decide +kernel
theorem dX11_init_191 : decode cX11_init 191 = .ok (.iconst 0, 1) := by decide +kernel
theorem dX11_init_192 : decode cX11_init 192 = .ok (.istore_n 1, 1) := by decide +kernel
theorem dX11_init_193 : decode cX11_init 193 = .ok (.iload_n 1, 1) := by decide +kernel
theorem dX11_init_194 : decode cX11_init 194 = .ok (.bipush 12, 2) := by decide +kernel
theorem dX11_init_196 : decode cX11_init 196 = .ok (.if_icmp .ge 37, 3) := by decide +kernel
theorem dX11_init_199 : decode cX11_init 199 = .ok (.iconst 0, 1) := by decide +kernel
theorem dX11_init_200 : decode cX11_init 200 = .ok (.istore_n 2, 1) := by decide +kernel
theorem dX11_init_201 : decode cX11_init 201 = .ok (.iload_n 2, 1) := by decide +kernel
theorem dX11_init_202 : decode cX11_init 202 = .ok (.iconst 3, 1) := by decide +kernel
theorem dX11_init_203 : decode cX11_init 203 = .ok (.if_icmp .ge 24, 3) := by decide +kernel
theorem dX11_init_206 : decode cX11_init 206 = .ok (.aload_n 0, 1) := by decide +kernel
theorem dX11_init_207 : decode cX11_init 207 = .ok (.getfield 11, 3) := by decide +kernel
theorem dX11_init_210 : decode cX11_init 210 = .ok (.iconst 4, 1) := by decide +kernel
theorem dX11_init_211 : decode cX11_init 211 = .ok (.iconst 3, 1) := by decide +kernel
theorem dX11_init_212 : decode cX11_init 212 = .ok (.iload_n 1, 1) := by decide +kernel
theorem dX11_init_213 : decode cX11_init 213 = .ok (.imul, 1) := by decide +kernel
theorem dX11_init_214 : decode cX11_init 214 = .ok (.iadd, 1) := by decide +kernel
theorem dX11_init_215 : decode cX11_init 215 = .ok (.iload_n 2, 1) := by decide +kernel
theorem dX11_init_216 : decode cX11_init 216 = .ok (.iadd, 1) := by decide +kernel
theorem dX11_init_217 : decode cX11_init 217 = .ok (.iconst 1, 1) := by decide +kernel
theorem dX11_init_218 : decode cX11_init 218 = .ok (.iload_n 2, 1) := by decide +kernel
theorem dX11_init_219 : decode cX11_init 219 = .ok (.ishl, 1) := by decide +kernel
theorem dX11_init_220 : decode cX11_init 220 = .ok (.iastore, 1) := by decide +kernel
theorem dX11_init_221 : decode cX11_init 221 = .ok (.iinc 2 1, 3) := by decide +kernel
theorem dX11_init_224 : decode cX11_init 224 = .ok (.goto (-23), 3) := by decide +kernel
theorem dX11_init_227 : decode cX11_init 227 = .ok (.iinc 1 1, 3) := by decide +kernel
theorem dX11_init_230 : decode cX11_init 230 = .ok (.goto (-37), 3) := by decide +kernel
theorem dX11_init_233 : decode cX11_init 233 = .ok (.iconst 0, 1) := by decide +kernel
theorem dX11_init_234 : decode cX11_init 234 = .ok (.istore_n 1, 1) := by decide +kernel
theorem dX11_init_235 : decode cX11_init 235 = .ok (.iload_n 1, 1) := by decide +kernel
theorem dX11_init_236 : decode cX11_init 236 = .ok (.bipush 9, 2) := by decide +kernel
theorem dX11_init_238 : decode cX11_init 238 = .ok (.if_icmp .ge 19, 3) := by decide +kernel
theorem dX11_init_241 : decode cX11_init 241 = .ok (.aload_n 0, 1) := by decide +kernel
theorem dX11_init_242 : decode cX11_init 242 = .ok (.getfield 11, 3) := by decide +kernel
theorem dX11_init_245 : decode cX11_init 245 = .ok (.bipush 40, 2) := by decide +kernel
theorem dX11_init_247 : decode cX11_init 247 = .ok (.iload_n 1, 1) := by decide +kernel
theorem dX11_init_248 : decode cX11_init 248 = .ok (.iadd, 1) := by decide +kernel
theorem dX11_init_249 : decode cX11_init 249 = .ok (.iconst 1, 1) := by decide +kernel
theorem dX11_init_250 : decode cX11_init 250 = .ok (.iastore, 1) := by decide +kernel
theorem dX11_init_251 : decode cX11_init 251 = .ok (.iinc 1 1, 3) := by decide +kernel
theorem dX11_init_254 : decode cX11_init 254 = .ok (.goto (-19), 3) := by decide +kernel
theorem dX11_init_257 : decode cX11_init 257 = .ok (.return_, 1) := by decide +kernel
theorem dX11_in_0 : decode cX11_in 0 = .ok (.lload_n 0, 1) := by decide +kernel
theorem dX11_in_1 : decode cX11_in 1 = .ok (.lload_n 2, 1) := by decide +kernel
theorem dX11_in_2 : decode cX11_in 2 = .ok (.lcmp, 1) := by decide +kernel
theorem dX11_in_3 : decode cX11_in 3 = .ok (.ifCond .lt 14, 3) := by decide +kernel
theorem dX11_in_6 : decode cX11_in 6 = .ok (.lload_n 0, 1) := by decide +kernel
theorem dX11_in_7 : decode cX11_in 7 = .ok (.lload 4, 2) := by decide +kernel
theorem dX11_in_9 : decode cX11_in 9 = .ok (.lcmp, 1) := by decide +kernel
theorem dX11_in_10 : decode cX11_in 10 = .ok (.ifCond .gt 7, 3) := by decide +kernel
theorem dX11_in_13 : decode cX11_in 13 = .ok (.iconst 1, 1) := by decide +kernel
theorem dX11_in_14 : decode cX11_in 14 = .ok (.goto 4, 3) := by decide +kernel
theorem dX11_in_17 : decode cX11_in 17 = .ok (.iconst 0, 1) := by decide +kernel
theorem dX11_in_18 : decode cX11_in 18 = .ok (.ireturn, 1) := by decide +kernel
theorem dX11_isMonth_0 : decode cX11_isMonth 0 = .ok (.iload_n 0, 1) := by decide +kernel
theorem dX11_isMonth_1 : decode cX11_isMonth 1 = .ok (.i2l, 1) := by decide +kernel
theorem dX11_isMonth_2 : decode cX11_isMonth 2 = .ok (.lconst 0, 1) := by decide +kernel
theorem dX11_isMonth_3 : decode cX11_isMonth 3 = .ok (.ldc2_w 63, 3) := by decide +kernel
theorem dX11_isMonth_6 : decode cX11_isMonth 6 = .ok (.invokestatic 65, 3) := by decide +kernel
theorem dX11_isMonth_9 : decode cX11_isMonth 9 = .ok (.ireturn, 1) := by decide +kernel
theorem dX11_isState_0 : decode cX11_isState 0 = .ok (.iload_n 0, 1) := by decide +kernel
theorem dX11_isState_1 : decode cX11_isState 1 = .ok (.i2l, 1) := by decide +kernel
theorem dX11_isState_2 : decode cX11_isState 2 = .ok (.lconst 0, 1) := by decide +kernel
theorem dX11_isState_3 : decode cX11_isState 3 = .ok (.ldc2_w 69, 3) := by decide +kernel
theorem dX11_isState_6 : decode cX11_isState 6 = .ok (.invokestatic 65, 3) := by decide +kernel
theorem dX11_isState_9 : decode cX11_isState 9 = .ok (.ireturn, 1) := by decide +kernel
theorem dX11_isStore_0 : decode cX11_isStore 0 = .ok (.iload_n 1, 1) := by decide +kernel
theorem dX11_isStore_1 : decode cX11_isStore 1 = .ok (.i2l, 1) := by decide +kernel
theorem dX11_isStore_2 : decode cX11_isStore 2 = .ok (.lconst 0, 1) := by decide +kernel
theorem dX11_isStore_3 : decode cX11_isStore 3 = .ok (.aload_n 0, 1) := by decide +kernel
theorem dX11_isStore_4 : decode cX11_isStore 4 = .ok (.getfield 11, 3) := by decide +kernel
theorem dX11_isStore_7 : decode cX11_isStore 7 = .ok (.iconst 0, 1) := by decide +kernel
theorem dX11_isStore_8 : decode cX11_isStore 8 = .ok (.iaload, 1) := by decide +kernel
theorem dX11_isStore_9 : decode cX11_isStore 9 = .ok (.i2l, 1) := by decide +kernel
theorem dX11_isStore_10 : decode cX11_isStore 10 = .ok (.invokestatic 65, 3) := by decide +kernel
theorem dX11_isStore_13 : decode cX11_isStore 13 = .ok (.ireturn, 1) := by decide +kernel
theorem dX11_isAhead_0 : decode cX11_isAhead 0 = .ok (.iload_n 1, 1) := by decide +kernel
theorem dX11_isAhead_1 : decode cX11_isAhead 1 = .ok (.i2l, 1) := by decide +kernel
theorem dX11_isAhead_2 : decode cX11_isAhead 2 = .ok (.lconst 0, 1) := by decide +kernel
theorem dX11_isAhead_3 : decode cX11_isAhead 3 = .ok (.aload_n 0, 1) := by decide +kernel
theorem dX11_isAhead_4 : decode cX11_isAhead 4 = .ok (.getfield 11, 3) := by decide +kernel
theorem dX11_isAhead_7 : decode cX11_isAhead 7 = .ok (.iconst 1, 1) := by decide +kernel
theorem dX11_isAhead_8 : decode cX11_isAhead 8 = .ok (.iaload, 1) := by decide +kernel
theorem dX11_isAhead_9 : decode cX11_isAhead 9 = .ok (.iconst 1, 1) := by decide +kernel
theorem dX11_isAhead_10 : decode cX11_isAhead 10 = .ok (.isub, 1) := by decide +kernel
theorem dX11_isAhead_11 : decode cX11_isAhead 11 = .ok (.i2l, 1) := by decide +kernel
theorem dX11_isAhead_12 : decode cX11_isAhead 12 = .ok (.invokestatic 65, 3) := by decide +kernel
theorem dX11_isAhead_15 : decode cX11_isAhead 15 = .ok (.ireturn, 1) := by decide +kernel
theorem dX11_isDemand_0 : decode cX11_isDemand 0 = .ok (.iload_n 1, 1) := by decide +kernel
theorem dX11_isDemand_1 : decode cX11_isDemand 1 = .ok (.i2l, 1) := by decide +kernel
theorem dX11_isDemand_2 : decode cX11_isDemand 2 = .ok (.lconst 0, 1) := by decide +kernel
theorem dX11_isDemand_3 : decode cX11_isDemand 3 = .ok (.aload_n 0, 1) := by decide +kernel
theorem dX11_isDemand_4 : decode cX11_isDemand 4 = .ok (.getfield 11, 3) := by decide +kernel
theorem dX11_isDemand_7 : decode cX11_isDemand 7 = .ok (.bipush 73, 2) := by decide +kernel
theorem dX11_isDemand_9 : decode cX11_isDemand 9 = .ok (.iaload, 1) := by decide +kernel
theorem dX11_isDemand_10 : decode cX11_isDemand 10 = .ok (.iconst 1, 1) := by decide +kernel
theorem dX11_isDemand_11 : decode cX11_isDemand 11 = .ok (.isub, 1) := by decide +kernel
theorem dX11_isDemand_12 : decode cX11_isDemand 12 = .ok (.i2l, 1) := by decide +kernel
theorem dX11_isDemand_13 : decode cX11_isDemand 13 = .ok (.invokestatic 65, 3) := by decide +kernel
theorem dX11_isDemand_16 : decode cX11_isDemand 16 = .ok (.ireturn, 1) := by decide +kernel
theorem dX11_becomes_0 : decode cX11_becomes 0 = .ok (.aload_n 0, 1) := by decide +kernel
theorem dX11_becomes_1 : decode cX11_becomes 1 = .ok (.getfield 11, 3) := by decide +kernel
theorem dX11_becomes_4 : decode cX11_becomes 4 = .ok (.iload_n 1, 1) := by decide +kernel
theorem dX11_becomes_5 : decode cX11_becomes 5 = .ok (.iaload, 1) := by decide +kernel
theorem dX11_becomes_6 : decode cX11_becomes 6 = .ok (.istore_n 3, 1) := by decide +kernel
theorem dX11_becomes_7 : decode cX11_becomes 7 = .ok (.aload_n 0, 1) := by decide +kernel
theorem dX11_becomes_8 : decode cX11_becomes 8 = .ok (.getfield 11, 3) := by decide +kernel
theorem dX11_becomes_11 : decode cX11_becomes 11 = .ok (.iload_n 1, 1) := by decide +kernel
theorem dX11_becomes_12 : decode cX11_becomes 12 = .ok (.iload_n 2, 1) := by decide +kernel
theorem dX11_becomes_13 : decode cX11_becomes 13 = .ok (.iastore, 1) := by decide +kernel
theorem dX11_becomes_14 : decode cX11_becomes 14 = .ok (.iload_n 3, 1) := by decide +kernel
theorem dX11_becomes_15 : decode cX11_becomes 15 = .ok (.ireturn, 1) := by decide +kernel
theorem dX11_put_0 : decode cX11_put 0 = .ok (.iload_n 1, 1) := by decide +kernel
theorem dX11_put_1 : decode cX11_put 1 = .ok (.i2l, 1) := by decide +kernel
theorem dX11_put_2 : decode cX11_put 2 = .ok (.lconst 0, 1) := by decide +kernel
theorem dX11_put_3 : decode cX11_put 3 = .ok (.ldc2_w 71, 3) := by decide +kernel
theorem dX11_put_6 : decode cX11_put 6 = .ok (.invokestatic 65, 3) := by decide +kernel
theorem dX11_put_9 : decode cX11_put 9 = .ok (.ifCond .ne 5, 3) := by decide +kernel
theorem dX11_put_12 : decode cX11_put 12 = .ok (.iconst (-1), 1) := by decide +kernel
theorem dX11_put_13 : decode cX11_put 13 = .ok (.ireturn, 1) := by decide +kernel
theorem dX11_put_14 : decode cX11_put 14 = .ok (.iload_n 1, 1) := by decide +kernel
theorem dX11_put_15 : decode cX11_put 15 = .ok (.iconst 2, 1) := by decide +kernel
theorem dX11_put_16 : decode cX11_put 16 = .ok (.if_icmp .ge 15, 3) := by decide +kernel
theorem dX11_put_19 : decode cX11_put 19 = .ok (.iload_n 2, 1) := by decide +kernel
theorem dX11_put_20 : decode cX11_put 20 = .ok (.i2l, 1) := by decide +kernel
theorem dX11_put_21 : decode cX11_put 21 = .ok (.lconst 1, 1) := by decide +kernel
theorem dX11_put_22 : decode cX11_put 22 = .ok (.ldc2_w 73, 3) := by decide +kernel
theorem dX11_put_25 : decode cX11_put 25 = .ok (.invokestatic 65, 3) := by decide +kernel
theorem dX11_put_28 : decode cX11_put 28 = .ok (.goto 29, 3) := by decide +kernel
theorem dX11_put_31 : decode cX11_put 31 = .ok (.iload_n 1, 1) := by decide +kernel
theorem dX11_put_32 : decode cX11_put 32 = .ok (.iconst 2, 1) := by decide +kernel
theorem dX11_put_33 : decode cX11_put 33 = .ok (.if_icmp .ne 15, 3) := by decide +kernel
theorem dX11_put_36 : decode cX11_put 36 = .ok (.iload_n 2, 1) := by decide +kernel
theorem dX11_put_37 : decode cX11_put 37 = .ok (.i2l, 1) := by decide +kernel
theorem dX11_put_38 : decode cX11_put 38 = .ok (.lconst 0, 1) := by decide +kernel
theorem dX11_put_39 : decode cX11_put 39 = .ok (.ldc2_w 75, 3) := by decide +kernel
theorem dX11_put_42 : decode cX11_put 42 = .ok (.invokestatic 65, 3) := by decide +kernel
theorem dX11_put_45 : decode cX11_put 45 = .ok (.goto 12, 3) := by decide +kernel
theorem dX11_put_48 : decode cX11_put 48 = .ok (.iload_n 2, 1) := by decide +kernel
theorem dX11_put_49 : decode cX11_put 49 = .ok (.i2l, 1) := by decide +kernel
theorem dX11_put_50 : decode cX11_put 50 = .ok (.lconst 0, 1) := by decide +kernel
theorem dX11_put_51 : decode cX11_put 51 = .ok (.ldc2_w 77, 3) := by decide +kernel
theorem dX11_put_54 : decode cX11_put 54 = .ok (.invokestatic 65, 3) := by decide +kernel
theorem dX11_put_57 : decode cX11_put 57 = .ok (.istore_n 3, 1) := by decide +kernel
theorem dX11_put_58 : decode cX11_put 58 = .ok (.iload_n 3, 1) := by decide +kernel
theorem dX11_put_59 : decode cX11_put 59 = .ok (.ifCond .eq 12, 3) := by decide +kernel
theorem dX11_put_62 : decode cX11_put 62 = .ok (.aload_n 0, 1) := by decide +kernel
theorem dX11_put_63 : decode cX11_put 63 = .ok (.iload_n 1, 1) := by decide +kernel
theorem dX11_put_64 : decode cX11_put 64 = .ok (.iload_n 2, 1) := by decide +kernel
theorem dX11_put_65 : decode cX11_put 65 = .ok (.invokevirtual 79, 3) := by decide +kernel
theorem dX11_put_68 : decode cX11_put 68 = .ok (.goto 5, 3) := by decide +kernel
theorem dX11_put_71 : decode cX11_put 71 = .ok (.bipush (-2), 2) := by decide +kernel
theorem dX11_put_73 : decode cX11_put 73 = .ok (.ireturn, 1) := by decide +kernel
theorem dX11_inflow_0 : decode cX11_inflow 0 = .ok (.iload_n 1, 1) := by decide +kernel
theorem dX11_inflow_1 : decode cX11_inflow 1 = .ok (.invokestatic 83, 3) := by decide +kernel
theorem dX11_inflow_4 : decode cX11_inflow 4 = .ok (.ifCond .eq 10, 3) := by decide +kernel
theorem dX11_inflow_7 : decode cX11_inflow 7 = .ok (.iload_n 2, 1) := by decide +kernel
theorem dX11_inflow_8 : decode cX11_inflow 8 = .ok (.invokestatic 87, 3) := by decide +kernel
theorem dX11_inflow_11 : decode cX11_inflow 11 = .ok (.ifCond .ne 5, 3) := by decide +kernel
theorem dX11_inflow_14 : decode cX11_inflow 14 = .ok (.iconst (-1), 1) := by decide +kernel
theorem dX11_inflow_15 : decode cX11_inflow 15 = .ok (.ireturn, 1) := by decide +kernel
theorem dX11_inflow_16 : decode cX11_inflow 16 = .ok (.iload_n 3, 1) := by decide +kernel
theorem dX11_inflow_17 : decode cX11_inflow 17 = .ok (.i2l, 1) := by decide +kernel
theorem dX11_inflow_18 : decode cX11_inflow 18 = .ok (.lconst 0, 1) := by decide +kernel
theorem dX11_inflow_19 : decode cX11_inflow 19 = .ok (.ldc2_w 75, 3) := by decide +kernel
theorem dX11_inflow_22 : decode cX11_inflow 22 = .ok (.invokestatic 65, 3) := by decide +kernel
theorem dX11_inflow_25 : decode cX11_inflow 25 = .ok (.ifCond .eq 18, 3) := by decide +kernel
theorem dX11_inflow_28 : decode cX11_inflow 28 = .ok (.aload_n 0, 1) := by decide +kernel
theorem dX11_inflow_29 : decode cX11_inflow 29 = .ok (.iconst 4, 1) := by decide +kernel
theorem dX11_inflow_30 : decode cX11_inflow 30 = .ok (.iconst 3, 1) := by decide +kernel
theorem dX11_inflow_31 : decode cX11_inflow 31 = .ok (.iload_n 1, 1) := by decide +kernel
theorem dX11_inflow_32 : decode cX11_inflow 32 = .ok (.imul, 1) := by decide +kernel
theorem dX11_inflow_33 : decode cX11_inflow 33 = .ok (.iadd, 1) := by decide +kernel
theorem dX11_inflow_34 : decode cX11_inflow 34 = .ok (.iload_n 2, 1) := by decide +kernel
theorem dX11_inflow_35 : decode cX11_inflow 35 = .ok (.iadd, 1) := by decide +kernel
theorem dX11_inflow_36 : decode cX11_inflow 36 = .ok (.iload_n 3, 1) := by decide +kernel
theorem dX11_inflow_37 : decode cX11_inflow 37 = .ok (.invokevirtual 79, 3) := by decide +kernel
theorem dX11_inflow_40 : decode cX11_inflow 40 = .ok (.goto 5, 3) := by decide +kernel
theorem dX11_inflow_43 : decode cX11_inflow 43 = .ok (.bipush (-2), 2) := by decide +kernel
theorem dX11_inflow_45 : decode cX11_inflow 45 = .ok (.ireturn, 1) := by decide +kernel
theorem dX11_part_0 : decode cX11_part 0 = .ok (.aload_n 0, 1) := by decide +kernel
theorem dX11_part_1 : decode cX11_part 1 = .ok (.getfield 11, 3) := by decide +kernel
theorem dX11_part_4 : decode cX11_part 4 = .ok (.bipush 40, 2) := by decide +kernel
theorem dX11_part_6 : decode cX11_part 6 = .ok (.iconst 3, 1) := by decide +kernel
theorem dX11_part_7 : decode cX11_part 7 = .ok (.iload_n 1, 1) := by decide +kernel
theorem dX11_part_8 : decode cX11_part 8 = .ok (.imul, 1) := by decide +kernel
theorem dX11_part_9 : decode cX11_part 9 = .ok (.iadd, 1) := by decide +kernel
theorem dX11_part_10 : decode cX11_part 10 = .ok (.iload_n 2, 1) := by decide +kernel
theorem dX11_part_11 : decode cX11_part 11 = .ok (.iadd, 1) := by decide +kernel
theorem dX11_part_12 : decode cX11_part 12 = .ok (.iaload, 1) := by decide +kernel
theorem dX11_part_13 : decode cX11_part 13 = .ok (.ireturn, 1) := by decide +kernel
theorem dX11_parts_0 : decode cX11_parts 0 = .ok (.aload_n 0, 1) := by decide +kernel
theorem dX11_parts_1 : decode cX11_parts 1 = .ok (.iload_n 1, 1) := by decide +kernel
theorem dX11_parts_2 : decode cX11_parts 2 = .ok (.iconst 0, 1) := by decide +kernel
theorem dX11_parts_3 : decode cX11_parts 3 = .ok (.invokevirtual 90, 3) := by decide +kernel
theorem dX11_parts_6 : decode cX11_parts 6 = .ok (.aload_n 0, 1) := by decide +kernel
theorem dX11_parts_7 : decode cX11_parts 7 = .ok (.iload_n 1, 1) := by decide +kernel
theorem dX11_parts_8 : decode cX11_parts 8 = .ok (.iconst 1, 1) := by decide +kernel
theorem dX11_parts_9 : decode cX11_parts 9 = .ok (.invokevirtual 90, 3) := by decide +kernel
theorem dX11_parts_12 : decode cX11_parts 12 = .ok (.iadd, 1) := by decide +kernel
theorem dX11_parts_13 : decode cX11_parts 13 = .ok (.aload_n 0, 1) := by decide +kernel
theorem dX11_parts_14 : decode cX11_parts 14 = .ok (.iload_n 1, 1) := by decide +kernel
theorem dX11_parts_15 : decode cX11_parts 15 = .ok (.iconst 2, 1) := by decide +kernel
theorem dX11_parts_16 : decode cX11_parts 16 = .ok (.invokevirtual 90, 3) := by decide +kernel
theorem dX11_parts_19 : decode cX11_parts 19 = .ok (.iadd, 1) := by decide +kernel
theorem dX11_parts_20 : decode cX11_parts 20 = .ok (.ireturn, 1) := by decide +kernel
theorem dX11_part__0 : decode cX11_part_ 0 = .ok (.iload_n 1, 1) := by decide +kernel
theorem dX11_part__1 : decode cX11_part_ 1 = .ok (.invokestatic 87, 3) := by decide +kernel
theorem dX11_part__4 : decode cX11_part_ 4 = .ok (.ifCond .eq 10, 3) := by decide +kernel
theorem dX11_part__7 : decode cX11_part_ 7 = .ok (.iload_n 2, 1) := by decide +kernel
theorem dX11_part__8 : decode cX11_part_ 8 = .ok (.invokestatic 87, 3) := by decide +kernel
theorem dX11_part__11 : decode cX11_part_ 11 = .ok (.ifCond .ne 5, 3) := by decide +kernel
theorem dX11_part__14 : decode cX11_part_ 14 = .ok (.iconst (-1), 1) := by decide +kernel
theorem dX11_part__15 : decode cX11_part_ 15 = .ok (.ireturn, 1) := by decide +kernel
theorem dX11_part__16 : decode cX11_part_ 16 = .ok (.iload_n 3, 1) := by decide +kernel
theorem dX11_part__17 : decode cX11_part_ 17 = .ok (.i2l, 1) := by decide +kernel
theorem dX11_part__18 : decode cX11_part_ 18 = .ok (.lconst 0, 1) := by decide +kernel
theorem dX11_part__19 : decode cX11_part_ 19 = .ok (.ldc2_w 75, 3) := by decide +kernel
theorem dX11_part__22 : decode cX11_part_ 22 = .ok (.invokestatic 65, 3) := by decide +kernel
theorem dX11_part__25 : decode cX11_part_ 25 = .ok (.ifCond .eq 20, 3) := by decide +kernel
theorem dX11_part__28 : decode cX11_part_ 28 = .ok (.aload_n 0, 1) := by decide +kernel
theorem dX11_part__29 : decode cX11_part_ 29 = .ok (.iload_n 1, 1) := by decide +kernel
theorem dX11_part__30 : decode cX11_part_ 30 = .ok (.invokevirtual 93, 3) := by decide +kernel
theorem dX11_part__33 : decode cX11_part_ 33 = .ok (.aload_n 0, 1) := by decide +kernel
theorem dX11_part__34 : decode cX11_part_ 34 = .ok (.iload_n 1, 1) := by decide +kernel
theorem dX11_part__35 : decode cX11_part_ 35 = .ok (.iload_n 2, 1) := by decide +kernel
theorem dX11_part__36 : decode cX11_part_ 36 = .ok (.invokevirtual 90, 3) := by decide +kernel
theorem dX11_part__39 : decode cX11_part_ 39 = .ok (.isub, 1) := by decide +kernel
theorem dX11_part__40 : decode cX11_part_ 40 = .ok (.iload_n 3, 1) := by decide +kernel
theorem dX11_part__41 : decode cX11_part_ 41 = .ok (.iadd, 1) := by decide +kernel
theorem dX11_part__42 : decode cX11_part_ 42 = .ok (.ifCond .ne 6, 3) := by decide +kernel
theorem dX11_part__45 : decode cX11_part_ 45 = .ok (.bipush (-2), 2) := by decide +kernel
theorem dX11_part__47 : decode cX11_part_ 47 = .ok (.ireturn, 1) := by decide +kernel
theorem dX11_part__48 : decode cX11_part_ 48 = .ok (.aload_n 0, 1) := by decide +kernel
theorem dX11_part__49 : decode cX11_part_ 49 = .ok (.bipush 40, 2) := by decide +kernel
theorem dX11_part__51 : decode cX11_part_ 51 = .ok (.iconst 3, 1) := by decide +kernel
theorem dX11_part__52 : decode cX11_part_ 52 = .ok (.iload_n 1, 1) := by decide +kernel
theorem dX11_part__53 : decode cX11_part_ 53 = .ok (.imul, 1) := by decide +kernel
theorem dX11_part__54 : decode cX11_part_ 54 = .ok (.iadd, 1) := by decide +kernel
theorem dX11_part__55 : decode cX11_part_ 55 = .ok (.iload_n 2, 1) := by decide +kernel
theorem dX11_part__56 : decode cX11_part_ 56 = .ok (.iadd, 1) := by decide +kernel
theorem dX11_part__57 : decode cX11_part_ 57 = .ok (.iload_n 3, 1) := by decide +kernel
theorem dX11_part__58 : decode cX11_part_ 58 = .ok (.invokevirtual 79, 3) := by decide +kernel
theorem dX11_part__61 : decode cX11_part_ 61 = .ok (.ireturn, 1) := by decide +kernel
theorem dX11_month_0 : decode cX11_month 0 = .ok (.iload_n 1, 1) := by decide +kernel
theorem dX11_month_1 : decode cX11_month 1 = .ok (.invokestatic 83, 3) := by decide +kernel
theorem dX11_month_4 : decode cX11_month 4 = .ok (.ifCond .eq 13, 3) := by decide +kernel
theorem dX11_month_7 : decode cX11_month 7 = .ok (.iload_n 2, 1) := by decide +kernel
theorem dX11_month_8 : decode cX11_month 8 = .ok (.i2l, 1) := by decide +kernel
theorem dX11_month_9 : decode cX11_month 9 = .ok (.lconst 0, 1) := by decide +kernel
theorem dX11_month_10 : decode cX11_month 10 = .ok (.lconst 1, 1) := by decide +kernel
theorem dX11_month_11 : decode cX11_month 11 = .ok (.invokestatic 65, 3) := by decide +kernel
theorem dX11_month_14 : decode cX11_month 14 = .ok (.ifCond .ne 5, 3) := by decide +kernel
theorem dX11_month_17 : decode cX11_month 17 = .ok (.iconst (-1), 1) := by decide +kernel
theorem dX11_month_18 : decode cX11_month 18 = .ok (.ireturn, 1) := by decide +kernel
theorem dX11_month_19 : decode cX11_month 19 = .ok (.iload_n 3, 1) := by decide +kernel
theorem dX11_month_20 : decode cX11_month 20 = .ok (.i2l, 1) := by decide +kernel
theorem dX11_month_21 : decode cX11_month 21 = .ok (.lconst 0, 1) := by decide +kernel
theorem dX11_month_22 : decode cX11_month 22 = .ok (.ldc2_w 75, 3) := by decide +kernel
theorem dX11_month_25 : decode cX11_month 25 = .ok (.invokestatic 65, 3) := by decide +kernel
theorem dX11_month_28 : decode cX11_month 28 = .ok (.ifCond .eq 24, 3) := by decide +kernel
theorem dX11_month_31 : decode cX11_month 31 = .ok (.aload_n 0, 1) := by decide +kernel
theorem dX11_month_32 : decode cX11_month 32 = .ok (.iload_n 2, 1) := by decide +kernel
theorem dX11_month_33 : decode cX11_month 33 = .ok (.ifCond .ne 8, 3) := by decide +kernel
theorem dX11_month_36 : decode cX11_month 36 = .ok (.bipush 49, 2) := by decide +kernel
theorem dX11_month_38 : decode cX11_month 38 = .ok (.goto 5, 3) := by decide +kernel
theorem dX11_month_41 : decode cX11_month 41 = .ok (.bipush 61, 2) := by decide +kernel
theorem dX11_month_43 : decode cX11_month 43 = .ok (.iload_n 1, 1) := by decide +kernel
theorem dX11_month_44 : decode cX11_month 44 = .ok (.iadd, 1) := by decide +kernel
theorem dX11_month_45 : decode cX11_month 45 = .ok (.iload_n 3, 1) := by decide +kernel
theorem dX11_month_46 : decode cX11_month 46 = .ok (.invokevirtual 79, 3) := by decide +kernel
theorem dX11_month_49 : decode cX11_month 49 = .ok (.goto 5, 3) := by decide +kernel
theorem dX11_month_52 : decode cX11_month 52 = .ok (.bipush (-2), 2) := by decide +kernel
theorem dX11_month_54 : decode cX11_month 54 = .ok (.ireturn, 1) := by decide +kernel
theorem dX11_at_0 : decode cX11_at 0 = .ok (.aload_n 0, 1) := by decide +kernel
theorem dX11_at_1 : decode cX11_at 1 = .ok (.getfield 11, 3) := by decide +kernel
theorem dX11_at_4 : decode cX11_at 4 = .ok (.bipush 74, 2) := by decide +kernel
theorem dX11_at_6 : decode cX11_at 6 = .ok (.bipush 6, 2) := by decide +kernel
theorem dX11_at_8 : decode cX11_at 8 = .ok (.iload_n 1, 1) := by decide +kernel
theorem dX11_at_9 : decode cX11_at 9 = .ok (.imul, 1) := by decide +kernel
theorem dX11_at_10 : decode cX11_at 10 = .ok (.iadd, 1) := by decide +kernel
theorem dX11_at_11 : decode cX11_at 11 = .ok (.iload_n 2, 1) := by decide +kernel
theorem dX11_at_12 : decode cX11_at 12 = .ok (.iadd, 1) := by decide +kernel
theorem dX11_at_13 : decode cX11_at 13 = .ok (.iaload, 1) := by decide +kernel
theorem dX11_at_14 : decode cX11_at 14 = .ok (.ireturn, 1) := by decide +kernel
theorem dX11_demand_0 : decode cX11_demand 0 = .ok (.iload_n 1, 1) := by decide +kernel
theorem dX11_demand_1 : decode cX11_demand 1 = .ok (.i2l, 1) := by decide +kernel
theorem dX11_demand_2 : decode cX11_demand 2 = .ok (.lconst 0, 1) := by decide +kernel
theorem dX11_demand_3 : decode cX11_demand 3 = .ok (.ldc2_w 97, 3) := by decide +kernel
theorem dX11_demand_6 : decode cX11_demand 6 = .ok (.invokestatic 65, 3) := by decide +kernel
theorem dX11_demand_9 : decode cX11_demand 9 = .ok (.ifCond .eq 56, 3) := by decide +kernel
theorem dX11_demand_12 : decode cX11_demand 12 = .ok (.iload_n 2, 1) := by decide +kernel
theorem dX11_demand_13 : decode cX11_demand 13 = .ok (.i2l, 1) := by decide +kernel
theorem dX11_demand_14 : decode cX11_demand 14 = .ok (.lconst 0, 1) := by decide +kernel
theorem dX11_demand_15 : decode cX11_demand 15 = .ok (.ldc2_w 75, 3) := by decide +kernel
theorem dX11_demand_18 : decode cX11_demand 18 = .ok (.invokestatic 65, 3) := by decide +kernel
theorem dX11_demand_21 : decode cX11_demand 21 = .ok (.ifCond .eq 44, 3) := by decide +kernel
theorem dX11_demand_24 : decode cX11_demand 24 = .ok (.iload_n 3, 1) := by decide +kernel
theorem dX11_demand_25 : decode cX11_demand 25 = .ok (.i2l, 1) := by decide +kernel
theorem dX11_demand_26 : decode cX11_demand 26 = .ok (.lconst 1, 1) := by decide +kernel
theorem dX11_demand_27 : decode cX11_demand 27 = .ok (.ldc2_w 75, 3) := by decide +kernel
theorem dX11_demand_30 : decode cX11_demand 30 = .ok (.invokestatic 65, 3) := by decide +kernel
theorem dX11_demand_33 : decode cX11_demand 33 = .ok (.ifCond .eq 32, 3) := by decide +kernel
theorem dX11_demand_36 : decode cX11_demand 36 = .ok (.iload 4, 2) := by decide +kernel
theorem dX11_demand_38 : decode cX11_demand 38 = .ok (.i2l, 1) := by decide +kernel
theorem dX11_demand_39 : decode cX11_demand 39 = .ok (.lconst 0, 1) := by decide +kernel
theorem dX11_demand_40 : decode cX11_demand 40 = .ok (.ldc2_w 77, 3) := by decide +kernel
theorem dX11_demand_43 : decode cX11_demand 43 = .ok (.invokestatic 65, 3) := by decide +kernel
theorem dX11_demand_46 : decode cX11_demand 46 = .ok (.ifCond .eq 19, 3) := by decide +kernel
theorem dX11_demand_49 : decode cX11_demand 49 = .ok (.iload 5, 2) := by decide +kernel
theorem dX11_demand_51 : decode cX11_demand 51 = .ok (.invokestatic 83, 3) := by decide +kernel
theorem dX11_demand_54 : decode cX11_demand 54 = .ok (.ifCond .eq 11, 3) := by decide +kernel
theorem dX11_demand_57 : decode cX11_demand 57 = .ok (.iload 6, 2) := by decide +kernel
theorem dX11_demand_59 : decode cX11_demand 59 = .ok (.invokestatic 83, 3) := by decide +kernel
theorem dX11_demand_62 : decode cX11_demand 62 = .ok (.ifCond .ne 6, 3) := by decide +kernel
theorem dX11_demand_65 : decode cX11_demand 65 = .ok (.bipush (-2), 2) := by decide +kernel
theorem dX11_demand_67 : decode cX11_demand 67 = .ok (.ireturn, 1) := by decide +kernel
theorem dX11_demand_68 : decode cX11_demand 68 = .ok (.aload_n 0, 1) := by decide +kernel
theorem dX11_demand_69 : decode cX11_demand 69 = .ok (.getfield 11, 3) := by decide +kernel
theorem dX11_demand_72 : decode cX11_demand 72 = .ok (.bipush 73, 2) := by decide +kernel
theorem dX11_demand_74 : decode cX11_demand 74 = .ok (.iaload, 1) := by decide +kernel
theorem dX11_demand_75 : decode cX11_demand 75 = .ok (.bipush 6, 2) := by decide +kernel
theorem dX11_demand_77 : decode cX11_demand 77 = .ok (.if_icmp .ne 6, 3) := by decide +kernel
theorem dX11_demand_80 : decode cX11_demand 80 = .ok (.bipush (-4), 2) := by decide +kernel
theorem dX11_demand_82 : decode cX11_demand 82 = .ok (.ireturn, 1) := by decide +kernel
theorem dX11_demand_83 : decode cX11_demand 83 = .ok (.bipush 74, 2) := by decide +kernel
theorem dX11_demand_85 : decode cX11_demand 85 = .ok (.bipush 6, 2) := by decide +kernel
theorem dX11_demand_87 : decode cX11_demand 87 = .ok (.aload_n 0, 1) := by decide +kernel
theorem dX11_demand_88 : decode cX11_demand 88 = .ok (.getfield 11, 3) := by decide +kernel
theorem dX11_demand_91 : decode cX11_demand 91 = .ok (.bipush 73, 2) := by decide +kernel
theorem dX11_demand_93 : decode cX11_demand 93 = .ok (.iaload, 1) := by decide +kernel
theorem dX11_demand_94 : decode cX11_demand 94 = .ok (.imul, 1) := by decide +kernel
theorem dX11_demand_95 : decode cX11_demand 95 = .ok (.iadd, 1) := by decide +kernel
theorem dX11_demand_96 : decode cX11_demand 96 = .ok (.istore 7, 2) := by decide +kernel
theorem dX11_demand_98 : decode cX11_demand 98 = .ok (.aload_n 0, 1) := by decide +kernel
theorem dX11_demand_99 : decode cX11_demand 99 = .ok (.getfield 11, 3) := by decide +kernel
theorem dX11_demand_102 : decode cX11_demand 102 = .ok (.iload 7, 2) := by decide +kernel
theorem dX11_demand_104 : decode cX11_demand 104 = .ok (.iconst 0, 1) := by decide +kernel
theorem dX11_demand_105 : decode cX11_demand 105 = .ok (.iadd, 1) := by decide +kernel
theorem dX11_demand_106 : decode cX11_demand 106 = .ok (.iload_n 1, 1) := by decide +kernel
theorem dX11_demand_107 : decode cX11_demand 107 = .ok (.iastore, 1) := by decide +kernel
theorem dX11_demand_108 : decode cX11_demand 108 = .ok (.aload_n 0, 1) := by decide +kernel
theorem dX11_demand_109 : decode cX11_demand 109 = .ok (.getfield 11, 3) := by decide +kernel
theorem dX11_demand_112 : decode cX11_demand 112 = .ok (.iload 7, 2) := by decide +kernel
theorem dX11_demand_114 : decode cX11_demand 114 = .ok (.iconst 1, 1) := by decide +kernel
theorem dX11_demand_115 : decode cX11_demand 115 = .ok (.iadd, 1) := by decide +kernel
theorem dX11_demand_116 : decode cX11_demand 116 = .ok (.iload_n 2, 1) := by decide +kernel
theorem dX11_demand_117 : decode cX11_demand 117 = .ok (.iastore, 1) := by decide +kernel
theorem dX11_demand_118 : decode cX11_demand 118 = .ok (.aload_n 0, 1) := by decide +kernel
theorem dX11_demand_119 : decode cX11_demand 119 = .ok (.getfield 11, 3) := by decide +kernel
theorem dX11_demand_122 : decode cX11_demand 122 = .ok (.iload 7, 2) := by decide +kernel
theorem dX11_demand_124 : decode cX11_demand 124 = .ok (.iconst 2, 1) := by decide +kernel
theorem dX11_demand_125 : decode cX11_demand 125 = .ok (.iadd, 1) := by decide +kernel
theorem dX11_demand_126 : decode cX11_demand 126 = .ok (.iload_n 3, 1) := by decide +kernel
theorem dX11_demand_127 : decode cX11_demand 127 = .ok (.iastore, 1) := by decide +kernel
theorem dX11_demand_128 : decode cX11_demand 128 = .ok (.aload_n 0, 1) := by decide +kernel
theorem dX11_demand_129 : decode cX11_demand 129 = .ok (.getfield 11, 3) := by decide +kernel
theorem dX11_demand_132 : decode cX11_demand 132 = .ok (.iload 7, 2) := by decide +kernel
theorem dX11_demand_134 : decode cX11_demand 134 = .ok (.iconst 3, 1) := by decide +kernel
theorem dX11_demand_135 : decode cX11_demand 135 = .ok (.iadd, 1) := by decide +kernel
theorem dX11_demand_136 : decode cX11_demand 136 = .ok (.iload 4, 2) := by decide +kernel
theorem dX11_demand_138 : decode cX11_demand 138 = .ok (.iastore, 1) := by decide +kernel
theorem dX11_demand_139 : decode cX11_demand 139 = .ok (.aload_n 0, 1) := by decide +kernel
theorem dX11_demand_140 : decode cX11_demand 140 = .ok (.getfield 11, 3) := by decide +kernel
theorem dX11_demand_143 : decode cX11_demand 143 = .ok (.iload 7, 2) := by decide +kernel
theorem dX11_demand_145 : decode cX11_demand 145 = .ok (.iconst 4, 1) := by decide +kernel
theorem dX11_demand_146 : decode cX11_demand 146 = .ok (.iadd, 1) := by decide +kernel
theorem dX11_demand_147 : decode cX11_demand 147 = .ok (.iload 5, 2) := by decide +kernel
theorem dX11_demand_149 : decode cX11_demand 149 = .ok (.iastore, 1) := by decide +kernel
theorem dX11_demand_150 : decode cX11_demand 150 = .ok (.aload_n 0, 1) := by decide +kernel
theorem dX11_demand_151 : decode cX11_demand 151 = .ok (.getfield 11, 3) := by decide +kernel
theorem dX11_demand_154 : decode cX11_demand 154 = .ok (.iload 7, 2) := by decide +kernel
theorem dX11_demand_156 : decode cX11_demand 156 = .ok (.iconst 5, 1) := by decide +kernel
theorem dX11_demand_157 : decode cX11_demand 157 = .ok (.iadd, 1) := by decide +kernel
theorem dX11_demand_158 : decode cX11_demand 158 = .ok (.iload 6, 2) := by decide +kernel
theorem dX11_demand_160 : decode cX11_demand 160 = .ok (.iastore, 1) := by decide +kernel
theorem dX11_demand_161 : decode cX11_demand 161 = .ok (.aload_n 0, 1) := by decide +kernel
theorem dX11_demand_162 : decode cX11_demand 162 = .ok (.getfield 11, 3) := by decide +kernel
theorem dX11_demand_165 : decode cX11_demand 165 = .ok (.bipush 73, 2) := by decide +kernel
theorem dX11_demand_167 : decode cX11_demand 167 = .ok (.dup2, 1) := by decide +kernel
theorem dX11_demand_168 : decode cX11_demand 168 = .ok (.iaload, 1) := by decide +kernel
theorem dX11_demand_169 : decode cX11_demand 169 = .ok (.iconst 1, 1) := by decide +kernel
theorem dX11_demand_170 : decode cX11_demand 170 = .ok (.iadd, 1) := by decide +kernel
theorem dX11_demand_171 : decode cX11_demand 171 = .ok (.iastore, 1) := by decide +kernel
theorem dX11_demand_172 : decode cX11_demand 172 = .ok (.aload_n 0, 1) := by decide +kernel
theorem dX11_demand_173 : decode cX11_demand 173 = .ok (.getfield 11, 3) := by decide +kernel
theorem dX11_demand_176 : decode cX11_demand 176 = .ok (.bipush 73, 2) := by decide +kernel
theorem dX11_demand_178 : decode cX11_demand 178 = .ok (.iaload, 1) := by decide +kernel
theorem dX11_demand_179 : decode cX11_demand 179 = .ok (.iconst 1, 1) := by decide +kernel
theorem dX11_demand_180 : decode cX11_demand 180 = .ok (.isub, 1) := by decide +kernel
theorem dX11_demand_181 : decode cX11_demand 181 = .ok (.ireturn, 1) := by decide +kernel
theorem dX11_renew_0 : decode cX11_renew 0 = .ok (.aload_n 0, 1) := by decide +kernel
theorem dX11_renew_1 : decode cX11_renew 1 = .ok (.iload_n 1, 1) := by decide +kernel
theorem dX11_renew_2 : decode cX11_renew 2 = .ok (.invokevirtual 99, 3) := by decide +kernel
theorem dX11_renew_5 : decode cX11_renew 5 = .ok (.ifCond .eq 15, 3) := by decide +kernel
theorem dX11_renew_8 : decode cX11_renew 8 = .ok (.iload_n 2, 1) := by decide +kernel
theorem dX11_renew_9 : decode cX11_renew 9 = .ok (.i2l, 1) := by decide +kernel
theorem dX11_renew_10 : decode cX11_renew 10 = .ok (.lconst 0, 1) := by decide +kernel
theorem dX11_renew_11 : decode cX11_renew 11 = .ok (.ldc2_w 69, 3) := by decide +kernel
theorem dX11_renew_14 : decode cX11_renew 14 = .ok (.invokestatic 65, 3) := by decide +kernel
theorem dX11_renew_17 : decode cX11_renew 17 = .ok (.ifCond .ne 5, 3) := by decide +kernel
theorem dX11_renew_20 : decode cX11_renew 20 = .ok (.iconst (-1), 1) := by decide +kernel
theorem dX11_renew_21 : decode cX11_renew 21 = .ok (.ireturn, 1) := by decide +kernel
theorem dX11_renew_22 : decode cX11_renew 22 = .ok (.iload_n 2, 1) := by decide +kernel
theorem dX11_renew_23 : decode cX11_renew 23 = .ok (.ifCond .ne 15, 3) := by decide +kernel
theorem dX11_renew_26 : decode cX11_renew 26 = .ok (.iload_n 3, 1) := by decide +kernel
theorem dX11_renew_27 : decode cX11_renew 27 = .ok (.i2l, 1) := by decide +kernel
theorem dX11_renew_28 : decode cX11_renew 28 = .ok (.lconst 0, 1) := by decide +kernel
theorem dX11_renew_29 : decode cX11_renew 29 = .ok (.ldc2_w 75, 3) := by decide +kernel
theorem dX11_renew_32 : decode cX11_renew 32 = .ok (.invokestatic 65, 3) := by decide +kernel
theorem dX11_renew_35 : decode cX11_renew 35 = .ok (.goto 29, 3) := by decide +kernel
theorem dX11_renew_38 : decode cX11_renew 38 = .ok (.iload_n 2, 1) := by decide +kernel
theorem dX11_renew_39 : decode cX11_renew 39 = .ok (.iconst 1, 1) := by decide +kernel
theorem dX11_renew_40 : decode cX11_renew 40 = .ok (.if_icmp .ne 15, 3) := by decide +kernel
theorem dX11_renew_43 : decode cX11_renew 43 = .ok (.iload_n 3, 1) := by decide +kernel
theorem dX11_renew_44 : decode cX11_renew 44 = .ok (.i2l, 1) := by decide +kernel
theorem dX11_renew_45 : decode cX11_renew 45 = .ok (.lconst 1, 1) := by decide +kernel
theorem dX11_renew_46 : decode cX11_renew 46 = .ok (.ldc2_w 75, 3) := by decide +kernel
theorem dX11_renew_49 : decode cX11_renew 49 = .ok (.invokestatic 65, 3) := by decide +kernel
theorem dX11_renew_52 : decode cX11_renew 52 = .ok (.goto 12, 3) := by decide +kernel
theorem dX11_renew_55 : decode cX11_renew 55 = .ok (.iload_n 3, 1) := by decide +kernel
theorem dX11_renew_56 : decode cX11_renew 56 = .ok (.i2l, 1) := by decide +kernel
theorem dX11_renew_57 : decode cX11_renew 57 = .ok (.lconst 0, 1) := by decide +kernel
theorem dX11_renew_58 : decode cX11_renew 58 = .ok (.ldc2_w 77, 3) := by decide +kernel
theorem dX11_renew_61 : decode cX11_renew 61 = .ok (.invokestatic 65, 3) := by decide +kernel
theorem dX11_renew_64 : decode cX11_renew 64 = .ok (.istore 4, 2) := by decide +kernel
theorem dX11_renew_66 : decode cX11_renew 66 = .ok (.iload 4, 2) := by decide +kernel
theorem dX11_renew_68 : decode cX11_renew 68 = .ok (.ifCond .eq 22, 3) := by decide +kernel
theorem dX11_renew_71 : decode cX11_renew 71 = .ok (.aload_n 0, 1) := by decide +kernel
theorem dX11_renew_72 : decode cX11_renew 72 = .ok (.bipush 74, 2) := by decide +kernel
theorem dX11_renew_74 : decode cX11_renew 74 = .ok (.bipush 6, 2) := by decide +kernel
theorem dX11_renew_76 : decode cX11_renew 76 = .ok (.iload_n 1, 1) := by decide +kernel
theorem dX11_renew_77 : decode cX11_renew 77 = .ok (.imul, 1) := by decide +kernel
theorem dX11_renew_78 : decode cX11_renew 78 = .ok (.iadd, 1) := by decide +kernel
theorem dX11_renew_79 : decode cX11_renew 79 = .ok (.iconst 1, 1) := by decide +kernel
theorem dX11_renew_80 : decode cX11_renew 80 = .ok (.iadd, 1) := by decide +kernel
theorem dX11_renew_81 : decode cX11_renew 81 = .ok (.iload_n 2, 1) := by decide +kernel
theorem dX11_renew_82 : decode cX11_renew 82 = .ok (.iadd, 1) := by decide +kernel
theorem dX11_renew_83 : decode cX11_renew 83 = .ok (.iload_n 3, 1) := by decide +kernel
theorem dX11_renew_84 : decode cX11_renew 84 = .ok (.invokevirtual 79, 3) := by decide +kernel
theorem dX11_renew_87 : decode cX11_renew 87 = .ok (.goto 5, 3) := by decide +kernel
theorem dX11_renew_90 : decode cX11_renew 90 = .ok (.bipush (-2), 2) := by decide +kernel
theorem dX11_renew_92 : decode cX11_renew 92 = .ok (.ireturn, 1) := by decide +kernel
theorem dX11_drop_0 : decode cX11_drop 0 = .ok (.aload_n 0, 1) := by decide +kernel
theorem dX11_drop_1 : decode cX11_drop 1 = .ok (.iload_n 1, 1) := by decide +kernel
theorem dX11_drop_2 : decode cX11_drop 2 = .ok (.invokevirtual 99, 3) := by decide +kernel
theorem dX11_drop_5 : decode cX11_drop 5 = .ok (.ifCond .ne 5, 3) := by decide +kernel
theorem dX11_drop_8 : decode cX11_drop 8 = .ok (.iconst (-1), 1) := by decide +kernel
theorem dX11_drop_9 : decode cX11_drop 9 = .ok (.ireturn, 1) := by decide +kernel
theorem dX11_drop_10 : decode cX11_drop 10 = .ok (.aload_n 0, 1) := by decide +kernel
theorem dX11_drop_11 : decode cX11_drop 11 = .ok (.getfield 11, 3) := by decide +kernel
theorem dX11_drop_14 : decode cX11_drop 14 = .ok (.bipush 73, 2) := by decide +kernel
theorem dX11_drop_16 : decode cX11_drop 16 = .ok (.dup2, 1) := by decide +kernel
theorem dX11_drop_17 : decode cX11_drop 17 = .ok (.iaload, 1) := by decide +kernel
theorem dX11_drop_18 : decode cX11_drop 18 = .ok (.iconst 1, 1) := by decide +kernel
theorem dX11_drop_19 : decode cX11_drop 19 = .ok (.isub, 1) := by decide +kernel
theorem dX11_drop_20 : decode cX11_drop 20 = .ok (.iastore, 1) := by decide +kernel
theorem dX11_drop_21 : decode cX11_drop 21 = .ok (.bipush 74, 2) := by decide +kernel
theorem dX11_drop_23 : decode cX11_drop 23 = .ok (.bipush 6, 2) := by decide +kernel
theorem dX11_drop_25 : decode cX11_drop 25 = .ok (.iload_n 1, 1) := by decide +kernel
theorem dX11_drop_26 : decode cX11_drop 26 = .ok (.imul, 1) := by decide +kernel
theorem dX11_drop_27 : decode cX11_drop 27 = .ok (.iadd, 1) := by decide +kernel
theorem dX11_drop_28 : decode cX11_drop 28 = .ok (.istore_n 2, 1) := by decide +kernel
theorem dX11_drop_29 : decode cX11_drop 29 = .ok (.iload_n 2, 1) := by decide +kernel
theorem dX11_drop_30 : decode cX11_drop 30 = .ok (.bipush 74, 2) := by decide +kernel
theorem dX11_drop_32 : decode cX11_drop 32 = .ok (.bipush 6, 2) := by decide +kernel
theorem dX11_drop_34 : decode cX11_drop 34 = .ok (.aload_n 0, 1) := by decide +kernel
theorem dX11_drop_35 : decode cX11_drop 35 = .ok (.getfield 11, 3) := by decide +kernel
theorem dX11_drop_38 : decode cX11_drop 38 = .ok (.bipush 73, 2) := by decide +kernel
theorem dX11_drop_40 : decode cX11_drop 40 = .ok (.iaload, 1) := by decide +kernel
theorem dX11_drop_41 : decode cX11_drop 41 = .ok (.imul, 1) := by decide +kernel
theorem dX11_drop_42 : decode cX11_drop 42 = .ok (.iadd, 1) := by decide +kernel
theorem dX11_drop_43 : decode cX11_drop 43 = .ok (.if_icmp .ge 24, 3) := by decide +kernel
theorem dX11_drop_46 : decode cX11_drop 46 = .ok (.aload_n 0, 1) := by decide +kernel
theorem dX11_drop_47 : decode cX11_drop 47 = .ok (.getfield 11, 3) := by decide +kernel
theorem dX11_drop_50 : decode cX11_drop 50 = .ok (.iload_n 2, 1) := by decide +kernel
theorem dX11_drop_51 : decode cX11_drop 51 = .ok (.aload_n 0, 1) := by decide +kernel
theorem dX11_drop_52 : decode cX11_drop 52 = .ok (.getfield 11, 3) := by decide +kernel
theorem dX11_drop_55 : decode cX11_drop 55 = .ok (.iload_n 2, 1) := by decide +kernel
theorem dX11_drop_56 : decode cX11_drop 56 = .ok (.bipush 6, 2) := by decide +kernel
theorem dX11_drop_58 : decode cX11_drop 58 = .ok (.iadd, 1) := by decide +kernel
theorem dX11_drop_59 : decode cX11_drop 59 = .ok (.iaload, 1) := by decide +kernel
theorem dX11_drop_60 : decode cX11_drop 60 = .ok (.iastore, 1) := by decide +kernel
theorem dX11_drop_61 : decode cX11_drop 61 = .ok (.iinc 2 1, 3) := by decide +kernel
theorem dX11_drop_64 : decode cX11_drop 64 = .ok (.goto (-35), 3) := by decide +kernel
theorem dX11_drop_67 : decode cX11_drop 67 = .ok (.aload_n 0, 1) := by decide +kernel
theorem dX11_drop_68 : decode cX11_drop 68 = .ok (.getfield 11, 3) := by decide +kernel
theorem dX11_drop_71 : decode cX11_drop 71 = .ok (.bipush 73, 2) := by decide +kernel
theorem dX11_drop_73 : decode cX11_drop 73 = .ok (.iaload, 1) := by decide +kernel
theorem dX11_drop_74 : decode cX11_drop 74 = .ok (.ireturn, 1) := by decide +kernel
theorem dX11_told_0 : decode cX11_told 0 = .ok (.iload_n 1, 1) := by decide +kernel
theorem dX11_told_1 : decode cX11_told 1 = .ok (.iconst 4, 1) := by decide +kernel
theorem dX11_told_2 : decode cX11_told 2 = .ok (.if_icmp .ne 13, 3) := by decide +kernel
theorem dX11_told_5 : decode cX11_told 5 = .ok (.aload_n 0, 1) := by decide +kernel
theorem dX11_told_6 : decode cX11_told 6 = .ok (.getfield 11, 3) := by decide +kernel
theorem dX11_told_9 : decode cX11_told 9 = .ok (.bipush 73, 2) := by decide +kernel
theorem dX11_told_11 : decode cX11_told 11 = .ok (.iaload, 1) := by decide +kernel
theorem dX11_told_12 : decode cX11_told 12 = .ok (.goto 25, 3) := by decide +kernel
theorem dX11_told_15 : decode cX11_told 15 = .ok (.iload_n 1, 1) := by decide +kernel
theorem dX11_told_16 : decode cX11_told 16 = .ok (.i2l, 1) := by decide +kernel
theorem dX11_told_17 : decode cX11_told 17 = .ok (.lconst 0, 1) := by decide +kernel
theorem dX11_told_18 : decode cX11_told 18 = .ok (.ldc2_w 71, 3) := by decide +kernel
theorem dX11_told_21 : decode cX11_told 21 = .ok (.invokestatic 65, 3) := by decide +kernel
theorem dX11_told_24 : decode cX11_told 24 = .ok (.ifCond .eq 12, 3) := by decide +kernel
theorem dX11_told_27 : decode cX11_told 27 = .ok (.aload_n 0, 1) := by decide +kernel
theorem dX11_told_28 : decode cX11_told 28 = .ok (.getfield 11, 3) := by decide +kernel
theorem dX11_told_31 : decode cX11_told 31 = .ok (.iload_n 1, 1) := by decide +kernel
theorem dX11_told_32 : decode cX11_told 32 = .ok (.iaload, 1) := by decide +kernel
theorem dX11_told_33 : decode cX11_told 33 = .ok (.goto 4, 3) := by decide +kernel
theorem dX11_told_36 : decode cX11_told 36 = .ok (.iconst (-1), 1) := by decide +kernel
theorem dX11_told_37 : decode cX11_told 37 = .ok (.ireturn, 1) := by decide +kernel
theorem dX11_top_0 : decode cX11_top 0 = .ok (.iconst 0, 1) := by decide +kernel
theorem dX11_top_1 : decode cX11_top 1 = .ok (.aload_n 0, 1) := by decide +kernel
theorem dX11_top_2 : decode cX11_top 2 = .ok (.getfield 11, 3) := by decide +kernel
theorem dX11_top_5 : decode cX11_top 5 = .ok (.iconst 0, 1) := by decide +kernel
theorem dX11_top_6 : decode cX11_top 6 = .ok (.iaload, 1) := by decide +kernel
theorem dX11_top_7 : decode cX11_top 7 = .ok (.aload_n 0, 1) := by decide +kernel
theorem dX11_top_8 : decode cX11_top 8 = .ok (.getfield 11, 3) := by decide +kernel
theorem dX11_top_11 : decode cX11_top 11 = .ok (.bipush 61, 2) := by decide +kernel
theorem dX11_top_13 : decode cX11_top 13 = .ok (.iload_n 1, 1) := by decide +kernel
theorem dX11_top_14 : decode cX11_top 14 = .ok (.iadd, 1) := by decide +kernel
theorem dX11_top_15 : decode cX11_top 15 = .ok (.iaload, 1) := by decide +kernel
theorem dX11_top_16 : decode cX11_top 16 = .ok (.isub, 1) := by decide +kernel
theorem dX11_top_17 : decode cX11_top 17 = .ok (.invokestatic 102, 3) := by decide +kernel
theorem dX11_top_20 : decode cX11_top 20 = .ok (.ireturn, 1) := by decide +kernel
theorem dX11_monthOf_0 : decode cX11_monthOf 0 = .ok (.iload_n 1, 1) := by decide +kernel
theorem dX11_monthOf_1 : decode cX11_monthOf 1 = .ok (.invokestatic 83, 3) := by decide +kernel
theorem dX11_monthOf_4 : decode cX11_monthOf 4 = .ok (.ifCond .eq 15, 3) := by decide +kernel
theorem dX11_monthOf_7 : decode cX11_monthOf 7 = .ok (.iload_n 2, 1) := by decide +kernel
theorem dX11_monthOf_8 : decode cX11_monthOf 8 = .ok (.i2l, 1) := by decide +kernel
theorem dX11_monthOf_9 : decode cX11_monthOf 9 = .ok (.lconst 0, 1) := by decide +kernel
theorem dX11_monthOf_10 : decode cX11_monthOf 10 = .ok (.ldc2_w 107, 3) := by decide +kernel
theorem dX11_monthOf_13 : decode cX11_monthOf 13 = .ok (.invokestatic 65, 3) := by decide +kernel
theorem dX11_monthOf_16 : decode cX11_monthOf 16 = .ok (.ifCond .ne 5, 3) := by decide +kernel
theorem dX11_monthOf_19 : decode cX11_monthOf 19 = .ok (.iconst (-1), 1) := by decide +kernel
theorem dX11_monthOf_20 : decode cX11_monthOf 20 = .ok (.ireturn, 1) := by decide +kernel
theorem dX11_monthOf_21 : decode cX11_monthOf 21 = .ok (.iload_n 2, 1) := by decide +kernel
theorem dX11_monthOf_22 : decode cX11_monthOf 22 = .ok (.iconst 3, 1) := by decide +kernel
theorem dX11_monthOf_23 : decode cX11_monthOf 23 = .ok (.if_icmp .ge 16, 3) := by decide +kernel
theorem dX11_monthOf_26 : decode cX11_monthOf 26 = .ok (.aload_n 0, 1) := by decide +kernel
theorem dX11_monthOf_27 : decode cX11_monthOf 27 = .ok (.getfield 11, 3) := by decide +kernel
theorem dX11_monthOf_30 : decode cX11_monthOf 30 = .ok (.iconst 4, 1) := by decide +kernel
theorem dX11_monthOf_31 : decode cX11_monthOf 31 = .ok (.iconst 3, 1) := by decide +kernel
theorem dX11_monthOf_32 : decode cX11_monthOf 32 = .ok (.iload_n 1, 1) := by decide +kernel
theorem dX11_monthOf_33 : decode cX11_monthOf 33 = .ok (.imul, 1) := by decide +kernel
theorem dX11_monthOf_34 : decode cX11_monthOf 34 = .ok (.iadd, 1) := by decide +kernel
theorem dX11_monthOf_35 : decode cX11_monthOf 35 = .ok (.iload_n 2, 1) := by decide +kernel
theorem dX11_monthOf_36 : decode cX11_monthOf 36 = .ok (.iadd, 1) := by decide +kernel
theorem dX11_monthOf_37 : decode cX11_monthOf 37 = .ok (.iaload, 1) := by decide +kernel
theorem dX11_monthOf_38 : decode cX11_monthOf 38 = .ok (.ireturn, 1) := by decide +kernel
theorem dX11_monthOf_39 : decode cX11_monthOf 39 = .ok (.iload_n 2, 1) := by decide +kernel
theorem dX11_monthOf_40 : decode cX11_monthOf 40 = .ok (.iconst 3, 1) := by decide +kernel
theorem dX11_monthOf_41 : decode cX11_monthOf 41 = .ok (.if_icmp .ne 15, 3) := by decide +kernel
theorem dX11_monthOf_44 : decode cX11_monthOf 44 = .ok (.aload_n 0, 1) := by decide +kernel
theorem dX11_monthOf_45 : decode cX11_monthOf 45 = .ok (.getfield 11, 3) := by decide +kernel
theorem dX11_monthOf_48 : decode cX11_monthOf 48 = .ok (.bipush 49, 2) := by decide +kernel
theorem dX11_monthOf_50 : decode cX11_monthOf 50 = .ok (.iload_n 1, 1) := by decide +kernel
theorem dX11_monthOf_51 : decode cX11_monthOf 51 = .ok (.iadd, 1) := by decide +kernel
theorem dX11_monthOf_52 : decode cX11_monthOf 52 = .ok (.iaload, 1) := by decide +kernel
theorem dX11_monthOf_53 : decode cX11_monthOf 53 = .ok (.goto 25, 3) := by decide +kernel
theorem dX11_monthOf_56 : decode cX11_monthOf 56 = .ok (.iload_n 2, 1) := by decide +kernel
theorem dX11_monthOf_57 : decode cX11_monthOf 57 = .ok (.iconst 4, 1) := by decide +kernel
theorem dX11_monthOf_58 : decode cX11_monthOf 58 = .ok (.if_icmp .ne 15, 3) := by decide +kernel
theorem dX11_monthOf_61 : decode cX11_monthOf 61 = .ok (.aload_n 0, 1) := by decide +kernel
theorem dX11_monthOf_62 : decode cX11_monthOf 62 = .ok (.getfield 11, 3) := by decide +kernel
theorem dX11_monthOf_65 : decode cX11_monthOf 65 = .ok (.bipush 61, 2) := by decide +kernel
theorem dX11_monthOf_67 : decode cX11_monthOf 67 = .ok (.iload_n 1, 1) := by decide +kernel
theorem dX11_monthOf_68 : decode cX11_monthOf 68 = .ok (.iadd, 1) := by decide +kernel
theorem dX11_monthOf_69 : decode cX11_monthOf 69 = .ok (.iaload, 1) := by decide +kernel
theorem dX11_monthOf_70 : decode cX11_monthOf 70 = .ok (.goto 8, 3) := by decide +kernel
theorem dX11_monthOf_73 : decode cX11_monthOf 73 = .ok (.aload_n 0, 1) := by decide +kernel
theorem dX11_monthOf_74 : decode cX11_monthOf 74 = .ok (.iload_n 1, 1) := by decide +kernel
theorem dX11_monthOf_75 : decode cX11_monthOf 75 = .ok (.invokevirtual 109, 3) := by decide +kernel
theorem dX11_monthOf_78 : decode cX11_monthOf 78 = .ok (.ireturn, 1) := by decide +kernel
theorem dX11_partOf_0 : decode cX11_partOf 0 = .ok (.iload_n 1, 1) := by decide +kernel
theorem dX11_partOf_1 : decode cX11_partOf 1 = .ok (.invokestatic 87, 3) := by decide +kernel
theorem dX11_partOf_4 : decode cX11_partOf 4 = .ok (.ifCond .eq 15, 3) := by decide +kernel
theorem dX11_partOf_7 : decode cX11_partOf 7 = .ok (.iload_n 2, 1) := by decide +kernel
theorem dX11_partOf_8 : decode cX11_partOf 8 = .ok (.i2l, 1) := by decide +kernel
theorem dX11_partOf_9 : decode cX11_partOf 9 = .ok (.lconst 0, 1) := by decide +kernel
theorem dX11_partOf_10 : decode cX11_partOf 10 = .ok (.ldc2_w 71, 3) := by decide +kernel
theorem dX11_partOf_13 : decode cX11_partOf 13 = .ok (.invokestatic 65, 3) := by decide +kernel
theorem dX11_partOf_16 : decode cX11_partOf 16 = .ok (.ifCond .ne 5, 3) := by decide +kernel
theorem dX11_partOf_19 : decode cX11_partOf 19 = .ok (.iconst (-1), 1) := by decide +kernel
theorem dX11_partOf_20 : decode cX11_partOf 20 = .ok (.ireturn, 1) := by decide +kernel
theorem dX11_partOf_21 : decode cX11_partOf 21 = .ok (.iload_n 2, 1) := by decide +kernel
theorem dX11_partOf_22 : decode cX11_partOf 22 = .ok (.iconst 3, 1) := by decide +kernel
theorem dX11_partOf_23 : decode cX11_partOf 23 = .ok (.if_icmp .ne 11, 3) := by decide +kernel
theorem dX11_partOf_26 : decode cX11_partOf 26 = .ok (.aload_n 0, 1) := by decide +kernel
theorem dX11_partOf_27 : decode cX11_partOf 27 = .ok (.iload_n 1, 1) := by decide +kernel
theorem dX11_partOf_28 : decode cX11_partOf 28 = .ok (.invokevirtual 93, 3) := by decide +kernel
theorem dX11_partOf_31 : decode cX11_partOf 31 = .ok (.goto 9, 3) := by decide +kernel
theorem dX11_partOf_34 : decode cX11_partOf 34 = .ok (.aload_n 0, 1) := by decide +kernel
theorem dX11_partOf_35 : decode cX11_partOf 35 = .ok (.iload_n 1, 1) := by decide +kernel
theorem dX11_partOf_36 : decode cX11_partOf 36 = .ok (.iload_n 2, 1) := by decide +kernel
theorem dX11_partOf_37 : decode cX11_partOf 37 = .ok (.invokevirtual 90, 3) := by decide +kernel
theorem dX11_partOf_40 : decode cX11_partOf 40 = .ok (.ireturn, 1) := by decide +kernel
theorem dX11_isServedAhead_0 : decode cX11_isServedAhead 0 = .ok (.aload_n 0, 1) := by decide +kernel
theorem dX11_isServedAhead_1 : decode cX11_isServedAhead 1 = .ok (.iload_n 1, 1) := by decide +kernel
theorem dX11_isServedAhead_2 : decode cX11_isServedAhead 2 = .ok (.iconst 1, 1) := by decide +kernel
theorem dX11_isServedAhead_3 : decode cX11_isServedAhead 3 = .ok (.invokevirtual 112, 3) := by decide +kernel
theorem dX11_isServedAhead_6 : decode cX11_isServedAhead 6 = .ok (.aload_n 0, 1) := by decide +kernel
theorem dX11_isServedAhead_7 : decode cX11_isServedAhead 7 = .ok (.iload_n 2, 1) := by decide +kernel
theorem dX11_isServedAhead_8 : decode cX11_isServedAhead 8 = .ok (.iconst 1, 1) := by decide +kernel
theorem dX11_isServedAhead_9 : decode cX11_isServedAhead 9 = .ok (.invokevirtual 112, 3) := by decide +kernel
theorem dX11_isServedAhead_12 : decode cX11_isServedAhead 12 = .ok (.if_icmp .eq 26, 3) := by decide +kernel
theorem dX11_isServedAhead_15 : decode cX11_isServedAhead 15 = .ok (.aload_n 0, 1) := by decide +kernel
theorem dX11_isServedAhead_16 : decode cX11_isServedAhead 16 = .ok (.iload_n 1, 1) := by decide +kernel
theorem dX11_isServedAhead_17 : decode cX11_isServedAhead 17 = .ok (.iconst 1, 1) := by decide +kernel
theorem dX11_isServedAhead_18 : decode cX11_isServedAhead 18 = .ok (.invokevirtual 112, 3) := by decide +kernel
theorem dX11_isServedAhead_21 : decode cX11_isServedAhead 21 = .ok (.aload_n 0, 1) := by decide +kernel
theorem dX11_isServedAhead_22 : decode cX11_isServedAhead 22 = .ok (.iload_n 2, 1) := by decide +kernel
theorem dX11_isServedAhead_23 : decode cX11_isServedAhead 23 = .ok (.iconst 1, 1) := by decide +kernel
theorem dX11_isServedAhead_24 : decode cX11_isServedAhead 24 = .ok (.invokevirtual 112, 3) := by decide +kernel
theorem dX11_isServedAhead_27 : decode cX11_isServedAhead 27 = .ok (.if_icmp .ge 7, 3) := by decide +kernel
theorem dX11_isServedAhead_30 : decode cX11_isServedAhead 30 = .ok (.iconst 1, 1) := by decide +kernel
theorem dX11_isServedAhead_31 : decode cX11_isServedAhead 31 = .ok (.goto 17, 3) := by decide +kernel
theorem dX11_isServedAhead_34 : decode cX11_isServedAhead 34 = .ok (.iconst 0, 1) := by decide +kernel
theorem dX11_isServedAhead_35 : decode cX11_isServedAhead 35 = .ok (.goto 13, 3) := by decide +kernel
theorem dX11_isServedAhead_38 : decode cX11_isServedAhead 38 = .ok (.iload_n 1, 1) := by decide +kernel
theorem dX11_isServedAhead_39 : decode cX11_isServedAhead 39 = .ok (.iload_n 2, 1) := by decide +kernel
theorem dX11_isServedAhead_40 : decode cX11_isServedAhead 40 = .ok (.if_icmp .ge 7, 3) := by decide +kernel
theorem dX11_isServedAhead_43 : decode cX11_isServedAhead 43 = .ok (.iconst 1, 1) := by decide +kernel
theorem dX11_isServedAhead_44 : decode cX11_isServedAhead 44 = .ok (.goto 4, 3) := by decide +kernel
theorem dX11_isServedAhead_47 : decode cX11_isServedAhead 47 = .ok (.iconst 0, 1) := by decide +kernel
theorem dX11_isServedAhead_48 : decode cX11_isServedAhead 48 = .ok (.ireturn, 1) := by decide +kernel
theorem dX11_byRank_0 : decode cX11_byRank 0 = .ok (.iconst 0, 1) := by decide +kernel
theorem dX11_byRank_1 : decode cX11_byRank 1 = .ok (.istore_n 2, 1) := by decide +kernel
theorem dX11_byRank_2 : decode cX11_byRank 2 = .ok (.iload_n 2, 1) := by decide +kernel
theorem dX11_byRank_3 : decode cX11_byRank 3 = .ok (.aload_n 0, 1) := by decide +kernel
theorem dX11_byRank_4 : decode cX11_byRank 4 = .ok (.getfield 11, 3) := by decide +kernel
theorem dX11_byRank_7 : decode cX11_byRank 7 = .ok (.bipush 73, 2) := by decide +kernel
theorem dX11_byRank_9 : decode cX11_byRank 9 = .ok (.iaload, 1) := by decide +kernel
theorem dX11_byRank_10 : decode cX11_byRank 10 = .ok (.if_icmp .ge 20, 3) := by decide +kernel
theorem dX11_byRank_13 : decode cX11_byRank 13 = .ok (.aload_n 0, 1) := by decide +kernel
theorem dX11_byRank_14 : decode cX11_byRank 14 = .ok (.iload_n 2, 1) := by decide +kernel
theorem dX11_byRank_15 : decode cX11_byRank 15 = .ok (.invokevirtual 115, 3) := by decide +kernel
theorem dX11_byRank_18 : decode cX11_byRank 18 = .ok (.iload_n 1, 1) := by decide +kernel
theorem dX11_byRank_19 : decode cX11_byRank 19 = .ok (.if_icmp .ne 5, 3) := by decide +kernel
theorem dX11_byRank_22 : decode cX11_byRank 22 = .ok (.iload_n 2, 1) := by decide +kernel
theorem dX11_byRank_23 : decode cX11_byRank 23 = .ok (.ireturn, 1) := by decide +kernel
theorem dX11_byRank_24 : decode cX11_byRank 24 = .ok (.iinc 2 1, 3) := by decide +kernel
theorem dX11_byRank_27 : decode cX11_byRank 27 = .ok (.goto (-25), 3) := by decide +kernel
theorem dX11_byRank_30 : decode cX11_byRank 30 = .ok (.iconst (-1), 1) := by decide +kernel
theorem dX11_byRank_31 : decode cX11_byRank 31 = .ok (.ireturn, 1) := by decide +kernel
theorem dX11_rankOf_0 : decode cX11_rankOf 0 = .ok (.iconst 0, 1) := by decide +kernel
theorem dX11_rankOf_1 : decode cX11_rankOf 1 = .ok (.istore_n 2, 1) := by decide +kernel
theorem dX11_rankOf_2 : decode cX11_rankOf 2 = .ok (.iconst 0, 1) := by decide +kernel
theorem dX11_rankOf_3 : decode cX11_rankOf 3 = .ok (.istore_n 3, 1) := by decide +kernel
theorem dX11_rankOf_4 : decode cX11_rankOf 4 = .ok (.iload_n 3, 1) := by decide +kernel
theorem dX11_rankOf_5 : decode cX11_rankOf 5 = .ok (.aload_n 0, 1) := by decide +kernel
theorem dX11_rankOf_6 : decode cX11_rankOf 6 = .ok (.getfield 11, 3) := by decide +kernel
theorem dX11_rankOf_9 : decode cX11_rankOf 9 = .ok (.bipush 73, 2) := by decide +kernel
theorem dX11_rankOf_11 : decode cX11_rankOf 11 = .ok (.iaload, 1) := by decide +kernel
theorem dX11_rankOf_12 : decode cX11_rankOf 12 = .ok (.if_icmp .ge 31, 3) := by decide +kernel
theorem dX11_rankOf_15 : decode cX11_rankOf 15 = .ok (.iload_n 2, 1) := by decide +kernel
theorem dX11_rankOf_16 : decode cX11_rankOf 16 = .ok (.iload_n 3, 1) := by decide +kernel
theorem dX11_rankOf_17 : decode cX11_rankOf 17 = .ok (.iload_n 1, 1) := by decide +kernel
theorem dX11_rankOf_18 : decode cX11_rankOf 18 = .ok (.if_icmp .eq 16, 3) := by decide +kernel
theorem dX11_rankOf_21 : decode cX11_rankOf 21 = .ok (.aload_n 0, 1) := by decide +kernel
theorem dX11_rankOf_22 : decode cX11_rankOf 22 = .ok (.iload_n 3, 1) := by decide +kernel
theorem dX11_rankOf_23 : decode cX11_rankOf 23 = .ok (.iload_n 1, 1) := by decide +kernel
theorem dX11_rankOf_24 : decode cX11_rankOf 24 = .ok (.invokevirtual 118, 3) := by decide +kernel
theorem dX11_rankOf_27 : decode cX11_rankOf 27 = .ok (.ifCond .eq 7, 3) := by decide +kernel
theorem dX11_rankOf_30 : decode cX11_rankOf 30 = .ok (.iconst 1, 1) := by decide +kernel
theorem dX11_rankOf_31 : decode cX11_rankOf 31 = .ok (.goto 4, 3) := by decide +kernel
theorem dX11_rankOf_34 : decode cX11_rankOf 34 = .ok (.iconst 0, 1) := by decide +kernel
theorem dX11_rankOf_35 : decode cX11_rankOf 35 = .ok (.iadd, 1) := by decide +kernel
theorem dX11_rankOf_36 : decode cX11_rankOf 36 = .ok (.istore_n 2, 1) := by decide +kernel
theorem dX11_rankOf_37 : decode cX11_rankOf 37 = .ok (.iinc 3 1, 3) := by decide +kernel
theorem dX11_rankOf_40 : decode cX11_rankOf 40 = .ok (.goto (-36), 3) := by decide +kernel
theorem dX11_rankOf_43 : decode cX11_rankOf 43 = .ok (.iload_n 2, 1) := by decide +kernel
theorem dX11_rankOf_44 : decode cX11_rankOf 44 = .ok (.ireturn, 1) := by decide +kernel
theorem dX11_demandOf_0 : decode cX11_demandOf 0 = .ok (.aload_n 0, 1) := by decide +kernel
theorem dX11_demandOf_1 : decode cX11_demandOf 1 = .ok (.iload_n 1, 1) := by decide +kernel
theorem dX11_demandOf_2 : decode cX11_demandOf 2 = .ok (.invokevirtual 99, 3) := by decide +kernel
theorem dX11_demandOf_5 : decode cX11_demandOf 5 = .ok (.ifCond .eq 15, 3) := by decide +kernel
theorem dX11_demandOf_8 : decode cX11_demandOf 8 = .ok (.iload_n 2, 1) := by decide +kernel
theorem dX11_demandOf_9 : decode cX11_demandOf 9 = .ok (.i2l, 1) := by decide +kernel
theorem dX11_demandOf_10 : decode cX11_demandOf 10 = .ok (.lconst 0, 1) := by decide +kernel
theorem dX11_demandOf_11 : decode cX11_demandOf 11 = .ok (.ldc2_w 122, 3) := by decide +kernel
theorem dX11_demandOf_14 : decode cX11_demandOf 14 = .ok (.invokestatic 65, 3) := by decide +kernel
theorem dX11_demandOf_17 : decode cX11_demandOf 17 = .ok (.ifCond .ne 5, 3) := by decide +kernel
theorem dX11_demandOf_20 : decode cX11_demandOf 20 = .ok (.iconst (-1), 1) := by decide +kernel
theorem dX11_demandOf_21 : decode cX11_demandOf 21 = .ok (.ireturn, 1) := by decide +kernel
theorem dX11_demandOf_22 : decode cX11_demandOf 22 = .ok (.iload_n 2, 1) := by decide +kernel
theorem dX11_demandOf_23 : decode cX11_demandOf 23 = .ok (.bipush 6, 2) := by decide +kernel
theorem dX11_demandOf_25 : decode cX11_demandOf 25 = .ok (.if_icmp .ne 11, 3) := by decide +kernel
theorem dX11_demandOf_28 : decode cX11_demandOf 28 = .ok (.aload_n 0, 1) := by decide +kernel
theorem dX11_demandOf_29 : decode cX11_demandOf 29 = .ok (.iload_n 1, 1) := by decide +kernel
theorem dX11_demandOf_30 : decode cX11_demandOf 30 = .ok (.invokevirtual 115, 3) := by decide +kernel
theorem dX11_demandOf_33 : decode cX11_demandOf 33 = .ok (.goto 9, 3) := by decide +kernel
theorem dX11_demandOf_36 : decode cX11_demandOf 36 = .ok (.aload_n 0, 1) := by decide +kernel
theorem dX11_demandOf_37 : decode cX11_demandOf 37 = .ok (.iload_n 1, 1) := by decide +kernel
theorem dX11_demandOf_38 : decode cX11_demandOf 38 = .ok (.iload_n 2, 1) := by decide +kernel
theorem dX11_demandOf_39 : decode cX11_demandOf 39 = .ok (.invokevirtual 112, 3) := by decide +kernel
theorem dX11_demandOf_42 : decode cX11_demandOf 42 = .ok (.ireturn, 1) := by decide +kernel
theorem dX11_taken_0 : decode cX11_taken 0 = .ok (.aload_n 0, 1) := by decide +kernel
theorem dX11_taken_1 : decode cX11_taken 1 = .ok (.iload_n 1, 1) := by decide +kernel
theorem dX11_taken_2 : decode cX11_taken 2 = .ok (.invokevirtual 99, 3) := by decide +kernel
theorem dX11_taken_5 : decode cX11_taken 5 = .ok (.ifCond .ne 5, 3) := by decide +kernel
theorem dX11_taken_8 : decode cX11_taken 8 = .ok (.iconst (-1), 1) := by decide +kernel
theorem dX11_taken_9 : decode cX11_taken 9 = .ok (.ireturn, 1) := by decide +kernel
theorem dX11_taken_10 : decode cX11_taken 10 = .ok (.iload_n 2, 1) := by decide +kernel
theorem dX11_taken_11 : decode cX11_taken 11 = .ok (.i2l, 1) := by decide +kernel
theorem dX11_taken_12 : decode cX11_taken 12 = .ok (.lconst 0, 1) := by decide +kernel
theorem dX11_taken_13 : decode cX11_taken 13 = .ok (.ldc2_w 97, 3) := by decide +kernel
theorem dX11_taken_16 : decode cX11_taken 16 = .ok (.invokestatic 65, 3) := by decide +kernel
theorem dX11_taken_19 : decode cX11_taken 19 = .ok (.ifCond .ne 6, 3) := by decide +kernel
theorem dX11_taken_22 : decode cX11_taken 22 = .ok (.bipush (-2), 2) := by decide +kernel
theorem dX11_taken_24 : decode cX11_taken 24 = .ok (.ireturn, 1) := by decide +kernel
theorem dX11_taken_25 : decode cX11_taken 25 = .ok (.aload_n 0, 1) := by decide +kernel
theorem dX11_taken_26 : decode cX11_taken 26 = .ok (.iload_n 1, 1) := by decide +kernel
theorem dX11_taken_27 : decode cX11_taken 27 = .ok (.iconst 0, 1) := by decide +kernel
theorem dX11_taken_28 : decode cX11_taken 28 = .ok (.invokevirtual 112, 3) := by decide +kernel
theorem dX11_taken_31 : decode cX11_taken 31 = .ok (.istore_n 3, 1) := by decide +kernel
theorem dX11_taken_32 : decode cX11_taken 32 = .ok (.iload_n 2, 1) := by decide +kernel
theorem dX11_taken_33 : decode cX11_taken 33 = .ok (.ifCond .eq 18, 3) := by decide +kernel
theorem dX11_taken_36 : decode cX11_taken 36 = .ok (.iload_n 3, 1) := by decide +kernel
theorem dX11_taken_37 : decode cX11_taken 37 = .ok (.iload_n 2, 1) := by decide +kernel
theorem dX11_taken_38 : decode cX11_taken 38 = .ok (.if_icmp .eq 13, 3) := by decide +kernel
theorem dX11_taken_41 : decode cX11_taken 41 = .ok (.iload_n 2, 1) := by decide +kernel
theorem dX11_taken_42 : decode cX11_taken 42 = .ok (.iconst 1, 1) := by decide +kernel
theorem dX11_taken_43 : decode cX11_taken 43 = .ok (.if_icmp .ne 12, 3) := by decide +kernel
theorem dX11_taken_46 : decode cX11_taken 46 = .ok (.iload_n 3, 1) := by decide +kernel
theorem dX11_taken_47 : decode cX11_taken 47 = .ok (.iconst 3, 1) := by decide +kernel
theorem dX11_taken_48 : decode cX11_taken 48 = .ok (.if_icmp .ne 7, 3) := by decide +kernel
theorem dX11_taken_51 : decode cX11_taken 51 = .ok (.iload_n 3, 1) := by decide +kernel
theorem dX11_taken_52 : decode cX11_taken 52 = .ok (.goto 5, 3) := by decide +kernel
theorem dX11_taken_55 : decode cX11_taken 55 = .ok (.bipush (-12), 2) := by decide +kernel
theorem dX11_taken_57 : decode cX11_taken 57 = .ok (.ireturn, 1) := by decide +kernel
theorem dX11_wants_0 : decode cX11_wants 0 = .ok (.aload_n 0, 1) := by decide +kernel
theorem dX11_wants_1 : decode cX11_wants 1 = .ok (.iload_n 1, 1) := by decide +kernel
theorem dX11_wants_2 : decode cX11_wants 2 = .ok (.iconst 4, 1) := by decide +kernel
theorem dX11_wants_3 : decode cX11_wants 3 = .ok (.invokevirtual 112, 3) := by decide +kernel
theorem dX11_wants_6 : decode cX11_wants 6 = .ok (.istore_n 3, 1) := by decide +kernel
theorem dX11_wants_7 : decode cX11_wants 7 = .ok (.aload_n 0, 1) := by decide +kernel
theorem dX11_wants_8 : decode cX11_wants 8 = .ok (.iload_n 1, 1) := by decide +kernel
theorem dX11_wants_9 : decode cX11_wants 9 = .ok (.iconst 5, 1) := by decide +kernel
theorem dX11_wants_10 : decode cX11_wants 10 = .ok (.invokevirtual 112, 3) := by decide +kernel
theorem dX11_wants_13 : decode cX11_wants 13 = .ok (.istore 4, 2) := by decide +kernel
theorem dX11_wants_15 : decode cX11_wants 15 = .ok (.iload_n 3, 1) := by decide +kernel
theorem dX11_wants_16 : decode cX11_wants 16 = .ok (.iload 4, 2) := by decide +kernel
theorem dX11_wants_18 : decode cX11_wants 18 = .ok (.if_icmp .gt 16, 3) := by decide +kernel
theorem dX11_wants_21 : decode cX11_wants 21 = .ok (.iload_n 2, 1) := by decide +kernel
theorem dX11_wants_22 : decode cX11_wants 22 = .ok (.i2l, 1) := by decide +kernel
theorem dX11_wants_23 : decode cX11_wants 23 = .ok (.iload_n 3, 1) := by decide +kernel
theorem dX11_wants_24 : decode cX11_wants 24 = .ok (.i2l, 1) := by decide +kernel
theorem dX11_wants_25 : decode cX11_wants 25 = .ok (.iload 4, 2) := by decide +kernel
theorem dX11_wants_27 : decode cX11_wants 27 = .ok (.i2l, 1) := by decide +kernel
theorem dX11_wants_28 : decode cX11_wants 28 = .ok (.invokestatic 65, 3) := by decide +kernel
theorem dX11_wants_31 : decode cX11_wants 31 = .ok (.goto 19, 3) := by decide +kernel
theorem dX11_wants_34 : decode cX11_wants 34 = .ok (.iload_n 2, 1) := by decide +kernel
theorem dX11_wants_35 : decode cX11_wants 35 = .ok (.iload_n 3, 1) := by decide +kernel
theorem dX11_wants_36 : decode cX11_wants 36 = .ok (.if_icmp .ge 9, 3) := by decide +kernel
theorem dX11_wants_39 : decode cX11_wants 39 = .ok (.iload_n 2, 1) := by decide +kernel
theorem dX11_wants_40 : decode cX11_wants 40 = .ok (.iload 4, 2) := by decide +kernel
theorem dX11_wants_42 : decode cX11_wants 42 = .ok (.if_icmp .gt 7, 3) := by decide +kernel
theorem dX11_wants_45 : decode cX11_wants 45 = .ok (.iconst 1, 1) := by decide +kernel
theorem dX11_wants_46 : decode cX11_wants 46 = .ok (.goto 4, 3) := by decide +kernel
theorem dX11_wants_49 : decode cX11_wants 49 = .ok (.iconst 0, 1) := by decide +kernel
theorem dX11_wants_50 : decode cX11_wants 50 = .ok (.istore 5, 2) := by decide +kernel
theorem dX11_wants_52 : decode cX11_wants 52 = .ok (.iload 5, 2) := by decide +kernel
theorem dX11_wants_54 : decode cX11_wants 54 = .ok (.ifCond .eq 15, 3) := by decide +kernel
theorem dX11_wants_57 : decode cX11_wants 57 = .ok (.aload_n 0, 1) := by decide +kernel
theorem dX11_wants_58 : decode cX11_wants 58 = .ok (.getfield 124, 3) := by decide +kernel
theorem dX11_wants_61 : decode cX11_wants 61 = .ok (.iload_n 1, 1) := by decide +kernel
theorem dX11_wants_62 : decode cX11_wants 62 = .ok (.ishr, 1) := by decide +kernel
theorem dX11_wants_63 : decode cX11_wants 63 = .ok (.iconst 1, 1) := by decide +kernel
theorem dX11_wants_64 : decode cX11_wants 64 = .ok (.iand, 1) := by decide +kernel
theorem dX11_wants_65 : decode cX11_wants 65 = .ok (.iconst 1, 1) := by decide +kernel
theorem dX11_wants_66 : decode cX11_wants 66 = .ok (.if_icmp .ne 5, 3) := by decide +kernel
theorem dX11_wants_69 : decode cX11_wants 69 = .ok (.iconst 0, 1) := by decide +kernel
theorem dX11_wants_70 : decode cX11_wants 70 = .ok (.ireturn, 1) := by decide +kernel
theorem dX11_wants_71 : decode cX11_wants 71 = .ok (.aload_n 0, 1) := by decide +kernel
theorem dX11_wants_72 : decode cX11_wants 72 = .ok (.iload_n 1, 1) := by decide +kernel
theorem dX11_wants_73 : decode cX11_wants 73 = .ok (.iconst 0, 1) := by decide +kernel
theorem dX11_wants_74 : decode cX11_wants 74 = .ok (.invokevirtual 112, 3) := by decide +kernel
theorem dX11_wants_77 : decode cX11_wants 77 = .ok (.iconst 2, 1) := by decide +kernel
theorem dX11_wants_78 : decode cX11_wants 78 = .ok (.if_icmp .ne 28, 3) := by decide +kernel
theorem dX11_wants_81 : decode cX11_wants 81 = .ok (.iload_n 2, 1) := by decide +kernel
theorem dX11_wants_82 : decode cX11_wants 82 = .ok (.i2l, 1) := by decide +kernel
theorem dX11_wants_83 : decode cX11_wants 83 = .ok (.ldc2_w 107, 3) := by decide +kernel
theorem dX11_wants_86 : decode cX11_wants 86 = .ok (.ldc2_w 128, 3) := by decide +kernel
theorem dX11_wants_89 : decode cX11_wants 89 = .ok (.invokestatic 65, 3) := by decide +kernel
theorem dX11_wants_92 : decode cX11_wants 92 = .ok (.ifCond .eq 14, 3) := by decide +kernel
theorem dX11_wants_95 : decode cX11_wants 95 = .ok (.iconst 2, 1) := by decide +kernel
theorem dX11_wants_96 : decode cX11_wants 96 = .ok (.aload_n 0, 1) := by decide +kernel
theorem dX11_wants_97 : decode cX11_wants 97 = .ok (.iload_n 1, 1) := by decide +kernel
theorem dX11_wants_98 : decode cX11_wants 98 = .ok (.iconst 2, 1) := by decide +kernel
theorem dX11_wants_99 : decode cX11_wants 99 = .ok (.invokevirtual 112, 3) := by decide +kernel
theorem dX11_wants_102 : decode cX11_wants 102 = .ok (.imul, 1) := by decide +kernel
theorem dX11_wants_103 : decode cX11_wants 103 = .ok (.goto 9, 3) := by decide +kernel
theorem dX11_wants_106 : decode cX11_wants 106 = .ok (.aload_n 0, 1) := by decide +kernel
theorem dX11_wants_107 : decode cX11_wants 107 = .ok (.iload_n 1, 1) := by decide +kernel
theorem dX11_wants_108 : decode cX11_wants 108 = .ok (.iconst 2, 1) := by decide +kernel
theorem dX11_wants_109 : decode cX11_wants 109 = .ok (.invokevirtual 112, 3) := by decide +kernel
theorem dX11_wants_112 : decode cX11_wants 112 = .ok (.ireturn, 1) := by decide +kernel
theorem dX11_wanted_0 : decode cX11_wanted 0 = .ok (.aload_n 0, 1) := by decide +kernel
theorem dX11_wanted_1 : decode cX11_wanted 1 = .ok (.iload_n 1, 1) := by decide +kernel
theorem dX11_wanted_2 : decode cX11_wanted 2 = .ok (.invokevirtual 99, 3) := by decide +kernel
theorem dX11_wanted_5 : decode cX11_wanted 5 = .ok (.ifCond .eq 19, 3) := by decide +kernel
theorem dX11_wanted_8 : decode cX11_wanted 8 = .ok (.iload_n 2, 1) := by decide +kernel
theorem dX11_wanted_9 : decode cX11_wanted 9 = .ok (.invokestatic 83, 3) := by decide +kernel
theorem dX11_wanted_12 : decode cX11_wanted 12 = .ok (.ifCond .eq 12, 3) := by decide +kernel
theorem dX11_wanted_15 : decode cX11_wanted 15 = .ok (.aload_n 0, 1) := by decide +kernel
theorem dX11_wanted_16 : decode cX11_wanted 16 = .ok (.iload_n 1, 1) := by decide +kernel
theorem dX11_wanted_17 : decode cX11_wanted 17 = .ok (.iload_n 2, 1) := by decide +kernel
theorem dX11_wanted_18 : decode cX11_wanted 18 = .ok (.invokevirtual 130, 3) := by decide +kernel
theorem dX11_wanted_21 : decode cX11_wanted 21 = .ok (.goto 4, 3) := by decide +kernel
theorem dX11_wanted_24 : decode cX11_wanted 24 = .ok (.iconst (-1), 1) := by decide +kernel
theorem dX11_wanted_25 : decode cX11_wanted 25 = .ok (.ireturn, 1) := by decide +kernel
theorem dX11_gain_0 : decode cX11_gain 0 = .ok (.aload_n 0, 1) := by decide +kernel
theorem dX11_gain_1 : decode cX11_gain 1 = .ok (.iload_n 1, 1) := by decide +kernel
theorem dX11_gain_2 : decode cX11_gain 2 = .ok (.iconst 3, 1) := by decide +kernel
theorem dX11_gain_3 : decode cX11_gain 3 = .ok (.invokevirtual 112, 3) := by decide +kernel
theorem dX11_gain_6 : decode cX11_gain 6 = .ok (.istore 4, 2) := by decide +kernel
theorem dX11_gain_8 : decode cX11_gain 8 = .ok (.aload_n 0, 1) := by decide +kernel
theorem dX11_gain_9 : decode cX11_gain 9 = .ok (.iload_n 1, 1) := by decide +kernel
theorem dX11_gain_10 : decode cX11_gain 10 = .ok (.iconst 0, 1) := by decide +kernel
theorem dX11_gain_11 : decode cX11_gain 11 = .ok (.invokevirtual 112, 3) := by decide +kernel
theorem dX11_gain_14 : decode cX11_gain 14 = .ok (.istore 5, 2) := by decide +kernel
theorem dX11_gain_16 : decode cX11_gain 16 = .ok (.iload 5, 2) := by decide +kernel
theorem dX11_gain_18 : decode cX11_gain 18 = .ok (.iconst 4, 1) := by decide +kernel
theorem dX11_gain_19 : decode cX11_gain 19 = .ok (.if_icmp .ne 37, 3) := by decide +kernel
theorem dX11_gain_22 : decode cX11_gain 22 = .ok (.iconst 0, 1) := by decide +kernel
theorem dX11_gain_23 : decode cX11_gain 23 = .ok (.istore 6, 2) := by decide +kernel
theorem dX11_gain_25 : decode cX11_gain 25 = .ok (.iconst 0, 1) := by decide +kernel
theorem dX11_gain_26 : decode cX11_gain 26 = .ok (.istore 7, 2) := by decide +kernel
theorem dX11_gain_28 : decode cX11_gain 28 = .ok (.iload 7, 2) := by decide +kernel
theorem dX11_gain_30 : decode cX11_gain 30 = .ok (.iload_n 2, 1) := by decide +kernel
theorem dX11_gain_31 : decode cX11_gain 31 = .ok (.if_icmp .ge 22, 3) := by decide +kernel
theorem dX11_gain_34 : decode cX11_gain 34 = .ok (.iload 6, 2) := by decide +kernel
theorem dX11_gain_36 : decode cX11_gain 36 = .ok (.iload 4, 2) := by decide +kernel
theorem dX11_gain_38 : decode cX11_gain 38 = .ok (.iadd, 1) := by decide +kernel
theorem dX11_gain_39 : decode cX11_gain 39 = .ok (.istore 6, 2) := by decide +kernel
theorem dX11_gain_41 : decode cX11_gain 41 = .ok (.iload 4, 2) := by decide +kernel
theorem dX11_gain_43 : decode cX11_gain 43 = .ok (.iconst 2, 1) := by decide +kernel
theorem dX11_gain_44 : decode cX11_gain 44 = .ok (.idiv, 1) := by decide +kernel
theorem dX11_gain_45 : decode cX11_gain 45 = .ok (.istore 4, 2) := by decide +kernel
theorem dX11_gain_47 : decode cX11_gain 47 = .ok (.iinc 7 1, 3) := by decide +kernel
theorem dX11_gain_50 : decode cX11_gain 50 = .ok (.goto (-22), 3) := by decide +kernel
theorem dX11_gain_53 : decode cX11_gain 53 = .ok (.iload 6, 2) := by decide +kernel
theorem dX11_gain_55 : decode cX11_gain 55 = .ok (.ireturn, 1) := by decide +kernel
theorem dX11_gain_56 : decode cX11_gain 56 = .ok (.iload_n 2, 1) := by decide +kernel
theorem dX11_gain_57 : decode cX11_gain 57 = .ok (.iload 4, 2) := by decide +kernel
theorem dX11_gain_59 : decode cX11_gain 59 = .ok (.imul, 1) := by decide +kernel
theorem dX11_gain_60 : decode cX11_gain 60 = .ok (.istore 6, 2) := by decide +kernel
theorem dX11_gain_62 : decode cX11_gain 62 = .ok (.iload 5, 2) := by decide +kernel
theorem dX11_gain_64 : decode cX11_gain 64 = .ok (.iconst 1, 1) := by decide +kernel
theorem dX11_gain_65 : decode cX11_gain 65 = .ok (.if_icmp .eq 9, 3) := by decide +kernel
theorem dX11_gain_68 : decode cX11_gain 68 = .ok (.iload 5, 2) := by decide +kernel
theorem dX11_gain_70 : decode cX11_gain 70 = .ok (.iconst 3, 1) := by decide +kernel
theorem dX11_gain_71 : decode cX11_gain 71 = .ok (.if_icmp .ne 14, 3) := by decide +kernel
theorem dX11_gain_74 : decode cX11_gain 74 = .ok (.iload 6, 2) := by decide +kernel
theorem dX11_gain_76 : decode cX11_gain 76 = .ok (.iload_n 3, 1) := by decide +kernel
theorem dX11_gain_77 : decode cX11_gain 77 = .ok (.iload_n 2, 1) := by decide +kernel
theorem dX11_gain_78 : decode cX11_gain 78 = .ok (.isub, 1) := by decide +kernel
theorem dX11_gain_79 : decode cX11_gain 79 = .ok (.iload 4, 2) := by decide +kernel
theorem dX11_gain_81 : decode cX11_gain 81 = .ok (.imul, 1) := by decide +kernel
theorem dX11_gain_82 : decode cX11_gain 82 = .ok (.isub, 1) := by decide +kernel
theorem dX11_gain_83 : decode cX11_gain 83 = .ok (.istore 6, 2) := by decide +kernel
theorem dX11_gain_85 : decode cX11_gain 85 = .ok (.iload 5, 2) := by decide +kernel
theorem dX11_gain_87 : decode cX11_gain 87 = .ok (.iconst 3, 1) := by decide +kernel
theorem dX11_gain_88 : decode cX11_gain 88 = .ok (.if_icmp .ne 22, 3) := by decide +kernel
theorem dX11_gain_91 : decode cX11_gain 91 = .ok (.iload_n 3, 1) := by decide +kernel
theorem dX11_gain_92 : decode cX11_gain 92 = .ok (.ifCond .le 18, 3) := by decide +kernel
theorem dX11_gain_95 : decode cX11_gain 95 = .ok (.iload_n 2, 1) := by decide +kernel
theorem dX11_gain_96 : decode cX11_gain 96 = .ok (.iload_n 3, 1) := by decide +kernel
theorem dX11_gain_97 : decode cX11_gain 97 = .ok (.if_icmp .ne 13, 3) := by decide +kernel
theorem dX11_gain_100 : decode cX11_gain 100 = .ok (.iload 6, 2) := by decide +kernel
theorem dX11_gain_102 : decode cX11_gain 102 = .ok (.iload 4, 2) := by decide +kernel
theorem dX11_gain_104 : decode cX11_gain 104 = .ok (.iconst 2, 1) := by decide +kernel
theorem dX11_gain_105 : decode cX11_gain 105 = .ok (.idiv, 1) := by decide +kernel
theorem dX11_gain_106 : decode cX11_gain 106 = .ok (.iadd, 1) := by decide +kernel
theorem dX11_gain_107 : decode cX11_gain 107 = .ok (.goto 5, 3) := by decide +kernel
theorem dX11_gain_110 : decode cX11_gain 110 = .ok (.iload 6, 2) := by decide +kernel
theorem dX11_gain_112 : decode cX11_gain 112 = .ok (.ireturn, 1) := by decide +kernel
theorem dX11_ranks_0 : decode cX11_ranks 0 = .ok (.iconst 0, 1) := by decide +kernel
theorem dX11_ranks_1 : decode cX11_ranks 1 = .ok (.istore_n 1, 1) := by decide +kernel
theorem dX11_ranks_2 : decode cX11_ranks 2 = .ok (.iload_n 1, 1) := by decide +kernel
theorem dX11_ranks_3 : decode cX11_ranks 3 = .ok (.aload_n 0, 1) := by decide +kernel
theorem dX11_ranks_4 : decode cX11_ranks 4 = .ok (.getfield 11, 3) := by decide +kernel
theorem dX11_ranks_7 : decode cX11_ranks 7 = .ok (.bipush 73, 2) := by decide +kernel
theorem dX11_ranks_9 : decode cX11_ranks 9 = .ok (.iaload, 1) := by decide +kernel
theorem dX11_ranks_10 : decode cX11_ranks 10 = .ok (.if_icmp .ge 20, 3) := by decide +kernel
theorem dX11_ranks_13 : decode cX11_ranks 13 = .ok (.aload_n 0, 1) := by decide +kernel
theorem dX11_ranks_14 : decode cX11_ranks 14 = .ok (.getfield 34, 3) := by decide +kernel
theorem dX11_ranks_17 : decode cX11_ranks 17 = .ok (.iload_n 1, 1) := by decide +kernel
theorem dX11_ranks_18 : decode cX11_ranks 18 = .ok (.aload_n 0, 1) := by decide +kernel
theorem dX11_ranks_19 : decode cX11_ranks 19 = .ok (.iload_n 1, 1) := by decide +kernel
theorem dX11_ranks_20 : decode cX11_ranks 20 = .ok (.invokevirtual 133, 3) := by decide +kernel
theorem dX11_ranks_23 : decode cX11_ranks 23 = .ok (.iastore, 1) := by decide +kernel
theorem dX11_ranks_24 : decode cX11_ranks 24 = .ok (.iinc 1 1, 3) := by decide +kernel
theorem dX11_ranks_27 : decode cX11_ranks 27 = .ok (.goto (-25), 3) := by decide +kernel
theorem dX11_ranks_30 : decode cX11_ranks 30 = .ok (.return_, 1) := by decide +kernel
theorem dX11_serves_0 : decode cX11_serves 0 = .ok (.iload_n 2, 1) := by decide +kernel
theorem dX11_serves_1 : decode cX11_serves 1 = .ok (.istore_n 3, 1) := by decide +kernel
theorem dX11_serves_2 : decode cX11_serves 2 = .ok (.iconst 0, 1) := by decide +kernel
theorem dX11_serves_3 : decode cX11_serves 3 = .ok (.istore 4, 2) := by decide +kernel
theorem dX11_serves_5 : decode cX11_serves 5 = .ok (.iconst 0, 1) := by decide +kernel
theorem dX11_serves_6 : decode cX11_serves 6 = .ok (.istore 5, 2) := by decide +kernel
theorem dX11_serves_8 : decode cX11_serves 8 = .ok (.iload 5, 2) := by decide +kernel
theorem dX11_serves_10 : decode cX11_serves 10 = .ok (.aload_n 0, 1) := by decide +kernel
theorem dX11_serves_11 : decode cX11_serves 11 = .ok (.getfield 11, 3) := by decide +kernel
theorem dX11_serves_14 : decode cX11_serves 14 = .ok (.bipush 73, 2) := by decide +kernel
theorem dX11_serves_16 : decode cX11_serves 16 = .ok (.iaload, 1) := by decide +kernel
theorem dX11_serves_17 : decode cX11_serves 17 = .ok (.if_icmp .ge 94, 3) := by decide +kernel
theorem dX11_serves_20 : decode cX11_serves 20 = .ok (.aload_n 0, 1) := by decide +kernel
theorem dX11_serves_21 : decode cX11_serves 21 = .ok (.getfield 34, 3) := by decide +kernel
theorem dX11_serves_24 : decode cX11_serves 24 = .ok (.iload 5, 2) := by decide +kernel
theorem dX11_serves_26 : decode cX11_serves 26 = .ok (.iaload, 1) := by decide +kernel
theorem dX11_serves_27 : decode cX11_serves 27 = .ok (.istore 6, 2) := by decide +kernel
theorem dX11_serves_29 : decode cX11_serves 29 = .ok (.aload_n 0, 1) := by decide +kernel
theorem dX11_serves_30 : decode cX11_serves 30 = .ok (.getfield 124, 3) := by decide +kernel
theorem dX11_serves_33 : decode cX11_serves 33 = .ok (.iload 6, 2) := by decide +kernel
theorem dX11_serves_35 : decode cX11_serves 35 = .ok (.ishr, 1) := by decide +kernel
theorem dX11_serves_36 : decode cX11_serves 36 = .ok (.iconst 1, 1) := by decide +kernel
theorem dX11_serves_37 : decode cX11_serves 37 = .ok (.iand, 1) := by decide +kernel
theorem dX11_serves_38 : decode cX11_serves 38 = .ok (.iconst 1, 1) := by decide +kernel
theorem dX11_serves_39 : decode cX11_serves 39 = .ok (.if_icmp .ne 14, 3) := by decide +kernel
theorem dX11_serves_42 : decode cX11_serves 42 = .ok (.aload_n 0, 1) := by decide +kernel
theorem dX11_serves_43 : decode cX11_serves 43 = .ok (.getfield 31, 3) := by decide +kernel
theorem dX11_serves_46 : decode cX11_serves 46 = .ok (.iload 6, 2) := by decide +kernel
theorem dX11_serves_48 : decode cX11_serves 48 = .ok (.iconst 0, 1) := by decide +kernel
theorem dX11_serves_49 : decode cX11_serves 49 = .ok (.iastore, 1) := by decide +kernel
theorem dX11_serves_50 : decode cX11_serves 50 = .ok (.goto 55, 3) := by decide +kernel
theorem dX11_serves_53 : decode cX11_serves 53 = .ok (.aload_n 0, 1) := by decide +kernel
theorem dX11_serves_54 : decode cX11_serves 54 = .ok (.iload 6, 2) := by decide +kernel
theorem dX11_serves_56 : decode cX11_serves 56 = .ok (.iload_n 1, 1) := by decide +kernel
theorem dX11_serves_57 : decode cX11_serves 57 = .ok (.invokevirtual 130, 3) := by decide +kernel
theorem dX11_serves_60 : decode cX11_serves 60 = .ok (.istore 7, 2) := by decide +kernel
theorem dX11_serves_62 : decode cX11_serves 62 = .ok (.aload_n 0, 1) := by decide +kernel
theorem dX11_serves_63 : decode cX11_serves 63 = .ok (.getfield 31, 3) := by decide +kernel
theorem dX11_serves_66 : decode cX11_serves 66 = .ok (.iload 6, 2) := by decide +kernel
theorem dX11_serves_68 : decode cX11_serves 68 = .ok (.iload 7, 2) := by decide +kernel
theorem dX11_serves_70 : decode cX11_serves 70 = .ok (.iload_n 3, 1) := by decide +kernel
theorem dX11_serves_71 : decode cX11_serves 71 = .ok (.invokestatic 136, 3) := by decide +kernel
theorem dX11_serves_74 : decode cX11_serves 74 = .ok (.iastore, 1) := by decide +kernel
theorem dX11_serves_75 : decode cX11_serves 75 = .ok (.iload_n 3, 1) := by decide +kernel
theorem dX11_serves_76 : decode cX11_serves 76 = .ok (.aload_n 0, 1) := by decide +kernel
theorem dX11_serves_77 : decode cX11_serves 77 = .ok (.getfield 31, 3) := by decide +kernel
theorem dX11_serves_80 : decode cX11_serves 80 = .ok (.iload 6, 2) := by decide +kernel
theorem dX11_serves_82 : decode cX11_serves 82 = .ok (.iaload, 1) := by decide +kernel
theorem dX11_serves_83 : decode cX11_serves 83 = .ok (.isub, 1) := by decide +kernel
theorem dX11_serves_84 : decode cX11_serves 84 = .ok (.istore_n 3, 1) := by decide +kernel
theorem dX11_serves_85 : decode cX11_serves 85 = .ok (.iload 4, 2) := by decide +kernel
theorem dX11_serves_87 : decode cX11_serves 87 = .ok (.aload_n 0, 1) := by decide +kernel
theorem dX11_serves_88 : decode cX11_serves 88 = .ok (.iload 6, 2) := by decide +kernel
theorem dX11_serves_90 : decode cX11_serves 90 = .ok (.aload_n 0, 1) := by decide +kernel
theorem dX11_serves_91 : decode cX11_serves 91 = .ok (.getfield 31, 3) := by decide +kernel
theorem dX11_serves_94 : decode cX11_serves 94 = .ok (.iload 6, 2) := by decide +kernel
theorem dX11_serves_96 : decode cX11_serves 96 = .ok (.iaload, 1) := by decide +kernel
theorem dX11_serves_97 : decode cX11_serves 97 = .ok (.iload 7, 2) := by decide +kernel
theorem dX11_serves_99 : decode cX11_serves 99 = .ok (.invokevirtual 139, 3) := by decide +kernel
theorem dX11_serves_102 : decode cX11_serves 102 = .ok (.iadd, 1) := by decide +kernel
theorem dX11_serves_103 : decode cX11_serves 103 = .ok (.istore 4, 2) := by decide +kernel
theorem dX11_serves_105 : decode cX11_serves 105 = .ok (.iinc 5 1, 3) := by decide +kernel
theorem dX11_serves_108 : decode cX11_serves 108 = .ok (.goto (-100), 3) := by decide +kernel
theorem dX11_serves_111 : decode cX11_serves 111 = .ok (.iload 4, 2) := by decide +kernel
theorem dX11_serves_113 : decode cX11_serves 113 = .ok (.ireturn, 1) := by decide +kernel
theorem dX11_served_0 : decode cX11_served 0 = .ok (.aload_n 0, 1) := by decide +kernel
theorem dX11_served_1 : decode cX11_served 1 = .ok (.iload_n 1, 1) := by decide +kernel
theorem dX11_served_2 : decode cX11_served 2 = .ok (.invokevirtual 99, 3) := by decide +kernel
theorem dX11_served_5 : decode cX11_served 5 = .ok (.ifCond .eq 25, 3) := by decide +kernel
theorem dX11_served_8 : decode cX11_served 8 = .ok (.iload_n 2, 1) := by decide +kernel
theorem dX11_served_9 : decode cX11_served 9 = .ok (.invokestatic 83, 3) := by decide +kernel
theorem dX11_served_12 : decode cX11_served 12 = .ok (.ifCond .eq 18, 3) := by decide +kernel
theorem dX11_served_15 : decode cX11_served 15 = .ok (.iload 4, 2) := by decide +kernel
theorem dX11_served_17 : decode cX11_served 17 = .ok (.i2l, 1) := by decide +kernel
theorem dX11_served_18 : decode cX11_served 18 = .ok (.lconst 0, 1) := by decide +kernel
theorem dX11_served_19 : decode cX11_served 19 = .ok (.lconst 1, 1) := by decide +kernel
theorem dX11_served_20 : decode cX11_served 20 = .ok (.invokestatic 65, 3) := by decide +kernel
theorem dX11_served_23 : decode cX11_served 23 = .ok (.ifCond .eq 7, 3) := by decide +kernel
theorem dX11_served_26 : decode cX11_served 26 = .ok (.iload_n 3, 1) := by decide +kernel
theorem dX11_served_27 : decode cX11_served 27 = .ok (.ifCond .ge 7, 3) := by decide +kernel
theorem dX11_served_30 : decode cX11_served 30 = .ok (.ldc2_w 143, 3) := by decide +kernel
theorem dX11_served_33 : decode cX11_served 33 = .ok (.lreturn, 1) := by decide +kernel
theorem dX11_served_34 : decode cX11_served 34 = .ok (.aload_n 0, 1) := by decide +kernel
theorem dX11_served_35 : decode cX11_served 35 = .ok (.invokevirtual 145, 3) := by decide +kernel
theorem dX11_served_38 : decode cX11_served 38 = .ok (.aload_n 0, 1) := by decide +kernel
theorem dX11_served_39 : decode cX11_served 39 = .ok (.iload_n 2, 1) := by decide +kernel
theorem dX11_served_40 : decode cX11_served 40 = .ok (.iload_n 3, 1) := by decide +kernel
theorem dX11_served_41 : decode cX11_served 41 = .ok (.invokevirtual 148, 3) := by decide +kernel
theorem dX11_served_44 : decode cX11_served 44 = .ok (.pop, 1) := by decide +kernel
theorem dX11_served_45 : decode cX11_served 45 = .ok (.iload 4, 2) := by decide +kernel
theorem dX11_served_47 : decode cX11_served 47 = .ok (.ifCond .ne 13, 3) := by decide +kernel
theorem dX11_served_50 : decode cX11_served 50 = .ok (.aload_n 0, 1) := by decide +kernel
theorem dX11_served_51 : decode cX11_served 51 = .ok (.getfield 31, 3) := by decide +kernel
theorem dX11_served_54 : decode cX11_served 54 = .ok (.iload_n 1, 1) := by decide +kernel
theorem dX11_served_55 : decode cX11_served 55 = .ok (.iaload, 1) := by decide +kernel
theorem dX11_served_56 : decode cX11_served 56 = .ok (.i2l, 1) := by decide +kernel
theorem dX11_served_57 : decode cX11_served 57 = .ok (.goto 21, 3) := by decide +kernel
theorem dX11_served_60 : decode cX11_served 60 = .ok (.aload_n 0, 1) := by decide +kernel
theorem dX11_served_61 : decode cX11_served 61 = .ok (.iload_n 1, 1) := by decide +kernel
theorem dX11_served_62 : decode cX11_served 62 = .ok (.aload_n 0, 1) := by decide +kernel
theorem dX11_served_63 : decode cX11_served 63 = .ok (.getfield 31, 3) := by decide +kernel
theorem dX11_served_66 : decode cX11_served 66 = .ok (.iload_n 1, 1) := by decide +kernel
theorem dX11_served_67 : decode cX11_served 67 = .ok (.iaload, 1) := by decide +kernel
theorem dX11_served_68 : decode cX11_served 68 = .ok (.aload_n 0, 1) := by decide +kernel
theorem dX11_served_69 : decode cX11_served 69 = .ok (.iload_n 1, 1) := by decide +kernel
theorem dX11_served_70 : decode cX11_served 70 = .ok (.iload_n 2, 1) := by decide +kernel
theorem dX11_served_71 : decode cX11_served 71 = .ok (.invokevirtual 130, 3) := by decide +kernel
theorem dX11_served_74 : decode cX11_served 74 = .ok (.invokevirtual 139, 3) := by decide +kernel
theorem dX11_served_77 : decode cX11_served 77 = .ok (.i2l, 1) := by decide +kernel
theorem dX11_served_78 : decode cX11_served 78 = .ok (.lreturn, 1) := by decide +kernel
theorem dX11_goes_0 : decode cX11_goes 0 = .ok (.aload_n 0, 1) := by decide +kernel
theorem dX11_goes_1 : decode cX11_goes 1 = .ok (.iload_n 2, 1) := by decide +kernel
theorem dX11_goes_2 : decode cX11_goes 2 = .ok (.aload_n 0, 1) := by decide +kernel
theorem dX11_goes_3 : decode cX11_goes 3 = .ok (.getfield 11, 3) := by decide +kernel
theorem dX11_goes_6 : decode cX11_goes 6 = .ok (.bipush 49, 2) := by decide +kernel
theorem dX11_goes_8 : decode cX11_goes 8 = .ok (.iload_n 1, 1) := by decide +kernel
theorem dX11_goes_9 : decode cX11_goes 9 = .ok (.iadd, 1) := by decide +kernel
theorem dX11_goes_10 : decode cX11_goes 10 = .ok (.iaload, 1) := by decide +kernel
theorem dX11_goes_11 : decode cX11_goes 11 = .ok (.imul, 1) := by decide +kernel
theorem dX11_goes_12 : decode cX11_goes 12 = .ok (.bipush 10, 2) := by decide +kernel
theorem dX11_goes_14 : decode cX11_goes 14 = .ok (.idiv, 1) := by decide +kernel
theorem dX11_goes_15 : decode cX11_goes 15 = .ok (.putfield 151, 3) := by decide +kernel
theorem dX11_goes_18 : decode cX11_goes 18 = .ok (.aload_n 0, 1) := by decide +kernel
theorem dX11_goes_19 : decode cX11_goes 19 = .ok (.iload_n 2, 1) := by decide +kernel
theorem dX11_goes_20 : decode cX11_goes 20 = .ok (.aload_n 0, 1) := by decide +kernel
theorem dX11_goes_21 : decode cX11_goes 21 = .ok (.getfield 151, 3) := by decide +kernel
theorem dX11_goes_24 : decode cX11_goes 24 = .ok (.isub, 1) := by decide +kernel
theorem dX11_goes_25 : decode cX11_goes 25 = .ok (.iload_n 3, 1) := by decide +kernel
theorem dX11_goes_26 : decode cX11_goes 26 = .ok (.iadd, 1) := by decide +kernel
theorem dX11_goes_27 : decode cX11_goes 27 = .ok (.putfield 154, 3) := by decide +kernel
theorem dX11_goes_30 : decode cX11_goes 30 = .ok (.aload_n 0, 1) := by decide +kernel
theorem dX11_goes_31 : decode cX11_goes 31 = .ok (.iload 4, 2) := by decide +kernel
theorem dX11_goes_33 : decode cX11_goes 33 = .ok (.aload_n 0, 1) := by decide +kernel
theorem dX11_goes_34 : decode cX11_goes 34 = .ok (.getfield 154, 3) := by decide +kernel
theorem dX11_goes_37 : decode cX11_goes 37 = .ok (.invokestatic 136, 3) := by decide +kernel
theorem dX11_goes_40 : decode cX11_goes 40 = .ok (.putfield 157, 3) := by decide +kernel
theorem dX11_goes_43 : decode cX11_goes 43 = .ok (.aload_n 0, 1) := by decide +kernel
theorem dX11_goes_44 : decode cX11_goes 44 = .ok (.getfield 154, 3) := by decide +kernel
theorem dX11_goes_47 : decode cX11_goes 47 = .ok (.aload_n 0, 1) := by decide +kernel
theorem dX11_goes_48 : decode cX11_goes 48 = .ok (.getfield 157, 3) := by decide +kernel
theorem dX11_goes_51 : decode cX11_goes 51 = .ok (.isub, 1) := by decide +kernel
theorem dX11_goes_52 : decode cX11_goes 52 = .ok (.istore 5, 2) := by decide +kernel
theorem dX11_goes_54 : decode cX11_goes 54 = .ok (.aload_n 0, 1) := by decide +kernel
theorem dX11_goes_55 : decode cX11_goes 55 = .ok (.iconst 0, 1) := by decide +kernel
theorem dX11_goes_56 : decode cX11_goes 56 = .ok (.iload 5, 2) := by decide +kernel
theorem dX11_goes_58 : decode cX11_goes 58 = .ok (.aload_n 0, 1) := by decide +kernel
theorem dX11_goes_59 : decode cX11_goes 59 = .ok (.iload_n 1, 1) := by decide +kernel
theorem dX11_goes_60 : decode cX11_goes 60 = .ok (.invokevirtual 109, 3) := by decide +kernel
theorem dX11_goes_63 : decode cX11_goes 63 = .ok (.isub, 1) := by decide +kernel
theorem dX11_goes_64 : decode cX11_goes 64 = .ok (.invokestatic 102, 3) := by decide +kernel
theorem dX11_goes_67 : decode cX11_goes 67 = .ok (.putfield 160, 3) := by decide +kernel
theorem dX11_goes_70 : decode cX11_goes 70 = .ok (.aload_n 0, 1) := by decide +kernel
theorem dX11_goes_71 : decode cX11_goes 71 = .ok (.iload 5, 2) := by decide +kernel
theorem dX11_goes_73 : decode cX11_goes 73 = .ok (.aload_n 0, 1) := by decide +kernel
theorem dX11_goes_74 : decode cX11_goes 74 = .ok (.getfield 160, 3) := by decide +kernel
theorem dX11_goes_77 : decode cX11_goes 77 = .ok (.isub, 1) := by decide +kernel
theorem dX11_goes_78 : decode cX11_goes 78 = .ok (.putfield 163, 3) := by decide +kernel
theorem dX11_goes_81 : decode cX11_goes 81 = .ok (.aload_n 0, 1) := by decide +kernel
theorem dX11_goes_82 : decode cX11_goes 82 = .ok (.aload_n 0, 1) := by decide +kernel
theorem dX11_goes_83 : decode cX11_goes 83 = .ok (.iload_n 1, 1) := by decide +kernel
theorem dX11_goes_84 : decode cX11_goes 84 = .ok (.aload_n 0, 1) := by decide +kernel
theorem dX11_goes_85 : decode cX11_goes 85 = .ok (.getfield 157, 3) := by decide +kernel
theorem dX11_goes_88 : decode cX11_goes 88 = .ok (.invokevirtual 148, 3) := by decide +kernel
theorem dX11_goes_91 : decode cX11_goes 91 = .ok (.aload_n 0, 1) := by decide +kernel
theorem dX11_goes_92 : decode cX11_goes 92 = .ok (.getfield 11, 3) := by decide +kernel
theorem dX11_goes_95 : decode cX11_goes 95 = .ok (.iconst 2, 1) := by decide +kernel
theorem dX11_goes_96 : decode cX11_goes 96 = .ok (.iaload, 1) := by decide +kernel
theorem dX11_goes_97 : decode cX11_goes 97 = .ok (.aload_n 0, 1) := by decide +kernel
theorem dX11_goes_98 : decode cX11_goes 98 = .ok (.getfield 160, 3) := by decide +kernel
theorem dX11_goes_101 : decode cX11_goes 101 = .ok (.imul, 1) := by decide +kernel
theorem dX11_goes_102 : decode cX11_goes 102 = .ok (.isub, 1) := by decide +kernel
theorem dX11_goes_103 : decode cX11_goes 103 = .ok (.putfield 166, 3) := by decide +kernel
theorem dX11_goes_106 : decode cX11_goes 106 = .ok (.return_, 1) := by decide +kernel
theorem dX11_step_0 : decode cX11_step 0 = .ok (.iload_n 1, 1) := by decide +kernel
theorem dX11_step_1 : decode cX11_step 1 = .ok (.invokestatic 83, 3) := by decide +kernel
theorem dX11_step_4 : decode cX11_step 4 = .ok (.ifCond .eq 41, 3) := by decide +kernel
theorem dX11_step_7 : decode cX11_step 7 = .ok (.iload 5, 2) := by decide +kernel
theorem dX11_step_9 : decode cX11_step 9 = .ok (.i2l, 1) := by decide +kernel
theorem dX11_step_10 : decode cX11_step 10 = .ok (.lconst 0, 1) := by decide +kernel
theorem dX11_step_11 : decode cX11_step 11 = .ok (.ldc2_w 107, 3) := by decide +kernel
theorem dX11_step_14 : decode cX11_step 14 = .ok (.invokestatic 65, 3) := by decide +kernel
theorem dX11_step_17 : decode cX11_step 17 = .ok (.ifCond .eq 28, 3) := by decide +kernel
theorem dX11_step_20 : decode cX11_step 20 = .ok (.aload_n 0, 1) := by decide +kernel
theorem dX11_step_21 : decode cX11_step 21 = .ok (.iload_n 2, 1) := by decide +kernel
theorem dX11_step_22 : decode cX11_step 22 = .ok (.invokevirtual 169, 3) := by decide +kernel
theorem dX11_step_25 : decode cX11_step 25 = .ok (.ifCond .eq 20, 3) := by decide +kernel
theorem dX11_step_28 : decode cX11_step 28 = .ok (.iload_n 3, 1) := by decide +kernel
theorem dX11_step_29 : decode cX11_step 29 = .ok (.i2l, 1) := by decide +kernel
theorem dX11_step_30 : decode cX11_step 30 = .ok (.lconst 0, 1) := by decide +kernel
theorem dX11_step_31 : decode cX11_step 31 = .ok (.ldc2_w 77, 3) := by decide +kernel
theorem dX11_step_34 : decode cX11_step 34 = .ok (.invokestatic 65, 3) := by decide +kernel
theorem dX11_step_37 : decode cX11_step 37 = .ok (.ifCond .eq 8, 3) := by decide +kernel
theorem dX11_step_40 : decode cX11_step 40 = .ok (.iload 4, 2) := by decide +kernel
theorem dX11_step_42 : decode cX11_step 42 = .ok (.ifCond .ge 7, 3) := by decide +kernel
theorem dX11_step_45 : decode cX11_step 45 = .ok (.ldc2_w 143, 3) := by decide +kernel
theorem dX11_step_48 : decode cX11_step 48 = .ok (.lreturn, 1) := by decide +kernel
theorem dX11_step_49 : decode cX11_step 49 = .ok (.aload_n 0, 1) := by decide +kernel
theorem dX11_step_50 : decode cX11_step 50 = .ok (.invokevirtual 145, 3) := by decide +kernel
theorem dX11_step_53 : decode cX11_step 53 = .ok (.aload_n 0, 1) := by decide +kernel
theorem dX11_step_54 : decode cX11_step 54 = .ok (.iload_n 1, 1) := by decide +kernel
theorem dX11_step_55 : decode cX11_step 55 = .ok (.iload_n 2, 1) := by decide +kernel
theorem dX11_step_56 : decode cX11_step 56 = .ok (.iload_n 3, 1) := by decide +kernel
theorem dX11_step_57 : decode cX11_step 57 = .ok (.iload 4, 2) := by decide +kernel
theorem dX11_step_59 : decode cX11_step 59 = .ok (.invokevirtual 172, 3) := by decide +kernel
theorem dX11_step_62 : decode cX11_step 62 = .ok (.iload 5, 2) := by decide +kernel
theorem dX11_step_64 : decode cX11_step 64 = .ok (.tableswitch 66 0 4 #[36, 42, 48, 54, 60], 36) := by decide +kernel
theorem dX11_step_100 : decode cX11_step 100 = .ok (.aload_n 0, 1) := by decide +kernel
theorem dX11_step_101 : decode cX11_step 101 = .ok (.getfield 151, 3) := by decide +kernel
theorem dX11_step_104 : decode cX11_step 104 = .ok (.i2l, 1) := by decide +kernel
theorem dX11_step_105 : decode cX11_step 105 = .ok (.lreturn, 1) := by decide +kernel
theorem dX11_step_106 : decode cX11_step 106 = .ok (.aload_n 0, 1) := by decide +kernel
theorem dX11_step_107 : decode cX11_step 107 = .ok (.getfield 154, 3) := by decide +kernel
theorem dX11_step_110 : decode cX11_step 110 = .ok (.i2l, 1) := by decide +kernel
theorem dX11_step_111 : decode cX11_step 111 = .ok (.lreturn, 1) := by decide +kernel
theorem dX11_step_112 : decode cX11_step 112 = .ok (.aload_n 0, 1) := by decide +kernel
theorem dX11_step_113 : decode cX11_step 113 = .ok (.getfield 157, 3) := by decide +kernel
theorem dX11_step_116 : decode cX11_step 116 = .ok (.i2l, 1) := by decide +kernel
theorem dX11_step_117 : decode cX11_step 117 = .ok (.lreturn, 1) := by decide +kernel
theorem dX11_step_118 : decode cX11_step 118 = .ok (.aload_n 0, 1) := by decide +kernel
theorem dX11_step_119 : decode cX11_step 119 = .ok (.getfield 160, 3) := by decide +kernel
theorem dX11_step_122 : decode cX11_step 122 = .ok (.i2l, 1) := by decide +kernel
theorem dX11_step_123 : decode cX11_step 123 = .ok (.lreturn, 1) := by decide +kernel
theorem dX11_step_124 : decode cX11_step 124 = .ok (.aload_n 0, 1) := by decide +kernel
theorem dX11_step_125 : decode cX11_step 125 = .ok (.getfield 163, 3) := by decide +kernel
theorem dX11_step_128 : decode cX11_step 128 = .ok (.i2l, 1) := by decide +kernel
theorem dX11_step_129 : decode cX11_step 129 = .ok (.lreturn, 1) := by decide +kernel
theorem dX11_step_130 : decode cX11_step 130 = .ok (.aload_n 0, 1) := by decide +kernel
theorem dX11_step_131 : decode cX11_step 131 = .ok (.getfield 166, 3) := by decide +kernel
theorem dX11_step_134 : decode cX11_step 134 = .ok (.i2l, 1) := by decide +kernel
theorem dX11_step_135 : decode cX11_step 135 = .ok (.lreturn, 1) := by decide +kernel
theorem dX11_place_0 : decode cX11_place 0 = .ok (.iload_n 0, 1) := by decide +kernel
theorem dX11_place_1 : decode cX11_place 1 = .ok (.bipush 14, 2) := by decide +kernel
theorem dX11_place_3 : decode cX11_place 3 = .ok (.imul, 1) := by decide +kernel
theorem dX11_place_4 : decode cX11_place 4 = .ok (.iload_n 1, 1) := by decide +kernel
theorem dX11_place_5 : decode cX11_place 5 = .ok (.iadd, 1) := by decide +kernel
theorem dX11_place_6 : decode cX11_place 6 = .ok (.iconst 3, 1) := by decide +kernel
theorem dX11_place_7 : decode cX11_place 7 = .ok (.imul, 1) := by decide +kernel
theorem dX11_place_8 : decode cX11_place 8 = .ok (.iload_n 2, 1) := by decide +kernel
theorem dX11_place_9 : decode cX11_place 9 = .ok (.iadd, 1) := by decide +kernel
theorem dX11_place_10 : decode cX11_place 10 = .ok (.ireturn, 1) := by decide +kernel
theorem dX11_mean_0 : decode cX11_mean 0 = .ok (.fconst 0, 1) := by decide +kernel
theorem dX11_mean_1 : decode cX11_mean 1 = .ok (.fstore 4, 2) := by decide +kernel
theorem dX11_mean_3 : decode cX11_mean 3 = .ok (.iconst 0, 1) := by decide +kernel
theorem dX11_mean_4 : decode cX11_mean 4 = .ok (.istore 5, 2) := by decide +kernel
theorem dX11_mean_6 : decode cX11_mean 6 = .ok (.iload 5, 2) := by decide +kernel
theorem dX11_mean_8 : decode cX11_mean 8 = .ok (.iconst 3, 1) := by decide +kernel
theorem dX11_mean_9 : decode cX11_mean 9 = .ok (.if_icmp .ge 35, 3) := by decide +kernel
theorem dX11_mean_12 : decode cX11_mean 12 = .ok (.fload 4, 2) := by decide +kernel
theorem dX11_mean_14 : decode cX11_mean 14 = .ok (.aload_n 0, 1) := by decide +kernel
theorem dX11_mean_15 : decode cX11_mean 15 = .ok (.iload_n 3, 1) := by decide +kernel
theorem dX11_mean_16 : decode cX11_mean 16 = .ok (.iload 5, 2) := by decide +kernel
theorem dX11_mean_18 : decode cX11_mean 18 = .ok (.invokevirtual 90, 3) := by decide +kernel
theorem dX11_mean_21 : decode cX11_mean 21 = .ok (.i2f, 1) := by decide +kernel
theorem dX11_mean_22 : decode cX11_mean 22 = .ok (.aload_n 0, 1) := by decide +kernel
theorem dX11_mean_23 : decode cX11_mean 23 = .ok (.getfield 24, 3) := by decide +kernel
theorem dX11_mean_26 : decode cX11_mean 26 = .ok (.iload_n 1, 1) := by decide +kernel
theorem dX11_mean_27 : decode cX11_mean 27 = .ok (.iload_n 2, 1) := by decide +kernel
theorem dX11_mean_28 : decode cX11_mean 28 = .ok (.iload 5, 2) := by decide +kernel
theorem dX11_mean_30 : decode cX11_mean 30 = .ok (.invokestatic 176, 3) := by decide +kernel
theorem dX11_mean_33 : decode cX11_mean 33 = .ok (.faload, 1) := by decide +kernel
theorem dX11_mean_34 : decode cX11_mean 34 = .ok (.fmul, 1) := by decide +kernel
theorem dX11_mean_35 : decode cX11_mean 35 = .ok (.fadd, 1) := by decide +kernel
theorem dX11_mean_36 : decode cX11_mean 36 = .ok (.fstore 4, 2) := by decide +kernel
theorem dX11_mean_38 : decode cX11_mean 38 = .ok (.iinc 5 1, 3) := by decide +kernel
theorem dX11_mean_41 : decode cX11_mean 41 = .ok (.goto (-35), 3) := by decide +kernel
theorem dX11_mean_44 : decode cX11_mean 44 = .ok (.fload 4, 2) := by decide +kernel
theorem dX11_mean_46 : decode cX11_mean 46 = .ok (.aload_n 0, 1) := by decide +kernel
theorem dX11_mean_47 : decode cX11_mean 47 = .ok (.iload_n 3, 1) := by decide +kernel
theorem dX11_mean_48 : decode cX11_mean 48 = .ok (.invokevirtual 93, 3) := by decide +kernel
theorem dX11_mean_51 : decode cX11_mean 51 = .ok (.i2f, 1) := by decide +kernel
theorem dX11_mean_52 : decode cX11_mean 52 = .ok (.fdiv, 1) := by decide +kernel
theorem dX11_mean_53 : decode cX11_mean 53 = .ok (.freturn, 1) := by decide +kernel
theorem dX11_comesTo_0 : decode cX11_comesTo 0 = .ok (.aload_n 0, 1) := by decide +kernel
theorem dX11_comesTo_1 : decode cX11_comesTo 1 = .ok (.iload_n 1, 1) := by decide +kernel
theorem dX11_comesTo_2 : decode cX11_comesTo 2 = .ok (.iload_n 2, 1) := by decide +kernel
theorem dX11_comesTo_3 : decode cX11_comesTo 3 = .ok (.aload_n 0, 1) := by decide +kernel
theorem dX11_comesTo_4 : decode cX11_comesTo 4 = .ok (.getfield 11, 3) := by decide +kernel
theorem dX11_comesTo_7 : decode cX11_comesTo 7 = .ok (.iconst 4, 1) := by decide +kernel
theorem dX11_comesTo_8 : decode cX11_comesTo 8 = .ok (.iconst 3, 1) := by decide +kernel
theorem dX11_comesTo_9 : decode cX11_comesTo 9 = .ok (.iload_n 1, 1) := by decide +kernel
theorem dX11_comesTo_10 : decode cX11_comesTo 10 = .ok (.imul, 1) := by decide +kernel
theorem dX11_comesTo_11 : decode cX11_comesTo 11 = .ok (.iadd, 1) := by decide +kernel
theorem dX11_comesTo_12 : decode cX11_comesTo 12 = .ok (.iload_n 3, 1) := by decide +kernel
theorem dX11_comesTo_13 : decode cX11_comesTo 13 = .ok (.iadd, 1) := by decide +kernel
theorem dX11_comesTo_14 : decode cX11_comesTo 14 = .ok (.iaload, 1) := by decide +kernel
theorem dX11_comesTo_15 : decode cX11_comesTo 15 = .ok (.iload 4, 2) := by decide +kernel
theorem dX11_comesTo_17 : decode cX11_comesTo 17 = .ok (.invokevirtual 172, 3) := by decide +kernel
theorem dX11_comesTo_20 : decode cX11_comesTo 20 = .ok (.aload_n 0, 1) := by decide +kernel
theorem dX11_comesTo_21 : decode cX11_comesTo 21 = .ok (.getfield 166, 3) := by decide +kernel
theorem dX11_comesTo_24 : decode cX11_comesTo 24 = .ok (.i2f, 1) := by decide +kernel
theorem dX11_comesTo_25 : decode cX11_comesTo 25 = .ok (.aload_n 0, 1) := by decide +kernel
theorem dX11_comesTo_26 : decode cX11_comesTo 26 = .ok (.iload_n 1, 1) := by decide +kernel
theorem dX11_comesTo_27 : decode cX11_comesTo 27 = .ok (.iconst 1, 1) := by decide +kernel
theorem dX11_comesTo_28 : decode cX11_comesTo 28 = .ok (.iadd, 1) := by decide +kernel
theorem dX11_comesTo_29 : decode cX11_comesTo 29 = .ok (.aload_n 0, 1) := by decide +kernel
theorem dX11_comesTo_30 : decode cX11_comesTo 30 = .ok (.getfield 163, 3) := by decide +kernel
theorem dX11_comesTo_33 : decode cX11_comesTo 33 = .ok (.iload_n 3, 1) := by decide +kernel
theorem dX11_comesTo_34 : decode cX11_comesTo 34 = .ok (.invokevirtual 179, 3) := by decide +kernel
theorem dX11_comesTo_37 : decode cX11_comesTo 37 = .ok (.fadd, 1) := by decide +kernel
theorem dX11_comesTo_38 : decode cX11_comesTo 38 = .ok (.freturn, 1) := by decide +kernel
theorem dX11_finds_0 : decode cX11_finds 0 = .ok (.aload_n 0, 1) := by decide +kernel
theorem dX11_finds_1 : decode cX11_finds 1 = .ok (.invokevirtual 145, 3) := by decide +kernel
theorem dX11_finds_4 : decode cX11_finds 4 = .ok (.iconst 0, 1) := by decide +kernel
theorem dX11_finds_5 : decode cX11_finds 5 = .ok (.istore_n 2, 1) := by decide +kernel
theorem dX11_finds_6 : decode cX11_finds 6 = .ok (.iload_n 2, 1) := by decide +kernel
theorem dX11_finds_7 : decode cX11_finds 7 = .ok (.aload_n 0, 1) := by decide +kernel
theorem dX11_finds_8 : decode cX11_finds 8 = .ok (.getfield 11, 3) := by decide +kernel
theorem dX11_finds_11 : decode cX11_finds 11 = .ok (.iconst 0, 1) := by decide +kernel
theorem dX11_finds_12 : decode cX11_finds 12 = .ok (.iaload, 1) := by decide +kernel
theorem dX11_finds_13 : decode cX11_finds 13 = .ok (.if_icmp .gt 47, 3) := by decide +kernel
theorem dX11_finds_16 : decode cX11_finds 16 = .ok (.iconst 0, 1) := by decide +kernel
theorem dX11_finds_17 : decode cX11_finds 17 = .ok (.istore_n 3, 1) := by decide +kernel
theorem dX11_finds_18 : decode cX11_finds 18 = .ok (.iload_n 3, 1) := by decide +kernel
theorem dX11_finds_19 : decode cX11_finds 19 = .ok (.iconst 3, 1) := by decide +kernel
theorem dX11_finds_20 : decode cX11_finds 20 = .ok (.if_icmp .ge 34, 3) := by decide +kernel
theorem dX11_finds_23 : decode cX11_finds 23 = .ok (.aload_n 0, 1) := by decide +kernel
theorem dX11_finds_24 : decode cX11_finds 24 = .ok (.getfield 24, 3) := by decide +kernel
theorem dX11_finds_27 : decode cX11_finds 27 = .ok (.aload_n 0, 1) := by decide +kernel
theorem dX11_finds_28 : decode cX11_finds 28 = .ok (.getfield 11, 3) := by decide +kernel
theorem dX11_finds_31 : decode cX11_finds 31 = .ok (.iconst 1, 1) := by decide +kernel
theorem dX11_finds_32 : decode cX11_finds 32 = .ok (.iaload, 1) := by decide +kernel
theorem dX11_finds_33 : decode cX11_finds 33 = .ok (.iload_n 2, 1) := by decide +kernel
theorem dX11_finds_34 : decode cX11_finds 34 = .ok (.iload_n 3, 1) := by decide +kernel
theorem dX11_finds_35 : decode cX11_finds 35 = .ok (.invokestatic 176, 3) := by decide +kernel
theorem dX11_finds_38 : decode cX11_finds 38 = .ok (.aload_n 0, 1) := by decide +kernel
theorem dX11_finds_39 : decode cX11_finds 39 = .ok (.getfield 11, 3) := by decide +kernel
theorem dX11_finds_42 : decode cX11_finds 42 = .ok (.iconst 3, 1) := by decide +kernel
theorem dX11_finds_43 : decode cX11_finds 43 = .ok (.iaload, 1) := by decide +kernel
theorem dX11_finds_44 : decode cX11_finds 44 = .ok (.iload_n 2, 1) := by decide +kernel
theorem dX11_finds_45 : decode cX11_finds 45 = .ok (.imul, 1) := by decide +kernel
theorem dX11_finds_46 : decode cX11_finds 46 = .ok (.i2f, 1) := by decide +kernel
theorem dX11_finds_47 : decode cX11_finds 47 = .ok (.fastore, 1) := by decide +kernel
theorem dX11_finds_48 : decode cX11_finds 48 = .ok (.iinc 3 1, 3) := by decide +kernel
theorem dX11_finds_51 : decode cX11_finds 51 = .ok (.goto (-33), 3) := by decide +kernel
theorem dX11_finds_54 : decode cX11_finds 54 = .ok (.iinc 2 1, 3) := by decide +kernel
theorem dX11_finds_57 : decode cX11_finds 57 = .ok (.goto (-51), 3) := by decide +kernel
theorem dX11_finds_60 : decode cX11_finds 60 = .ok (.aload_n 0, 1) := by decide +kernel
theorem dX11_finds_61 : decode cX11_finds 61 = .ok (.getfield 11, 3) := by decide +kernel
theorem dX11_finds_64 : decode cX11_finds 64 = .ok (.iconst 1, 1) := by decide +kernel
theorem dX11_finds_65 : decode cX11_finds 65 = .ok (.iaload, 1) := by decide +kernel
theorem dX11_finds_66 : decode cX11_finds 66 = .ok (.iconst 1, 1) := by decide +kernel
theorem dX11_finds_67 : decode cX11_finds 67 = .ok (.isub, 1) := by decide +kernel
theorem dX11_finds_68 : decode cX11_finds 68 = .ok (.istore_n 2, 1) := by decide +kernel
theorem dX11_finds_69 : decode cX11_finds 69 = .ok (.iload_n 2, 1) := by decide +kernel
theorem dX11_finds_70 : decode cX11_finds 70 = .ok (.iload_n 1, 1) := by decide +kernel
theorem dX11_finds_71 : decode cX11_finds 71 = .ok (.if_icmp .lt 50, 3) := by decide +kernel
theorem dX11_finds_74 : decode cX11_finds 74 = .ok (.iconst 0, 1) := by decide +kernel
theorem dX11_finds_75 : decode cX11_finds 75 = .ok (.istore_n 3, 1) := by decide +kernel
theorem dX11_finds_76 : decode cX11_finds 76 = .ok (.iload_n 3, 1) := by decide +kernel
theorem dX11_finds_77 : decode cX11_finds 77 = .ok (.aload_n 0, 1) := by decide +kernel
theorem dX11_finds_78 : decode cX11_finds 78 = .ok (.getfield 11, 3) := by decide +kernel
theorem dX11_finds_81 : decode cX11_finds 81 = .ok (.iconst 0, 1) := by decide +kernel
theorem dX11_finds_82 : decode cX11_finds 82 = .ok (.iaload, 1) := by decide +kernel
theorem dX11_finds_83 : decode cX11_finds 83 = .ok (.if_icmp .gt 32, 3) := by decide +kernel
theorem dX11_finds_86 : decode cX11_finds 86 = .ok (.iconst 0, 1) := by decide +kernel
theorem dX11_finds_87 : decode cX11_finds 87 = .ok (.istore 4, 2) := by decide +kernel
theorem dX11_finds_89 : decode cX11_finds 89 = .ok (.iload 4, 2) := by decide +kernel
theorem dX11_finds_91 : decode cX11_finds 91 = .ok (.iconst 3, 1) := by decide +kernel
theorem dX11_finds_92 : decode cX11_finds 92 = .ok (.if_icmp .ge 17, 3) := by decide +kernel
theorem dX11_finds_95 : decode cX11_finds 95 = .ok (.aload_n 0, 1) := by decide +kernel
theorem dX11_finds_96 : decode cX11_finds 96 = .ok (.iload_n 2, 1) := by decide +kernel
theorem dX11_finds_97 : decode cX11_finds 97 = .ok (.iload_n 3, 1) := by decide +kernel
theorem dX11_finds_98 : decode cX11_finds 98 = .ok (.iload 4, 2) := by decide +kernel
theorem dX11_finds_100 : decode cX11_finds 100 = .ok (.invokevirtual 183, 3) := by decide +kernel
theorem dX11_finds_103 : decode cX11_finds 103 = .ok (.iinc 4 1, 3) := by decide +kernel
theorem dX11_finds_106 : decode cX11_finds 106 = .ok (.goto (-17), 3) := by decide +kernel
theorem dX11_finds_109 : decode cX11_finds 109 = .ok (.iinc 3 1, 3) := by decide +kernel
theorem dX11_finds_112 : decode cX11_finds 112 = .ok (.goto (-36), 3) := by decide +kernel
theorem dX11_finds_115 : decode cX11_finds 115 = .ok (.iinc 2 (-1), 3) := by decide +kernel
theorem dX11_finds_118 : decode cX11_finds 118 = .ok (.goto (-49), 3) := by decide +kernel
theorem dX11_finds_121 : decode cX11_finds 121 = .ok (.return_, 1) := by decide +kernel
theorem dX11_findsOne_0 : decode cX11_findsOne 0 = .ok (.iload_n 1, 1) := by decide +kernel
theorem dX11_findsOne_1 : decode cX11_findsOne 1 = .ok (.iload_n 2, 1) := by decide +kernel
theorem dX11_findsOne_2 : decode cX11_findsOne 2 = .ok (.iload_n 3, 1) := by decide +kernel
theorem dX11_findsOne_3 : decode cX11_findsOne 3 = .ok (.invokestatic 176, 3) := by decide +kernel
theorem dX11_findsOne_6 : decode cX11_findsOne 6 = .ok (.istore 4, 2) := by decide +kernel
theorem dX11_findsOne_8 : decode cX11_findsOne 8 = .ok (.iconst 0, 1) := by decide +kernel
theorem dX11_findsOne_9 : decode cX11_findsOne 9 = .ok (.istore 5, 2) := by decide +kernel
theorem dX11_findsOne_11 : decode cX11_findsOne 11 = .ok (.iload 5, 2) := by decide +kernel
theorem dX11_findsOne_13 : decode cX11_findsOne 13 = .ok (.bipush 21, 2) := by decide +kernel
theorem dX11_findsOne_15 : decode cX11_findsOne 15 = .ok (.if_icmp .ge 56, 3) := by decide +kernel
theorem dX11_findsOne_18 : decode cX11_findsOne 18 = .ok (.aload_n 0, 1) := by decide +kernel
theorem dX11_findsOne_19 : decode cX11_findsOne 19 = .ok (.iload_n 1, 1) := by decide +kernel
theorem dX11_findsOne_20 : decode cX11_findsOne 20 = .ok (.iload_n 2, 1) := by decide +kernel
theorem dX11_findsOne_21 : decode cX11_findsOne 21 = .ok (.iload_n 3, 1) := by decide +kernel
theorem dX11_findsOne_22 : decode cX11_findsOne 22 = .ok (.iload 5, 2) := by decide +kernel
theorem dX11_findsOne_24 : decode cX11_findsOne 24 = .ok (.invokevirtual 187, 3) := by decide +kernel
theorem dX11_findsOne_27 : decode cX11_findsOne 27 = .ok (.fstore 6, 2) := by decide +kernel
theorem dX11_findsOne_29 : decode cX11_findsOne 29 = .ok (.iload 5, 2) := by decide +kernel
theorem dX11_findsOne_31 : decode cX11_findsOne 31 = .ok (.ifCond .eq 16, 3) := by decide +kernel
theorem dX11_findsOne_34 : decode cX11_findsOne 34 = .ok (.fload 6, 2) := by decide +kernel
theorem dX11_findsOne_36 : decode cX11_findsOne 36 = .ok (.aload_n 0, 1) := by decide +kernel
theorem dX11_findsOne_37 : decode cX11_findsOne 37 = .ok (.getfield 24, 3) := by decide +kernel
theorem dX11_findsOne_40 : decode cX11_findsOne 40 = .ok (.iload 4, 2) := by decide +kernel
theorem dX11_findsOne_42 : decode cX11_findsOne 42 = .ok (.faload, 1) := by decide +kernel
theorem dX11_findsOne_43 : decode cX11_findsOne 43 = .ok (.fcmp .l, 1) := by decide +kernel
theorem dX11_findsOne_44 : decode cX11_findsOne 44 = .ok (.ifCond .le 21, 3) := by decide +kernel
theorem dX11_findsOne_47 : decode cX11_findsOne 47 = .ok (.aload_n 0, 1) := by decide +kernel
theorem dX11_findsOne_48 : decode cX11_findsOne 48 = .ok (.getfield 24, 3) := by decide +kernel
theorem dX11_findsOne_51 : decode cX11_findsOne 51 = .ok (.iload 4, 2) := by decide +kernel
theorem dX11_findsOne_53 : decode cX11_findsOne 53 = .ok (.fload 6, 2) := by decide +kernel
theorem dX11_findsOne_55 : decode cX11_findsOne 55 = .ok (.fastore, 1) := by decide +kernel
theorem dX11_findsOne_56 : decode cX11_findsOne 56 = .ok (.aload_n 0, 1) := by decide +kernel
theorem dX11_findsOne_57 : decode cX11_findsOne 57 = .ok (.getfield 28, 3) := by decide +kernel
theorem dX11_findsOne_60 : decode cX11_findsOne 60 = .ok (.iload 4, 2) := by decide +kernel
theorem dX11_findsOne_62 : decode cX11_findsOne 62 = .ok (.iload 5, 2) := by decide +kernel
theorem dX11_findsOne_64 : decode cX11_findsOne 64 = .ok (.iastore, 1) := by decide +kernel
theorem dX11_findsOne_65 : decode cX11_findsOne 65 = .ok (.iinc 5 1, 3) := by decide +kernel
theorem dX11_findsOne_68 : decode cX11_findsOne 68 = .ok (.goto (-57), 3) := by decide +kernel
theorem dX11_findsOne_71 : decode cX11_findsOne 71 = .ok (.return_, 1) := by decide +kernel
theorem dX11_bits_0 : decode cX11_bits 0 = .ok (.fload_n 0, 1) := by decide +kernel
theorem dX11_bits_1 : decode cX11_bits 1 = .ok (.invokestatic 191, 3) := by decide +kernel
theorem dX11_bits_4 : decode cX11_bits 4 = .ok (.i2l, 1) := by decide +kernel
theorem dX11_bits_5 : decode cX11_bits 5 = .ok (.lreturn, 1) := by decide +kernel
theorem dX11_best_0 : decode cX11_best 0 = .ok (.iload_n 1, 1) := by decide +kernel
theorem dX11_best_1 : decode cX11_best 1 = .ok (.i2l, 1) := by decide +kernel
theorem dX11_best_2 : decode cX11_best 2 = .ok (.lconst 0, 1) := by decide +kernel
theorem dX11_best_3 : decode cX11_best 3 = .ok (.aload_n 0, 1) := by decide +kernel
theorem dX11_best_4 : decode cX11_best 4 = .ok (.getfield 11, 3) := by decide +kernel
theorem dX11_best_7 : decode cX11_best 7 = .ok (.iconst 1, 1) := by decide +kernel
theorem dX11_best_8 : decode cX11_best 8 = .ok (.iaload, 1) := by decide +kernel
theorem dX11_best_9 : decode cX11_best 9 = .ok (.i2l, 1) := by decide +kernel
theorem dX11_best_10 : decode cX11_best 10 = .ok (.invokestatic 65, 3) := by decide +kernel
theorem dX11_best_13 : decode cX11_best 13 = .ok (.ifCond .eq 18, 3) := by decide +kernel
theorem dX11_best_16 : decode cX11_best 16 = .ok (.aload_n 0, 1) := by decide +kernel
theorem dX11_best_17 : decode cX11_best 17 = .ok (.iload_n 2, 1) := by decide +kernel
theorem dX11_best_18 : decode cX11_best 18 = .ok (.invokevirtual 169, 3) := by decide +kernel
theorem dX11_best_21 : decode cX11_best 21 = .ok (.ifCond .eq 10, 3) := by decide +kernel
theorem dX11_best_24 : decode cX11_best 24 = .ok (.iload_n 3, 1) := by decide +kernel
theorem dX11_best_25 : decode cX11_best 25 = .ok (.invokestatic 87, 3) := by decide +kernel
theorem dX11_best_28 : decode cX11_best 28 = .ok (.ifCond .ne 7, 3) := by decide +kernel
theorem dX11_best_31 : decode cX11_best 31 = .ok (.ldc2_w 143, 3) := by decide +kernel
theorem dX11_best_34 : decode cX11_best 34 = .ok (.lreturn, 1) := by decide +kernel
theorem dX11_best_35 : decode cX11_best 35 = .ok (.aload_n 0, 1) := by decide +kernel
theorem dX11_best_36 : decode cX11_best 36 = .ok (.iload_n 1, 1) := by decide +kernel
theorem dX11_best_37 : decode cX11_best 37 = .ok (.invokevirtual 197, 3) := by decide +kernel
theorem dX11_best_40 : decode cX11_best 40 = .ok (.aload_n 0, 1) := by decide +kernel
theorem dX11_best_41 : decode cX11_best 41 = .ok (.getfield 24, 3) := by decide +kernel
theorem dX11_best_44 : decode cX11_best 44 = .ok (.iload_n 1, 1) := by decide +kernel
theorem dX11_best_45 : decode cX11_best 45 = .ok (.iload_n 2, 1) := by decide +kernel
theorem dX11_best_46 : decode cX11_best 46 = .ok (.iload_n 3, 1) := by decide +kernel
theorem dX11_best_47 : decode cX11_best 47 = .ok (.invokestatic 176, 3) := by decide +kernel
theorem dX11_best_50 : decode cX11_best 50 = .ok (.faload, 1) := by decide +kernel
theorem dX11_best_51 : decode cX11_best 51 = .ok (.invokestatic 201, 3) := by decide +kernel
theorem dX11_best_54 : decode cX11_best 54 = .ok (.lreturn, 1) := by decide +kernel
theorem dX11_release_0 : decode cX11_release 0 = .ok (.aload_n 0, 1) := by decide +kernel
theorem dX11_release_1 : decode cX11_release 1 = .ok (.iload_n 1, 1) := by decide +kernel
theorem dX11_release_2 : decode cX11_release 2 = .ok (.invokevirtual 205, 3) := by decide +kernel
theorem dX11_release_5 : decode cX11_release 5 = .ok (.ifCond .eq 18, 3) := by decide +kernel
theorem dX11_release_8 : decode cX11_release 8 = .ok (.aload_n 0, 1) := by decide +kernel
theorem dX11_release_9 : decode cX11_release 9 = .ok (.iload_n 2, 1) := by decide +kernel
theorem dX11_release_10 : decode cX11_release 10 = .ok (.invokevirtual 169, 3) := by decide +kernel
theorem dX11_release_13 : decode cX11_release 13 = .ok (.ifCond .eq 10, 3) := by decide +kernel
theorem dX11_release_16 : decode cX11_release 16 = .ok (.iload_n 3, 1) := by decide +kernel
theorem dX11_release_17 : decode cX11_release 17 = .ok (.invokestatic 87, 3) := by decide +kernel
theorem dX11_release_20 : decode cX11_release 20 = .ok (.ifCond .ne 5, 3) := by decide +kernel
theorem dX11_release_23 : decode cX11_release 23 = .ok (.iconst (-1), 1) := by decide +kernel
theorem dX11_release_24 : decode cX11_release 24 = .ok (.ireturn, 1) := by decide +kernel
theorem dX11_release_25 : decode cX11_release 25 = .ok (.aload_n 0, 1) := by decide +kernel
theorem dX11_release_26 : decode cX11_release 26 = .ok (.iload_n 1, 1) := by decide +kernel
theorem dX11_release_27 : decode cX11_release 27 = .ok (.invokevirtual 197, 3) := by decide +kernel
theorem dX11_release_30 : decode cX11_release 30 = .ok (.aload_n 0, 1) := by decide +kernel
theorem dX11_release_31 : decode cX11_release 31 = .ok (.getfield 28, 3) := by decide +kernel
theorem dX11_release_34 : decode cX11_release 34 = .ok (.iload_n 1, 1) := by decide +kernel
theorem dX11_release_35 : decode cX11_release 35 = .ok (.iload_n 2, 1) := by decide +kernel
theorem dX11_release_36 : decode cX11_release 36 = .ok (.iload_n 3, 1) := by decide +kernel
theorem dX11_release_37 : decode cX11_release 37 = .ok (.invokestatic 176, 3) := by decide +kernel
theorem dX11_release_40 : decode cX11_release 40 = .ok (.iaload, 1) := by decide +kernel
theorem dX11_release_41 : decode cX11_release 41 = .ok (.ireturn, 1) := by decide +kernel
theorem dX11_would_0 : decode cX11_would 0 = .ok (.aload_n 0, 1) := by decide +kernel
theorem dX11_would_1 : decode cX11_would 1 = .ok (.iload_n 1, 1) := by decide +kernel
theorem dX11_would_2 : decode cX11_would 2 = .ok (.invokevirtual 205, 3) := by decide +kernel
theorem dX11_would_5 : decode cX11_would 5 = .ok (.ifCond .eq 31, 3) := by decide +kernel
theorem dX11_would_8 : decode cX11_would 8 = .ok (.aload_n 0, 1) := by decide +kernel
theorem dX11_would_9 : decode cX11_would 9 = .ok (.iload_n 2, 1) := by decide +kernel
theorem dX11_would_10 : decode cX11_would 10 = .ok (.invokevirtual 169, 3) := by decide +kernel
theorem dX11_would_13 : decode cX11_would 13 = .ok (.ifCond .eq 23, 3) := by decide +kernel
theorem dX11_would_16 : decode cX11_would 16 = .ok (.iload_n 3, 1) := by decide +kernel
theorem dX11_would_17 : decode cX11_would 17 = .ok (.invokestatic 87, 3) := by decide +kernel
theorem dX11_would_20 : decode cX11_would 20 = .ok (.ifCond .eq 16, 3) := by decide +kernel
theorem dX11_would_23 : decode cX11_would 23 = .ok (.iload 4, 2) := by decide +kernel
theorem dX11_would_25 : decode cX11_would 25 = .ok (.i2l, 1) := by decide +kernel
theorem dX11_would_26 : decode cX11_would 26 = .ok (.lconst 0, 1) := by decide +kernel
theorem dX11_would_27 : decode cX11_would 27 = .ok (.ldc2_w 208, 3) := by decide +kernel
theorem dX11_would_30 : decode cX11_would 30 = .ok (.invokestatic 65, 3) := by decide +kernel
theorem dX11_would_33 : decode cX11_would 33 = .ok (.ifCond .ne 7, 3) := by decide +kernel
theorem dX11_would_36 : decode cX11_would 36 = .ok (.ldc2_w 143, 3) := by decide +kernel
theorem dX11_would_39 : decode cX11_would 39 = .ok (.lreturn, 1) := by decide +kernel
theorem dX11_would_40 : decode cX11_would 40 = .ok (.aload_n 0, 1) := by decide +kernel
theorem dX11_would_41 : decode cX11_would 41 = .ok (.iload_n 1, 1) := by decide +kernel
theorem dX11_would_42 : decode cX11_would 42 = .ok (.iconst 1, 1) := by decide +kernel
theorem dX11_would_43 : decode cX11_would 43 = .ok (.iadd, 1) := by decide +kernel
theorem dX11_would_44 : decode cX11_would 44 = .ok (.invokevirtual 197, 3) := by decide +kernel
theorem dX11_would_47 : decode cX11_would 47 = .ok (.aload_n 0, 1) := by decide +kernel
theorem dX11_would_48 : decode cX11_would 48 = .ok (.iload_n 1, 1) := by decide +kernel
theorem dX11_would_49 : decode cX11_would 49 = .ok (.iload_n 2, 1) := by decide +kernel
theorem dX11_would_50 : decode cX11_would 50 = .ok (.iload_n 3, 1) := by decide +kernel
theorem dX11_would_51 : decode cX11_would 51 = .ok (.iload 4, 2) := by decide +kernel
theorem dX11_would_53 : decode cX11_would 53 = .ok (.invokevirtual 187, 3) := by decide +kernel
theorem dX11_would_56 : decode cX11_would 56 = .ok (.invokestatic 201, 3) := by decide +kernel
theorem dX11_would_59 : decode cX11_would 59 = .ok (.lreturn, 1) := by decide +kernel
theorem dX11_after_0 : decode cX11_after 0 = .ok (.iload_n 1, 1) := by decide +kernel
theorem dX11_after_1 : decode cX11_after 1 = .ok (.i2l, 1) := by decide +kernel
theorem dX11_after_2 : decode cX11_after 2 = .ok (.lconst 0, 1) := by decide +kernel
theorem dX11_after_3 : decode cX11_after 3 = .ok (.ldc2_w 73, 3) := by decide +kernel
theorem dX11_after_6 : decode cX11_after 6 = .ok (.invokestatic 65, 3) := by decide +kernel
theorem dX11_after_9 : decode cX11_after 9 = .ok (.ifCond .eq 17, 3) := by decide +kernel
theorem dX11_after_12 : decode cX11_after 12 = .ok (.iload_n 2, 1) := by decide +kernel
theorem dX11_after_13 : decode cX11_after 13 = .ok (.invokestatic 87, 3) := by decide +kernel
theorem dX11_after_16 : decode cX11_after 16 = .ok (.ifCond .eq 10, 3) := by decide +kernel
theorem dX11_after_19 : decode cX11_after 19 = .ok (.iload_n 3, 1) := by decide +kernel
theorem dX11_after_20 : decode cX11_after 20 = .ok (.invokestatic 87, 3) := by decide +kernel
theorem dX11_after_23 : decode cX11_after 23 = .ok (.ifCond .ne 7, 3) := by decide +kernel
theorem dX11_after_26 : decode cX11_after 26 = .ok (.ldc2_w 143, 3) := by decide +kernel
theorem dX11_after_29 : decode cX11_after 29 = .ok (.lreturn, 1) := by decide +kernel
theorem dX11_after_30 : decode cX11_after 30 = .ok (.iconst 0, 1) := by decide +kernel
theorem dX11_after_31 : decode cX11_after 31 = .ok (.istore 4, 2) := by decide +kernel
theorem dX11_after_33 : decode cX11_after 33 = .ok (.iload 4, 2) := by decide +kernel
theorem dX11_after_35 : decode cX11_after 35 = .ok (.iconst 3, 1) := by decide +kernel
theorem dX11_after_36 : decode cX11_after 36 = .ok (.if_icmp .ge 27, 3) := by decide +kernel
theorem dX11_after_39 : decode cX11_after 39 = .ok (.aload_n 0, 1) := by decide +kernel
theorem dX11_after_40 : decode cX11_after 40 = .ok (.getfield 37, 3) := by decide +kernel
theorem dX11_after_43 : decode cX11_after 43 = .ok (.iload 4, 2) := by decide +kernel
theorem dX11_after_45 : decode cX11_after 45 = .ok (.iload 4, 2) := by decide +kernel
theorem dX11_after_47 : decode cX11_after 47 = .ok (.iload_n 2, 1) := by decide +kernel
theorem dX11_after_48 : decode cX11_after 48 = .ok (.if_icmp .ne 7, 3) := by decide +kernel
theorem dX11_after_51 : decode cX11_after 51 = .ok (.fconst 1, 1) := by decide +kernel
theorem dX11_after_52 : decode cX11_after 52 = .ok (.goto 4, 3) := by decide +kernel
theorem dX11_after_55 : decode cX11_after 55 = .ok (.fconst 0, 1) := by decide +kernel
theorem dX11_after_56 : decode cX11_after 56 = .ok (.fastore, 1) := by decide +kernel
theorem dX11_after_57 : decode cX11_after 57 = .ok (.iinc 4 1, 3) := by decide +kernel
theorem dX11_after_60 : decode cX11_after 60 = .ok (.goto (-27), 3) := by decide +kernel
theorem dX11_after_63 : decode cX11_after 63 = .ok (.iconst 0, 1) := by decide +kernel
theorem dX11_after_64 : decode cX11_after 64 = .ok (.istore 4, 2) := by decide +kernel
theorem dX11_after_66 : decode cX11_after 66 = .ok (.iload 4, 2) := by decide +kernel
theorem dX11_after_68 : decode cX11_after 68 = .ok (.iload_n 1, 1) := by decide +kernel
theorem dX11_after_69 : decode cX11_after 69 = .ok (.if_icmp .ge 114, 3) := by decide +kernel
theorem dX11_after_72 : decode cX11_after 72 = .ok (.iconst 0, 1) := by decide +kernel
theorem dX11_after_73 : decode cX11_after 73 = .ok (.istore 5, 2) := by decide +kernel
theorem dX11_after_75 : decode cX11_after 75 = .ok (.iload 5, 2) := by decide +kernel
theorem dX11_after_77 : decode cX11_after 77 = .ok (.iconst 3, 1) := by decide +kernel
theorem dX11_after_78 : decode cX11_after 78 = .ok (.if_icmp .ge 68, 3) := by decide +kernel
theorem dX11_after_81 : decode cX11_after 81 = .ok (.fconst 0, 1) := by decide +kernel
theorem dX11_after_82 : decode cX11_after 82 = .ok (.fstore 6, 2) := by decide +kernel
theorem dX11_after_84 : decode cX11_after 84 = .ok (.iconst 0, 1) := by decide +kernel
theorem dX11_after_85 : decode cX11_after 85 = .ok (.istore 7, 2) := by decide +kernel
theorem dX11_after_87 : decode cX11_after 87 = .ok (.iload 7, 2) := by decide +kernel
theorem dX11_after_89 : decode cX11_after 89 = .ok (.iconst 3, 1) := by decide +kernel
theorem dX11_after_90 : decode cX11_after 90 = .ok (.if_icmp .ge 39, 3) := by decide +kernel
theorem dX11_after_93 : decode cX11_after 93 = .ok (.fload 6, 2) := by decide +kernel
theorem dX11_after_95 : decode cX11_after 95 = .ok (.aload_n 0, 1) := by decide +kernel
theorem dX11_after_96 : decode cX11_after 96 = .ok (.getfield 37, 3) := by decide +kernel
theorem dX11_after_99 : decode cX11_after 99 = .ok (.iload 7, 2) := by decide +kernel
theorem dX11_after_101 : decode cX11_after 101 = .ok (.faload, 1) := by decide +kernel
theorem dX11_after_102 : decode cX11_after 102 = .ok (.aload_n 0, 1) := by decide +kernel
theorem dX11_after_103 : decode cX11_after 103 = .ok (.iload 7, 2) := by decide +kernel
theorem dX11_after_105 : decode cX11_after 105 = .ok (.iload 5, 2) := by decide +kernel
theorem dX11_after_107 : decode cX11_after 107 = .ok (.invokevirtual 90, 3) := by decide +kernel
theorem dX11_after_110 : decode cX11_after 110 = .ok (.i2f, 1) := by decide +kernel
theorem dX11_after_111 : decode cX11_after 111 = .ok (.aload_n 0, 1) := by decide +kernel
theorem dX11_after_112 : decode cX11_after 112 = .ok (.iload 7, 2) := by decide +kernel
theorem dX11_after_114 : decode cX11_after 114 = .ok (.invokevirtual 93, 3) := by decide +kernel
theorem dX11_after_117 : decode cX11_after 117 = .ok (.i2f, 1) := by decide +kernel
theorem dX11_after_118 : decode cX11_after 118 = .ok (.fdiv, 1) := by decide +kernel
theorem dX11_after_119 : decode cX11_after 119 = .ok (.fmul, 1) := by decide +kernel
theorem dX11_after_120 : decode cX11_after 120 = .ok (.fadd, 1) := by decide +kernel
theorem dX11_after_121 : decode cX11_after 121 = .ok (.fstore 6, 2) := by decide +kernel
theorem dX11_after_123 : decode cX11_after 123 = .ok (.iinc 7 1, 3) := by decide +kernel
theorem dX11_after_126 : decode cX11_after 126 = .ok (.goto (-39), 3) := by decide +kernel
theorem dX11_after_129 : decode cX11_after 129 = .ok (.aload_n 0, 1) := by decide +kernel
theorem dX11_after_130 : decode cX11_after 130 = .ok (.getfield 37, 3) := by decide +kernel
theorem dX11_after_133 : decode cX11_after 133 = .ok (.iconst 3, 1) := by decide +kernel
theorem dX11_after_134 : decode cX11_after 134 = .ok (.iload 5, 2) := by decide +kernel
theorem dX11_after_136 : decode cX11_after 136 = .ok (.iadd, 1) := by decide +kernel
theorem dX11_after_137 : decode cX11_after 137 = .ok (.fload 6, 2) := by decide +kernel
theorem dX11_after_139 : decode cX11_after 139 = .ok (.fastore, 1) := by decide +kernel
theorem dX11_after_140 : decode cX11_after 140 = .ok (.iinc 5 1, 3) := by decide +kernel
theorem dX11_after_143 : decode cX11_after 143 = .ok (.goto (-68), 3) := by decide +kernel
theorem dX11_after_146 : decode cX11_after 146 = .ok (.iconst 0, 1) := by decide +kernel
theorem dX11_after_147 : decode cX11_after 147 = .ok (.istore 5, 2) := by decide +kernel
theorem dX11_after_149 : decode cX11_after 149 = .ok (.iload 5, 2) := by decide +kernel
theorem dX11_after_151 : decode cX11_after 151 = .ok (.iconst 3, 1) := by decide +kernel
theorem dX11_after_152 : decode cX11_after 152 = .ok (.if_icmp .ge 25, 3) := by decide +kernel
theorem dX11_after_155 : decode cX11_after 155 = .ok (.aload_n 0, 1) := by decide +kernel
theorem dX11_after_156 : decode cX11_after 156 = .ok (.getfield 37, 3) := by decide +kernel
theorem dX11_after_159 : decode cX11_after 159 = .ok (.iload 5, 2) := by decide +kernel
theorem dX11_after_161 : decode cX11_after 161 = .ok (.aload_n 0, 1) := by decide +kernel
theorem dX11_after_162 : decode cX11_after 162 = .ok (.getfield 37, 3) := by decide +kernel
theorem dX11_after_165 : decode cX11_after 165 = .ok (.iconst 3, 1) := by decide +kernel
theorem dX11_after_166 : decode cX11_after 166 = .ok (.iload 5, 2) := by decide +kernel
theorem dX11_after_168 : decode cX11_after 168 = .ok (.iadd, 1) := by decide +kernel
theorem dX11_after_169 : decode cX11_after 169 = .ok (.faload, 1) := by decide +kernel
theorem dX11_after_170 : decode cX11_after 170 = .ok (.fastore, 1) := by decide +kernel
theorem dX11_after_171 : decode cX11_after 171 = .ok (.iinc 5 1, 3) := by decide +kernel
theorem dX11_after_174 : decode cX11_after 174 = .ok (.goto (-25), 3) := by decide +kernel
theorem dX11_after_177 : decode cX11_after 177 = .ok (.iinc 4 1, 3) := by decide +kernel
theorem dX11_after_180 : decode cX11_after 180 = .ok (.goto (-114), 3) := by decide +kernel
theorem dX11_after_183 : decode cX11_after 183 = .ok (.aload_n 0, 1) := by decide +kernel
theorem dX11_after_184 : decode cX11_after 184 = .ok (.getfield 37, 3) := by decide +kernel
theorem dX11_after_187 : decode cX11_after 187 = .ok (.iload_n 3, 1) := by decide +kernel
theorem dX11_after_188 : decode cX11_after 188 = .ok (.faload, 1) := by decide +kernel
theorem dX11_after_189 : decode cX11_after 189 = .ok (.invokestatic 201, 3) := by decide +kernel
theorem dX11_after_192 : decode cX11_after 192 = .ok (.lreturn, 1) := by decide +kernel
theorem dX11_findWay_0 : decode cX11_findWay 0 = .ok (.iconst 1, 1) := by decide +kernel
theorem dX11_findWay_1 : decode cX11_findWay 1 = .ok (.istore_n 3, 1) := by decide +kernel
theorem dX11_findWay_2 : decode cX11_findWay 2 = .ok (.iconst 0, 1) := by decide +kernel
theorem dX11_findWay_3 : decode cX11_findWay 3 = .ok (.istore 4, 2) := by decide +kernel
theorem dX11_findWay_5 : decode cX11_findWay 5 = .ok (.iload 4, 2) := by decide +kernel
theorem dX11_findWay_7 : decode cX11_findWay 7 = .ok (.iload_n 2, 1) := by decide +kernel
theorem dX11_findWay_8 : decode cX11_findWay 8 = .ok (.if_icmp .ge 13, 3) := by decide +kernel
theorem dX11_findWay_11 : decode cX11_findWay 11 = .ok (.iload_n 3, 1) := by decide +kernel
theorem dX11_findWay_12 : decode cX11_findWay 12 = .ok (.iconst 3, 1) := by decide +kernel
theorem dX11_findWay_13 : decode cX11_findWay 13 = .ok (.imul, 1) := by decide +kernel
theorem dX11_findWay_14 : decode cX11_findWay 14 = .ok (.istore_n 3, 1) := by decide +kernel
theorem dX11_findWay_15 : decode cX11_findWay 15 = .ok (.iinc 4 1, 3) := by decide +kernel
theorem dX11_findWay_18 : decode cX11_findWay 18 = .ok (.goto (-13), 3) := by decide +kernel
theorem dX11_findWay_21 : decode cX11_findWay 21 = .ok (.aload_n 0, 1) := by decide +kernel
theorem dX11_findWay_22 : decode cX11_findWay 22 = .ok (.ldc 210, 2) := by decide +kernel
theorem dX11_findWay_24 : decode cX11_findWay 24 = .ok (.putfield 211, 3) := by decide +kernel
theorem dX11_findWay_27 : decode cX11_findWay 27 = .ok (.iconst 0, 1) := by decide +kernel
theorem dX11_findWay_28 : decode cX11_findWay 28 = .ok (.istore 4, 2) := by decide +kernel
theorem dX11_findWay_30 : decode cX11_findWay 30 = .ok (.iload 4, 2) := by decide +kernel
theorem dX11_findWay_32 : decode cX11_findWay 32 = .ok (.iload_n 3, 1) := by decide +kernel
theorem dX11_findWay_33 : decode cX11_findWay 33 = .ok (.if_icmp .ge 88, 3) := by decide +kernel
theorem dX11_findWay_36 : decode cX11_findWay 36 = .ok (.fconst 1, 1) := by decide +kernel
theorem dX11_findWay_37 : decode cX11_findWay 37 = .ok (.fstore 5, 2) := by decide +kernel
theorem dX11_findWay_39 : decode cX11_findWay 39 = .ok (.iload_n 1, 1) := by decide +kernel
theorem dX11_findWay_40 : decode cX11_findWay 40 = .ok (.istore 6, 2) := by decide +kernel
theorem dX11_findWay_42 : decode cX11_findWay 42 = .ok (.iconst 0, 1) := by decide +kernel
theorem dX11_findWay_43 : decode cX11_findWay 43 = .ok (.istore 7, 2) := by decide +kernel
theorem dX11_findWay_45 : decode cX11_findWay 45 = .ok (.iload 7, 2) := by decide +kernel
theorem dX11_findWay_47 : decode cX11_findWay 47 = .ok (.iload_n 2, 1) := by decide +kernel
theorem dX11_findWay_48 : decode cX11_findWay 48 = .ok (.if_icmp .ge 45, 3) := by decide +kernel
theorem dX11_findWay_51 : decode cX11_findWay 51 = .ok (.iload 4, 2) := by decide +kernel
theorem dX11_findWay_53 : decode cX11_findWay 53 = .ok (.iload_n 2, 1) := by decide +kernel
theorem dX11_findWay_54 : decode cX11_findWay 54 = .ok (.iload 7, 2) := by decide +kernel
theorem dX11_findWay_56 : decode cX11_findWay 56 = .ok (.invokestatic 215, 3) := by decide +kernel
theorem dX11_findWay_59 : decode cX11_findWay 59 = .ok (.istore 8, 2) := by decide +kernel
theorem dX11_findWay_61 : decode cX11_findWay 61 = .ok (.fload 5, 2) := by decide +kernel
theorem dX11_findWay_63 : decode cX11_findWay 63 = .ok (.aload_n 0, 1) := by decide +kernel
theorem dX11_findWay_64 : decode cX11_findWay 64 = .ok (.iload 6, 2) := by decide +kernel
theorem dX11_findWay_66 : decode cX11_findWay 66 = .ok (.iload 8, 2) := by decide +kernel
theorem dX11_findWay_68 : decode cX11_findWay 68 = .ok (.invokevirtual 90, 3) := by decide +kernel
theorem dX11_findWay_71 : decode cX11_findWay 71 = .ok (.i2f, 1) := by decide +kernel
theorem dX11_findWay_72 : decode cX11_findWay 72 = .ok (.aload_n 0, 1) := by decide +kernel
theorem dX11_findWay_73 : decode cX11_findWay 73 = .ok (.iload 6, 2) := by decide +kernel
theorem dX11_findWay_75 : decode cX11_findWay 75 = .ok (.invokevirtual 93, 3) := by decide +kernel
theorem dX11_findWay_78 : decode cX11_findWay 78 = .ok (.i2f, 1) := by decide +kernel
theorem dX11_findWay_79 : decode cX11_findWay 79 = .ok (.fdiv, 1) := by decide +kernel
theorem dX11_findWay_80 : decode cX11_findWay 80 = .ok (.fmul, 1) := by decide +kernel
theorem dX11_findWay_81 : decode cX11_findWay 81 = .ok (.fstore 5, 2) := by decide +kernel
theorem dX11_findWay_83 : decode cX11_findWay 83 = .ok (.iload 8, 2) := by decide +kernel
theorem dX11_findWay_85 : decode cX11_findWay 85 = .ok (.istore 6, 2) := by decide +kernel
theorem dX11_findWay_87 : decode cX11_findWay 87 = .ok (.iinc 7 1, 3) := by decide +kernel
theorem dX11_findWay_90 : decode cX11_findWay 90 = .ok (.goto (-45), 3) := by decide +kernel
theorem dX11_findWay_93 : decode cX11_findWay 93 = .ok (.fload 5, 2) := by decide +kernel
theorem dX11_findWay_95 : decode cX11_findWay 95 = .ok (.aload_n 0, 1) := by decide +kernel
theorem dX11_findWay_96 : decode cX11_findWay 96 = .ok (.getfield 211, 3) := by decide +kernel
theorem dX11_findWay_99 : decode cX11_findWay 99 = .ok (.fcmp .l, 1) := by decide +kernel
theorem dX11_findWay_100 : decode cX11_findWay 100 = .ok (.ifCond .le 15, 3) := by decide +kernel
theorem dX11_findWay_103 : decode cX11_findWay 103 = .ok (.aload_n 0, 1) := by decide +kernel
theorem dX11_findWay_104 : decode cX11_findWay 104 = .ok (.fload 5, 2) := by decide +kernel
theorem dX11_findWay_106 : decode cX11_findWay 106 = .ok (.putfield 211, 3) := by decide +kernel
theorem dX11_findWay_109 : decode cX11_findWay 109 = .ok (.aload_n 0, 1) := by decide +kernel
theorem dX11_findWay_110 : decode cX11_findWay 110 = .ok (.iload 4, 2) := by decide +kernel
theorem dX11_findWay_112 : decode cX11_findWay 112 = .ok (.putfield 218, 3) := by decide +kernel
theorem dX11_findWay_115 : decode cX11_findWay 115 = .ok (.iinc 4 1, 3) := by decide +kernel
theorem dX11_findWay_118 : decode cX11_findWay 118 = .ok (.goto (-88), 3) := by decide +kernel
theorem dX11_findWay_121 : decode cX11_findWay 121 = .ok (.return_, 1) := by decide +kernel
theorem dX11_stateOf_0 : decode cX11_stateOf 0 = .ok (.iload_n 0, 1) := by decide +kernel
theorem dX11_stateOf_1 : decode cX11_stateOf 1 = .ok (.istore_n 3, 1) := by decide +kernel
theorem dX11_stateOf_2 : decode cX11_stateOf 2 = .ok (.iload_n 1, 1) := by decide +kernel
theorem dX11_stateOf_3 : decode cX11_stateOf 3 = .ok (.iconst 1, 1) := by decide +kernel
theorem dX11_stateOf_4 : decode cX11_stateOf 4 = .ok (.isub, 1) := by decide +kernel
theorem dX11_stateOf_5 : decode cX11_stateOf 5 = .ok (.istore 4, 2) := by decide +kernel
theorem dX11_stateOf_7 : decode cX11_stateOf 7 = .ok (.iload 4, 2) := by decide +kernel
theorem dX11_stateOf_9 : decode cX11_stateOf 9 = .ok (.iload_n 2, 1) := by decide +kernel
theorem dX11_stateOf_10 : decode cX11_stateOf 10 = .ok (.if_icmp .le 13, 3) := by decide +kernel
theorem dX11_stateOf_13 : decode cX11_stateOf 13 = .ok (.iload_n 3, 1) := by decide +kernel
theorem dX11_stateOf_14 : decode cX11_stateOf 14 = .ok (.iconst 3, 1) := by decide +kernel
theorem dX11_stateOf_15 : decode cX11_stateOf 15 = .ok (.idiv, 1) := by decide +kernel
theorem dX11_stateOf_16 : decode cX11_stateOf 16 = .ok (.istore_n 3, 1) := by decide +kernel
theorem dX11_stateOf_17 : decode cX11_stateOf 17 = .ok (.iinc 4 (-1), 3) := by decide +kernel
theorem dX11_stateOf_20 : decode cX11_stateOf 20 = .ok (.goto (-13), 3) := by decide +kernel
theorem dX11_stateOf_23 : decode cX11_stateOf 23 = .ok (.iload_n 3, 1) := by decide +kernel
theorem dX11_stateOf_24 : decode cX11_stateOf 24 = .ok (.iconst 3, 1) := by decide +kernel
theorem dX11_stateOf_25 : decode cX11_stateOf 25 = .ok (.irem, 1) := by decide +kernel
theorem dX11_stateOf_26 : decode cX11_stateOf 26 = .ok (.ireturn, 1) := by decide +kernel
theorem dX11_way_0 : decode cX11_way 0 = .ok (.iload_n 1, 1) := by decide +kernel
theorem dX11_way_1 : decode cX11_way 1 = .ok (.invokestatic 87, 3) := by decide +kernel
theorem dX11_way_4 : decode cX11_way 4 = .ok (.ifCond .eq 28, 3) := by decide +kernel
theorem dX11_way_7 : decode cX11_way 7 = .ok (.iload_n 2, 1) := by decide +kernel
theorem dX11_way_8 : decode cX11_way 8 = .ok (.i2l, 1) := by decide +kernel
theorem dX11_way_9 : decode cX11_way 9 = .ok (.lconst 1, 1) := by decide +kernel
theorem dX11_way_10 : decode cX11_way 10 = .ok (.ldc2_w 128, 3) := by decide +kernel
theorem dX11_way_13 : decode cX11_way 13 = .ok (.invokestatic 65, 3) := by decide +kernel
theorem dX11_way_16 : decode cX11_way 16 = .ok (.ifCond .eq 16, 3) := by decide +kernel
theorem dX11_way_19 : decode cX11_way 19 = .ok (.iload_n 3, 1) := by decide +kernel
theorem dX11_way_20 : decode cX11_way 20 = .ok (.i2l, 1) := by decide +kernel
theorem dX11_way_21 : decode cX11_way 21 = .ok (.lconst 0, 1) := by decide +kernel
theorem dX11_way_22 : decode cX11_way 22 = .ok (.iload_n 2, 1) := by decide +kernel
theorem dX11_way_23 : decode cX11_way 23 = .ok (.iconst 1, 1) := by decide +kernel
theorem dX11_way_24 : decode cX11_way 24 = .ok (.isub, 1) := by decide +kernel
theorem dX11_way_25 : decode cX11_way 25 = .ok (.i2l, 1) := by decide +kernel
theorem dX11_way_26 : decode cX11_way 26 = .ok (.invokestatic 65, 3) := by decide +kernel
theorem dX11_way_29 : decode cX11_way 29 = .ok (.ifCond .ne 5, 3) := by decide +kernel
theorem dX11_way_32 : decode cX11_way 32 = .ok (.iconst (-1), 1) := by decide +kernel
theorem dX11_way_33 : decode cX11_way 33 = .ok (.ireturn, 1) := by decide +kernel
theorem dX11_way_34 : decode cX11_way 34 = .ok (.aload_n 0, 1) := by decide +kernel
theorem dX11_way_35 : decode cX11_way 35 = .ok (.iload_n 1, 1) := by decide +kernel
theorem dX11_way_36 : decode cX11_way 36 = .ok (.iload_n 2, 1) := by decide +kernel
theorem dX11_way_37 : decode cX11_way 37 = .ok (.invokevirtual 221, 3) := by decide +kernel
theorem dX11_way_40 : decode cX11_way 40 = .ok (.aload_n 0, 1) := by decide +kernel
theorem dX11_way_41 : decode cX11_way 41 = .ok (.getfield 218, 3) := by decide +kernel
theorem dX11_way_44 : decode cX11_way 44 = .ok (.iload_n 2, 1) := by decide +kernel
theorem dX11_way_45 : decode cX11_way 45 = .ok (.iload_n 3, 1) := by decide +kernel
theorem dX11_way_46 : decode cX11_way 46 = .ok (.invokestatic 215, 3) := by decide +kernel
theorem dX11_way_49 : decode cX11_way 49 = .ok (.ireturn, 1) := by decide +kernel
theorem dX11_chance_0 : decode cX11_chance 0 = .ok (.iload_n 1, 1) := by decide +kernel
theorem dX11_chance_1 : decode cX11_chance 1 = .ok (.invokestatic 87, 3) := by decide +kernel
theorem dX11_chance_4 : decode cX11_chance 4 = .ok (.ifCond .eq 15, 3) := by decide +kernel
theorem dX11_chance_7 : decode cX11_chance 7 = .ok (.iload_n 2, 1) := by decide +kernel
theorem dX11_chance_8 : decode cX11_chance 8 = .ok (.i2l, 1) := by decide +kernel
theorem dX11_chance_9 : decode cX11_chance 9 = .ok (.lconst 1, 1) := by decide +kernel
theorem dX11_chance_10 : decode cX11_chance 10 = .ok (.ldc2_w 128, 3) := by decide +kernel
theorem dX11_chance_13 : decode cX11_chance 13 = .ok (.invokestatic 65, 3) := by decide +kernel
theorem dX11_chance_16 : decode cX11_chance 16 = .ok (.ifCond .ne 7, 3) := by decide +kernel
theorem dX11_chance_19 : decode cX11_chance 19 = .ok (.ldc2_w 143, 3) := by decide +kernel
theorem dX11_chance_22 : decode cX11_chance 22 = .ok (.lreturn, 1) := by decide +kernel
theorem dX11_chance_23 : decode cX11_chance 23 = .ok (.aload_n 0, 1) := by decide +kernel
theorem dX11_chance_24 : decode cX11_chance 24 = .ok (.iload_n 1, 1) := by decide +kernel
theorem dX11_chance_25 : decode cX11_chance 25 = .ok (.iload_n 2, 1) := by decide +kernel
theorem dX11_chance_26 : decode cX11_chance 26 = .ok (.invokevirtual 221, 3) := by decide +kernel
theorem dX11_chance_29 : decode cX11_chance 29 = .ok (.aload_n 0, 1) := by decide +kernel
theorem dX11_chance_30 : decode cX11_chance 30 = .ok (.getfield 211, 3) := by decide +kernel
theorem dX11_chance_33 : decode cX11_chance 33 = .ok (.invokestatic 201, 3) := by decide +kernel
theorem dX11_chance_36 : decode cX11_chance 36 = .ok (.lreturn, 1) := by decide +kernel
theorem dX11_bestNow_0 : decode cX11_bestNow 0 = .ok (.aload_n 0, 1) := by decide +kernel
theorem dX11_bestNow_1 : decode cX11_bestNow 1 = .ok (.iconst 0, 1) := by decide +kernel
theorem dX11_bestNow_2 : decode cX11_bestNow 2 = .ok (.invokevirtual 197, 3) := by decide +kernel
theorem dX11_bestNow_5 : decode cX11_bestNow 5 = .ok (.aload_n 0, 1) := by decide +kernel
theorem dX11_bestNow_6 : decode cX11_bestNow 6 = .ok (.getfield 24, 3) := by decide +kernel
theorem dX11_bestNow_9 : decode cX11_bestNow 9 = .ok (.iconst 0, 1) := by decide +kernel
theorem dX11_bestNow_10 : decode cX11_bestNow 10 = .ok (.iload_n 1, 1) := by decide +kernel
theorem dX11_bestNow_11 : decode cX11_bestNow 11 = .ok (.iload_n 2, 1) := by decide +kernel
theorem dX11_bestNow_12 : decode cX11_bestNow 12 = .ok (.invokestatic 176, 3) := by decide +kernel
theorem dX11_bestNow_15 : decode cX11_bestNow 15 = .ok (.faload, 1) := by decide +kernel
theorem dX11_bestNow_16 : decode cX11_bestNow 16 = .ok (.freturn, 1) := by decide +kernel
theorem dX11_worth_0 : decode cX11_worth 0 = .ok (.iload_n 1, 1) := by decide +kernel
theorem dX11_worth_1 : decode cX11_worth 1 = .ok (.ifCond .ne 11, 3) := by decide +kernel
theorem dX11_worth_4 : decode cX11_worth 4 = .ok (.aload_n 0, 1) := by decide +kernel
theorem dX11_worth_5 : decode cX11_worth 5 = .ok (.iload_n 2, 1) := by decide +kernel
theorem dX11_worth_6 : decode cX11_worth 6 = .ok (.invokevirtual 99, 3) := by decide +kernel
theorem dX11_worth_9 : decode cX11_worth 9 = .ok (.goto 25, 3) := by decide +kernel
theorem dX11_worth_12 : decode cX11_worth 12 = .ok (.iload_n 1, 1) := by decide +kernel
theorem dX11_worth_13 : decode cX11_worth 13 = .ok (.iconst 1, 1) := by decide +kernel
theorem dX11_worth_14 : decode cX11_worth 14 = .ok (.if_icmp .eq 15, 3) := by decide +kernel
theorem dX11_worth_17 : decode cX11_worth 17 = .ok (.iload_n 1, 1) := by decide +kernel
theorem dX11_worth_18 : decode cX11_worth 18 = .ok (.iconst 2, 1) := by decide +kernel
theorem dX11_worth_19 : decode cX11_worth 19 = .ok (.if_icmp .ne 14, 3) := by decide +kernel
theorem dX11_worth_22 : decode cX11_worth 22 = .ok (.iload_n 2, 1) := by decide +kernel
theorem dX11_worth_23 : decode cX11_worth 23 = .ok (.invokestatic 83, 3) := by decide +kernel
theorem dX11_worth_26 : decode cX11_worth 26 = .ok (.ifCond .eq 7, 3) := by decide +kernel
theorem dX11_worth_29 : decode cX11_worth 29 = .ok (.iconst 1, 1) := by decide +kernel
theorem dX11_worth_30 : decode cX11_worth 30 = .ok (.goto 4, 3) := by decide +kernel
theorem dX11_worth_33 : decode cX11_worth 33 = .ok (.iconst 0, 1) := by decide +kernel
theorem dX11_worth_34 : decode cX11_worth 34 = .ok (.istore 5, 2) := by decide +kernel
theorem dX11_worth_36 : decode cX11_worth 36 = .ok (.iload 5, 2) := by decide +kernel
theorem dX11_worth_38 : decode cX11_worth 38 = .ok (.ifCond .eq 19, 3) := by decide +kernel
theorem dX11_worth_41 : decode cX11_worth 41 = .ok (.aload_n 0, 1) := by decide +kernel
theorem dX11_worth_42 : decode cX11_worth 42 = .ok (.iload_n 3, 1) := by decide +kernel
theorem dX11_worth_43 : decode cX11_worth 43 = .ok (.invokevirtual 169, 3) := by decide +kernel
theorem dX11_worth_46 : decode cX11_worth 46 = .ok (.ifCond .eq 11, 3) := by decide +kernel
theorem dX11_worth_49 : decode cX11_worth 49 = .ok (.iload 4, 2) := by decide +kernel
theorem dX11_worth_51 : decode cX11_worth 51 = .ok (.invokestatic 87, 3) := by decide +kernel
theorem dX11_worth_54 : decode cX11_worth 54 = .ok (.ifCond .ne 7, 3) := by decide +kernel
theorem dX11_worth_57 : decode cX11_worth 57 = .ok (.ldc2_w 143, 3) := by decide +kernel
theorem dX11_worth_60 : decode cX11_worth 60 = .ok (.lreturn, 1) := by decide +kernel
theorem dX11_worth_61 : decode cX11_worth 61 = .ok (.aload_n 0, 1) := by decide +kernel
theorem dX11_worth_62 : decode cX11_worth 62 = .ok (.iload_n 3, 1) := by decide +kernel
theorem dX11_worth_63 : decode cX11_worth 63 = .ok (.iload 4, 2) := by decide +kernel
theorem dX11_worth_65 : decode cX11_worth 65 = .ok (.invokevirtual 225, 3) := by decide +kernel
theorem dX11_worth_68 : decode cX11_worth 68 = .ok (.fstore 6, 2) := by decide +kernel
theorem dX11_worth_70 : decode cX11_worth 70 = .ok (.iload_n 1, 1) := by decide +kernel
theorem dX11_worth_71 : decode cX11_worth 71 = .ok (.ifCond .ne 27, 3) := by decide +kernel
theorem dX11_worth_74 : decode cX11_worth 74 = .ok (.aload_n 0, 1) := by decide +kernel
theorem dX11_worth_75 : decode cX11_worth 75 = .ok (.iconst 1, 1) := by decide +kernel
theorem dX11_worth_76 : decode cX11_worth 76 = .ok (.iload_n 2, 1) := by decide +kernel
theorem dX11_worth_77 : decode cX11_worth 77 = .ok (.ishl, 1) := by decide +kernel
theorem dX11_worth_78 : decode cX11_worth 78 = .ok (.putfield 124, 3) := by decide +kernel
theorem dX11_worth_81 : decode cX11_worth 81 = .ok (.aload_n 0, 1) := by decide +kernel
theorem dX11_worth_82 : decode cX11_worth 82 = .ok (.iload_n 3, 1) := by decide +kernel
theorem dX11_worth_83 : decode cX11_worth 83 = .ok (.iload 4, 2) := by decide +kernel
theorem dX11_worth_85 : decode cX11_worth 85 = .ok (.invokevirtual 225, 3) := by decide +kernel
theorem dX11_worth_88 : decode cX11_worth 88 = .ok (.fstore 7, 2) := by decide +kernel
theorem dX11_worth_90 : decode cX11_worth 90 = .ok (.aload_n 0, 1) := by decide +kernel
theorem dX11_worth_91 : decode cX11_worth 91 = .ok (.iconst 0, 1) := by decide +kernel
theorem dX11_worth_92 : decode cX11_worth 92 = .ok (.putfield 124, 3) := by decide +kernel
theorem dX11_worth_95 : decode cX11_worth 95 = .ok (.goto 49, 3) := by decide +kernel
theorem dX11_worth_98 : decode cX11_worth 98 = .ok (.iload_n 1, 1) := by decide +kernel
theorem dX11_worth_99 : decode cX11_worth 99 = .ok (.iconst 1, 1) := by decide +kernel
theorem dX11_worth_100 : decode cX11_worth 100 = .ok (.if_icmp .ne 7, 3) := by decide +kernel
theorem dX11_worth_103 : decode cX11_worth 103 = .ok (.iconst 0, 1) := by decide +kernel
theorem dX11_worth_104 : decode cX11_worth 104 = .ok (.goto 7, 3) := by decide +kernel
theorem dX11_worth_107 : decode cX11_worth 107 = .ok (.bipush 61, 2) := by decide +kernel
theorem dX11_worth_109 : decode cX11_worth 109 = .ok (.iload_n 2, 1) := by decide +kernel
theorem dX11_worth_110 : decode cX11_worth 110 = .ok (.iadd, 1) := by decide +kernel
theorem dX11_worth_111 : decode cX11_worth 111 = .ok (.istore 8, 2) := by decide +kernel
theorem dX11_worth_113 : decode cX11_worth 113 = .ok (.aload_n 0, 1) := by decide +kernel
theorem dX11_worth_114 : decode cX11_worth 114 = .ok (.getfield 11, 3) := by decide +kernel
theorem dX11_worth_117 : decode cX11_worth 117 = .ok (.iload 8, 2) := by decide +kernel
theorem dX11_worth_119 : decode cX11_worth 119 = .ok (.dup2, 1) := by decide +kernel
theorem dX11_worth_120 : decode cX11_worth 120 = .ok (.iaload, 1) := by decide +kernel
theorem dX11_worth_121 : decode cX11_worth 121 = .ok (.iconst 1, 1) := by decide +kernel
theorem dX11_worth_122 : decode cX11_worth 122 = .ok (.iadd, 1) := by decide +kernel
theorem dX11_worth_123 : decode cX11_worth 123 = .ok (.iastore, 1) := by decide +kernel
theorem dX11_worth_124 : decode cX11_worth 124 = .ok (.aload_n 0, 1) := by decide +kernel
theorem dX11_worth_125 : decode cX11_worth 125 = .ok (.iload_n 3, 1) := by decide +kernel
theorem dX11_worth_126 : decode cX11_worth 126 = .ok (.iload 4, 2) := by decide +kernel
theorem dX11_worth_128 : decode cX11_worth 128 = .ok (.invokevirtual 225, 3) := by decide +kernel
theorem dX11_worth_131 : decode cX11_worth 131 = .ok (.fstore 7, 2) := by decide +kernel
theorem dX11_worth_133 : decode cX11_worth 133 = .ok (.aload_n 0, 1) := by decide +kernel
theorem dX11_worth_134 : decode cX11_worth 134 = .ok (.getfield 11, 3) := by decide +kernel
theorem dX11_worth_137 : decode cX11_worth 137 = .ok (.iload 8, 2) := by decide +kernel
theorem dX11_worth_139 : decode cX11_worth 139 = .ok (.dup2, 1) := by decide +kernel
theorem dX11_worth_140 : decode cX11_worth 140 = .ok (.iaload, 1) := by decide +kernel
theorem dX11_worth_141 : decode cX11_worth 141 = .ok (.iconst 1, 1) := by decide +kernel
theorem dX11_worth_142 : decode cX11_worth 142 = .ok (.isub, 1) := by decide +kernel
theorem dX11_worth_143 : decode cX11_worth 143 = .ok (.iastore, 1) := by decide +kernel
theorem dX11_worth_144 : decode cX11_worth 144 = .ok (.iload_n 1, 1) := by decide +kernel
theorem dX11_worth_145 : decode cX11_worth 145 = .ok (.iconst 1, 1) := by decide +kernel
theorem dX11_worth_146 : decode cX11_worth 146 = .ok (.if_icmp .ne 11, 3) := by decide +kernel
theorem dX11_worth_149 : decode cX11_worth 149 = .ok (.fload 7, 2) := by decide +kernel
theorem dX11_worth_151 : decode cX11_worth 151 = .ok (.fload 6, 2) := by decide +kernel
theorem dX11_worth_153 : decode cX11_worth 153 = .ok (.fsub, 1) := by decide +kernel
theorem dX11_worth_154 : decode cX11_worth 154 = .ok (.goto 8, 3) := by decide +kernel
theorem dX11_worth_157 : decode cX11_worth 157 = .ok (.fload 6, 2) := by decide +kernel
theorem dX11_worth_159 : decode cX11_worth 159 = .ok (.fload 7, 2) := by decide +kernel
theorem dX11_worth_161 : decode cX11_worth 161 = .ok (.fsub, 1) := by decide +kernel
theorem dX11_worth_162 : decode cX11_worth 162 = .ok (.invokestatic 201, 3) := by decide +kernel
theorem dX11_worth_165 : decode cX11_worth 165 = .ok (.lreturn, 1) := by decide +kernel
theorem dX11_isRecord_0 : decode cX11_isRecord 0 = .ok (.iload_n 0, 1) := by decide +kernel
theorem dX11_isRecord_1 : decode cX11_isRecord 1 = .ok (.i2l, 1) := by decide +kernel
theorem dX11_isRecord_2 : decode cX11_isRecord 2 = .ok (.lconst 0, 1) := by decide +kernel
theorem dX11_isRecord_3 : decode cX11_isRecord 3 = .ok (.ldc2_w 71, 3) := by decide +kernel
theorem dX11_isRecord_6 : decode cX11_isRecord 6 = .ok (.invokestatic 65, 3) := by decide +kernel
theorem dX11_isRecord_9 : decode cX11_isRecord 9 = .ok (.ireturn, 1) := by decide +kernel
theorem dX11_record_0 : decode cX11_record 0 = .ok (.iload_n 1, 1) := by decide +kernel
theorem dX11_record_1 : decode cX11_record 1 = .ok (.invokestatic 229, 3) := by decide +kernel
theorem dX11_record_4 : decode cX11_record 4 = .ok (.ifCond .ne 5, 3) := by decide +kernel
theorem dX11_record_7 : decode cX11_record 7 = .ok (.iconst (-1), 1) := by decide +kernel
theorem dX11_record_8 : decode cX11_record 8 = .ok (.ireturn, 1) := by decide +kernel
theorem dX11_record_9 : decode cX11_record 9 = .ok (.iload_n 2, 1) := by decide +kernel
theorem dX11_record_10 : decode cX11_record 10 = .ok (.iconst (-1), 1) := by decide +kernel
theorem dX11_record_11 : decode cX11_record 11 = .ok (.if_icmp .ne 12, 3) := by decide +kernel
theorem dX11_record_14 : decode cX11_record 14 = .ok (.aload_n 0, 1) := by decide +kernel
theorem dX11_record_15 : decode cX11_record 15 = .ok (.getfield 18, 3) := by decide +kernel
theorem dX11_record_18 : decode cX11_record 18 = .ok (.iload_n 1, 1) := by decide +kernel
theorem dX11_record_19 : decode cX11_record 19 = .ok (.iconst 0, 1) := by decide +kernel
theorem dX11_record_20 : decode cX11_record 20 = .ok (.iastore, 1) := by decide +kernel
theorem dX11_record_21 : decode cX11_record 21 = .ok (.iconst 0, 1) := by decide +kernel
theorem dX11_record_22 : decode cX11_record 22 = .ok (.ireturn, 1) := by decide +kernel
theorem dX11_record_23 : decode cX11_record 23 = .ok (.iload_n 2, 1) := by decide +kernel
theorem dX11_record_24 : decode cX11_record 24 = .ok (.i2l, 1) := by decide +kernel
theorem dX11_record_25 : decode cX11_record 25 = .ok (.lconst 0, 1) := by decide +kernel
theorem dX11_record_26 : decode cX11_record 26 = .ok (.ldc2_w 75, 3) := by decide +kernel
theorem dX11_record_29 : decode cX11_record 29 = .ok (.invokestatic 65, 3) := by decide +kernel
theorem dX11_record_32 : decode cX11_record 32 = .ok (.ifCond .ne 6, 3) := by decide +kernel
theorem dX11_record_35 : decode cX11_record 35 = .ok (.bipush (-2), 2) := by decide +kernel
theorem dX11_record_37 : decode cX11_record 37 = .ok (.ireturn, 1) := by decide +kernel
theorem dX11_record_38 : decode cX11_record 38 = .ok (.aload_n 0, 1) := by decide +kernel
theorem dX11_record_39 : decode cX11_record 39 = .ok (.getfield 18, 3) := by decide +kernel
theorem dX11_record_42 : decode cX11_record 42 = .ok (.iload_n 1, 1) := by decide +kernel
theorem dX11_record_43 : decode cX11_record 43 = .ok (.iaload, 1) := by decide +kernel
theorem dX11_record_44 : decode cX11_record 44 = .ok (.bipush 24, 2) := by decide +kernel
theorem dX11_record_46 : decode cX11_record 46 = .ok (.if_icmp .ne 6, 3) := by decide +kernel
theorem dX11_record_49 : decode cX11_record 49 = .ok (.bipush (-4), 2) := by decide +kernel
theorem dX11_record_51 : decode cX11_record 51 = .ok (.ireturn, 1) := by decide +kernel
theorem dX11_record_52 : decode cX11_record 52 = .ok (.aload_n 0, 1) := by decide +kernel
theorem dX11_record_53 : decode cX11_record 53 = .ok (.getfield 21, 3) := by decide +kernel
theorem dX11_record_56 : decode cX11_record 56 = .ok (.bipush 24, 2) := by decide +kernel
theorem dX11_record_58 : decode cX11_record 58 = .ok (.iload_n 1, 1) := by decide +kernel
theorem dX11_record_59 : decode cX11_record 59 = .ok (.imul, 1) := by decide +kernel
theorem dX11_record_60 : decode cX11_record 60 = .ok (.aload_n 0, 1) := by decide +kernel
theorem dX11_record_61 : decode cX11_record 61 = .ok (.getfield 18, 3) := by decide +kernel
theorem dX11_record_64 : decode cX11_record 64 = .ok (.iload_n 1, 1) := by decide +kernel
theorem dX11_record_65 : decode cX11_record 65 = .ok (.iaload, 1) := by decide +kernel
theorem dX11_record_66 : decode cX11_record 66 = .ok (.iadd, 1) := by decide +kernel
theorem dX11_record_67 : decode cX11_record 67 = .ok (.iload_n 2, 1) := by decide +kernel
theorem dX11_record_68 : decode cX11_record 68 = .ok (.iastore, 1) := by decide +kernel
theorem dX11_record_69 : decode cX11_record 69 = .ok (.aload_n 0, 1) := by decide +kernel
theorem dX11_record_70 : decode cX11_record 70 = .ok (.getfield 18, 3) := by decide +kernel
theorem dX11_record_73 : decode cX11_record 73 = .ok (.iload_n 1, 1) := by decide +kernel
theorem dX11_record_74 : decode cX11_record 74 = .ok (.dup2, 1) := by decide +kernel
theorem dX11_record_75 : decode cX11_record 75 = .ok (.iaload, 1) := by decide +kernel
theorem dX11_record_76 : decode cX11_record 76 = .ok (.iconst 1, 1) := by decide +kernel
theorem dX11_record_77 : decode cX11_record 77 = .ok (.iadd, 1) := by decide +kernel
theorem dX11_record_78 : decode cX11_record 78 = .ok (.iastore, 1) := by decide +kernel
theorem dX11_record_79 : decode cX11_record 79 = .ok (.aload_n 0, 1) := by decide +kernel
theorem dX11_record_80 : decode cX11_record 80 = .ok (.getfield 18, 3) := by decide +kernel
theorem dX11_record_83 : decode cX11_record 83 = .ok (.iload_n 1, 1) := by decide +kernel
theorem dX11_record_84 : decode cX11_record 84 = .ok (.iaload, 1) := by decide +kernel
theorem dX11_record_85 : decode cX11_record 85 = .ok (.ireturn, 1) := by decide +kernel
theorem dX11_nearest_0 : decode cX11_nearest 0 = .ok (.aload_n 0, 1) := by decide +kernel
theorem dX11_nearest_1 : decode cX11_nearest 1 = .ok (.getfield 21, 3) := by decide +kernel
theorem dX11_nearest_4 : decode cX11_nearest 4 = .ok (.bipush 24, 2) := by decide +kernel
theorem dX11_nearest_6 : decode cX11_nearest 6 = .ok (.iload_n 1, 1) := by decide +kernel
theorem dX11_nearest_7 : decode cX11_nearest 7 = .ok (.imul, 1) := by decide +kernel
theorem dX11_nearest_8 : decode cX11_nearest 8 = .ok (.iload_n 2, 1) := by decide +kernel
theorem dX11_nearest_9 : decode cX11_nearest 9 = .ok (.iadd, 1) := by decide +kernel
theorem dX11_nearest_10 : decode cX11_nearest 10 = .ok (.iaload, 1) := by decide +kernel
theorem dX11_nearest_11 : decode cX11_nearest 11 = .ok (.istore_n 3, 1) := by decide +kernel
theorem dX11_nearest_12 : decode cX11_nearest 12 = .ok (.iconst 4, 1) := by decide +kernel
theorem dX11_nearest_13 : decode cX11_nearest 13 = .ok (.iconst 3, 1) := by decide +kernel
theorem dX11_nearest_14 : decode cX11_nearest 14 = .ok (.iload_n 2, 1) := by decide +kernel
theorem dX11_nearest_15 : decode cX11_nearest 15 = .ok (.bipush 12, 2) := by decide +kernel
theorem dX11_nearest_17 : decode cX11_nearest 17 = .ok (.irem, 1) := by decide +kernel
theorem dX11_nearest_18 : decode cX11_nearest 18 = .ok (.imul, 1) := by decide +kernel
theorem dX11_nearest_19 : decode cX11_nearest 19 = .ok (.iadd, 1) := by decide +kernel
theorem dX11_nearest_20 : decode cX11_nearest 20 = .ok (.istore 4, 2) := by decide +kernel
theorem dX11_nearest_22 : decode cX11_nearest 22 = .ok (.iconst 0, 1) := by decide +kernel
theorem dX11_nearest_23 : decode cX11_nearest 23 = .ok (.istore 5, 2) := by decide +kernel
theorem dX11_nearest_25 : decode cX11_nearest 25 = .ok (.iconst 1, 1) := by decide +kernel
theorem dX11_nearest_26 : decode cX11_nearest 26 = .ok (.istore 6, 2) := by decide +kernel
theorem dX11_nearest_28 : decode cX11_nearest 28 = .ok (.iload 6, 2) := by decide +kernel
theorem dX11_nearest_30 : decode cX11_nearest 30 = .ok (.iconst 3, 1) := by decide +kernel
theorem dX11_nearest_31 : decode cX11_nearest 31 = .ok (.if_icmp .ge 46, 3) := by decide +kernel
theorem dX11_nearest_34 : decode cX11_nearest 34 = .ok (.aload_n 0, 1) := by decide +kernel
theorem dX11_nearest_35 : decode cX11_nearest 35 = .ok (.getfield 11, 3) := by decide +kernel
theorem dX11_nearest_38 : decode cX11_nearest 38 = .ok (.iload 4, 2) := by decide +kernel
theorem dX11_nearest_40 : decode cX11_nearest 40 = .ok (.iload 6, 2) := by decide +kernel
theorem dX11_nearest_42 : decode cX11_nearest 42 = .ok (.iadd, 1) := by decide +kernel
theorem dX11_nearest_43 : decode cX11_nearest 43 = .ok (.iaload, 1) := by decide +kernel
theorem dX11_nearest_44 : decode cX11_nearest 44 = .ok (.iload_n 3, 1) := by decide +kernel
theorem dX11_nearest_45 : decode cX11_nearest 45 = .ok (.isub, 1) := by decide +kernel
theorem dX11_nearest_46 : decode cX11_nearest 46 = .ok (.invokestatic 232, 3) := by decide +kernel
theorem dX11_nearest_49 : decode cX11_nearest 49 = .ok (.aload_n 0, 1) := by decide +kernel
theorem dX11_nearest_50 : decode cX11_nearest 50 = .ok (.getfield 11, 3) := by decide +kernel
theorem dX11_nearest_53 : decode cX11_nearest 53 = .ok (.iload 4, 2) := by decide +kernel
theorem dX11_nearest_55 : decode cX11_nearest 55 = .ok (.iload 5, 2) := by decide +kernel
theorem dX11_nearest_57 : decode cX11_nearest 57 = .ok (.iadd, 1) := by decide +kernel
theorem dX11_nearest_58 : decode cX11_nearest 58 = .ok (.iaload, 1) := by decide +kernel
theorem dX11_nearest_59 : decode cX11_nearest 59 = .ok (.iload_n 3, 1) := by decide +kernel
theorem dX11_nearest_60 : decode cX11_nearest 60 = .ok (.isub, 1) := by decide +kernel
theorem dX11_nearest_61 : decode cX11_nearest 61 = .ok (.invokestatic 232, 3) := by decide +kernel
theorem dX11_nearest_64 : decode cX11_nearest 64 = .ok (.if_icmp .ge 7, 3) := by decide +kernel
theorem dX11_nearest_67 : decode cX11_nearest 67 = .ok (.iload 6, 2) := by decide +kernel
theorem dX11_nearest_69 : decode cX11_nearest 69 = .ok (.istore 5, 2) := by decide +kernel
theorem dX11_nearest_71 : decode cX11_nearest 71 = .ok (.iinc 6 1, 3) := by decide +kernel
theorem dX11_nearest_74 : decode cX11_nearest 74 = .ok (.goto (-46), 3) := by decide +kernel
theorem dX11_nearest_77 : decode cX11_nearest 77 = .ok (.iload 5, 2) := by decide +kernel
theorem dX11_nearest_79 : decode cX11_nearest 79 = .ok (.ireturn, 1) := by decide +kernel
theorem dX11_isReplay_0 : decode cX11_isReplay 0 = .ok (.iload_n 1, 1) := by decide +kernel
theorem dX11_isReplay_1 : decode cX11_isReplay 1 = .ok (.invokestatic 229, 3) := by decide +kernel
theorem dX11_isReplay_4 : decode cX11_isReplay 4 = .ok (.ifCond .eq 27, 3) := by decide +kernel
theorem dX11_isReplay_7 : decode cX11_isReplay 7 = .ok (.aload_n 0, 1) := by decide +kernel
theorem dX11_isReplay_8 : decode cX11_isReplay 8 = .ok (.iload_n 2, 1) := by decide +kernel
theorem dX11_isReplay_9 : decode cX11_isReplay 9 = .ok (.invokevirtual 169, 3) := by decide +kernel
theorem dX11_isReplay_12 : decode cX11_isReplay 12 = .ok (.ifCond .eq 19, 3) := by decide +kernel
theorem dX11_isReplay_15 : decode cX11_isReplay 15 = .ok (.iload_n 3, 1) := by decide +kernel
theorem dX11_isReplay_16 : decode cX11_isReplay 16 = .ok (.i2l, 1) := by decide +kernel
theorem dX11_isReplay_17 : decode cX11_isReplay 17 = .ok (.lconst 0, 1) := by decide +kernel
theorem dX11_isReplay_18 : decode cX11_isReplay 18 = .ok (.ldc2_w 208, 3) := by decide +kernel
theorem dX11_isReplay_21 : decode cX11_isReplay 21 = .ok (.invokestatic 65, 3) := by decide +kernel
theorem dX11_isReplay_24 : decode cX11_isReplay 24 = .ok (.ifCond .eq 7, 3) := by decide +kernel
theorem dX11_isReplay_27 : decode cX11_isReplay 27 = .ok (.iconst 1, 1) := by decide +kernel
theorem dX11_isReplay_28 : decode cX11_isReplay 28 = .ok (.goto 4, 3) := by decide +kernel
theorem dX11_isReplay_31 : decode cX11_isReplay 31 = .ok (.iconst 0, 1) := by decide +kernel
theorem dX11_isReplay_32 : decode cX11_isReplay 32 = .ok (.ireturn, 1) := by decide +kernel
theorem dX11_replays_0 : decode cX11_replays 0 = .ok (.aload_n 0, 1) := by decide +kernel
theorem dX11_replays_1 : decode cX11_replays 1 = .ok (.iconst 0, 1) := by decide +kernel
theorem dX11_replays_2 : decode cX11_replays 2 = .ok (.invokevirtual 197, 3) := by decide +kernel
theorem dX11_replays_5 : decode cX11_replays 5 = .ok (.aload_n 0, 1) := by decide +kernel
theorem dX11_replays_6 : decode cX11_replays 6 = .ok (.iconst 0, 1) := by decide +kernel
theorem dX11_replays_7 : decode cX11_replays 7 = .ok (.putfield 235, 3) := by decide +kernel
theorem dX11_replays_10 : decode cX11_replays 10 = .ok (.aload_n 0, 1) := by decide +kernel
theorem dX11_replays_11 : decode cX11_replays 11 = .ok (.iconst 0, 1) := by decide +kernel
theorem dX11_replays_12 : decode cX11_replays 12 = .ok (.putfield 238, 3) := by decide +kernel
theorem dX11_replays_15 : decode cX11_replays 15 = .ok (.aload_n 0, 1) := by decide +kernel
theorem dX11_replays_16 : decode cX11_replays 16 = .ok (.iconst 0, 1) := by decide +kernel
theorem dX11_replays_17 : decode cX11_replays 17 = .ok (.putfield 241, 3) := by decide +kernel
theorem dX11_replays_20 : decode cX11_replays 20 = .ok (.aload_n 0, 1) := by decide +kernel
theorem dX11_replays_21 : decode cX11_replays 21 = .ok (.iconst 0, 1) := by decide +kernel
theorem dX11_replays_22 : decode cX11_replays 22 = .ok (.putfield 244, 3) := by decide +kernel
theorem dX11_replays_25 : decode cX11_replays 25 = .ok (.aload_n 0, 1) := by decide +kernel
theorem dX11_replays_26 : decode cX11_replays 26 = .ok (.iconst 0, 1) := by decide +kernel
theorem dX11_replays_27 : decode cX11_replays 27 = .ok (.putfield 247, 3) := by decide +kernel
theorem dX11_replays_30 : decode cX11_replays 30 = .ok (.aload_n 0, 1) := by decide +kernel
theorem dX11_replays_31 : decode cX11_replays 31 = .ok (.iconst 0, 1) := by decide +kernel
theorem dX11_replays_32 : decode cX11_replays 32 = .ok (.putfield 250, 3) := by decide +kernel
theorem dX11_replays_35 : decode cX11_replays 35 = .ok (.aload_n 0, 1) := by decide +kernel
theorem dX11_replays_36 : decode cX11_replays 36 = .ok (.iload_n 2, 1) := by decide +kernel
theorem dX11_replays_37 : decode cX11_replays 37 = .ok (.putfield 253, 3) := by decide +kernel
theorem dX11_replays_40 : decode cX11_replays 40 = .ok (.aload_n 0, 1) := by decide +kernel
theorem dX11_replays_41 : decode cX11_replays 41 = .ok (.getfield 40, 3) := by decide +kernel
theorem dX11_replays_44 : decode cX11_replays 44 = .ok (.iconst 0, 1) := by decide +kernel
theorem dX11_replays_45 : decode cX11_replays 45 = .ok (.iload_n 2, 1) := by decide +kernel
theorem dX11_replays_46 : decode cX11_replays 46 = .ok (.iastore, 1) := by decide +kernel
theorem dX11_replays_47 : decode cX11_replays 47 = .ok (.iconst 0, 1) := by decide +kernel
theorem dX11_replays_48 : decode cX11_replays 48 = .ok (.istore 6, 2) := by decide +kernel
theorem dX11_replays_50 : decode cX11_replays 50 = .ok (.iload 6, 2) := by decide +kernel
theorem dX11_replays_52 : decode cX11_replays 52 = .ok (.iload 4, 2) := by decide +kernel
theorem dX11_replays_54 : decode cX11_replays 54 = .ok (.if_icmp .ge 227, 3) := by decide +kernel
theorem dX11_replays_57 : decode cX11_replays 57 = .ok (.iload 6, 2) := by decide +kernel
theorem dX11_replays_59 : decode cX11_replays 59 = .ok (.bipush 12, 2) := by decide +kernel
theorem dX11_replays_61 : decode cX11_replays 61 = .ok (.irem, 1) := by decide +kernel
theorem dX11_replays_62 : decode cX11_replays 62 = .ok (.istore 7, 2) := by decide +kernel
theorem dX11_replays_64 : decode cX11_replays 64 = .ok (.aload_n 0, 1) := by decide +kernel
theorem dX11_replays_65 : decode cX11_replays 65 = .ok (.getfield 40, 3) := by decide +kernel
theorem dX11_replays_68 : decode cX11_replays 68 = .ok (.iload 6, 2) := by decide +kernel
theorem dX11_replays_70 : decode cX11_replays 70 = .ok (.iaload, 1) := by decide +kernel
theorem dX11_replays_71 : decode cX11_replays 71 = .ok (.istore 8, 2) := by decide +kernel
theorem dX11_replays_73 : decode cX11_replays 73 = .ok (.iload_n 3, 1) := by decide +kernel
theorem dX11_replays_74 : decode cX11_replays 74 = .ok (.ifCond .le 7, 3) := by decide +kernel
theorem dX11_replays_77 : decode cX11_replays 77 = .ok (.iload_n 3, 1) := by decide +kernel
theorem dX11_replays_78 : decode cX11_replays 78 = .ok (.goto 35, 3) := by decide +kernel
theorem dX11_replays_81 : decode cX11_replays 81 = .ok (.aload_n 0, 1) := by decide +kernel
theorem dX11_replays_82 : decode cX11_replays 82 = .ok (.iload 7, 2) := by decide +kernel
theorem dX11_replays_84 : decode cX11_replays 84 = .ok (.invokevirtual 205, 3) := by decide +kernel
theorem dX11_replays_87 : decode cX11_replays 87 = .ok (.ifCond .eq 25, 3) := by decide +kernel
theorem dX11_replays_90 : decode cX11_replays 90 = .ok (.aload_n 0, 1) := by decide +kernel
theorem dX11_replays_91 : decode cX11_replays 91 = .ok (.getfield 28, 3) := by decide +kernel
theorem dX11_replays_94 : decode cX11_replays 94 = .ok (.iload 7, 2) := by decide +kernel
theorem dX11_replays_96 : decode cX11_replays 96 = .ok (.iload 8, 2) := by decide +kernel
theorem dX11_replays_98 : decode cX11_replays 98 = .ok (.aload_n 0, 1) := by decide +kernel
theorem dX11_replays_99 : decode cX11_replays 99 = .ok (.iload_n 1, 1) := by decide +kernel
theorem dX11_replays_100 : decode cX11_replays 100 = .ok (.iload 6, 2) := by decide +kernel
theorem dX11_replays_102 : decode cX11_replays 102 = .ok (.invokevirtual 256, 3) := by decide +kernel
theorem dX11_replays_105 : decode cX11_replays 105 = .ok (.invokestatic 176, 3) := by decide +kernel
theorem dX11_replays_108 : decode cX11_replays 108 = .ok (.iaload, 1) := by decide +kernel
theorem dX11_replays_109 : decode cX11_replays 109 = .ok (.goto 4, 3) := by decide +kernel
theorem dX11_replays_112 : decode cX11_replays 112 = .ok (.iconst 0, 1) := by decide +kernel
theorem dX11_replays_113 : decode cX11_replays 113 = .ok (.istore 9, 2) := by decide +kernel
theorem dX11_replays_115 : decode cX11_replays 115 = .ok (.aload_n 0, 1) := by decide +kernel
theorem dX11_replays_116 : decode cX11_replays 116 = .ok (.iload 7, 2) := by decide +kernel
theorem dX11_replays_118 : decode cX11_replays 118 = .ok (.iload 8, 2) := by decide +kernel
theorem dX11_replays_120 : decode cX11_replays 120 = .ok (.aload_n 0, 1) := by decide +kernel
theorem dX11_replays_121 : decode cX11_replays 121 = .ok (.getfield 21, 3) := by decide +kernel
theorem dX11_replays_124 : decode cX11_replays 124 = .ok (.bipush 24, 2) := by decide +kernel
theorem dX11_replays_126 : decode cX11_replays 126 = .ok (.iload_n 1, 1) := by decide +kernel
theorem dX11_replays_127 : decode cX11_replays 127 = .ok (.imul, 1) := by decide +kernel
theorem dX11_replays_128 : decode cX11_replays 128 = .ok (.iload 6, 2) := by decide +kernel
theorem dX11_replays_130 : decode cX11_replays 130 = .ok (.iadd, 1) := by decide +kernel
theorem dX11_replays_131 : decode cX11_replays 131 = .ok (.iaload, 1) := by decide +kernel
theorem dX11_replays_132 : decode cX11_replays 132 = .ok (.iload 9, 2) := by decide +kernel
theorem dX11_replays_134 : decode cX11_replays 134 = .ok (.invokevirtual 172, 3) := by decide +kernel
theorem dX11_replays_137 : decode cX11_replays 137 = .ok (.aload_n 0, 1) := by decide +kernel
theorem dX11_replays_138 : decode cX11_replays 138 = .ok (.dup, 1) := by decide +kernel
theorem dX11_replays_139 : decode cX11_replays 139 = .ok (.getfield 235, 3) := by decide +kernel
theorem dX11_replays_142 : decode cX11_replays 142 = .ok (.aload_n 0, 1) := by decide +kernel
theorem dX11_replays_143 : decode cX11_replays 143 = .ok (.getfield 166, 3) := by decide +kernel
theorem dX11_replays_146 : decode cX11_replays 146 = .ok (.iadd, 1) := by decide +kernel
theorem dX11_replays_147 : decode cX11_replays 147 = .ok (.putfield 235, 3) := by decide +kernel
theorem dX11_replays_150 : decode cX11_replays 150 = .ok (.aload_n 0, 1) := by decide +kernel
theorem dX11_replays_151 : decode cX11_replays 151 = .ok (.dup, 1) := by decide +kernel
theorem dX11_replays_152 : decode cX11_replays 152 = .ok (.getfield 238, 3) := by decide +kernel
theorem dX11_replays_155 : decode cX11_replays 155 = .ok (.aload_n 0, 1) := by decide +kernel
theorem dX11_replays_156 : decode cX11_replays 156 = .ok (.getfield 160, 3) := by decide +kernel
theorem dX11_replays_159 : decode cX11_replays 159 = .ok (.iadd, 1) := by decide +kernel
theorem dX11_replays_160 : decode cX11_replays 160 = .ok (.putfield 238, 3) := by decide +kernel
theorem dX11_replays_163 : decode cX11_replays 163 = .ok (.aload_n 0, 1) := by decide +kernel
theorem dX11_replays_164 : decode cX11_replays 164 = .ok (.dup, 1) := by decide +kernel
theorem dX11_replays_165 : decode cX11_replays 165 = .ok (.getfield 241, 3) := by decide +kernel
theorem dX11_replays_168 : decode cX11_replays 168 = .ok (.aload_n 0, 1) := by decide +kernel
theorem dX11_replays_169 : decode cX11_replays 169 = .ok (.getfield 151, 3) := by decide +kernel
theorem dX11_replays_172 : decode cX11_replays 172 = .ok (.iadd, 1) := by decide +kernel
theorem dX11_replays_173 : decode cX11_replays 173 = .ok (.putfield 241, 3) := by decide +kernel
theorem dX11_replays_176 : decode cX11_replays 176 = .ok (.aload_n 0, 1) := by decide +kernel
theorem dX11_replays_177 : decode cX11_replays 177 = .ok (.dup, 1) := by decide +kernel
theorem dX11_replays_178 : decode cX11_replays 178 = .ok (.getfield 244, 3) := by decide +kernel
theorem dX11_replays_181 : decode cX11_replays 181 = .ok (.aload_n 0, 1) := by decide +kernel
theorem dX11_replays_182 : decode cX11_replays 182 = .ok (.getfield 157, 3) := by decide +kernel
theorem dX11_replays_185 : decode cX11_replays 185 = .ok (.iadd, 1) := by decide +kernel
theorem dX11_replays_186 : decode cX11_replays 186 = .ok (.putfield 244, 3) := by decide +kernel
theorem dX11_replays_189 : decode cX11_replays 189 = .ok (.aload_n 0, 1) := by decide +kernel
theorem dX11_replays_190 : decode cX11_replays 190 = .ok (.getfield 40, 3) := by decide +kernel
theorem dX11_replays_193 : decode cX11_replays 193 = .ok (.iload 6, 2) := by decide +kernel
theorem dX11_replays_195 : decode cX11_replays 195 = .ok (.iconst 1, 1) := by decide +kernel
theorem dX11_replays_196 : decode cX11_replays 196 = .ok (.iadd, 1) := by decide +kernel
theorem dX11_replays_197 : decode cX11_replays 197 = .ok (.aload_n 0, 1) := by decide +kernel
theorem dX11_replays_198 : decode cX11_replays 198 = .ok (.getfield 163, 3) := by decide +kernel
theorem dX11_replays_201 : decode cX11_replays 201 = .ok (.iastore, 1) := by decide +kernel
theorem dX11_replays_202 : decode cX11_replays 202 = .ok (.aload_n 0, 1) := by decide +kernel
theorem dX11_replays_203 : decode cX11_replays 203 = .ok (.aload_n 0, 1) := by decide +kernel
theorem dX11_replays_204 : decode cX11_replays 204 = .ok (.getfield 253, 3) := by decide +kernel
theorem dX11_replays_207 : decode cX11_replays 207 = .ok (.aload_n 0, 1) := by decide +kernel
theorem dX11_replays_208 : decode cX11_replays 208 = .ok (.getfield 163, 3) := by decide +kernel
theorem dX11_replays_211 : decode cX11_replays 211 = .ok (.invokestatic 136, 3) := by decide +kernel
theorem dX11_replays_214 : decode cX11_replays 214 = .ok (.putfield 253, 3) := by decide +kernel
theorem dX11_replays_217 : decode cX11_replays 217 = .ok (.iload 5, 2) := by decide +kernel
theorem dX11_replays_219 : decode cX11_replays 219 = .ok (.ifCond .lt 56, 3) := by decide +kernel
theorem dX11_replays_222 : decode cX11_replays 222 = .ok (.aload_n 0, 1) := by decide +kernel
theorem dX11_replays_223 : decode cX11_replays 223 = .ok (.iload 5, 2) := by decide +kernel
theorem dX11_replays_225 : decode cX11_replays 225 = .ok (.iload 7, 2) := by decide +kernel
theorem dX11_replays_227 : decode cX11_replays 227 = .ok (.invokevirtual 130, 3) := by decide +kernel
theorem dX11_replays_230 : decode cX11_replays 230 = .ok (.ifCond .le 45, 3) := by decide +kernel
theorem dX11_replays_233 : decode cX11_replays 233 = .ok (.aload_n 0, 1) := by decide +kernel
theorem dX11_replays_234 : decode cX11_replays 234 = .ok (.dup, 1) := by decide +kernel
theorem dX11_replays_235 : decode cX11_replays 235 = .ok (.getfield 250, 3) := by decide +kernel
theorem dX11_replays_238 : decode cX11_replays 238 = .ok (.iconst 1, 1) := by decide +kernel
theorem dX11_replays_239 : decode cX11_replays 239 = .ok (.iadd, 1) := by decide +kernel
theorem dX11_replays_240 : decode cX11_replays 240 = .ok (.putfield 250, 3) := by decide +kernel
theorem dX11_replays_243 : decode cX11_replays 243 = .ok (.aload_n 0, 1) := by decide +kernel
theorem dX11_replays_244 : decode cX11_replays 244 = .ok (.dup, 1) := by decide +kernel
theorem dX11_replays_245 : decode cX11_replays 245 = .ok (.getfield 247, 3) := by decide +kernel
theorem dX11_replays_248 : decode cX11_replays 248 = .ok (.aload_n 0, 1) := by decide +kernel
theorem dX11_replays_249 : decode cX11_replays 249 = .ok (.getfield 31, 3) := by decide +kernel
theorem dX11_replays_252 : decode cX11_replays 252 = .ok (.iload 5, 2) := by decide +kernel
theorem dX11_replays_254 : decode cX11_replays 254 = .ok (.iaload, 1) := by decide +kernel
theorem dX11_replays_255 : decode cX11_replays 255 = .ok (.aload_n 0, 1) := by decide +kernel
theorem dX11_replays_256 : decode cX11_replays 256 = .ok (.iload 5, 2) := by decide +kernel
theorem dX11_replays_258 : decode cX11_replays 258 = .ok (.iload 7, 2) := by decide +kernel
theorem dX11_replays_260 : decode cX11_replays 260 = .ok (.invokevirtual 130, 3) := by decide +kernel
theorem dX11_replays_263 : decode cX11_replays 263 = .ok (.if_icmp .ne 7, 3) := by decide +kernel
theorem dX11_replays_266 : decode cX11_replays 266 = .ok (.iconst 1, 1) := by decide +kernel
theorem dX11_replays_267 : decode cX11_replays 267 = .ok (.goto 4, 3) := by decide +kernel
theorem dX11_replays_270 : decode cX11_replays 270 = .ok (.iconst 0, 1) := by decide +kernel
theorem dX11_replays_271 : decode cX11_replays 271 = .ok (.iadd, 1) := by decide +kernel
theorem dX11_replays_272 : decode cX11_replays 272 = .ok (.putfield 247, 3) := by decide +kernel
theorem dX11_replays_275 : decode cX11_replays 275 = .ok (.iinc 6 1, 3) := by decide +kernel
theorem dX11_replays_278 : decode cX11_replays 278 = .ok (.goto (-228), 3) := by decide +kernel
theorem dX11_replays_281 : decode cX11_replays 281 = .ok (.return_, 1) := by decide +kernel
theorem dX11_replay_0 : decode cX11_replay 0 = .ok (.aload_n 0, 1) := by decide +kernel
theorem dX11_replay_1 : decode cX11_replay 1 = .ok (.iload_n 1, 1) := by decide +kernel
theorem dX11_replay_2 : decode cX11_replay 2 = .ok (.iload_n 2, 1) := by decide +kernel
theorem dX11_replay_3 : decode cX11_replay 3 = .ok (.iload_n 3, 1) := by decide +kernel
theorem dX11_replay_4 : decode cX11_replay 4 = .ok (.invokevirtual 259, 3) := by decide +kernel
theorem dX11_replay_7 : decode cX11_replay 7 = .ok (.ifCond .eq 33, 3) := by decide +kernel
theorem dX11_replay_10 : decode cX11_replay 10 = .ok (.iload 4, 2) := by decide +kernel
theorem dX11_replay_12 : decode cX11_replay 12 = .ok (.i2l, 1) := by decide +kernel
theorem dX11_replay_13 : decode cX11_replay 13 = .ok (.lconst 0, 1) := by decide +kernel
theorem dX11_replay_14 : decode cX11_replay 14 = .ok (.aload_n 0, 1) := by decide +kernel
theorem dX11_replay_15 : decode cX11_replay 15 = .ok (.getfield 18, 3) := by decide +kernel
theorem dX11_replay_18 : decode cX11_replay 18 = .ok (.iload_n 1, 1) := by decide +kernel
theorem dX11_replay_19 : decode cX11_replay 19 = .ok (.iaload, 1) := by decide +kernel
theorem dX11_replay_20 : decode cX11_replay 20 = .ok (.i2l, 1) := by decide +kernel
theorem dX11_replay_21 : decode cX11_replay 21 = .ok (.invokestatic 65, 3) := by decide +kernel
theorem dX11_replay_24 : decode cX11_replay 24 = .ok (.ifCond .eq 16, 3) := by decide +kernel
theorem dX11_replay_27 : decode cX11_replay 27 = .ok (.iload 5, 2) := by decide +kernel
theorem dX11_replay_29 : decode cX11_replay 29 = .ok (.i2l, 1) := by decide +kernel
theorem dX11_replay_30 : decode cX11_replay 30 = .ok (.lconst 0, 1) := by decide +kernel
theorem dX11_replay_31 : decode cX11_replay 31 = .ok (.ldc2_w 107, 3) := by decide +kernel
theorem dX11_replay_34 : decode cX11_replay 34 = .ok (.invokestatic 65, 3) := by decide +kernel
theorem dX11_replay_37 : decode cX11_replay 37 = .ok (.ifCond .ne 7, 3) := by decide +kernel
theorem dX11_replay_40 : decode cX11_replay 40 = .ok (.ldc2_w 143, 3) := by decide +kernel
theorem dX11_replay_43 : decode cX11_replay 43 = .ok (.lreturn, 1) := by decide +kernel
theorem dX11_replay_44 : decode cX11_replay 44 = .ok (.aload_n 0, 1) := by decide +kernel
theorem dX11_replay_45 : decode cX11_replay 45 = .ok (.iload_n 1, 1) := by decide +kernel
theorem dX11_replay_46 : decode cX11_replay 46 = .ok (.iload_n 2, 1) := by decide +kernel
theorem dX11_replay_47 : decode cX11_replay 47 = .ok (.iload_n 3, 1) := by decide +kernel
theorem dX11_replay_48 : decode cX11_replay 48 = .ok (.iload 4, 2) := by decide +kernel
theorem dX11_replay_50 : decode cX11_replay 50 = .ok (.iconst (-1), 1) := by decide +kernel
theorem dX11_replay_51 : decode cX11_replay 51 = .ok (.invokevirtual 263, 3) := by decide +kernel
theorem dX11_replay_54 : decode cX11_replay 54 = .ok (.iload 5, 2) := by decide +kernel
theorem dX11_replay_56 : decode cX11_replay 56 = .ok (.tableswitch 69 0 4 #[36, 45, 51, 57, 63], 36) := by decide +kernel
theorem dX11_replay_92 : decode cX11_replay 92 = .ok (.aload_n 0, 1) := by decide +kernel
theorem dX11_replay_93 : decode cX11_replay 93 = .ok (.getfield 40, 3) := by decide +kernel
theorem dX11_replay_96 : decode cX11_replay 96 = .ok (.iload 4, 2) := by decide +kernel
theorem dX11_replay_98 : decode cX11_replay 98 = .ok (.iaload, 1) := by decide +kernel
theorem dX11_replay_99 : decode cX11_replay 99 = .ok (.i2l, 1) := by decide +kernel
theorem dX11_replay_100 : decode cX11_replay 100 = .ok (.lreturn, 1) := by decide +kernel
theorem dX11_replay_101 : decode cX11_replay 101 = .ok (.aload_n 0, 1) := by decide +kernel
theorem dX11_replay_102 : decode cX11_replay 102 = .ok (.getfield 235, 3) := by decide +kernel
theorem dX11_replay_105 : decode cX11_replay 105 = .ok (.i2l, 1) := by decide +kernel
theorem dX11_replay_106 : decode cX11_replay 106 = .ok (.lreturn, 1) := by decide +kernel
theorem dX11_replay_107 : decode cX11_replay 107 = .ok (.aload_n 0, 1) := by decide +kernel
theorem dX11_replay_108 : decode cX11_replay 108 = .ok (.getfield 238, 3) := by decide +kernel
theorem dX11_replay_111 : decode cX11_replay 111 = .ok (.i2l, 1) := by decide +kernel
theorem dX11_replay_112 : decode cX11_replay 112 = .ok (.lreturn, 1) := by decide +kernel
theorem dX11_replay_113 : decode cX11_replay 113 = .ok (.aload_n 0, 1) := by decide +kernel
theorem dX11_replay_114 : decode cX11_replay 114 = .ok (.getfield 241, 3) := by decide +kernel
theorem dX11_replay_117 : decode cX11_replay 117 = .ok (.i2l, 1) := by decide +kernel
theorem dX11_replay_118 : decode cX11_replay 118 = .ok (.lreturn, 1) := by decide +kernel
theorem dX11_replay_119 : decode cX11_replay 119 = .ok (.aload_n 0, 1) := by decide +kernel
theorem dX11_replay_120 : decode cX11_replay 120 = .ok (.getfield 244, 3) := by decide +kernel
theorem dX11_replay_123 : decode cX11_replay 123 = .ok (.i2l, 1) := by decide +kernel
theorem dX11_replay_124 : decode cX11_replay 124 = .ok (.lreturn, 1) := by decide +kernel
theorem dX11_replay_125 : decode cX11_replay 125 = .ok (.aload_n 0, 1) := by decide +kernel
theorem dX11_replay_126 : decode cX11_replay 126 = .ok (.getfield 253, 3) := by decide +kernel
theorem dX11_replay_129 : decode cX11_replay 129 = .ok (.i2l, 1) := by decide +kernel
theorem dX11_replay_130 : decode cX11_replay 130 = .ok (.lreturn, 1) := by decide +kernel
theorem dX11_sure_0 : decode cX11_sure 0 = .ok (.aload_n 0, 1) := by decide +kernel
theorem dX11_sure_1 : decode cX11_sure 1 = .ok (.iload_n 1, 1) := by decide +kernel
theorem dX11_sure_2 : decode cX11_sure 2 = .ok (.iload_n 2, 1) := by decide +kernel
theorem dX11_sure_3 : decode cX11_sure 3 = .ok (.iload_n 3, 1) := by decide +kernel
theorem dX11_sure_4 : decode cX11_sure 4 = .ok (.invokevirtual 259, 3) := by decide +kernel
theorem dX11_sure_7 : decode cX11_sure 7 = .ok (.ifCond .eq 23, 3) := by decide +kernel
theorem dX11_sure_10 : decode cX11_sure 10 = .ok (.aload_n 0, 1) := by decide +kernel
theorem dX11_sure_11 : decode cX11_sure 11 = .ok (.iload 4, 2) := by decide +kernel
theorem dX11_sure_13 : decode cX11_sure 13 = .ok (.invokevirtual 99, 3) := by decide +kernel
theorem dX11_sure_16 : decode cX11_sure 16 = .ok (.ifCond .eq 14, 3) := by decide +kernel
theorem dX11_sure_19 : decode cX11_sure 19 = .ok (.iload 5, 2) := by decide +kernel
theorem dX11_sure_21 : decode cX11_sure 21 = .ok (.i2l, 1) := by decide +kernel
theorem dX11_sure_22 : decode cX11_sure 22 = .ok (.lconst 0, 1) := by decide +kernel
theorem dX11_sure_23 : decode cX11_sure 23 = .ok (.lconst 1, 1) := by decide +kernel
theorem dX11_sure_24 : decode cX11_sure 24 = .ok (.invokestatic 65, 3) := by decide +kernel
theorem dX11_sure_27 : decode cX11_sure 27 = .ok (.ifCond .ne 7, 3) := by decide +kernel
theorem dX11_sure_30 : decode cX11_sure 30 = .ok (.ldc2_w 143, 3) := by decide +kernel
theorem dX11_sure_33 : decode cX11_sure 33 = .ok (.lreturn, 1) := by decide +kernel
theorem dX11_sure_34 : decode cX11_sure 34 = .ok (.aload_n 0, 1) := by decide +kernel
theorem dX11_sure_35 : decode cX11_sure 35 = .ok (.iload_n 1, 1) := by decide +kernel
theorem dX11_sure_36 : decode cX11_sure 36 = .ok (.iload_n 2, 1) := by decide +kernel
theorem dX11_sure_37 : decode cX11_sure 37 = .ok (.iload_n 3, 1) := by decide +kernel
theorem dX11_sure_38 : decode cX11_sure 38 = .ok (.aload_n 0, 1) := by decide +kernel
theorem dX11_sure_39 : decode cX11_sure 39 = .ok (.getfield 18, 3) := by decide +kernel
theorem dX11_sure_42 : decode cX11_sure 42 = .ok (.iload_n 1, 1) := by decide +kernel
theorem dX11_sure_43 : decode cX11_sure 43 = .ok (.iaload, 1) := by decide +kernel
theorem dX11_sure_44 : decode cX11_sure 44 = .ok (.iload 4, 2) := by decide +kernel
theorem dX11_sure_46 : decode cX11_sure 46 = .ok (.invokevirtual 263, 3) := by decide +kernel
theorem dX11_sure_49 : decode cX11_sure 49 = .ok (.aload_n 0, 1) := by decide +kernel
theorem dX11_sure_50 : decode cX11_sure 50 = .ok (.getfield 250, 3) := by decide +kernel
theorem dX11_sure_53 : decode cX11_sure 53 = .ok (.ifCond .ne 7, 3) := by decide +kernel
theorem dX11_sure_56 : decode cX11_sure 56 = .ok (.ldc2_w 143, 3) := by decide +kernel
theorem dX11_sure_59 : decode cX11_sure 59 = .ok (.lreturn, 1) := by decide +kernel
theorem dX11_sure_60 : decode cX11_sure 60 = .ok (.aload_n 0, 1) := by decide +kernel
theorem dX11_sure_61 : decode cX11_sure 61 = .ok (.getfield 250, 3) := by decide +kernel
theorem dX11_sure_64 : decode cX11_sure 64 = .ok (.istore 6, 2) := by decide +kernel
theorem dX11_sure_66 : decode cX11_sure 66 = .ok (.aload_n 0, 1) := by decide +kernel
theorem dX11_sure_67 : decode cX11_sure 67 = .ok (.getfield 247, 3) := by decide +kernel
theorem dX11_sure_70 : decode cX11_sure 70 = .ok (.istore 7, 2) := by decide +kernel
theorem dX11_sure_72 : decode cX11_sure 72 = .ok (.iload 7, 2) := by decide +kernel
theorem dX11_sure_74 : decode cX11_sure 74 = .ok (.ifCond .eq 21, 3) := by decide +kernel
theorem dX11_sure_77 : decode cX11_sure 77 = .ok (.iload 6, 2) := by decide +kernel
theorem dX11_sure_79 : decode cX11_sure 79 = .ok (.iload 7, 2) := by decide +kernel
theorem dX11_sure_81 : decode cX11_sure 81 = .ok (.irem, 1) := by decide +kernel
theorem dX11_sure_82 : decode cX11_sure 82 = .ok (.istore 8, 2) := by decide +kernel
theorem dX11_sure_84 : decode cX11_sure 84 = .ok (.iload 7, 2) := by decide +kernel
theorem dX11_sure_86 : decode cX11_sure 86 = .ok (.istore 6, 2) := by decide +kernel
theorem dX11_sure_88 : decode cX11_sure 88 = .ok (.iload 8, 2) := by decide +kernel
theorem dX11_sure_90 : decode cX11_sure 90 = .ok (.istore 7, 2) := by decide +kernel
theorem dX11_sure_92 : decode cX11_sure 92 = .ok (.goto (-20), 3) := by decide +kernel
theorem dX11_sure_95 : decode cX11_sure 95 = .ok (.iload 5, 2) := by decide +kernel
theorem dX11_sure_97 : decode cX11_sure 97 = .ok (.ifCond .ne 10, 3) := by decide +kernel
theorem dX11_sure_100 : decode cX11_sure 100 = .ok (.aload_n 0, 1) := by decide +kernel
theorem dX11_sure_101 : decode cX11_sure 101 = .ok (.getfield 247, 3) := by decide +kernel
theorem dX11_sure_104 : decode cX11_sure 104 = .ok (.goto 7, 3) := by decide +kernel
theorem dX11_sure_107 : decode cX11_sure 107 = .ok (.aload_n 0, 1) := by decide +kernel
theorem dX11_sure_108 : decode cX11_sure 108 = .ok (.getfield 250, 3) := by decide +kernel
theorem dX11_sure_111 : decode cX11_sure 111 = .ok (.iload 6, 2) := by decide +kernel
theorem dX11_sure_113 : decode cX11_sure 113 = .ok (.idiv, 1) := by decide +kernel
theorem dX11_sure_114 : decode cX11_sure 114 = .ok (.i2l, 1) := by decide +kernel
theorem dX11_sure_115 : decode cX11_sure 115 = .ok (.lreturn, 1) := by decide +kernel
theorem dX11_learn_0 : decode cX11_learn 0 = .ok (.iload_n 1, 1) := by decide +kernel
theorem dX11_learn_1 : decode cX11_learn 1 = .ok (.invokestatic 229, 3) := by decide +kernel
theorem dX11_learn_4 : decode cX11_learn 4 = .ok (.ifCond .ne 5, 3) := by decide +kernel
theorem dX11_learn_7 : decode cX11_learn 7 = .ok (.iconst (-1), 1) := by decide +kernel
theorem dX11_learn_8 : decode cX11_learn 8 = .ok (.ireturn, 1) := by decide +kernel
theorem dX11_learn_9 : decode cX11_learn 9 = .ok (.aload_n 0, 1) := by decide +kernel
theorem dX11_learn_10 : decode cX11_learn 10 = .ok (.getfield 18, 3) := by decide +kernel
theorem dX11_learn_13 : decode cX11_learn 13 = .ok (.iload_n 1, 1) := by decide +kernel
theorem dX11_learn_14 : decode cX11_learn 14 = .ok (.iaload, 1) := by decide +kernel
theorem dX11_learn_15 : decode cX11_learn 15 = .ok (.iconst 2, 1) := by decide +kernel
theorem dX11_learn_16 : decode cX11_learn 16 = .ok (.if_icmp .ge 6, 3) := by decide +kernel
theorem dX11_learn_19 : decode cX11_learn 19 = .ok (.bipush (-3), 2) := by decide +kernel
theorem dX11_learn_21 : decode cX11_learn 21 = .ok (.ireturn, 1) := by decide +kernel
theorem dX11_learn_22 : decode cX11_learn 22 = .ok (.iconst 0, 1) := by decide +kernel
theorem dX11_learn_23 : decode cX11_learn 23 = .ok (.istore_n 2, 1) := by decide +kernel
theorem dX11_learn_24 : decode cX11_learn 24 = .ok (.iload_n 2, 1) := by decide +kernel
theorem dX11_learn_25 : decode cX11_learn 25 = .ok (.bipush 9, 2) := by decide +kernel
theorem dX11_learn_27 : decode cX11_learn 27 = .ok (.if_icmp .ge 19, 3) := by decide +kernel
theorem dX11_learn_30 : decode cX11_learn 30 = .ok (.aload_n 0, 1) := by decide +kernel
theorem dX11_learn_31 : decode cX11_learn 31 = .ok (.getfield 11, 3) := by decide +kernel
theorem dX11_learn_34 : decode cX11_learn 34 = .ok (.bipush 40, 2) := by decide +kernel
theorem dX11_learn_36 : decode cX11_learn 36 = .ok (.iload_n 2, 1) := by decide +kernel
theorem dX11_learn_37 : decode cX11_learn 37 = .ok (.iadd, 1) := by decide +kernel
theorem dX11_learn_38 : decode cX11_learn 38 = .ok (.iconst 1, 1) := by decide +kernel
theorem dX11_learn_39 : decode cX11_learn 39 = .ok (.iastore, 1) := by decide +kernel
theorem dX11_learn_40 : decode cX11_learn 40 = .ok (.iinc 2 1, 3) := by decide +kernel
theorem dX11_learn_43 : decode cX11_learn 43 = .ok (.goto (-19), 3) := by decide +kernel
theorem dX11_learn_46 : decode cX11_learn 46 = .ok (.iconst 1, 1) := by decide +kernel
theorem dX11_learn_47 : decode cX11_learn 47 = .ok (.istore_n 2, 1) := by decide +kernel
theorem dX11_learn_48 : decode cX11_learn 48 = .ok (.iload_n 2, 1) := by decide +kernel
theorem dX11_learn_49 : decode cX11_learn 49 = .ok (.aload_n 0, 1) := by decide +kernel
theorem dX11_learn_50 : decode cX11_learn 50 = .ok (.getfield 18, 3) := by decide +kernel
theorem dX11_learn_53 : decode cX11_learn 53 = .ok (.iload_n 1, 1) := by decide +kernel
theorem dX11_learn_54 : decode cX11_learn 54 = .ok (.iaload, 1) := by decide +kernel
theorem dX11_learn_55 : decode cX11_learn 55 = .ok (.if_icmp .ge 49, 3) := by decide +kernel
theorem dX11_learn_58 : decode cX11_learn 58 = .ok (.bipush 40, 2) := by decide +kernel
theorem dX11_learn_60 : decode cX11_learn 60 = .ok (.iconst 3, 1) := by decide +kernel
theorem dX11_learn_61 : decode cX11_learn 61 = .ok (.aload_n 0, 1) := by decide +kernel
theorem dX11_learn_62 : decode cX11_learn 62 = .ok (.iload_n 1, 1) := by decide +kernel
theorem dX11_learn_63 : decode cX11_learn 63 = .ok (.iload_n 2, 1) := by decide +kernel
theorem dX11_learn_64 : decode cX11_learn 64 = .ok (.iconst 1, 1) := by decide +kernel
theorem dX11_learn_65 : decode cX11_learn 65 = .ok (.isub, 1) := by decide +kernel
theorem dX11_learn_66 : decode cX11_learn 66 = .ok (.invokevirtual 256, 3) := by decide +kernel
theorem dX11_learn_69 : decode cX11_learn 69 = .ok (.imul, 1) := by decide +kernel
theorem dX11_learn_70 : decode cX11_learn 70 = .ok (.iadd, 1) := by decide +kernel
theorem dX11_learn_71 : decode cX11_learn 71 = .ok (.aload_n 0, 1) := by decide +kernel
theorem dX11_learn_72 : decode cX11_learn 72 = .ok (.iload_n 1, 1) := by decide +kernel
theorem dX11_learn_73 : decode cX11_learn 73 = .ok (.iload_n 2, 1) := by decide +kernel
theorem dX11_learn_74 : decode cX11_learn 74 = .ok (.invokevirtual 256, 3) := by decide +kernel
theorem dX11_learn_77 : decode cX11_learn 77 = .ok (.iadd, 1) := by decide +kernel
theorem dX11_learn_78 : decode cX11_learn 78 = .ok (.istore_n 3, 1) := by decide +kernel
theorem dX11_learn_79 : decode cX11_learn 79 = .ok (.aload_n 0, 1) := by decide +kernel
theorem dX11_learn_80 : decode cX11_learn 80 = .ok (.getfield 11, 3) := by decide +kernel
theorem dX11_learn_83 : decode cX11_learn 83 = .ok (.iload_n 3, 1) := by decide +kernel
theorem dX11_learn_84 : decode cX11_learn 84 = .ok (.bipush 9, 2) := by decide +kernel
theorem dX11_learn_86 : decode cX11_learn 86 = .ok (.aload_n 0, 1) := by decide +kernel
theorem dX11_learn_87 : decode cX11_learn 87 = .ok (.getfield 11, 3) := by decide +kernel
theorem dX11_learn_90 : decode cX11_learn 90 = .ok (.iload_n 3, 1) := by decide +kernel
theorem dX11_learn_91 : decode cX11_learn 91 = .ok (.iaload, 1) := by decide +kernel
theorem dX11_learn_92 : decode cX11_learn 92 = .ok (.iconst 1, 1) := by decide +kernel
theorem dX11_learn_93 : decode cX11_learn 93 = .ok (.iadd, 1) := by decide +kernel
theorem dX11_learn_94 : decode cX11_learn 94 = .ok (.invokestatic 136, 3) := by decide +kernel
theorem dX11_learn_97 : decode cX11_learn 97 = .ok (.iastore, 1) := by decide +kernel
theorem dX11_learn_98 : decode cX11_learn 98 = .ok (.iinc 2 1, 3) := by decide +kernel
theorem dX11_learn_101 : decode cX11_learn 101 = .ok (.goto (-53), 3) := by decide +kernel
theorem dX11_learn_104 : decode cX11_learn 104 = .ok (.aload_n 0, 1) := by decide +kernel
theorem dX11_learn_105 : decode cX11_learn 105 = .ok (.getfield 18, 3) := by decide +kernel
theorem dX11_learn_108 : decode cX11_learn 108 = .ok (.iload_n 1, 1) := by decide +kernel
theorem dX11_learn_109 : decode cX11_learn 109 = .ok (.iaload, 1) := by decide +kernel
theorem dX11_learn_110 : decode cX11_learn 110 = .ok (.ireturn, 1) := by decide +kernel
theorem dX11_see_0 : decode cX11_see 0 = .ok (.iload_n 1, 1) := by decide +kernel
theorem dX11_see_1 : decode cX11_see 1 = .ok (.iconst (-1), 1) := by decide +kernel
theorem dX11_see_2 : decode cX11_see 2 = .ok (.if_icmp .ne 13, 3) := by decide +kernel
theorem dX11_see_5 : decode cX11_see 5 = .ok (.aload_n 0, 1) := by decide +kernel
theorem dX11_see_6 : decode cX11_see 6 = .ok (.getfield 11, 3) := by decide +kernel
theorem dX11_see_9 : decode cX11_see 9 = .ok (.bipush 110, 2) := by decide +kernel
theorem dX11_see_11 : decode cX11_see 11 = .ok (.iconst 0, 1) := by decide +kernel
theorem dX11_see_12 : decode cX11_see 12 = .ok (.iastore, 1) := by decide +kernel
theorem dX11_see_13 : decode cX11_see 13 = .ok (.iconst 0, 1) := by decide +kernel
theorem dX11_see_14 : decode cX11_see 14 = .ok (.ireturn, 1) := by decide +kernel
theorem dX11_see_15 : decode cX11_see 15 = .ok (.aload_n 0, 1) := by decide +kernel
theorem dX11_see_16 : decode cX11_see 16 = .ok (.iload_n 1, 1) := by decide +kernel
theorem dX11_see_17 : decode cX11_see 17 = .ok (.invokevirtual 205, 3) := by decide +kernel
theorem dX11_see_20 : decode cX11_see 20 = .ok (.ifCond .eq 18, 3) := by decide +kernel
theorem dX11_see_23 : decode cX11_see 23 = .ok (.aload_n 0, 1) := by decide +kernel
theorem dX11_see_24 : decode cX11_see 24 = .ok (.iload_n 2, 1) := by decide +kernel
theorem dX11_see_25 : decode cX11_see 25 = .ok (.invokevirtual 169, 3) := by decide +kernel
theorem dX11_see_28 : decode cX11_see 28 = .ok (.ifCond .eq 10, 3) := by decide +kernel
theorem dX11_see_31 : decode cX11_see 31 = .ok (.iload_n 3, 1) := by decide +kernel
theorem dX11_see_32 : decode cX11_see 32 = .ok (.invokestatic 87, 3) := by decide +kernel
theorem dX11_see_35 : decode cX11_see 35 = .ok (.ifCond .ne 5, 3) := by decide +kernel
theorem dX11_see_38 : decode cX11_see 38 = .ok (.iconst (-1), 1) := by decide +kernel
theorem dX11_see_39 : decode cX11_see 39 = .ok (.ireturn, 1) := by decide +kernel
theorem dX11_see_40 : decode cX11_see 40 = .ok (.iload 4, 2) := by decide +kernel
theorem dX11_see_42 : decode cX11_see 42 = .ok (.i2l, 1) := by decide +kernel
theorem dX11_see_43 : decode cX11_see 43 = .ok (.lconst 0, 1) := by decide +kernel
theorem dX11_see_44 : decode cX11_see 44 = .ok (.ldc2_w 208, 3) := by decide +kernel
theorem dX11_see_47 : decode cX11_see 47 = .ok (.invokestatic 65, 3) := by decide +kernel
theorem dX11_see_50 : decode cX11_see 50 = .ok (.ifCond .ne 6, 3) := by decide +kernel
theorem dX11_see_53 : decode cX11_see 53 = .ok (.bipush (-2), 2) := by decide +kernel
theorem dX11_see_55 : decode cX11_see 55 = .ok (.ireturn, 1) := by decide +kernel
theorem dX11_see_56 : decode cX11_see 56 = .ok (.aload_n 0, 1) := by decide +kernel
theorem dX11_see_57 : decode cX11_see 57 = .ok (.getfield 11, 3) := by decide +kernel
theorem dX11_see_60 : decode cX11_see 60 = .ok (.bipush 110, 2) := by decide +kernel
theorem dX11_see_62 : decode cX11_see 62 = .ok (.iaload, 1) := by decide +kernel
theorem dX11_see_63 : decode cX11_see 63 = .ok (.iconst 5, 1) := by decide +kernel
theorem dX11_see_64 : decode cX11_see 64 = .ok (.if_icmp .ne 6, 3) := by decide +kernel
theorem dX11_see_67 : decode cX11_see 67 = .ok (.bipush (-4), 2) := by decide +kernel
theorem dX11_see_69 : decode cX11_see 69 = .ok (.ireturn, 1) := by decide +kernel
theorem dX11_see_70 : decode cX11_see 70 = .ok (.bipush 111, 2) := by decide +kernel
theorem dX11_see_72 : decode cX11_see 72 = .ok (.iconst 4, 1) := by decide +kernel
theorem dX11_see_73 : decode cX11_see 73 = .ok (.aload_n 0, 1) := by decide +kernel
theorem dX11_see_74 : decode cX11_see 74 = .ok (.getfield 11, 3) := by decide +kernel
theorem dX11_see_77 : decode cX11_see 77 = .ok (.bipush 110, 2) := by decide +kernel
theorem dX11_see_79 : decode cX11_see 79 = .ok (.iaload, 1) := by decide +kernel
theorem dX11_see_80 : decode cX11_see 80 = .ok (.imul, 1) := by decide +kernel
theorem dX11_see_81 : decode cX11_see 81 = .ok (.iadd, 1) := by decide +kernel
theorem dX11_see_82 : decode cX11_see 82 = .ok (.istore 5, 2) := by decide +kernel
theorem dX11_see_84 : decode cX11_see 84 = .ok (.aload_n 0, 1) := by decide +kernel
theorem dX11_see_85 : decode cX11_see 85 = .ok (.getfield 11, 3) := by decide +kernel
theorem dX11_see_88 : decode cX11_see 88 = .ok (.iload 5, 2) := by decide +kernel
theorem dX11_see_90 : decode cX11_see 90 = .ok (.iload_n 1, 1) := by decide +kernel
theorem dX11_see_91 : decode cX11_see 91 = .ok (.iastore, 1) := by decide +kernel
theorem dX11_see_92 : decode cX11_see 92 = .ok (.aload_n 0, 1) := by decide +kernel
theorem dX11_see_93 : decode cX11_see 93 = .ok (.getfield 11, 3) := by decide +kernel
theorem dX11_see_96 : decode cX11_see 96 = .ok (.iload 5, 2) := by decide +kernel
theorem dX11_see_98 : decode cX11_see 98 = .ok (.iconst 1, 1) := by decide +kernel
theorem dX11_see_99 : decode cX11_see 99 = .ok (.iadd, 1) := by decide +kernel
theorem dX11_see_100 : decode cX11_see 100 = .ok (.iload_n 2, 1) := by decide +kernel
theorem dX11_see_101 : decode cX11_see 101 = .ok (.iastore, 1) := by decide +kernel
theorem dX11_see_102 : decode cX11_see 102 = .ok (.aload_n 0, 1) := by decide +kernel
theorem dX11_see_103 : decode cX11_see 103 = .ok (.getfield 11, 3) := by decide +kernel
theorem dX11_see_106 : decode cX11_see 106 = .ok (.iload 5, 2) := by decide +kernel
theorem dX11_see_108 : decode cX11_see 108 = .ok (.iconst 2, 1) := by decide +kernel
theorem dX11_see_109 : decode cX11_see 109 = .ok (.iadd, 1) := by decide +kernel
theorem dX11_see_110 : decode cX11_see 110 = .ok (.iload_n 3, 1) := by decide +kernel
theorem dX11_see_111 : decode cX11_see 111 = .ok (.iastore, 1) := by decide +kernel
theorem dX11_see_112 : decode cX11_see 112 = .ok (.aload_n 0, 1) := by decide +kernel
theorem dX11_see_113 : decode cX11_see 113 = .ok (.getfield 11, 3) := by decide +kernel
theorem dX11_see_116 : decode cX11_see 116 = .ok (.iload 5, 2) := by decide +kernel
theorem dX11_see_118 : decode cX11_see 118 = .ok (.iconst 3, 1) := by decide +kernel
theorem dX11_see_119 : decode cX11_see 119 = .ok (.iadd, 1) := by decide +kernel
theorem dX11_see_120 : decode cX11_see 120 = .ok (.iload 4, 2) := by decide +kernel
theorem dX11_see_122 : decode cX11_see 122 = .ok (.iastore, 1) := by decide +kernel
theorem dX11_see_123 : decode cX11_see 123 = .ok (.aload_n 0, 1) := by decide +kernel
theorem dX11_see_124 : decode cX11_see 124 = .ok (.getfield 11, 3) := by decide +kernel
theorem dX11_see_127 : decode cX11_see 127 = .ok (.bipush 110, 2) := by decide +kernel
theorem dX11_see_129 : decode cX11_see 129 = .ok (.dup2, 1) := by decide +kernel
theorem dX11_see_130 : decode cX11_see 130 = .ok (.iaload, 1) := by decide +kernel
theorem dX11_see_131 : decode cX11_see 131 = .ok (.iconst 1, 1) := by decide +kernel
theorem dX11_see_132 : decode cX11_see 132 = .ok (.iadd, 1) := by decide +kernel
theorem dX11_see_133 : decode cX11_see 133 = .ok (.iastore, 1) := by decide +kernel
theorem dX11_see_134 : decode cX11_see 134 = .ok (.aload_n 0, 1) := by decide +kernel
theorem dX11_see_135 : decode cX11_see 135 = .ok (.getfield 11, 3) := by decide +kernel
theorem dX11_see_138 : decode cX11_see 138 = .ok (.bipush 110, 2) := by decide +kernel
theorem dX11_see_140 : decode cX11_see 140 = .ok (.iaload, 1) := by decide +kernel
theorem dX11_see_141 : decode cX11_see 141 = .ok (.ireturn, 1) := by decide +kernel
theorem dX11_isRelease_0 : decode cX11_isRelease 0 = .ok (.aload_n 0, 1) := by decide +kernel
theorem dX11_isRelease_1 : decode cX11_isRelease 1 = .ok (.iload_n 1, 1) := by decide +kernel
theorem dX11_isRelease_2 : decode cX11_isRelease 2 = .ok (.invokevirtual 205, 3) := by decide +kernel
theorem dX11_isRelease_5 : decode cX11_isRelease 5 = .ok (.ifCond .eq 31, 3) := by decide +kernel
theorem dX11_isRelease_8 : decode cX11_isRelease 8 = .ok (.aload_n 0, 1) := by decide +kernel
theorem dX11_isRelease_9 : decode cX11_isRelease 9 = .ok (.iload_n 2, 1) := by decide +kernel
theorem dX11_isRelease_10 : decode cX11_isRelease 10 = .ok (.invokevirtual 169, 3) := by decide +kernel
theorem dX11_isRelease_13 : decode cX11_isRelease 13 = .ok (.ifCond .eq 23, 3) := by decide +kernel
theorem dX11_isRelease_16 : decode cX11_isRelease 16 = .ok (.aload_n 0, 1) := by decide +kernel
theorem dX11_isRelease_17 : decode cX11_isRelease 17 = .ok (.getfield 28, 3) := by decide +kernel
theorem dX11_isRelease_20 : decode cX11_isRelease 20 = .ok (.iload_n 1, 1) := by decide +kernel
theorem dX11_isRelease_21 : decode cX11_isRelease 21 = .ok (.iload_n 2, 1) := by decide +kernel
theorem dX11_isRelease_22 : decode cX11_isRelease 22 = .ok (.iload_n 3, 1) := by decide +kernel
theorem dX11_isRelease_23 : decode cX11_isRelease 23 = .ok (.invokestatic 176, 3) := by decide +kernel
theorem dX11_isRelease_26 : decode cX11_isRelease 26 = .ok (.iaload, 1) := by decide +kernel
theorem dX11_isRelease_27 : decode cX11_isRelease 27 = .ok (.iload 4, 2) := by decide +kernel
theorem dX11_isRelease_29 : decode cX11_isRelease 29 = .ok (.if_icmp .ne 7, 3) := by decide +kernel
theorem dX11_isRelease_32 : decode cX11_isRelease 32 = .ok (.iconst 1, 1) := by decide +kernel
theorem dX11_isRelease_33 : decode cX11_isRelease 33 = .ok (.goto 4, 3) := by decide +kernel
theorem dX11_isRelease_36 : decode cX11_isRelease 36 = .ok (.iconst 0, 1) := by decide +kernel
theorem dX11_isRelease_37 : decode cX11_isRelease 37 = .ok (.ireturn, 1) := by decide +kernel
theorem dX11_isSeen_0 : decode cX11_isSeen 0 = .ok (.aload_n 0, 1) := by decide +kernel
theorem dX11_isSeen_1 : decode cX11_isSeen 1 = .ok (.iconst 0, 1) := by decide +kernel
theorem dX11_isSeen_2 : decode cX11_isSeen 2 = .ok (.invokevirtual 197, 3) := by decide +kernel
theorem dX11_isSeen_5 : decode cX11_isSeen 5 = .ok (.iconst 0, 1) := by decide +kernel
theorem dX11_isSeen_6 : decode cX11_isSeen 6 = .ok (.istore_n 1, 1) := by decide +kernel
theorem dX11_isSeen_7 : decode cX11_isSeen 7 = .ok (.iload_n 1, 1) := by decide +kernel
theorem dX11_isSeen_8 : decode cX11_isSeen 8 = .ok (.aload_n 0, 1) := by decide +kernel
theorem dX11_isSeen_9 : decode cX11_isSeen 9 = .ok (.getfield 11, 3) := by decide +kernel
theorem dX11_isSeen_12 : decode cX11_isSeen 12 = .ok (.bipush 110, 2) := by decide +kernel
theorem dX11_isSeen_14 : decode cX11_isSeen 14 = .ok (.iaload, 1) := by decide +kernel
theorem dX11_isSeen_15 : decode cX11_isSeen 15 = .ok (.if_icmp .ge 55, 3) := by decide +kernel
theorem dX11_isSeen_18 : decode cX11_isSeen 18 = .ok (.bipush 111, 2) := by decide +kernel
theorem dX11_isSeen_20 : decode cX11_isSeen 20 = .ok (.iconst 4, 1) := by decide +kernel
theorem dX11_isSeen_21 : decode cX11_isSeen 21 = .ok (.iload_n 1, 1) := by decide +kernel
theorem dX11_isSeen_22 : decode cX11_isSeen 22 = .ok (.imul, 1) := by decide +kernel
theorem dX11_isSeen_23 : decode cX11_isSeen 23 = .ok (.iadd, 1) := by decide +kernel
theorem dX11_isSeen_24 : decode cX11_isSeen 24 = .ok (.istore_n 2, 1) := by decide +kernel
theorem dX11_isSeen_25 : decode cX11_isSeen 25 = .ok (.aload_n 0, 1) := by decide +kernel
theorem dX11_isSeen_26 : decode cX11_isSeen 26 = .ok (.aload_n 0, 1) := by decide +kernel
theorem dX11_isSeen_27 : decode cX11_isSeen 27 = .ok (.getfield 11, 3) := by decide +kernel
theorem dX11_isSeen_30 : decode cX11_isSeen 30 = .ok (.iload_n 2, 1) := by decide +kernel
theorem dX11_isSeen_31 : decode cX11_isSeen 31 = .ok (.iaload, 1) := by decide +kernel
theorem dX11_isSeen_32 : decode cX11_isSeen 32 = .ok (.aload_n 0, 1) := by decide +kernel
theorem dX11_isSeen_33 : decode cX11_isSeen 33 = .ok (.getfield 11, 3) := by decide +kernel
theorem dX11_isSeen_36 : decode cX11_isSeen 36 = .ok (.iload_n 2, 1) := by decide +kernel
theorem dX11_isSeen_37 : decode cX11_isSeen 37 = .ok (.iconst 1, 1) := by decide +kernel
theorem dX11_isSeen_38 : decode cX11_isSeen 38 = .ok (.iadd, 1) := by decide +kernel
theorem dX11_isSeen_39 : decode cX11_isSeen 39 = .ok (.iaload, 1) := by decide +kernel
theorem dX11_isSeen_40 : decode cX11_isSeen 40 = .ok (.aload_n 0, 1) := by decide +kernel
theorem dX11_isSeen_41 : decode cX11_isSeen 41 = .ok (.getfield 11, 3) := by decide +kernel
theorem dX11_isSeen_44 : decode cX11_isSeen 44 = .ok (.iload_n 2, 1) := by decide +kernel
theorem dX11_isSeen_45 : decode cX11_isSeen 45 = .ok (.iconst 2, 1) := by decide +kernel
theorem dX11_isSeen_46 : decode cX11_isSeen 46 = .ok (.iadd, 1) := by decide +kernel
theorem dX11_isSeen_47 : decode cX11_isSeen 47 = .ok (.iaload, 1) := by decide +kernel
theorem dX11_isSeen_48 : decode cX11_isSeen 48 = .ok (.aload_n 0, 1) := by decide +kernel
theorem dX11_isSeen_49 : decode cX11_isSeen 49 = .ok (.getfield 11, 3) := by decide +kernel
theorem dX11_isSeen_52 : decode cX11_isSeen 52 = .ok (.iload_n 2, 1) := by decide +kernel
theorem dX11_isSeen_53 : decode cX11_isSeen 53 = .ok (.iconst 3, 1) := by decide +kernel
theorem dX11_isSeen_54 : decode cX11_isSeen 54 = .ok (.iadd, 1) := by decide +kernel
theorem dX11_isSeen_55 : decode cX11_isSeen 55 = .ok (.iaload, 1) := by decide +kernel
theorem dX11_isSeen_56 : decode cX11_isSeen 56 = .ok (.invokevirtual 267, 3) := by decide +kernel
theorem dX11_isSeen_59 : decode cX11_isSeen 59 = .ok (.ifCond .ne 5, 3) := by decide +kernel
theorem dX11_isSeen_62 : decode cX11_isSeen 62 = .ok (.iconst 0, 1) := by decide +kernel
theorem dX11_isSeen_63 : decode cX11_isSeen 63 = .ok (.ireturn, 1) := by decide +kernel
theorem dX11_isSeen_64 : decode cX11_isSeen 64 = .ok (.iinc 1 1, 3) := by decide +kernel
theorem dX11_isSeen_67 : decode cX11_isSeen 67 = .ok (.goto (-60), 3) := by decide +kernel
theorem dX11_isSeen_70 : decode cX11_isSeen 70 = .ok (.iconst 1, 1) := by decide +kernel
theorem dX11_isSeen_71 : decode cX11_isSeen 71 = .ok (.ireturn, 1) := by decide +kernel
theorem dX11_fits_0 : decode cX11_fits 0 = .ok (.iload_n 1, 1) := by decide +kernel
theorem dX11_fits_1 : decode cX11_fits 1 = .ok (.i2l, 1) := by decide +kernel
theorem dX11_fits_2 : decode cX11_fits 2 = .ok (.lconst 0, 1) := by decide +kernel
theorem dX11_fits_3 : decode cX11_fits 3 = .ok (.lconst 1, 1) := by decide +kernel
theorem dX11_fits_4 : decode cX11_fits 4 = .ok (.invokestatic 65, 3) := by decide +kernel
theorem dX11_fits_7 : decode cX11_fits 7 = .ok (.ifCond .ne 5, 3) := by decide +kernel
theorem dX11_fits_10 : decode cX11_fits 10 = .ok (.iconst (-1), 1) := by decide +kernel
theorem dX11_fits_11 : decode cX11_fits 11 = .ok (.ireturn, 1) := by decide +kernel
theorem dX11_fits_12 : decode cX11_fits 12 = .ok (.aload_n 0, 1) := by decide +kernel
theorem dX11_fits_13 : decode cX11_fits 13 = .ok (.getfield 11, 3) := by decide +kernel
theorem dX11_fits_16 : decode cX11_fits 16 = .ok (.iconst 3, 1) := by decide +kernel
theorem dX11_fits_17 : decode cX11_fits 17 = .ok (.iaload, 1) := by decide +kernel
theorem dX11_fits_18 : decode cX11_fits 18 = .ok (.istore_n 2, 1) := by decide +kernel
theorem dX11_fits_19 : decode cX11_fits 19 = .ok (.iconst 0, 1) := by decide +kernel
theorem dX11_fits_20 : decode cX11_fits 20 = .ok (.istore_n 3, 1) := by decide +kernel
theorem dX11_fits_21 : decode cX11_fits 21 = .ok (.bipush (-5), 2) := by decide +kernel
theorem dX11_fits_23 : decode cX11_fits 23 = .ok (.istore 4, 2) := by decide +kernel
theorem dX11_fits_25 : decode cX11_fits 25 = .ok (.bipush 20, 2) := by decide +kernel
theorem dX11_fits_27 : decode cX11_fits 27 = .ok (.istore 5, 2) := by decide +kernel
theorem dX11_fits_29 : decode cX11_fits 29 = .ok (.iload 5, 2) := by decide +kernel
theorem dX11_fits_31 : decode cX11_fits 31 = .ok (.ifCond .lt 31, 3) := by decide +kernel
theorem dX11_fits_34 : decode cX11_fits 34 = .ok (.aload_n 0, 1) := by decide +kernel
theorem dX11_fits_35 : decode cX11_fits 35 = .ok (.getfield 11, 3) := by decide +kernel
theorem dX11_fits_38 : decode cX11_fits 38 = .ok (.iconst 3, 1) := by decide +kernel
theorem dX11_fits_39 : decode cX11_fits 39 = .ok (.iload 5, 2) := by decide +kernel
theorem dX11_fits_41 : decode cX11_fits 41 = .ok (.iastore, 1) := by decide +kernel
theorem dX11_fits_42 : decode cX11_fits 42 = .ok (.aload_n 0, 1) := by decide +kernel
theorem dX11_fits_43 : decode cX11_fits 43 = .ok (.invokevirtual 271, 3) := by decide +kernel
theorem dX11_fits_46 : decode cX11_fits 46 = .ok (.ifCond .eq 10, 3) := by decide +kernel
theorem dX11_fits_49 : decode cX11_fits 49 = .ok (.iinc 3 1, 3) := by decide +kernel
theorem dX11_fits_52 : decode cX11_fits 52 = .ok (.iload 5, 2) := by decide +kernel
theorem dX11_fits_54 : decode cX11_fits 54 = .ok (.istore 4, 2) := by decide +kernel
theorem dX11_fits_56 : decode cX11_fits 56 = .ok (.iinc 5 (-1), 3) := by decide +kernel
theorem dX11_fits_59 : decode cX11_fits 59 = .ok (.goto (-30), 3) := by decide +kernel
theorem dX11_fits_62 : decode cX11_fits 62 = .ok (.aload_n 0, 1) := by decide +kernel
theorem dX11_fits_63 : decode cX11_fits 63 = .ok (.getfield 11, 3) := by decide +kernel
theorem dX11_fits_66 : decode cX11_fits 66 = .ok (.iconst 3, 1) := by decide +kernel
theorem dX11_fits_67 : decode cX11_fits 67 = .ok (.iload_n 2, 1) := by decide +kernel
theorem dX11_fits_68 : decode cX11_fits 68 = .ok (.iastore, 1) := by decide +kernel
theorem dX11_fits_69 : decode cX11_fits 69 = .ok (.iload_n 1, 1) := by decide +kernel
theorem dX11_fits_70 : decode cX11_fits 70 = .ok (.ifCond .ne 7, 3) := by decide +kernel
theorem dX11_fits_73 : decode cX11_fits 73 = .ok (.iload_n 3, 1) := by decide +kernel
theorem dX11_fits_74 : decode cX11_fits 74 = .ok (.goto 5, 3) := by decide +kernel
theorem dX11_fits_77 : decode cX11_fits 77 = .ok (.iload 4, 2) := by decide +kernel
theorem dX11_fits_79 : decode cX11_fits 79 = .ok (.ireturn, 1) := by decide +kernel
theorem dX11_plan_0 : decode cX11_plan 0 = .ok (.iload_n 1, 1) := by decide +kernel
theorem dX11_plan_1 : decode cX11_plan 1 = .ok (.iconst (-1), 1) := by decide +kernel
theorem dX11_plan_2 : decode cX11_plan 2 = .ok (.if_icmp .ne 14, 3) := by decide +kernel
theorem dX11_plan_5 : decode cX11_plan 5 = .ok (.aload_n 0, 1) := by decide +kernel
theorem dX11_plan_6 : decode cX11_plan 6 = .ok (.getfield 11, 3) := by decide +kernel
theorem dX11_plan_9 : decode cX11_plan 9 = .ok (.sipush 131, 3) := by decide +kernel
theorem dX11_plan_12 : decode cX11_plan 12 = .ok (.iconst 0, 1) := by decide +kernel
theorem dX11_plan_13 : decode cX11_plan 13 = .ok (.iastore, 1) := by decide +kernel
theorem dX11_plan_14 : decode cX11_plan 14 = .ok (.iconst 0, 1) := by decide +kernel
theorem dX11_plan_15 : decode cX11_plan 15 = .ok (.ireturn, 1) := by decide +kernel
theorem dX11_plan_16 : decode cX11_plan 16 = .ok (.iload_n 1, 1) := by decide +kernel
theorem dX11_plan_17 : decode cX11_plan 17 = .ok (.i2l, 1) := by decide +kernel
theorem dX11_plan_18 : decode cX11_plan 18 = .ok (.lconst 0, 1) := by decide +kernel
theorem dX11_plan_19 : decode cX11_plan 19 = .ok (.ldc2_w 71, 3) := by decide +kernel
theorem dX11_plan_22 : decode cX11_plan 22 = .ok (.invokestatic 65, 3) := by decide +kernel
theorem dX11_plan_25 : decode cX11_plan 25 = .ok (.ifCond .eq 16, 3) := by decide +kernel
theorem dX11_plan_28 : decode cX11_plan 28 = .ok (.iload_n 1, 1) := by decide +kernel
theorem dX11_plan_29 : decode cX11_plan 29 = .ok (.iconst 3, 1) := by decide +kernel
theorem dX11_plan_30 : decode cX11_plan 30 = .ok (.if_icmp .ne 13, 3) := by decide +kernel
theorem dX11_plan_33 : decode cX11_plan 33 = .ok (.aload_n 0, 1) := by decide +kernel
theorem dX11_plan_34 : decode cX11_plan 34 = .ok (.iload_n 2, 1) := by decide +kernel
theorem dX11_plan_35 : decode cX11_plan 35 = .ok (.invokevirtual 99, 3) := by decide +kernel
theorem dX11_plan_38 : decode cX11_plan 38 = .ok (.ifCond .ne 5, 3) := by decide +kernel
theorem dX11_plan_41 : decode cX11_plan 41 = .ok (.iconst (-1), 1) := by decide +kernel
theorem dX11_plan_42 : decode cX11_plan 42 = .ok (.ireturn, 1) := by decide +kernel
theorem dX11_plan_43 : decode cX11_plan 43 = .ok (.iload_n 1, 1) := by decide +kernel
theorem dX11_plan_44 : decode cX11_plan 44 = .ok (.ifCond .ne 15, 3) := by decide +kernel
theorem dX11_plan_47 : decode cX11_plan 47 = .ok (.iload_n 2, 1) := by decide +kernel
theorem dX11_plan_48 : decode cX11_plan 48 = .ok (.i2l, 1) := by decide +kernel
theorem dX11_plan_49 : decode cX11_plan 49 = .ok (.lconst 1, 1) := by decide +kernel
theorem dX11_plan_50 : decode cX11_plan 50 = .ok (.ldc2_w 73, 3) := by decide +kernel
theorem dX11_plan_53 : decode cX11_plan 53 = .ok (.invokestatic 65, 3) := by decide +kernel
theorem dX11_plan_56 : decode cX11_plan 56 = .ok (.ifCond .eq 37, 3) := by decide +kernel
theorem dX11_plan_59 : decode cX11_plan 59 = .ok (.iload_n 1, 1) := by decide +kernel
theorem dX11_plan_60 : decode cX11_plan 60 = .ok (.iconst 1, 1) := by decide +kernel
theorem dX11_plan_61 : decode cX11_plan 61 = .ok (.if_icmp .ne 15, 3) := by decide +kernel
theorem dX11_plan_64 : decode cX11_plan 64 = .ok (.iload_n 2, 1) := by decide +kernel
theorem dX11_plan_65 : decode cX11_plan 65 = .ok (.i2l, 1) := by decide +kernel
theorem dX11_plan_66 : decode cX11_plan 66 = .ok (.lconst 0, 1) := by decide +kernel
theorem dX11_plan_67 : decode cX11_plan 67 = .ok (.ldc2_w 75, 3) := by decide +kernel
theorem dX11_plan_70 : decode cX11_plan 70 = .ok (.invokestatic 65, 3) := by decide +kernel
theorem dX11_plan_73 : decode cX11_plan 73 = .ok (.ifCond .eq 20, 3) := by decide +kernel
theorem dX11_plan_76 : decode cX11_plan 76 = .ok (.iload_n 1, 1) := by decide +kernel
theorem dX11_plan_77 : decode cX11_plan 77 = .ok (.iconst 2, 1) := by decide +kernel
theorem dX11_plan_78 : decode cX11_plan 78 = .ok (.if_icmp .ne 18, 3) := by decide +kernel
theorem dX11_plan_81 : decode cX11_plan 81 = .ok (.iload_n 2, 1) := by decide +kernel
theorem dX11_plan_82 : decode cX11_plan 82 = .ok (.i2l, 1) := by decide +kernel
theorem dX11_plan_83 : decode cX11_plan 83 = .ok (.lconst 0, 1) := by decide +kernel
theorem dX11_plan_84 : decode cX11_plan 84 = .ok (.ldc2_w 75, 3) := by decide +kernel
theorem dX11_plan_87 : decode cX11_plan 87 = .ok (.invokestatic 65, 3) := by decide +kernel
theorem dX11_plan_90 : decode cX11_plan 90 = .ok (.ifCond .ne 6, 3) := by decide +kernel
theorem dX11_plan_93 : decode cX11_plan 93 = .ok (.bipush (-2), 2) := by decide +kernel
theorem dX11_plan_95 : decode cX11_plan 95 = .ok (.ireturn, 1) := by decide +kernel
theorem dX11_plan_96 : decode cX11_plan 96 = .ok (.aload_n 0, 1) := by decide +kernel
theorem dX11_plan_97 : decode cX11_plan 97 = .ok (.getfield 11, 3) := by decide +kernel
theorem dX11_plan_100 : decode cX11_plan 100 = .ok (.sipush 131, 3) := by decide +kernel
theorem dX11_plan_103 : decode cX11_plan 103 = .ok (.iaload, 1) := by decide +kernel
theorem dX11_plan_104 : decode cX11_plan 104 = .ok (.bipush 8, 2) := by decide +kernel
theorem dX11_plan_106 : decode cX11_plan 106 = .ok (.if_icmp .ne 6, 3) := by decide +kernel
theorem dX11_plan_109 : decode cX11_plan 109 = .ok (.bipush (-4), 2) := by decide +kernel
theorem dX11_plan_111 : decode cX11_plan 111 = .ok (.ireturn, 1) := by decide +kernel
theorem dX11_plan_112 : decode cX11_plan 112 = .ok (.aload_n 0, 1) := by decide +kernel
theorem dX11_plan_113 : decode cX11_plan 113 = .ok (.getfield 11, 3) := by decide +kernel
theorem dX11_plan_116 : decode cX11_plan 116 = .ok (.sipush 132, 3) := by decide +kernel
theorem dX11_plan_119 : decode cX11_plan 119 = .ok (.iconst 2, 1) := by decide +kernel
theorem dX11_plan_120 : decode cX11_plan 120 = .ok (.aload_n 0, 1) := by decide +kernel
theorem dX11_plan_121 : decode cX11_plan 121 = .ok (.getfield 11, 3) := by decide +kernel
theorem dX11_plan_124 : decode cX11_plan 124 = .ok (.sipush 131, 3) := by decide +kernel
theorem dX11_plan_127 : decode cX11_plan 127 = .ok (.iaload, 1) := by decide +kernel
theorem dX11_plan_128 : decode cX11_plan 128 = .ok (.imul, 1) := by decide +kernel
theorem dX11_plan_129 : decode cX11_plan 129 = .ok (.iadd, 1) := by decide +kernel
theorem dX11_plan_130 : decode cX11_plan 130 = .ok (.iload_n 1, 1) := by decide +kernel
theorem dX11_plan_131 : decode cX11_plan 131 = .ok (.iastore, 1) := by decide +kernel
theorem dX11_plan_132 : decode cX11_plan 132 = .ok (.aload_n 0, 1) := by decide +kernel
theorem dX11_plan_133 : decode cX11_plan 133 = .ok (.getfield 11, 3) := by decide +kernel
theorem dX11_plan_136 : decode cX11_plan 136 = .ok (.sipush 132, 3) := by decide +kernel
theorem dX11_plan_139 : decode cX11_plan 139 = .ok (.iconst 2, 1) := by decide +kernel
theorem dX11_plan_140 : decode cX11_plan 140 = .ok (.aload_n 0, 1) := by decide +kernel
theorem dX11_plan_141 : decode cX11_plan 141 = .ok (.getfield 11, 3) := by decide +kernel
theorem dX11_plan_144 : decode cX11_plan 144 = .ok (.sipush 131, 3) := by decide +kernel
theorem dX11_plan_147 : decode cX11_plan 147 = .ok (.iaload, 1) := by decide +kernel
theorem dX11_plan_148 : decode cX11_plan 148 = .ok (.imul, 1) := by decide +kernel
theorem dX11_plan_149 : decode cX11_plan 149 = .ok (.iadd, 1) := by decide +kernel
theorem dX11_plan_150 : decode cX11_plan 150 = .ok (.iconst 1, 1) := by decide +kernel
theorem dX11_plan_151 : decode cX11_plan 151 = .ok (.iadd, 1) := by decide +kernel
theorem dX11_plan_152 : decode cX11_plan 152 = .ok (.iload_n 2, 1) := by decide +kernel
theorem dX11_plan_153 : decode cX11_plan 153 = .ok (.iastore, 1) := by decide +kernel
theorem dX11_plan_154 : decode cX11_plan 154 = .ok (.aload_n 0, 1) := by decide +kernel
theorem dX11_plan_155 : decode cX11_plan 155 = .ok (.getfield 11, 3) := by decide +kernel
theorem dX11_plan_158 : decode cX11_plan 158 = .ok (.sipush 131, 3) := by decide +kernel
theorem dX11_plan_161 : decode cX11_plan 161 = .ok (.dup2, 1) := by decide +kernel
theorem dX11_plan_162 : decode cX11_plan 162 = .ok (.iaload, 1) := by decide +kernel
theorem dX11_plan_163 : decode cX11_plan 163 = .ok (.iconst 1, 1) := by decide +kernel
theorem dX11_plan_164 : decode cX11_plan 164 = .ok (.iadd, 1) := by decide +kernel
theorem dX11_plan_165 : decode cX11_plan 165 = .ok (.iastore, 1) := by decide +kernel
theorem dX11_plan_166 : decode cX11_plan 166 = .ok (.aload_n 0, 1) := by decide +kernel
theorem dX11_plan_167 : decode cX11_plan 167 = .ok (.getfield 11, 3) := by decide +kernel
theorem dX11_plan_170 : decode cX11_plan 170 = .ok (.sipush 131, 3) := by decide +kernel
theorem dX11_plan_173 : decode cX11_plan 173 = .ok (.iaload, 1) := by decide +kernel
theorem dX11_plan_174 : decode cX11_plan 174 = .ok (.ireturn, 1) := by decide +kernel
theorem dX11_ends_0 : decode cX11_ends 0 = .ok (.aload_n 0, 1) := by decide +kernel
theorem dX11_ends_1 : decode cX11_ends 1 = .ok (.iload_n 1, 1) := by decide +kernel
theorem dX11_ends_2 : decode cX11_ends 2 = .ok (.invokevirtual 169, 3) := by decide +kernel
theorem dX11_ends_5 : decode cX11_ends 5 = .ok (.ifCond .eq 10, 3) := by decide +kernel
theorem dX11_ends_8 : decode cX11_ends 8 = .ok (.iload_n 2, 1) := by decide +kernel
theorem dX11_ends_9 : decode cX11_ends 9 = .ok (.invokestatic 87, 3) := by decide +kernel
theorem dX11_ends_12 : decode cX11_ends 12 = .ok (.ifCond .ne 7, 3) := by decide +kernel
theorem dX11_ends_15 : decode cX11_ends 15 = .ok (.ldc2_w 143, 3) := by decide +kernel
theorem dX11_ends_18 : decode cX11_ends 18 = .ok (.lreturn, 1) := by decide +kernel
theorem dX11_ends_19 : decode cX11_ends 19 = .ok (.aload_n 0, 1) := by decide +kernel
theorem dX11_ends_20 : decode cX11_ends 20 = .ok (.getfield 11, 3) := by decide +kernel
theorem dX11_ends_23 : decode cX11_ends 23 = .ok (.aload_n 0, 1) := by decide +kernel
theorem dX11_ends_24 : decode cX11_ends 24 = .ok (.getfield 43, 3) := by decide +kernel
theorem dX11_ends_27 : decode cX11_ends 27 = .ok (.invokestatic 275, 3) := by decide +kernel
theorem dX11_ends_30 : decode cX11_ends 30 = .ok (.iconst 0, 1) := by decide +kernel
theorem dX11_ends_31 : decode cX11_ends 31 = .ok (.istore_n 3, 1) := by decide +kernel
theorem dX11_ends_32 : decode cX11_ends 32 = .ok (.iload_n 3, 1) := by decide +kernel
theorem dX11_ends_33 : decode cX11_ends 33 = .ok (.aload_n 0, 1) := by decide +kernel
theorem dX11_ends_34 : decode cX11_ends 34 = .ok (.getfield 11, 3) := by decide +kernel
theorem dX11_ends_37 : decode cX11_ends 37 = .ok (.sipush 131, 3) := by decide +kernel
theorem dX11_ends_40 : decode cX11_ends 40 = .ok (.iaload, 1) := by decide +kernel
theorem dX11_ends_41 : decode cX11_ends 41 = .ok (.if_icmp .ge 131, 3) := by decide +kernel
theorem dX11_ends_44 : decode cX11_ends 44 = .ok (.aload_n 0, 1) := by decide +kernel
theorem dX11_ends_45 : decode cX11_ends 45 = .ok (.getfield 11, 3) := by decide +kernel
theorem dX11_ends_48 : decode cX11_ends 48 = .ok (.sipush 132, 3) := by decide +kernel
theorem dX11_ends_51 : decode cX11_ends 51 = .ok (.iconst 2, 1) := by decide +kernel
theorem dX11_ends_52 : decode cX11_ends 52 = .ok (.iload_n 3, 1) := by decide +kernel
theorem dX11_ends_53 : decode cX11_ends 53 = .ok (.imul, 1) := by decide +kernel
theorem dX11_ends_54 : decode cX11_ends 54 = .ok (.iadd, 1) := by decide +kernel
theorem dX11_ends_55 : decode cX11_ends 55 = .ok (.iconst 1, 1) := by decide +kernel
theorem dX11_ends_56 : decode cX11_ends 56 = .ok (.iadd, 1) := by decide +kernel
theorem dX11_ends_57 : decode cX11_ends 57 = .ok (.iaload, 1) := by decide +kernel
theorem dX11_ends_58 : decode cX11_ends 58 = .ok (.istore 4, 2) := by decide +kernel
theorem dX11_ends_60 : decode cX11_ends 60 = .ok (.aload_n 0, 1) := by decide +kernel
theorem dX11_ends_61 : decode cX11_ends 61 = .ok (.getfield 11, 3) := by decide +kernel
theorem dX11_ends_64 : decode cX11_ends 64 = .ok (.sipush 132, 3) := by decide +kernel
theorem dX11_ends_67 : decode cX11_ends 67 = .ok (.iconst 2, 1) := by decide +kernel
theorem dX11_ends_68 : decode cX11_ends 68 = .ok (.iload_n 3, 1) := by decide +kernel
theorem dX11_ends_69 : decode cX11_ends 69 = .ok (.imul, 1) := by decide +kernel
theorem dX11_ends_70 : decode cX11_ends 70 = .ok (.iadd, 1) := by decide +kernel
theorem dX11_ends_71 : decode cX11_ends 71 = .ok (.iaload, 1) := by decide +kernel
theorem dX11_ends_72 : decode cX11_ends 72 = .ok (.tableswitch 81 0 2 #[28, 39, 70], 28) := by decide +kernel
theorem dX11_ends_100 : decode cX11_ends 100 = .ok (.aload_n 0, 1) := by decide +kernel
theorem dX11_ends_101 : decode cX11_ends 101 = .ok (.getfield 11, 3) := by decide +kernel
theorem dX11_ends_104 : decode cX11_ends 104 = .ok (.iconst 0, 1) := by decide +kernel
theorem dX11_ends_105 : decode cX11_ends 105 = .ok (.iload 4, 2) := by decide +kernel
theorem dX11_ends_107 : decode cX11_ends 107 = .ok (.iastore, 1) := by decide +kernel
theorem dX11_ends_108 : decode cX11_ends 108 = .ok (.goto 58, 3) := by decide +kernel
theorem dX11_ends_111 : decode cX11_ends 111 = .ok (.iconst 0, 1) := by decide +kernel
theorem dX11_ends_112 : decode cX11_ends 112 = .ok (.istore 5, 2) := by decide +kernel
theorem dX11_ends_114 : decode cX11_ends 114 = .ok (.iload 5, 2) := by decide +kernel
theorem dX11_ends_116 : decode cX11_ends 116 = .ok (.bipush 12, 2) := by decide +kernel
theorem dX11_ends_118 : decode cX11_ends 118 = .ok (.if_icmp .ge 21, 3) := by decide +kernel
theorem dX11_ends_121 : decode cX11_ends 121 = .ok (.aload_n 0, 1) := by decide +kernel
theorem dX11_ends_122 : decode cX11_ends 122 = .ok (.getfield 11, 3) := by decide +kernel
theorem dX11_ends_125 : decode cX11_ends 125 = .ok (.bipush 49, 2) := by decide +kernel
theorem dX11_ends_127 : decode cX11_ends 127 = .ok (.iload 5, 2) := by decide +kernel
theorem dX11_ends_129 : decode cX11_ends 129 = .ok (.iadd, 1) := by decide +kernel
theorem dX11_ends_130 : decode cX11_ends 130 = .ok (.iload 4, 2) := by decide +kernel
theorem dX11_ends_132 : decode cX11_ends 132 = .ok (.iastore, 1) := by decide +kernel
theorem dX11_ends_133 : decode cX11_ends 133 = .ok (.iinc 5 1, 3) := by decide +kernel
theorem dX11_ends_136 : decode cX11_ends 136 = .ok (.goto (-22), 3) := by decide +kernel
theorem dX11_ends_139 : decode cX11_ends 139 = .ok (.goto 27, 3) := by decide +kernel
theorem dX11_ends_142 : decode cX11_ends 142 = .ok (.aload_n 0, 1) := by decide +kernel
theorem dX11_ends_143 : decode cX11_ends 143 = .ok (.getfield 11, 3) := by decide +kernel
theorem dX11_ends_146 : decode cX11_ends 146 = .ok (.iconst 2, 1) := by decide +kernel
theorem dX11_ends_147 : decode cX11_ends 147 = .ok (.iload 4, 2) := by decide +kernel
theorem dX11_ends_149 : decode cX11_ends 149 = .ok (.iastore, 1) := by decide +kernel
theorem dX11_ends_150 : decode cX11_ends 150 = .ok (.goto 16, 3) := by decide +kernel
theorem dX11_ends_153 : decode cX11_ends 153 = .ok (.aload_n 0, 1) := by decide +kernel
theorem dX11_ends_154 : decode cX11_ends 154 = .ok (.dup, 1) := by decide +kernel
theorem dX11_ends_155 : decode cX11_ends 155 = .ok (.getfield 124, 3) := by decide +kernel
theorem dX11_ends_158 : decode cX11_ends 158 = .ok (.iconst 1, 1) := by decide +kernel
theorem dX11_ends_159 : decode cX11_ends 159 = .ok (.iload 4, 2) := by decide +kernel
theorem dX11_ends_161 : decode cX11_ends 161 = .ok (.ishl, 1) := by decide +kernel
theorem dX11_ends_162 : decode cX11_ends 162 = .ok (.ior, 1) := by decide +kernel
theorem dX11_ends_163 : decode cX11_ends 163 = .ok (.putfield 124, 3) := by decide +kernel
theorem dX11_ends_166 : decode cX11_ends 166 = .ok (.iinc 3 1, 3) := by decide +kernel
theorem dX11_ends_169 : decode cX11_ends 169 = .ok (.goto (-137), 3) := by decide +kernel
theorem dX11_ends_172 : decode cX11_ends 172 = .ok (.aload_n 0, 1) := by decide +kernel
theorem dX11_ends_173 : decode cX11_ends 173 = .ok (.iload_n 1, 1) := by decide +kernel
theorem dX11_ends_174 : decode cX11_ends 174 = .ok (.aload_n 0, 1) := by decide +kernel
theorem dX11_ends_175 : decode cX11_ends 175 = .ok (.getfield 11, 3) := by decide +kernel
theorem dX11_ends_178 : decode cX11_ends 178 = .ok (.iconst 0, 1) := by decide +kernel
theorem dX11_ends_179 : decode cX11_ends 179 = .ok (.iaload, 1) := by decide +kernel
theorem dX11_ends_180 : decode cX11_ends 180 = .ok (.invokestatic 136, 3) := by decide +kernel
theorem dX11_ends_183 : decode cX11_ends 183 = .ok (.iload_n 2, 1) := by decide +kernel
theorem dX11_ends_184 : decode cX11_ends 184 = .ok (.invokevirtual 225, 3) := by decide +kernel
theorem dX11_ends_187 : decode cX11_ends 187 = .ok (.fstore_n 3, 1) := by decide +kernel
theorem dX11_ends_188 : decode cX11_ends 188 = .ok (.aload_n 0, 1) := by decide +kernel
theorem dX11_ends_189 : decode cX11_ends 189 = .ok (.iconst 0, 1) := by decide +kernel
theorem dX11_ends_190 : decode cX11_ends 190 = .ok (.putfield 124, 3) := by decide +kernel
theorem dX11_ends_193 : decode cX11_ends 193 = .ok (.aload_n 0, 1) := by decide +kernel
theorem dX11_ends_194 : decode cX11_ends 194 = .ok (.getfield 43, 3) := by decide +kernel
theorem dX11_ends_197 : decode cX11_ends 197 = .ok (.aload_n 0, 1) := by decide +kernel
theorem dX11_ends_198 : decode cX11_ends 198 = .ok (.getfield 11, 3) := by decide +kernel
theorem dX11_ends_201 : decode cX11_ends 201 = .ok (.invokestatic 275, 3) := by decide +kernel
theorem dX11_ends_204 : decode cX11_ends 204 = .ok (.fload_n 3, 1) := by decide +kernel
theorem dX11_ends_205 : decode cX11_ends 205 = .ok (.invokestatic 201, 3) := by decide +kernel
theorem dX11_ends_208 : decode cX11_ends 208 = .ok (.lreturn, 1) := by decide +kernel
theorem dX11_book_0 : decode cX11_book 0 = .ok (.iload_n 1, 1) := by decide +kernel
theorem dX11_book_1 : decode cX11_book 1 = .ok (.iconst (-1), 1) := by decide +kernel
theorem dX11_book_2 : decode cX11_book 2 = .ok (.if_icmp .ne 14, 3) := by decide +kernel
theorem dX11_book_5 : decode cX11_book 5 = .ok (.aload_n 0, 1) := by decide +kernel
theorem dX11_book_6 : decode cX11_book 6 = .ok (.getfield 11, 3) := by decide +kernel
theorem dX11_book_9 : decode cX11_book 9 = .ok (.sipush 148, 3) := by decide +kernel
theorem dX11_book_12 : decode cX11_book 12 = .ok (.iconst 0, 1) := by decide +kernel
theorem dX11_book_13 : decode cX11_book 13 = .ok (.iastore, 1) := by decide +kernel
theorem dX11_book_14 : decode cX11_book 14 = .ok (.iconst 0, 1) := by decide +kernel
theorem dX11_book_15 : decode cX11_book 15 = .ok (.ireturn, 1) := by decide +kernel
theorem dX11_book_16 : decode cX11_book 16 = .ok (.iload_n 1, 1) := by decide +kernel
theorem dX11_book_17 : decode cX11_book 17 = .ok (.invokestatic 83, 3) := by decide +kernel
theorem dX11_book_20 : decode cX11_book 20 = .ok (.ifCond .ne 5, 3) := by decide +kernel
theorem dX11_book_23 : decode cX11_book 23 = .ok (.iconst (-1), 1) := by decide +kernel
theorem dX11_book_24 : decode cX11_book 24 = .ok (.ireturn, 1) := by decide +kernel
theorem dX11_book_25 : decode cX11_book 25 = .ok (.iload_n 2, 1) := by decide +kernel
theorem dX11_book_26 : decode cX11_book 26 = .ok (.i2l, 1) := by decide +kernel
theorem dX11_book_27 : decode cX11_book 27 = .ok (.lconst 0, 1) := by decide +kernel
theorem dX11_book_28 : decode cX11_book 28 = .ok (.ldc2_w 73, 3) := by decide +kernel
theorem dX11_book_31 : decode cX11_book 31 = .ok (.invokestatic 65, 3) := by decide +kernel
theorem dX11_book_34 : decode cX11_book 34 = .ok (.ifCond .eq 15, 3) := by decide +kernel
theorem dX11_book_37 : decode cX11_book 37 = .ok (.iload_n 3, 1) := by decide +kernel
theorem dX11_book_38 : decode cX11_book 38 = .ok (.i2l, 1) := by decide +kernel
theorem dX11_book_39 : decode cX11_book 39 = .ok (.lconst 0, 1) := by decide +kernel
theorem dX11_book_40 : decode cX11_book 40 = .ok (.ldc2_w 208, 3) := by decide +kernel
theorem dX11_book_43 : decode cX11_book 43 = .ok (.invokestatic 65, 3) := by decide +kernel
theorem dX11_book_46 : decode cX11_book 46 = .ok (.ifCond .ne 6, 3) := by decide +kernel
theorem dX11_book_49 : decode cX11_book 49 = .ok (.bipush (-2), 2) := by decide +kernel
theorem dX11_book_51 : decode cX11_book 51 = .ok (.ireturn, 1) := by decide +kernel
theorem dX11_book_52 : decode cX11_book 52 = .ok (.aload_n 0, 1) := by decide +kernel
theorem dX11_book_53 : decode cX11_book 53 = .ok (.getfield 11, 3) := by decide +kernel
theorem dX11_book_56 : decode cX11_book 56 = .ok (.sipush 148, 3) := by decide +kernel
theorem dX11_book_59 : decode cX11_book 59 = .ok (.iaload, 1) := by decide +kernel
theorem dX11_book_60 : decode cX11_book 60 = .ok (.bipush 8, 2) := by decide +kernel
theorem dX11_book_62 : decode cX11_book 62 = .ok (.if_icmp .ne 6, 3) := by decide +kernel
theorem dX11_book_65 : decode cX11_book 65 = .ok (.bipush (-4), 2) := by decide +kernel
theorem dX11_book_67 : decode cX11_book 67 = .ok (.ireturn, 1) := by decide +kernel
theorem dX11_book_68 : decode cX11_book 68 = .ok (.sipush 149, 3) := by decide +kernel
theorem dX11_book_71 : decode cX11_book 71 = .ok (.iconst 3, 1) := by decide +kernel
theorem dX11_book_72 : decode cX11_book 72 = .ok (.aload_n 0, 1) := by decide +kernel
theorem dX11_book_73 : decode cX11_book 73 = .ok (.getfield 11, 3) := by decide +kernel
theorem dX11_book_76 : decode cX11_book 76 = .ok (.sipush 148, 3) := by decide +kernel
theorem dX11_book_79 : decode cX11_book 79 = .ok (.iaload, 1) := by decide +kernel
theorem dX11_book_80 : decode cX11_book 80 = .ok (.imul, 1) := by decide +kernel
theorem dX11_book_81 : decode cX11_book 81 = .ok (.iadd, 1) := by decide +kernel
theorem dX11_book_82 : decode cX11_book 82 = .ok (.istore 4, 2) := by decide +kernel
theorem dX11_book_84 : decode cX11_book 84 = .ok (.aload_n 0, 1) := by decide +kernel
theorem dX11_book_85 : decode cX11_book 85 = .ok (.getfield 11, 3) := by decide +kernel
theorem dX11_book_88 : decode cX11_book 88 = .ok (.iload 4, 2) := by decide +kernel
theorem dX11_book_90 : decode cX11_book 90 = .ok (.iload_n 1, 1) := by decide +kernel
theorem dX11_book_91 : decode cX11_book 91 = .ok (.iastore, 1) := by decide +kernel
theorem dX11_book_92 : decode cX11_book 92 = .ok (.aload_n 0, 1) := by decide +kernel
theorem dX11_book_93 : decode cX11_book 93 = .ok (.getfield 11, 3) := by decide +kernel
theorem dX11_book_96 : decode cX11_book 96 = .ok (.iload 4, 2) := by decide +kernel
theorem dX11_book_98 : decode cX11_book 98 = .ok (.iconst 1, 1) := by decide +kernel
theorem dX11_book_99 : decode cX11_book 99 = .ok (.iadd, 1) := by decide +kernel
theorem dX11_book_100 : decode cX11_book 100 = .ok (.iload_n 2, 1) := by decide +kernel
theorem dX11_book_101 : decode cX11_book 101 = .ok (.iastore, 1) := by decide +kernel
theorem dX11_book_102 : decode cX11_book 102 = .ok (.aload_n 0, 1) := by decide +kernel
theorem dX11_book_103 : decode cX11_book 103 = .ok (.getfield 11, 3) := by decide +kernel
theorem dX11_book_106 : decode cX11_book 106 = .ok (.iload 4, 2) := by decide +kernel
theorem dX11_book_108 : decode cX11_book 108 = .ok (.iconst 2, 1) := by decide +kernel
theorem dX11_book_109 : decode cX11_book 109 = .ok (.iadd, 1) := by decide +kernel
theorem dX11_book_110 : decode cX11_book 110 = .ok (.iload_n 3, 1) := by decide +kernel
theorem dX11_book_111 : decode cX11_book 111 = .ok (.iastore, 1) := by decide +kernel
theorem dX11_book_112 : decode cX11_book 112 = .ok (.aload_n 0, 1) := by decide +kernel
theorem dX11_book_113 : decode cX11_book 113 = .ok (.getfield 11, 3) := by decide +kernel
theorem dX11_book_116 : decode cX11_book 116 = .ok (.sipush 148, 3) := by decide +kernel
theorem dX11_book_119 : decode cX11_book 119 = .ok (.dup2, 1) := by decide +kernel
theorem dX11_book_120 : decode cX11_book 120 = .ok (.iaload, 1) := by decide +kernel
theorem dX11_book_121 : decode cX11_book 121 = .ok (.iconst 1, 1) := by decide +kernel
theorem dX11_book_122 : decode cX11_book 122 = .ok (.iadd, 1) := by decide +kernel
theorem dX11_book_123 : decode cX11_book 123 = .ok (.iastore, 1) := by decide +kernel
theorem dX11_book_124 : decode cX11_book 124 = .ok (.aload_n 0, 1) := by decide +kernel
theorem dX11_book_125 : decode cX11_book 125 = .ok (.getfield 11, 3) := by decide +kernel
theorem dX11_book_128 : decode cX11_book 128 = .ok (.sipush 148, 3) := by decide +kernel
theorem dX11_book_131 : decode cX11_book 131 = .ok (.iaload, 1) := by decide +kernel
theorem dX11_book_132 : decode cX11_book 132 = .ok (.ireturn, 1) := by decide +kernel
theorem dX11_looked_0 : decode cX11_looked 0 = .ok (.aload_n 0, 1) := by decide +kernel
theorem dX11_looked_1 : decode cX11_looked 1 = .ok (.iconst 0, 1) := by decide +kernel
theorem dX11_looked_2 : decode cX11_looked 2 = .ok (.invokevirtual 197, 3) := by decide +kernel
theorem dX11_looked_5 : decode cX11_looked 5 = .ok (.iconst 0, 1) := by decide +kernel
theorem dX11_looked_6 : decode cX11_looked 6 = .ok (.istore_n 1, 1) := by decide +kernel
theorem dX11_looked_7 : decode cX11_looked 7 = .ok (.iload_n 1, 1) := by decide +kernel
theorem dX11_looked_8 : decode cX11_looked 8 = .ok (.aload_n 0, 1) := by decide +kernel
theorem dX11_looked_9 : decode cX11_looked 9 = .ok (.getfield 11, 3) := by decide +kernel
theorem dX11_looked_12 : decode cX11_looked 12 = .ok (.sipush 148, 3) := by decide +kernel
theorem dX11_looked_15 : decode cX11_looked 15 = .ok (.iaload, 1) := by decide +kernel
theorem dX11_looked_16 : decode cX11_looked 16 = .ok (.if_icmp .ge 49, 3) := by decide +kernel
theorem dX11_looked_19 : decode cX11_looked 19 = .ok (.sipush 149, 3) := by decide +kernel
theorem dX11_looked_22 : decode cX11_looked 22 = .ok (.iconst 3, 1) := by decide +kernel
theorem dX11_looked_23 : decode cX11_looked 23 = .ok (.iload_n 1, 1) := by decide +kernel
theorem dX11_looked_24 : decode cX11_looked 24 = .ok (.imul, 1) := by decide +kernel
theorem dX11_looked_25 : decode cX11_looked 25 = .ok (.iadd, 1) := by decide +kernel
theorem dX11_looked_26 : decode cX11_looked 26 = .ok (.istore_n 2, 1) := by decide +kernel
theorem dX11_looked_27 : decode cX11_looked 27 = .ok (.aload_n 0, 1) := by decide +kernel
theorem dX11_looked_28 : decode cX11_looked 28 = .ok (.aload_n 0, 1) := by decide +kernel
theorem dX11_looked_29 : decode cX11_looked 29 = .ok (.getfield 11, 3) := by decide +kernel
theorem dX11_looked_32 : decode cX11_looked 32 = .ok (.iload_n 2, 1) := by decide +kernel
theorem dX11_looked_33 : decode cX11_looked 33 = .ok (.iaload, 1) := by decide +kernel
theorem dX11_looked_34 : decode cX11_looked 34 = .ok (.aload_n 0, 1) := by decide +kernel
theorem dX11_looked_35 : decode cX11_looked 35 = .ok (.getfield 11, 3) := by decide +kernel
theorem dX11_looked_38 : decode cX11_looked 38 = .ok (.iload_n 2, 1) := by decide +kernel
theorem dX11_looked_39 : decode cX11_looked 39 = .ok (.iconst 1, 1) := by decide +kernel
theorem dX11_looked_40 : decode cX11_looked 40 = .ok (.iadd, 1) := by decide +kernel
theorem dX11_looked_41 : decode cX11_looked 41 = .ok (.iaload, 1) := by decide +kernel
theorem dX11_looked_42 : decode cX11_looked 42 = .ok (.iconst 1, 1) := by decide +kernel
theorem dX11_looked_43 : decode cX11_looked 43 = .ok (.aload_n 0, 1) := by decide +kernel
theorem dX11_looked_44 : decode cX11_looked 44 = .ok (.getfield 11, 3) := by decide +kernel
theorem dX11_looked_47 : decode cX11_looked 47 = .ok (.iload_n 2, 1) := by decide +kernel
theorem dX11_looked_48 : decode cX11_looked 48 = .ok (.iconst 2, 1) := by decide +kernel
theorem dX11_looked_49 : decode cX11_looked 49 = .ok (.iadd, 1) := by decide +kernel
theorem dX11_looked_50 : decode cX11_looked 50 = .ok (.iaload, 1) := by decide +kernel
theorem dX11_looked_51 : decode cX11_looked 51 = .ok (.invokevirtual 267, 3) := by decide +kernel
theorem dX11_looked_54 : decode cX11_looked 54 = .ok (.ifCond .ne 5, 3) := by decide +kernel
theorem dX11_looked_57 : decode cX11_looked 57 = .ok (.iload_n 1, 1) := by decide +kernel
theorem dX11_looked_58 : decode cX11_looked 58 = .ok (.ireturn, 1) := by decide +kernel
theorem dX11_looked_59 : decode cX11_looked 59 = .ok (.iinc 1 1, 3) := by decide +kernel
theorem dX11_looked_62 : decode cX11_looked 62 = .ok (.goto (-55), 3) := by decide +kernel
theorem dX11_looked_65 : decode cX11_looked 65 = .ok (.bipush (-5), 2) := by decide +kernel
theorem dX11_looked_67 : decode cX11_looked 67 = .ok (.ireturn, 1) := by decide +kernel
theorem dX11_feed_0 : decode cX11_feed 0 = .ok (.iload_n 1, 1) := by decide +kernel
theorem dX11_feed_1 : decode cX11_feed 1 = .ok (.i2l, 1) := by decide +kernel
theorem dX11_feed_2 : decode cX11_feed 2 = .ok (.lconst 0, 1) := by decide +kernel
theorem dX11_feed_3 : decode cX11_feed 3 = .ok (.ldc2_w 279, 3) := by decide +kernel
theorem dX11_feed_6 : decode cX11_feed 6 = .ok (.invokestatic 65, 3) := by decide +kernel
theorem dX11_feed_9 : decode cX11_feed 9 = .ok (.ifCond .ne 6, 3) := by decide +kernel
theorem dX11_feed_12 : decode cX11_feed 12 = .ok (.bipush (-2), 2) := by decide +kernel
theorem dX11_feed_14 : decode cX11_feed 14 = .ok (.ireturn, 1) := by decide +kernel
theorem dX11_feed_15 : decode cX11_feed 15 = .ok (.aload_n 0, 1) := by decide +kernel
theorem dX11_feed_16 : decode cX11_feed 16 = .ok (.getfield 281, 3) := by decide +kernel
theorem dX11_feed_19 : decode cX11_feed 19 = .ok (.bipush 100, 2) := by decide +kernel
theorem dX11_feed_21 : decode cX11_feed 21 = .ok (.if_icmp .ne 6, 3) := by decide +kernel
theorem dX11_feed_24 : decode cX11_feed 24 = .ok (.bipush (-4), 2) := by decide +kernel
theorem dX11_feed_26 : decode cX11_feed 26 = .ok (.ireturn, 1) := by decide +kernel
theorem dX11_feed_27 : decode cX11_feed 27 = .ok (.aload_n 0, 1) := by decide +kernel
theorem dX11_feed_28 : decode cX11_feed 28 = .ok (.getfield 46, 3) := by decide +kernel
theorem dX11_feed_31 : decode cX11_feed 31 = .ok (.aload_n 0, 1) := by decide +kernel
theorem dX11_feed_32 : decode cX11_feed 32 = .ok (.getfield 281, 3) := by decide +kernel
theorem dX11_feed_35 : decode cX11_feed 35 = .ok (.iload_n 1, 1) := by decide +kernel
theorem dX11_feed_36 : decode cX11_feed 36 = .ok (.i2b, 1) := by decide +kernel
theorem dX11_feed_37 : decode cX11_feed 37 = .ok (.bastore, 1) := by decide +kernel
theorem dX11_feed_38 : decode cX11_feed 38 = .ok (.aload_n 0, 1) := by decide +kernel
theorem dX11_feed_39 : decode cX11_feed 39 = .ok (.dup, 1) := by decide +kernel
theorem dX11_feed_40 : decode cX11_feed 40 = .ok (.getfield 281, 3) := by decide +kernel
theorem dX11_feed_43 : decode cX11_feed 43 = .ok (.iconst 1, 1) := by decide +kernel
theorem dX11_feed_44 : decode cX11_feed 44 = .ok (.iadd, 1) := by decide +kernel
theorem dX11_feed_45 : decode cX11_feed 45 = .ok (.putfield 281, 3) := by decide +kernel
theorem dX11_feed_48 : decode cX11_feed 48 = .ok (.aload_n 0, 1) := by decide +kernel
theorem dX11_feed_49 : decode cX11_feed 49 = .ok (.getfield 281, 3) := by decide +kernel
theorem dX11_feed_52 : decode cX11_feed 52 = .ok (.ireturn, 1) := by decide +kernel
theorem dX11_isDigit_0 : decode cX11_isDigit 0 = .ok (.aload_n 0, 1) := by decide +kernel
theorem dX11_isDigit_1 : decode cX11_isDigit 1 = .ok (.getfield 284, 3) := by decide +kernel
theorem dX11_isDigit_4 : decode cX11_isDigit 4 = .ok (.aload_n 0, 1) := by decide +kernel
theorem dX11_isDigit_5 : decode cX11_isDigit 5 = .ok (.getfield 281, 3) := by decide +kernel
theorem dX11_isDigit_8 : decode cX11_isDigit 8 = .ok (.if_icmp .ge 29, 3) := by decide +kernel
theorem dX11_isDigit_11 : decode cX11_isDigit 11 = .ok (.aload_n 0, 1) := by decide +kernel
theorem dX11_isDigit_12 : decode cX11_isDigit 12 = .ok (.getfield 46, 3) := by decide +kernel
theorem dX11_isDigit_15 : decode cX11_isDigit 15 = .ok (.aload_n 0, 1) := by decide +kernel
theorem dX11_isDigit_16 : decode cX11_isDigit 16 = .ok (.getfield 284, 3) := by decide +kernel
theorem dX11_isDigit_19 : decode cX11_isDigit 19 = .ok (.baload, 1) := by decide +kernel
theorem dX11_isDigit_20 : decode cX11_isDigit 20 = .ok (.i2l, 1) := by decide +kernel
theorem dX11_isDigit_21 : decode cX11_isDigit 21 = .ok (.ldc2_w 287, 3) := by decide +kernel
theorem dX11_isDigit_24 : decode cX11_isDigit 24 = .ok (.ldc2_w 289, 3) := by decide +kernel
theorem dX11_isDigit_27 : decode cX11_isDigit 27 = .ok (.invokestatic 65, 3) := by decide +kernel
theorem dX11_isDigit_30 : decode cX11_isDigit 30 = .ok (.ifCond .eq 7, 3) := by decide +kernel
theorem dX11_isDigit_33 : decode cX11_isDigit 33 = .ok (.iconst 1, 1) := by decide +kernel
theorem dX11_isDigit_34 : decode cX11_isDigit 34 = .ok (.goto 4, 3) := by decide +kernel
theorem dX11_isDigit_37 : decode cX11_isDigit 37 = .ok (.iconst 0, 1) := by decide +kernel
theorem dX11_isDigit_38 : decode cX11_isDigit 38 = .ok (.ireturn, 1) := by decide +kernel
theorem dX11_wrong_0 : decode cX11_wrong 0 = .ok (.aload_n 0, 1) := by decide +kernel
theorem dX11_wrong_1 : decode cX11_wrong 1 = .ok (.aload_n 0, 1) := by decide +kernel
theorem dX11_wrong_2 : decode cX11_wrong 2 = .ok (.getfield 291, 3) := by decide +kernel
theorem dX11_wrong_5 : decode cX11_wrong 5 = .ok (.ifCond .ge 10, 3) := by decide +kernel
theorem dX11_wrong_8 : decode cX11_wrong 8 = .ok (.aload_n 0, 1) := by decide +kernel
theorem dX11_wrong_9 : decode cX11_wrong 9 = .ok (.getfield 284, 3) := by decide +kernel
theorem dX11_wrong_12 : decode cX11_wrong 12 = .ok (.goto 7, 3) := by decide +kernel
theorem dX11_wrong_15 : decode cX11_wrong 15 = .ok (.aload_n 0, 1) := by decide +kernel
theorem dX11_wrong_16 : decode cX11_wrong 16 = .ok (.getfield 291, 3) := by decide +kernel
theorem dX11_wrong_19 : decode cX11_wrong 19 = .ok (.putfield 291, 3) := by decide +kernel
theorem dX11_wrong_22 : decode cX11_wrong 22 = .ok (.return_, 1) := by decide +kernel
theorem dX11_digit_0 : decode cX11_digit 0 = .ok (.aload_n 0, 1) := by decide +kernel
theorem dX11_digit_1 : decode cX11_digit 1 = .ok (.getfield 291, 3) := by decide +kernel
theorem dX11_digit_4 : decode cX11_digit 4 = .ok (.ifCond .ge 10, 3) := by decide +kernel
theorem dX11_digit_7 : decode cX11_digit 7 = .ok (.aload_n 0, 1) := by decide +kernel
theorem dX11_digit_8 : decode cX11_digit 8 = .ok (.invokevirtual 294, 3) := by decide +kernel
theorem dX11_digit_11 : decode cX11_digit 11 = .ok (.ifCond .ne 9, 3) := by decide +kernel
theorem dX11_digit_14 : decode cX11_digit 14 = .ok (.aload_n 0, 1) := by decide +kernel
theorem dX11_digit_15 : decode cX11_digit 15 = .ok (.invokevirtual 297, 3) := by decide +kernel
theorem dX11_digit_18 : decode cX11_digit 18 = .ok (.iconst 0, 1) := by decide +kernel
theorem dX11_digit_19 : decode cX11_digit 19 = .ok (.ireturn, 1) := by decide +kernel
theorem dX11_digit_20 : decode cX11_digit 20 = .ok (.aload_n 0, 1) := by decide +kernel
theorem dX11_digit_21 : decode cX11_digit 21 = .ok (.dup, 1) := by decide +kernel
theorem dX11_digit_22 : decode cX11_digit 22 = .ok (.getfield 284, 3) := by decide +kernel
theorem dX11_digit_25 : decode cX11_digit 25 = .ok (.iconst 1, 1) := by decide +kernel
theorem dX11_digit_26 : decode cX11_digit 26 = .ok (.iadd, 1) := by decide +kernel
theorem dX11_digit_27 : decode cX11_digit 27 = .ok (.putfield 284, 3) := by decide +kernel
theorem dX11_digit_30 : decode cX11_digit 30 = .ok (.aload_n 0, 1) := by decide +kernel
theorem dX11_digit_31 : decode cX11_digit 31 = .ok (.getfield 46, 3) := by decide +kernel
theorem dX11_digit_34 : decode cX11_digit 34 = .ok (.aload_n 0, 1) := by decide +kernel
theorem dX11_digit_35 : decode cX11_digit 35 = .ok (.getfield 284, 3) := by decide +kernel
theorem dX11_digit_38 : decode cX11_digit 38 = .ok (.iconst 1, 1) := by decide +kernel
theorem dX11_digit_39 : decode cX11_digit 39 = .ok (.isub, 1) := by decide +kernel
theorem dX11_digit_40 : decode cX11_digit 40 = .ok (.baload, 1) := by decide +kernel
theorem dX11_digit_41 : decode cX11_digit 41 = .ok (.bipush 48, 2) := by decide +kernel
theorem dX11_digit_43 : decode cX11_digit 43 = .ok (.isub, 1) := by decide +kernel
theorem dX11_digit_44 : decode cX11_digit 44 = .ok (.ireturn, 1) := by decide +kernel
theorem dX11_twoDigits_0 : decode cX11_twoDigits 0 = .ok (.aload_n 0, 1) := by decide +kernel
theorem dX11_twoDigits_1 : decode cX11_twoDigits 1 = .ok (.invokevirtual 300, 3) := by decide +kernel
theorem dX11_twoDigits_4 : decode cX11_twoDigits 4 = .ok (.istore_n 1, 1) := by decide +kernel
theorem dX11_twoDigits_5 : decode cX11_twoDigits 5 = .ok (.aload_n 0, 1) := by decide +kernel
theorem dX11_twoDigits_6 : decode cX11_twoDigits 6 = .ok (.getfield 291, 3) := by decide +kernel
theorem dX11_twoDigits_9 : decode cX11_twoDigits 9 = .ok (.ifCond .ge 22, 3) := by decide +kernel
theorem dX11_twoDigits_12 : decode cX11_twoDigits 12 = .ok (.aload_n 0, 1) := by decide +kernel
theorem dX11_twoDigits_13 : decode cX11_twoDigits 13 = .ok (.invokevirtual 294, 3) := by decide +kernel
theorem dX11_twoDigits_16 : decode cX11_twoDigits 16 = .ok (.ifCond .eq 15, 3) := by decide +kernel
theorem dX11_twoDigits_19 : decode cX11_twoDigits 19 = .ok (.bipush 10, 2) := by decide +kernel
theorem dX11_twoDigits_21 : decode cX11_twoDigits 21 = .ok (.iload_n 1, 1) := by decide +kernel
theorem dX11_twoDigits_22 : decode cX11_twoDigits 22 = .ok (.imul, 1) := by decide +kernel
theorem dX11_twoDigits_23 : decode cX11_twoDigits 23 = .ok (.aload_n 0, 1) := by decide +kernel
theorem dX11_twoDigits_24 : decode cX11_twoDigits 24 = .ok (.invokevirtual 300, 3) := by decide +kernel
theorem dX11_twoDigits_27 : decode cX11_twoDigits 27 = .ok (.iadd, 1) := by decide +kernel
theorem dX11_twoDigits_28 : decode cX11_twoDigits 28 = .ok (.goto 4, 3) := by decide +kernel
theorem dX11_twoDigits_31 : decode cX11_twoDigits 31 = .ok (.iload_n 1, 1) := by decide +kernel
theorem dX11_twoDigits_32 : decode cX11_twoDigits 32 = .ok (.ireturn, 1) := by decide +kernel
theorem dX11_takes_0 : decode cX11_takes 0 = .ok (.aload_n 0, 1) := by decide +kernel
theorem dX11_takes_1 : decode cX11_takes 1 = .ok (.getfield 291, 3) := by decide +kernel
theorem dX11_takes_4 : decode cX11_takes 4 = .ok (.ifCond .ge 27, 3) := by decide +kernel
theorem dX11_takes_7 : decode cX11_takes 7 = .ok (.aload_n 0, 1) := by decide +kernel
theorem dX11_takes_8 : decode cX11_takes 8 = .ok (.getfield 284, 3) := by decide +kernel
theorem dX11_takes_11 : decode cX11_takes 11 = .ok (.aload_n 0, 1) := by decide +kernel
theorem dX11_takes_12 : decode cX11_takes 12 = .ok (.getfield 281, 3) := by decide +kernel
theorem dX11_takes_15 : decode cX11_takes 15 = .ok (.if_icmp .ge 16, 3) := by decide +kernel
theorem dX11_takes_18 : decode cX11_takes 18 = .ok (.aload_n 0, 1) := by decide +kernel
theorem dX11_takes_19 : decode cX11_takes 19 = .ok (.getfield 46, 3) := by decide +kernel
theorem dX11_takes_22 : decode cX11_takes 22 = .ok (.aload_n 0, 1) := by decide +kernel
theorem dX11_takes_23 : decode cX11_takes 23 = .ok (.getfield 284, 3) := by decide +kernel
theorem dX11_takes_26 : decode cX11_takes 26 = .ok (.baload, 1) := by decide +kernel
theorem dX11_takes_27 : decode cX11_takes 27 = .ok (.iload_n 1, 1) := by decide +kernel
theorem dX11_takes_28 : decode cX11_takes 28 = .ok (.if_icmp .eq 5, 3) := by decide +kernel
theorem dX11_takes_31 : decode cX11_takes 31 = .ok (.iconst 0, 1) := by decide +kernel
theorem dX11_takes_32 : decode cX11_takes 32 = .ok (.ireturn, 1) := by decide +kernel
theorem dX11_takes_33 : decode cX11_takes 33 = .ok (.aload_n 0, 1) := by decide +kernel
theorem dX11_takes_34 : decode cX11_takes 34 = .ok (.dup, 1) := by decide +kernel
theorem dX11_takes_35 : decode cX11_takes 35 = .ok (.getfield 284, 3) := by decide +kernel
theorem dX11_takes_38 : decode cX11_takes 38 = .ok (.iconst 1, 1) := by decide +kernel
theorem dX11_takes_39 : decode cX11_takes 39 = .ok (.iadd, 1) := by decide +kernel
theorem dX11_takes_40 : decode cX11_takes 40 = .ok (.putfield 284, 3) := by decide +kernel
theorem dX11_takes_43 : decode cX11_takes 43 = .ok (.iconst 1, 1) := by decide +kernel
theorem dX11_takes_44 : decode cX11_takes 44 = .ok (.ireturn, 1) := by decide +kernel
theorem dX11_must_0 : decode cX11_must 0 = .ok (.aload_n 0, 1) := by decide +kernel
theorem dX11_must_1 : decode cX11_must 1 = .ok (.iload_n 1, 1) := by decide +kernel
theorem dX11_must_2 : decode cX11_must 2 = .ok (.invokevirtual 304, 3) := by decide +kernel
theorem dX11_must_5 : decode cX11_must 5 = .ok (.ifCond .ne 7, 3) := by decide +kernel
theorem dX11_must_8 : decode cX11_must 8 = .ok (.aload_n 0, 1) := by decide +kernel
theorem dX11_must_9 : decode cX11_must 9 = .ok (.invokevirtual 297, 3) := by decide +kernel
theorem dX11_must_12 : decode cX11_must 12 = .ok (.return_, 1) := by decide +kernel
theorem dX11_digits_0 : decode cX11_digits 0 = .ok (.iconst 0, 1) := by decide +kernel
theorem dX11_digits_1 : decode cX11_digits 1 = .ok (.istore_n 3, 1) := by decide +kernel
theorem dX11_digits_2 : decode cX11_digits 2 = .ok (.iload_n 3, 1) := by decide +kernel
theorem dX11_digits_3 : decode cX11_digits 3 = .ok (.iload_n 2, 1) := by decide +kernel
theorem dX11_digits_4 : decode cX11_digits 4 = .ok (.if_icmp .ge 21, 3) := by decide +kernel
theorem dX11_digits_7 : decode cX11_digits 7 = .ok (.aload_n 0, 1) := by decide +kernel
theorem dX11_digits_8 : decode cX11_digits 8 = .ok (.getfield 50, 3) := by decide +kernel
theorem dX11_digits_11 : decode cX11_digits 11 = .ok (.iload_n 1, 1) := by decide +kernel
theorem dX11_digits_12 : decode cX11_digits 12 = .ok (.iload_n 3, 1) := by decide +kernel
theorem dX11_digits_13 : decode cX11_digits 13 = .ok (.iadd, 1) := by decide +kernel
theorem dX11_digits_14 : decode cX11_digits 14 = .ok (.aload_n 0, 1) := by decide +kernel
theorem dX11_digits_15 : decode cX11_digits 15 = .ok (.invokevirtual 300, 3) := by decide +kernel
theorem dX11_digits_18 : decode cX11_digits 18 = .ok (.iastore, 1) := by decide +kernel
theorem dX11_digits_19 : decode cX11_digits 19 = .ok (.iinc 3 1, 3) := by decide +kernel
theorem dX11_digits_22 : decode cX11_digits 22 = .ok (.goto (-20), 3) := by decide +kernel
theorem dX11_digits_25 : decode cX11_digits 25 = .ok (.return_, 1) := by decide +kernel
theorem dX11_readClause_0 : decode cX11_readClause 0 = .ok (.aload_n 0, 1) := by decide +kernel
theorem dX11_readClause_1 : decode cX11_readClause 1 = .ok (.getfield 284, 3) := by decide +kernel
theorem dX11_readClause_4 : decode cX11_readClause 4 = .ok (.aload_n 0, 1) := by decide +kernel
theorem dX11_readClause_5 : decode cX11_readClause 5 = .ok (.getfield 281, 3) := by decide +kernel
theorem dX11_readClause_8 : decode cX11_readClause 8 = .ok (.if_icmp .ge 15, 3) := by decide +kernel
theorem dX11_readClause_11 : decode cX11_readClause 11 = .ok (.aload_n 0, 1) := by decide +kernel
theorem dX11_readClause_12 : decode cX11_readClause 12 = .ok (.getfield 46, 3) := by decide +kernel
theorem dX11_readClause_15 : decode cX11_readClause 15 = .ok (.aload_n 0, 1) := by decide +kernel
theorem dX11_readClause_16 : decode cX11_readClause 16 = .ok (.getfield 284, 3) := by decide +kernel
theorem dX11_readClause_19 : decode cX11_readClause 19 = .ok (.baload, 1) := by decide +kernel
theorem dX11_readClause_20 : decode cX11_readClause 20 = .ok (.goto 4, 3) := by decide +kernel
theorem dX11_readClause_23 : decode cX11_readClause 23 = .ok (.iconst (-1), 1) := by decide +kernel
theorem dX11_readClause_24 : decode cX11_readClause 24 = .ok (.istore_n 2, 1) := by decide +kernel
theorem dX11_readClause_25 : decode cX11_readClause 25 = .ok (.aload_n 0, 1) := by decide +kernel
theorem dX11_readClause_26 : decode cX11_readClause 26 = .ok (.getfield 50, 3) := by decide +kernel
theorem dX11_readClause_29 : decode cX11_readClause 29 = .ok (.iload_n 1, 1) := by decide +kernel
theorem dX11_readClause_30 : decode cX11_readClause 30 = .ok (.iload_n 2, 1) := by decide +kernel
theorem dX11_readClause_31 : decode cX11_readClause 31 = .ok (.iastore, 1) := by decide +kernel
theorem dX11_readClause_32 : decode cX11_readClause 32 = .ok (.aload_n 0, 1) := by decide +kernel
theorem dX11_readClause_33 : decode cX11_readClause 33 = .ok (.dup, 1) := by decide +kernel
theorem dX11_readClause_34 : decode cX11_readClause 34 = .ok (.getfield 284, 3) := by decide +kernel
theorem dX11_readClause_37 : decode cX11_readClause 37 = .ok (.iconst 1, 1) := by decide +kernel
theorem dX11_readClause_38 : decode cX11_readClause 38 = .ok (.iadd, 1) := by decide +kernel
theorem dX11_readClause_39 : decode cX11_readClause 39 = .ok (.putfield 284, 3) := by decide +kernel
theorem dX11_readClause_42 : decode cX11_readClause 42 = .ok (.iload_n 2, 1) := by decide +kernel
theorem dX11_readClause_43 : decode cX11_readClause 43 = .ok (.tableswitch 211 99 113 #[198, 73, 167, 167, 211, 211, 211, 211, 211, 211, 211, 211, 211, 158, 131], 73) := by decide +kernel
theorem dX11_readClause_116 : decode cX11_readClause 116 = .ok (.aload_n 0, 1) := by decide +kernel
theorem dX11_readClause_117 : decode cX11_readClause 117 = .ok (.iload_n 1, 1) := by decide +kernel
theorem dX11_readClause_118 : decode cX11_readClause 118 = .ok (.iconst 1, 1) := by decide +kernel
theorem dX11_readClause_119 : decode cX11_readClause 119 = .ok (.iadd, 1) := by decide +kernel
theorem dX11_readClause_120 : decode cX11_readClause 120 = .ok (.iconst 3, 1) := by decide +kernel
theorem dX11_readClause_121 : decode cX11_readClause 121 = .ok (.invokevirtual 307, 3) := by decide +kernel
theorem dX11_readClause_124 : decode cX11_readClause 124 = .ok (.aload_n 0, 1) := by decide +kernel
theorem dX11_readClause_125 : decode cX11_readClause 125 = .ok (.getfield 50, 3) := by decide +kernel
theorem dX11_readClause_128 : decode cX11_readClause 128 = .ok (.iload_n 1, 1) := by decide +kernel
theorem dX11_readClause_129 : decode cX11_readClause 129 = .ok (.iconst 4, 1) := by decide +kernel
theorem dX11_readClause_130 : decode cX11_readClause 130 = .ok (.iadd, 1) := by decide +kernel
theorem dX11_readClause_131 : decode cX11_readClause 131 = .ok (.aload_n 0, 1) := by decide +kernel
theorem dX11_readClause_132 : decode cX11_readClause 132 = .ok (.invokevirtual 310, 3) := by decide +kernel
theorem dX11_readClause_135 : decode cX11_readClause 135 = .ok (.iastore, 1) := by decide +kernel
theorem dX11_readClause_136 : decode cX11_readClause 136 = .ok (.aload_n 0, 1) := by decide +kernel
theorem dX11_readClause_137 : decode cX11_readClause 137 = .ok (.bipush 46, 2) := by decide +kernel
theorem dX11_readClause_139 : decode cX11_readClause 139 = .ok (.invokevirtual 313, 3) := by decide +kernel
theorem dX11_readClause_142 : decode cX11_readClause 142 = .ok (.aload_n 0, 1) := by decide +kernel
theorem dX11_readClause_143 : decode cX11_readClause 143 = .ok (.getfield 50, 3) := by decide +kernel
theorem dX11_readClause_146 : decode cX11_readClause 146 = .ok (.iload_n 1, 1) := by decide +kernel
theorem dX11_readClause_147 : decode cX11_readClause 147 = .ok (.iconst 5, 1) := by decide +kernel
theorem dX11_readClause_148 : decode cX11_readClause 148 = .ok (.iadd, 1) := by decide +kernel
theorem dX11_readClause_149 : decode cX11_readClause 149 = .ok (.aload_n 0, 1) := by decide +kernel
theorem dX11_readClause_150 : decode cX11_readClause 150 = .ok (.invokevirtual 310, 3) := by decide +kernel
theorem dX11_readClause_153 : decode cX11_readClause 153 = .ok (.iastore, 1) := by decide +kernel
theorem dX11_readClause_154 : decode cX11_readClause 154 = .ok (.aload_n 0, 1) := by decide +kernel
theorem dX11_readClause_155 : decode cX11_readClause 155 = .ok (.bipush 46, 2) := by decide +kernel
theorem dX11_readClause_157 : decode cX11_readClause 157 = .ok (.invokevirtual 313, 3) := by decide +kernel
theorem dX11_readClause_160 : decode cX11_readClause 160 = .ok (.aload_n 0, 1) := by decide +kernel
theorem dX11_readClause_161 : decode cX11_readClause 161 = .ok (.getfield 50, 3) := by decide +kernel
theorem dX11_readClause_164 : decode cX11_readClause 164 = .ok (.iload_n 1, 1) := by decide +kernel
theorem dX11_readClause_165 : decode cX11_readClause 165 = .ok (.bipush 6, 2) := by decide +kernel
theorem dX11_readClause_167 : decode cX11_readClause 167 = .ok (.iadd, 1) := by decide +kernel
theorem dX11_readClause_168 : decode cX11_readClause 168 = .ok (.aload_n 0, 1) := by decide +kernel
theorem dX11_readClause_169 : decode cX11_readClause 169 = .ok (.invokevirtual 310, 3) := by decide +kernel
theorem dX11_readClause_172 : decode cX11_readClause 172 = .ok (.iastore, 1) := by decide +kernel
theorem dX11_readClause_173 : decode cX11_readClause 173 = .ok (.return_, 1) := by decide +kernel
theorem dX11_readClause_174 : decode cX11_readClause 174 = .ok (.aload_n 0, 1) := by decide +kernel
theorem dX11_readClause_175 : decode cX11_readClause 175 = .ok (.getfield 50, 3) := by decide +kernel
theorem dX11_readClause_178 : decode cX11_readClause 178 = .ok (.iload_n 1, 1) := by decide +kernel
theorem dX11_readClause_179 : decode cX11_readClause 179 = .ok (.iconst 1, 1) := by decide +kernel
theorem dX11_readClause_180 : decode cX11_readClause 180 = .ok (.iadd, 1) := by decide +kernel
theorem dX11_readClause_181 : decode cX11_readClause 181 = .ok (.aload_n 0, 1) := by decide +kernel
theorem dX11_readClause_182 : decode cX11_readClause 182 = .ok (.invokevirtual 310, 3) := by decide +kernel
theorem dX11_readClause_185 : decode cX11_readClause 185 = .ok (.iastore, 1) := by decide +kernel
theorem dX11_readClause_186 : decode cX11_readClause 186 = .ok (.aload_n 0, 1) := by decide +kernel
theorem dX11_readClause_187 : decode cX11_readClause 187 = .ok (.bipush 46, 2) := by decide +kernel
theorem dX11_readClause_189 : decode cX11_readClause 189 = .ok (.invokevirtual 313, 3) := by decide +kernel
theorem dX11_readClause_192 : decode cX11_readClause 192 = .ok (.aload_n 0, 1) := by decide +kernel
theorem dX11_readClause_193 : decode cX11_readClause 193 = .ok (.iload_n 1, 1) := by decide +kernel
theorem dX11_readClause_194 : decode cX11_readClause 194 = .ok (.iconst 2, 1) := by decide +kernel
theorem dX11_readClause_195 : decode cX11_readClause 195 = .ok (.iadd, 1) := by decide +kernel
theorem dX11_readClause_196 : decode cX11_readClause 196 = .ok (.iconst 3, 1) := by decide +kernel
theorem dX11_readClause_197 : decode cX11_readClause 197 = .ok (.invokevirtual 307, 3) := by decide +kernel
theorem dX11_readClause_200 : decode cX11_readClause 200 = .ok (.return_, 1) := by decide +kernel
theorem dX11_readClause_201 : decode cX11_readClause 201 = .ok (.aload_n 0, 1) := by decide +kernel
theorem dX11_readClause_202 : decode cX11_readClause 202 = .ok (.iload_n 1, 1) := by decide +kernel
theorem dX11_readClause_203 : decode cX11_readClause 203 = .ok (.iconst 1, 1) := by decide +kernel
theorem dX11_readClause_204 : decode cX11_readClause 204 = .ok (.iadd, 1) := by decide +kernel
theorem dX11_readClause_205 : decode cX11_readClause 205 = .ok (.iconst 4, 1) := by decide +kernel
theorem dX11_readClause_206 : decode cX11_readClause 206 = .ok (.invokevirtual 307, 3) := by decide +kernel
theorem dX11_readClause_209 : decode cX11_readClause 209 = .ok (.return_, 1) := by decide +kernel
theorem dX11_readClause_210 : decode cX11_readClause 210 = .ok (.aload_n 0, 1) := by decide +kernel
theorem dX11_readClause_211 : decode cX11_readClause 211 = .ok (.getfield 50, 3) := by decide +kernel
theorem dX11_readClause_214 : decode cX11_readClause 214 = .ok (.iload_n 1, 1) := by decide +kernel
theorem dX11_readClause_215 : decode cX11_readClause 215 = .ok (.iconst 1, 1) := by decide +kernel
theorem dX11_readClause_216 : decode cX11_readClause 216 = .ok (.iadd, 1) := by decide +kernel
theorem dX11_readClause_217 : decode cX11_readClause 217 = .ok (.aload_n 0, 1) := by decide +kernel
theorem dX11_readClause_218 : decode cX11_readClause 218 = .ok (.invokevirtual 310, 3) := by decide +kernel
theorem dX11_readClause_221 : decode cX11_readClause 221 = .ok (.iastore, 1) := by decide +kernel
theorem dX11_readClause_222 : decode cX11_readClause 222 = .ok (.aload_n 0, 1) := by decide +kernel
theorem dX11_readClause_223 : decode cX11_readClause 223 = .ok (.bipush 46, 2) := by decide +kernel
theorem dX11_readClause_225 : decode cX11_readClause 225 = .ok (.invokevirtual 313, 3) := by decide +kernel
theorem dX11_readClause_228 : decode cX11_readClause 228 = .ok (.aload_n 0, 1) := by decide +kernel
theorem dX11_readClause_229 : decode cX11_readClause 229 = .ok (.getfield 50, 3) := by decide +kernel
theorem dX11_readClause_232 : decode cX11_readClause 232 = .ok (.iload_n 1, 1) := by decide +kernel
theorem dX11_readClause_233 : decode cX11_readClause 233 = .ok (.iconst 2, 1) := by decide +kernel
theorem dX11_readClause_234 : decode cX11_readClause 234 = .ok (.iadd, 1) := by decide +kernel
theorem dX11_readClause_235 : decode cX11_readClause 235 = .ok (.aload_n 0, 1) := by decide +kernel
theorem dX11_readClause_236 : decode cX11_readClause 236 = .ok (.invokevirtual 300, 3) := by decide +kernel
theorem dX11_readClause_239 : decode cX11_readClause 239 = .ok (.iastore, 1) := by decide +kernel
theorem dX11_readClause_240 : decode cX11_readClause 240 = .ok (.return_, 1) := by decide +kernel
theorem dX11_readClause_241 : decode cX11_readClause 241 = .ok (.aload_n 0, 1) := by decide +kernel
theorem dX11_readClause_242 : decode cX11_readClause 242 = .ok (.getfield 50, 3) := by decide +kernel
theorem dX11_readClause_245 : decode cX11_readClause 245 = .ok (.iload_n 1, 1) := by decide +kernel
theorem dX11_readClause_246 : decode cX11_readClause 246 = .ok (.iconst 1, 1) := by decide +kernel
theorem dX11_readClause_247 : decode cX11_readClause 247 = .ok (.iadd, 1) := by decide +kernel
theorem dX11_readClause_248 : decode cX11_readClause 248 = .ok (.aload_n 0, 1) := by decide +kernel
theorem dX11_readClause_249 : decode cX11_readClause 249 = .ok (.invokevirtual 310, 3) := by decide +kernel
theorem dX11_readClause_252 : decode cX11_readClause 252 = .ok (.iastore, 1) := by decide +kernel
theorem dX11_readClause_253 : decode cX11_readClause 253 = .ok (.return_, 1) := by decide +kernel
theorem dX11_readClause_254 : decode cX11_readClause 254 = .ok (.aload_n 0, 1) := by decide +kernel
theorem dX11_readClause_255 : decode cX11_readClause 255 = .ok (.dup, 1) := by decide +kernel
theorem dX11_readClause_256 : decode cX11_readClause 256 = .ok (.getfield 284, 3) := by decide +kernel
theorem dX11_readClause_259 : decode cX11_readClause 259 = .ok (.iconst 1, 1) := by decide +kernel
theorem dX11_readClause_260 : decode cX11_readClause 260 = .ok (.isub, 1) := by decide +kernel
theorem dX11_readClause_261 : decode cX11_readClause 261 = .ok (.putfield 284, 3) := by decide +kernel
theorem dX11_readClause_264 : decode cX11_readClause 264 = .ok (.aload_n 0, 1) := by decide +kernel
theorem dX11_readClause_265 : decode cX11_readClause 265 = .ok (.invokevirtual 297, 3) := by decide +kernel
theorem dX11_readClause_268 : decode cX11_readClause 268 = .ok (.return_, 1) := by decide +kernel
theorem dX11_isDone_0 : decode cX11_isDone 0 = .ok (.aload_n 0, 1) := by decide +kernel
theorem dX11_isDone_1 : decode cX11_isDone 1 = .ok (.getfield 50, 3) := by decide +kernel
theorem dX11_isDone_4 : decode cX11_isDone 4 = .ok (.iload_n 1, 1) := by decide +kernel
theorem dX11_isDone_5 : decode cX11_isDone 5 = .ok (.iconst 1, 1) := by decide +kernel
theorem dX11_isDone_6 : decode cX11_isDone 6 = .ok (.iadd, 1) := by decide +kernel
theorem dX11_isDone_7 : decode cX11_isDone 7 = .ok (.iaload, 1) := by decide +kernel
theorem dX11_isDone_8 : decode cX11_isDone 8 = .ok (.istore_n 2, 1) := by decide +kernel
theorem dX11_isDone_9 : decode cX11_isDone 9 = .ok (.aload_n 0, 1) := by decide +kernel
theorem dX11_isDone_10 : decode cX11_isDone 10 = .ok (.getfield 50, 3) := by decide +kernel
theorem dX11_isDone_13 : decode cX11_isDone 13 = .ok (.iload_n 1, 1) := by decide +kernel
theorem dX11_isDone_14 : decode cX11_isDone 14 = .ok (.iaload, 1) := by decide +kernel
theorem dX11_isDone_15 : decode cX11_isDone 15 = .ok (.lookupswitch 251 #[(99, 236), (100, 41), (112, 160), (113, 96)], 41) := by decide +kernel
theorem dX11_isDone_56 : decode cX11_isDone 56 = .ok (.aload_n 0, 1) := by decide +kernel
theorem dX11_isDone_57 : decode cX11_isDone 57 = .ok (.iload_n 2, 1) := by decide +kernel
theorem dX11_isDone_58 : decode cX11_isDone 58 = .ok (.aload_n 0, 1) := by decide +kernel
theorem dX11_isDone_59 : decode cX11_isDone 59 = .ok (.getfield 50, 3) := by decide +kernel
theorem dX11_isDone_62 : decode cX11_isDone 62 = .ok (.iload_n 1, 1) := by decide +kernel
theorem dX11_isDone_63 : decode cX11_isDone 63 = .ok (.iconst 2, 1) := by decide +kernel
theorem dX11_isDone_64 : decode cX11_isDone 64 = .ok (.iadd, 1) := by decide +kernel
theorem dX11_isDone_65 : decode cX11_isDone 65 = .ok (.iaload, 1) := by decide +kernel
theorem dX11_isDone_66 : decode cX11_isDone 66 = .ok (.aload_n 0, 1) := by decide +kernel
theorem dX11_isDone_67 : decode cX11_isDone 67 = .ok (.getfield 50, 3) := by decide +kernel
theorem dX11_isDone_70 : decode cX11_isDone 70 = .ok (.iload_n 1, 1) := by decide +kernel
theorem dX11_isDone_71 : decode cX11_isDone 71 = .ok (.iconst 3, 1) := by decide +kernel
theorem dX11_isDone_72 : decode cX11_isDone 72 = .ok (.iadd, 1) := by decide +kernel
theorem dX11_isDone_73 : decode cX11_isDone 73 = .ok (.iaload, 1) := by decide +kernel
theorem dX11_isDone_74 : decode cX11_isDone 74 = .ok (.aload_n 0, 1) := by decide +kernel
theorem dX11_isDone_75 : decode cX11_isDone 75 = .ok (.getfield 50, 3) := by decide +kernel
theorem dX11_isDone_78 : decode cX11_isDone 78 = .ok (.iload_n 1, 1) := by decide +kernel
theorem dX11_isDone_79 : decode cX11_isDone 79 = .ok (.iconst 4, 1) := by decide +kernel
theorem dX11_isDone_80 : decode cX11_isDone 80 = .ok (.iadd, 1) := by decide +kernel
theorem dX11_isDone_81 : decode cX11_isDone 81 = .ok (.iaload, 1) := by decide +kernel
theorem dX11_isDone_82 : decode cX11_isDone 82 = .ok (.aload_n 0, 1) := by decide +kernel
theorem dX11_isDone_83 : decode cX11_isDone 83 = .ok (.getfield 50, 3) := by decide +kernel
theorem dX11_isDone_86 : decode cX11_isDone 86 = .ok (.iload_n 1, 1) := by decide +kernel
theorem dX11_isDone_87 : decode cX11_isDone 87 = .ok (.iconst 5, 1) := by decide +kernel
theorem dX11_isDone_88 : decode cX11_isDone 88 = .ok (.iadd, 1) := by decide +kernel
theorem dX11_isDone_89 : decode cX11_isDone 89 = .ok (.iaload, 1) := by decide +kernel
theorem dX11_isDone_90 : decode cX11_isDone 90 = .ok (.aload_n 0, 1) := by decide +kernel
theorem dX11_isDone_91 : decode cX11_isDone 91 = .ok (.getfield 50, 3) := by decide +kernel
theorem dX11_isDone_94 : decode cX11_isDone 94 = .ok (.iload_n 1, 1) := by decide +kernel
theorem dX11_isDone_95 : decode cX11_isDone 95 = .ok (.bipush 6, 2) := by decide +kernel
theorem dX11_isDone_97 : decode cX11_isDone 97 = .ok (.iadd, 1) := by decide +kernel
theorem dX11_isDone_98 : decode cX11_isDone 98 = .ok (.iaload, 1) := by decide +kernel
theorem dX11_isDone_99 : decode cX11_isDone 99 = .ok (.invokevirtual 316, 3) := by decide +kernel
theorem dX11_isDone_102 : decode cX11_isDone 102 = .ok (.ifCond .lt 7, 3) := by decide +kernel
theorem dX11_isDone_105 : decode cX11_isDone 105 = .ok (.iconst 1, 1) := by decide +kernel
theorem dX11_isDone_106 : decode cX11_isDone 106 = .ok (.goto 4, 3) := by decide +kernel
theorem dX11_isDone_109 : decode cX11_isDone 109 = .ok (.iconst 0, 1) := by decide +kernel
theorem dX11_isDone_110 : decode cX11_isDone 110 = .ok (.ireturn, 1) := by decide +kernel
theorem dX11_isDone_111 : decode cX11_isDone 111 = .ok (.iload_n 2, 1) := by decide +kernel
theorem dX11_isDone_112 : decode cX11_isDone 112 = .ok (.invokestatic 83, 3) := by decide +kernel
theorem dX11_isDone_115 : decode cX11_isDone 115 = .ok (.ifCond .eq 58, 3) := by decide +kernel
theorem dX11_isDone_118 : decode cX11_isDone 118 = .ok (.aload_n 0, 1) := by decide +kernel
theorem dX11_isDone_119 : decode cX11_isDone 119 = .ok (.iload_n 2, 1) := by decide +kernel
theorem dX11_isDone_120 : decode cX11_isDone 120 = .ok (.iconst 0, 1) := by decide +kernel
theorem dX11_isDone_121 : decode cX11_isDone 121 = .ok (.aload_n 0, 1) := by decide +kernel
theorem dX11_isDone_122 : decode cX11_isDone 122 = .ok (.getfield 50, 3) := by decide +kernel
theorem dX11_isDone_125 : decode cX11_isDone 125 = .ok (.iload_n 1, 1) := by decide +kernel
theorem dX11_isDone_126 : decode cX11_isDone 126 = .ok (.iconst 2, 1) := by decide +kernel
theorem dX11_isDone_127 : decode cX11_isDone 127 = .ok (.iadd, 1) := by decide +kernel
theorem dX11_isDone_128 : decode cX11_isDone 128 = .ok (.iaload, 1) := by decide +kernel
theorem dX11_isDone_129 : decode cX11_isDone 129 = .ok (.invokevirtual 320, 3) := by decide +kernel
theorem dX11_isDone_132 : decode cX11_isDone 132 = .ok (.ifCond .lt 41, 3) := by decide +kernel
theorem dX11_isDone_135 : decode cX11_isDone 135 = .ok (.aload_n 0, 1) := by decide +kernel
theorem dX11_isDone_136 : decode cX11_isDone 136 = .ok (.iload_n 2, 1) := by decide +kernel
theorem dX11_isDone_137 : decode cX11_isDone 137 = .ok (.iconst 1, 1) := by decide +kernel
theorem dX11_isDone_138 : decode cX11_isDone 138 = .ok (.aload_n 0, 1) := by decide +kernel
theorem dX11_isDone_139 : decode cX11_isDone 139 = .ok (.getfield 50, 3) := by decide +kernel
theorem dX11_isDone_142 : decode cX11_isDone 142 = .ok (.iload_n 1, 1) := by decide +kernel
theorem dX11_isDone_143 : decode cX11_isDone 143 = .ok (.iconst 3, 1) := by decide +kernel
theorem dX11_isDone_144 : decode cX11_isDone 144 = .ok (.iadd, 1) := by decide +kernel
theorem dX11_isDone_145 : decode cX11_isDone 145 = .ok (.iaload, 1) := by decide +kernel
theorem dX11_isDone_146 : decode cX11_isDone 146 = .ok (.invokevirtual 320, 3) := by decide +kernel
theorem dX11_isDone_149 : decode cX11_isDone 149 = .ok (.ifCond .lt 24, 3) := by decide +kernel
theorem dX11_isDone_152 : decode cX11_isDone 152 = .ok (.aload_n 0, 1) := by decide +kernel
theorem dX11_isDone_153 : decode cX11_isDone 153 = .ok (.iload_n 2, 1) := by decide +kernel
theorem dX11_isDone_154 : decode cX11_isDone 154 = .ok (.iconst 2, 1) := by decide +kernel
theorem dX11_isDone_155 : decode cX11_isDone 155 = .ok (.aload_n 0, 1) := by decide +kernel
theorem dX11_isDone_156 : decode cX11_isDone 156 = .ok (.getfield 50, 3) := by decide +kernel
theorem dX11_isDone_159 : decode cX11_isDone 159 = .ok (.iload_n 1, 1) := by decide +kernel
theorem dX11_isDone_160 : decode cX11_isDone 160 = .ok (.iconst 4, 1) := by decide +kernel
theorem dX11_isDone_161 : decode cX11_isDone 161 = .ok (.iadd, 1) := by decide +kernel
theorem dX11_isDone_162 : decode cX11_isDone 162 = .ok (.iaload, 1) := by decide +kernel
theorem dX11_isDone_163 : decode cX11_isDone 163 = .ok (.invokevirtual 320, 3) := by decide +kernel
theorem dX11_isDone_166 : decode cX11_isDone 166 = .ok (.ifCond .lt 7, 3) := by decide +kernel
theorem dX11_isDone_169 : decode cX11_isDone 169 = .ok (.iconst 1, 1) := by decide +kernel
theorem dX11_isDone_170 : decode cX11_isDone 170 = .ok (.goto 4, 3) := by decide +kernel
theorem dX11_isDone_173 : decode cX11_isDone 173 = .ok (.iconst 0, 1) := by decide +kernel
theorem dX11_isDone_174 : decode cX11_isDone 174 = .ok (.ireturn, 1) := by decide +kernel
theorem dX11_isDone_175 : decode cX11_isDone 175 = .ok (.iload_n 2, 1) := by decide +kernel
theorem dX11_isDone_176 : decode cX11_isDone 176 = .ok (.invokestatic 87, 3) := by decide +kernel
theorem dX11_isDone_179 : decode cX11_isDone 179 = .ok (.ifCond .eq 32, 3) := by decide +kernel
theorem dX11_isDone_182 : decode cX11_isDone 182 = .ok (.aload_n 0, 1) := by decide +kernel
theorem dX11_isDone_183 : decode cX11_isDone 183 = .ok (.getfield 50, 3) := by decide +kernel
theorem dX11_isDone_186 : decode cX11_isDone 186 = .ok (.iload_n 1, 1) := by decide +kernel
theorem dX11_isDone_187 : decode cX11_isDone 187 = .ok (.iconst 2, 1) := by decide +kernel
theorem dX11_isDone_188 : decode cX11_isDone 188 = .ok (.iadd, 1) := by decide +kernel
theorem dX11_isDone_189 : decode cX11_isDone 189 = .ok (.iaload, 1) := by decide +kernel
theorem dX11_isDone_190 : decode cX11_isDone 190 = .ok (.aload_n 0, 1) := by decide +kernel
theorem dX11_isDone_191 : decode cX11_isDone 191 = .ok (.getfield 50, 3) := by decide +kernel
theorem dX11_isDone_194 : decode cX11_isDone 194 = .ok (.iload_n 1, 1) := by decide +kernel
theorem dX11_isDone_195 : decode cX11_isDone 195 = .ok (.iconst 3, 1) := by decide +kernel
theorem dX11_isDone_196 : decode cX11_isDone 196 = .ok (.iadd, 1) := by decide +kernel
theorem dX11_isDone_197 : decode cX11_isDone 197 = .ok (.iaload, 1) := by decide +kernel
theorem dX11_isDone_198 : decode cX11_isDone 198 = .ok (.iadd, 1) := by decide +kernel
theorem dX11_isDone_199 : decode cX11_isDone 199 = .ok (.aload_n 0, 1) := by decide +kernel
theorem dX11_isDone_200 : decode cX11_isDone 200 = .ok (.getfield 50, 3) := by decide +kernel
theorem dX11_isDone_203 : decode cX11_isDone 203 = .ok (.iload_n 1, 1) := by decide +kernel
theorem dX11_isDone_204 : decode cX11_isDone 204 = .ok (.iconst 4, 1) := by decide +kernel
theorem dX11_isDone_205 : decode cX11_isDone 205 = .ok (.iadd, 1) := by decide +kernel
theorem dX11_isDone_206 : decode cX11_isDone 206 = .ok (.iaload, 1) := by decide +kernel
theorem dX11_isDone_207 : decode cX11_isDone 207 = .ok (.iadd, 1) := by decide +kernel
theorem dX11_isDone_208 : decode cX11_isDone 208 = .ok (.ifCond .ne 5, 3) := by decide +kernel
theorem dX11_isDone_211 : decode cX11_isDone 211 = .ok (.iconst 0, 1) := by decide +kernel
theorem dX11_isDone_212 : decode cX11_isDone 212 = .ok (.ireturn, 1) := by decide +kernel
theorem dX11_isDone_213 : decode cX11_isDone 213 = .ok (.iconst 0, 1) := by decide +kernel
theorem dX11_isDone_214 : decode cX11_isDone 214 = .ok (.istore_n 3, 1) := by decide +kernel
theorem dX11_isDone_215 : decode cX11_isDone 215 = .ok (.iload_n 3, 1) := by decide +kernel
theorem dX11_isDone_216 : decode cX11_isDone 216 = .ok (.iconst 3, 1) := by decide +kernel
theorem dX11_isDone_217 : decode cX11_isDone 217 = .ok (.if_icmp .ge 32, 3) := by decide +kernel
theorem dX11_isDone_220 : decode cX11_isDone 220 = .ok (.aload_n 0, 1) := by decide +kernel
theorem dX11_isDone_221 : decode cX11_isDone 221 = .ok (.getfield 11, 3) := by decide +kernel
theorem dX11_isDone_224 : decode cX11_isDone 224 = .ok (.bipush 40, 2) := by decide +kernel
theorem dX11_isDone_226 : decode cX11_isDone 226 = .ok (.iconst 3, 1) := by decide +kernel
theorem dX11_isDone_227 : decode cX11_isDone 227 = .ok (.iload_n 2, 1) := by decide +kernel
theorem dX11_isDone_228 : decode cX11_isDone 228 = .ok (.imul, 1) := by decide +kernel
theorem dX11_isDone_229 : decode cX11_isDone 229 = .ok (.iadd, 1) := by decide +kernel
theorem dX11_isDone_230 : decode cX11_isDone 230 = .ok (.iload_n 3, 1) := by decide +kernel
theorem dX11_isDone_231 : decode cX11_isDone 231 = .ok (.iadd, 1) := by decide +kernel
theorem dX11_isDone_232 : decode cX11_isDone 232 = .ok (.aload_n 0, 1) := by decide +kernel
theorem dX11_isDone_233 : decode cX11_isDone 233 = .ok (.getfield 50, 3) := by decide +kernel
theorem dX11_isDone_236 : decode cX11_isDone 236 = .ok (.iload_n 1, 1) := by decide +kernel
theorem dX11_isDone_237 : decode cX11_isDone 237 = .ok (.iconst 2, 1) := by decide +kernel
theorem dX11_isDone_238 : decode cX11_isDone 238 = .ok (.iadd, 1) := by decide +kernel
theorem dX11_isDone_239 : decode cX11_isDone 239 = .ok (.iload_n 3, 1) := by decide +kernel
theorem dX11_isDone_240 : decode cX11_isDone 240 = .ok (.iadd, 1) := by decide +kernel
theorem dX11_isDone_241 : decode cX11_isDone 241 = .ok (.iaload, 1) := by decide +kernel
theorem dX11_isDone_242 : decode cX11_isDone 242 = .ok (.iastore, 1) := by decide +kernel
theorem dX11_isDone_243 : decode cX11_isDone 243 = .ok (.iinc 3 1, 3) := by decide +kernel
theorem dX11_isDone_246 : decode cX11_isDone 246 = .ok (.goto (-31), 3) := by decide +kernel
theorem dX11_isDone_249 : decode cX11_isDone 249 = .ok (.iconst 1, 1) := by decide +kernel
theorem dX11_isDone_250 : decode cX11_isDone 250 = .ok (.ireturn, 1) := by decide +kernel
theorem dX11_isDone_251 : decode cX11_isDone 251 = .ok (.aload_n 0, 1) := by decide +kernel
theorem dX11_isDone_252 : decode cX11_isDone 252 = .ok (.iconst 0, 1) := by decide +kernel
theorem dX11_isDone_253 : decode cX11_isDone 253 = .ok (.iload_n 2, 1) := by decide +kernel
theorem dX11_isDone_254 : decode cX11_isDone 254 = .ok (.invokevirtual 323, 3) := by decide +kernel
theorem dX11_isDone_257 : decode cX11_isDone 257 = .ok (.ifCond .lt 7, 3) := by decide +kernel
theorem dX11_isDone_260 : decode cX11_isDone 260 = .ok (.iconst 1, 1) := by decide +kernel
theorem dX11_isDone_261 : decode cX11_isDone 261 = .ok (.goto 4, 3) := by decide +kernel
theorem dX11_isDone_264 : decode cX11_isDone 264 = .ok (.iconst 0, 1) := by decide +kernel
theorem dX11_isDone_265 : decode cX11_isDone 265 = .ok (.ireturn, 1) := by decide +kernel
theorem dX11_isDone_266 : decode cX11_isDone 266 = .ok (.aload_n 0, 1) := by decide +kernel
theorem dX11_isDone_267 : decode cX11_isDone 267 = .ok (.iload_n 2, 1) := by decide +kernel
theorem dX11_isDone_268 : decode cX11_isDone 268 = .ok (.aload_n 0, 1) := by decide +kernel
theorem dX11_isDone_269 : decode cX11_isDone 269 = .ok (.getfield 50, 3) := by decide +kernel
theorem dX11_isDone_272 : decode cX11_isDone 272 = .ok (.iload_n 1, 1) := by decide +kernel
theorem dX11_isDone_273 : decode cX11_isDone 273 = .ok (.iaload, 1) := by decide +kernel
theorem dX11_isDone_274 : decode cX11_isDone 274 = .ok (.bipush 101, 2) := by decide +kernel
theorem dX11_isDone_276 : decode cX11_isDone 276 = .ok (.if_icmp .ne 7, 3) := by decide +kernel
theorem dX11_isDone_279 : decode cX11_isDone 279 = .ok (.iconst 0, 1) := by decide +kernel
theorem dX11_isDone_280 : decode cX11_isDone 280 = .ok (.goto 4, 3) := by decide +kernel
theorem dX11_isDone_283 : decode cX11_isDone 283 = .ok (.iconst 1, 1) := by decide +kernel
theorem dX11_isDone_284 : decode cX11_isDone 284 = .ok (.aload_n 0, 1) := by decide +kernel
theorem dX11_isDone_285 : decode cX11_isDone 285 = .ok (.getfield 50, 3) := by decide +kernel
theorem dX11_isDone_288 : decode cX11_isDone 288 = .ok (.iload_n 1, 1) := by decide +kernel
theorem dX11_isDone_289 : decode cX11_isDone 289 = .ok (.iconst 2, 1) := by decide +kernel
theorem dX11_isDone_290 : decode cX11_isDone 290 = .ok (.iadd, 1) := by decide +kernel
theorem dX11_isDone_291 : decode cX11_isDone 291 = .ok (.iaload, 1) := by decide +kernel
theorem dX11_isDone_292 : decode cX11_isDone 292 = .ok (.invokevirtual 326, 3) := by decide +kernel
theorem dX11_isDone_295 : decode cX11_isDone 295 = .ok (.ifCond .lt 7, 3) := by decide +kernel
theorem dX11_isDone_298 : decode cX11_isDone 298 = .ok (.iconst 1, 1) := by decide +kernel
theorem dX11_isDone_299 : decode cX11_isDone 299 = .ok (.goto 4, 3) := by decide +kernel
theorem dX11_isDone_302 : decode cX11_isDone 302 = .ok (.iconst 0, 1) := by decide +kernel
theorem dX11_isDone_303 : decode cX11_isDone 303 = .ok (.ireturn, 1) := by decide +kernel
theorem dX11_read_0 : decode cX11_read 0 = .ok (.aload_n 0, 1) := by decide +kernel
theorem dX11_read_1 : decode cX11_read 1 = .ok (.iconst 0, 1) := by decide +kernel
theorem dX11_read_2 : decode cX11_read 2 = .ok (.putfield 284, 3) := by decide +kernel
theorem dX11_read_5 : decode cX11_read 5 = .ok (.aload_n 0, 1) := by decide +kernel
theorem dX11_read_6 : decode cX11_read 6 = .ok (.iconst (-1), 1) := by decide +kernel
theorem dX11_read_7 : decode cX11_read 7 = .ok (.putfield 291, 3) := by decide +kernel
theorem dX11_read_10 : decode cX11_read 10 = .ok (.iconst 1, 1) := by decide +kernel
theorem dX11_read_11 : decode cX11_read 11 = .ok (.istore_n 1, 1) := by decide +kernel
theorem dX11_read_12 : decode cX11_read 12 = .ok (.aload_n 0, 1) := by decide +kernel
theorem dX11_read_13 : decode cX11_read 13 = .ok (.iconst 0, 1) := by decide +kernel
theorem dX11_read_14 : decode cX11_read 14 = .ok (.invokevirtual 329, 3) := by decide +kernel
theorem dX11_read_17 : decode cX11_read 17 = .ok (.iload_n 1, 1) := by decide +kernel
theorem dX11_read_18 : decode cX11_read 18 = .ok (.bipush 12, 2) := by decide +kernel
theorem dX11_read_20 : decode cX11_read 20 = .ok (.if_icmp .ge 26, 3) := by decide +kernel
theorem dX11_read_23 : decode cX11_read 23 = .ok (.aload_n 0, 1) := by decide +kernel
theorem dX11_read_24 : decode cX11_read 24 = .ok (.bipush 59, 2) := by decide +kernel
theorem dX11_read_26 : decode cX11_read 26 = .ok (.invokevirtual 304, 3) := by decide +kernel
theorem dX11_read_29 : decode cX11_read 29 = .ok (.ifCond .eq 17, 3) := by decide +kernel
theorem dX11_read_32 : decode cX11_read 32 = .ok (.aload_n 0, 1) := by decide +kernel
theorem dX11_read_33 : decode cX11_read 33 = .ok (.bipush 7, 2) := by decide +kernel
theorem dX11_read_35 : decode cX11_read 35 = .ok (.iload_n 1, 1) := by decide +kernel
theorem dX11_read_36 : decode cX11_read 36 = .ok (.imul, 1) := by decide +kernel
theorem dX11_read_37 : decode cX11_read 37 = .ok (.invokevirtual 329, 3) := by decide +kernel
theorem dX11_read_40 : decode cX11_read 40 = .ok (.iinc 1 1, 3) := by decide +kernel
theorem dX11_read_43 : decode cX11_read 43 = .ok (.goto (-26), 3) := by decide +kernel
theorem dX11_read_46 : decode cX11_read 46 = .ok (.aload_n 0, 1) := by decide +kernel
theorem dX11_read_47 : decode cX11_read 47 = .ok (.getfield 284, 3) := by decide +kernel
theorem dX11_read_50 : decode cX11_read 50 = .ok (.aload_n 0, 1) := by decide +kernel
theorem dX11_read_51 : decode cX11_read 51 = .ok (.getfield 281, 3) := by decide +kernel
theorem dX11_read_54 : decode cX11_read 54 = .ok (.if_icmp .ge 7, 3) := by decide +kernel
theorem dX11_read_57 : decode cX11_read 57 = .ok (.aload_n 0, 1) := by decide +kernel
theorem dX11_read_58 : decode cX11_read 58 = .ok (.invokevirtual 297, 3) := by decide +kernel
theorem dX11_read_61 : decode cX11_read 61 = .ok (.aload_n 0, 1) := by decide +kernel
theorem dX11_read_62 : decode cX11_read 62 = .ok (.iconst 0, 1) := by decide +kernel
theorem dX11_read_63 : decode cX11_read 63 = .ok (.putfield 281, 3) := by decide +kernel
theorem dX11_read_66 : decode cX11_read 66 = .ok (.aload_n 0, 1) := by decide +kernel
theorem dX11_read_67 : decode cX11_read 67 = .ok (.getfield 291, 3) := by decide +kernel
theorem dX11_read_70 : decode cX11_read 70 = .ok (.ifCond .lt 11, 3) := by decide +kernel
theorem dX11_read_73 : decode cX11_read 73 = .ok (.bipush (-10), 2) := by decide +kernel
theorem dX11_read_75 : decode cX11_read 75 = .ok (.aload_n 0, 1) := by decide +kernel
theorem dX11_read_76 : decode cX11_read 76 = .ok (.getfield 291, 3) := by decide +kernel
theorem dX11_read_79 : decode cX11_read 79 = .ok (.isub, 1) := by decide +kernel
theorem dX11_read_80 : decode cX11_read 80 = .ok (.ireturn, 1) := by decide +kernel
theorem dX11_read_81 : decode cX11_read 81 = .ok (.iconst 0, 1) := by decide +kernel
theorem dX11_read_82 : decode cX11_read 82 = .ok (.istore_n 2, 1) := by decide +kernel
theorem dX11_read_83 : decode cX11_read 83 = .ok (.iconst 0, 1) := by decide +kernel
theorem dX11_read_84 : decode cX11_read 84 = .ok (.istore_n 3, 1) := by decide +kernel
theorem dX11_read_85 : decode cX11_read 85 = .ok (.iload_n 3, 1) := by decide +kernel
theorem dX11_read_86 : decode cX11_read 86 = .ok (.iload_n 1, 1) := by decide +kernel
theorem dX11_read_87 : decode cX11_read 87 = .ok (.if_icmp .ge 28, 3) := by decide +kernel
theorem dX11_read_90 : decode cX11_read 90 = .ok (.iload_n 2, 1) := by decide +kernel
theorem dX11_read_91 : decode cX11_read 91 = .ok (.aload_n 0, 1) := by decide +kernel
theorem dX11_read_92 : decode cX11_read 92 = .ok (.bipush 7, 2) := by decide +kernel
theorem dX11_read_94 : decode cX11_read 94 = .ok (.iload_n 3, 1) := by decide +kernel
theorem dX11_read_95 : decode cX11_read 95 = .ok (.imul, 1) := by decide +kernel
theorem dX11_read_96 : decode cX11_read 96 = .ok (.invokevirtual 332, 3) := by decide +kernel
theorem dX11_read_99 : decode cX11_read 99 = .ok (.ifCond .eq 7, 3) := by decide +kernel
theorem dX11_read_102 : decode cX11_read 102 = .ok (.iconst 1, 1) := by decide +kernel
theorem dX11_read_103 : decode cX11_read 103 = .ok (.goto 4, 3) := by decide +kernel
theorem dX11_read_106 : decode cX11_read 106 = .ok (.iconst 0, 1) := by decide +kernel
theorem dX11_read_107 : decode cX11_read 107 = .ok (.iadd, 1) := by decide +kernel
theorem dX11_read_108 : decode cX11_read 108 = .ok (.istore_n 2, 1) := by decide +kernel
theorem dX11_read_109 : decode cX11_read 109 = .ok (.iinc 3 1, 3) := by decide +kernel
theorem dX11_read_112 : decode cX11_read 112 = .ok (.goto (-27), 3) := by decide +kernel
theorem dX11_read_115 : decode cX11_read 115 = .ok (.iload_n 2, 1) := by decide +kernel
theorem dX11_read_116 : decode cX11_read 116 = .ok (.ireturn, 1) := by decide +kernel
theorem dX11_isTape_0 : decode cX11_isTape 0 = .ok (.iload_n 0, 1) := by decide +kernel
theorem dX11_isTape_1 : decode cX11_isTape 1 = .ok (.i2l, 1) := by decide +kernel
theorem dX11_isTape_2 : decode cX11_isTape 2 = .ok (.lconst 0, 1) := by decide +kernel
theorem dX11_isTape_3 : decode cX11_isTape 3 = .ok (.ldc2_w 107, 3) := by decide +kernel
theorem dX11_isTape_6 : decode cX11_isTape 6 = .ok (.invokestatic 65, 3) := by decide +kernel
theorem dX11_isTape_9 : decode cX11_isTape 9 = .ok (.ireturn, 1) := by decide +kernel
theorem dX11_judge_0 : decode cX11_judge 0 = .ok (.aload_n 0, 1) := by decide +kernel
theorem dX11_judge_1 : decode cX11_judge 1 = .ok (.iload_n 1, 1) := by decide +kernel
theorem dX11_judge_2 : decode cX11_judge 2 = .ok (.iload_n 2, 1) := by decide +kernel
theorem dX11_judge_3 : decode cX11_judge 3 = .ok (.iload_n 3, 1) := by decide +kernel
theorem dX11_judge_4 : decode cX11_judge 4 = .ok (.invokevirtual 259, 3) := by decide +kernel
theorem dX11_judge_7 : decode cX11_judge 7 = .ok (.ifCond .eq 11, 3) := by decide +kernel
theorem dX11_judge_10 : decode cX11_judge 10 = .ok (.iload 4, 2) := by decide +kernel
theorem dX11_judge_12 : decode cX11_judge 12 = .ok (.invokestatic 335, 3) := by decide +kernel
theorem dX11_judge_15 : decode cX11_judge 15 = .ok (.ifCond .ne 5, 3) := by decide +kernel
theorem dX11_judge_18 : decode cX11_judge 18 = .ok (.iconst (-1), 1) := by decide +kernel
theorem dX11_judge_19 : decode cX11_judge 19 = .ok (.ireturn, 1) := by decide +kernel
theorem dX11_judge_20 : decode cX11_judge 20 = .ok (.aload_n 0, 1) := by decide +kernel
theorem dX11_judge_21 : decode cX11_judge 21 = .ok (.getfield 53, 3) := by decide +kernel
theorem dX11_judge_24 : decode cX11_judge 24 = .ok (.iload 4, 2) := by decide +kernel
theorem dX11_judge_26 : decode cX11_judge 26 = .ok (.iaload, 1) := by decide +kernel
theorem dX11_judge_27 : decode cX11_judge 27 = .ok (.ifCond .ge 6, 3) := by decide +kernel
theorem dX11_judge_30 : decode cX11_judge 30 = .ok (.bipush 100, 2) := by decide +kernel
theorem dX11_judge_32 : decode cX11_judge 32 = .ok (.ireturn, 1) := by decide +kernel
theorem dX11_judge_33 : decode cX11_judge 33 = .ok (.aload_n 0, 1) := by decide +kernel
theorem dX11_judge_34 : decode cX11_judge 34 = .ok (.getfield 53, 3) := by decide +kernel
theorem dX11_judge_37 : decode cX11_judge 37 = .ok (.iload 4, 2) := by decide +kernel
theorem dX11_judge_39 : decode cX11_judge 39 = .ok (.iaload, 1) := by decide +kernel
theorem dX11_judge_40 : decode cX11_judge 40 = .ok (.iconst 3, 1) := by decide +kernel
theorem dX11_judge_41 : decode cX11_judge 41 = .ok (.if_icmp .eq 6, 3) := by decide +kernel
theorem dX11_judge_44 : decode cX11_judge 44 = .ok (.bipush (-12), 2) := by decide +kernel
theorem dX11_judge_46 : decode cX11_judge 46 = .ok (.ireturn, 1) := by decide +kernel
theorem dX11_judge_47 : decode cX11_judge 47 = .ok (.aload_n 0, 1) := by decide +kernel
theorem dX11_judge_48 : decode cX11_judge 48 = .ok (.iload_n 1, 1) := by decide +kernel
theorem dX11_judge_49 : decode cX11_judge 49 = .ok (.iload_n 2, 1) := by decide +kernel
theorem dX11_judge_50 : decode cX11_judge 50 = .ok (.iload_n 3, 1) := by decide +kernel
theorem dX11_judge_51 : decode cX11_judge 51 = .ok (.aload_n 0, 1) := by decide +kernel
theorem dX11_judge_52 : decode cX11_judge 52 = .ok (.getfield 18, 3) := by decide +kernel
theorem dX11_judge_55 : decode cX11_judge 55 = .ok (.iload_n 1, 1) := by decide +kernel
theorem dX11_judge_56 : decode cX11_judge 56 = .ok (.iaload, 1) := by decide +kernel
theorem dX11_judge_57 : decode cX11_judge 57 = .ok (.iconst (-1), 1) := by decide +kernel
theorem dX11_judge_58 : decode cX11_judge 58 = .ok (.invokevirtual 263, 3) := by decide +kernel
theorem dX11_judge_61 : decode cX11_judge 61 = .ok (.iconst 0, 1) := by decide +kernel
theorem dX11_judge_62 : decode cX11_judge 62 = .ok (.istore 6, 2) := by decide +kernel
theorem dX11_judge_64 : decode cX11_judge 64 = .ok (.iload 6, 2) := by decide +kernel
theorem dX11_judge_66 : decode cX11_judge 66 = .ok (.aload_n 0, 1) := by decide +kernel
theorem dX11_judge_67 : decode cX11_judge 67 = .ok (.getfield 18, 3) := by decide +kernel
theorem dX11_judge_70 : decode cX11_judge 70 = .ok (.iload_n 1, 1) := by decide +kernel
theorem dX11_judge_71 : decode cX11_judge 71 = .ok (.iaload, 1) := by decide +kernel
theorem dX11_judge_72 : decode cX11_judge 72 = .ok (.if_icmp .gt 66, 3) := by decide +kernel
theorem dX11_judge_75 : decode cX11_judge 75 = .ok (.iload 5, 2) := by decide +kernel
theorem dX11_judge_77 : decode cX11_judge 77 = .ok (.ifCond .lt 18, 3) := by decide +kernel
theorem dX11_judge_80 : decode cX11_judge 80 = .ok (.iload 5, 2) := by decide +kernel
theorem dX11_judge_82 : decode cX11_judge 82 = .ok (.aload_n 0, 1) := by decide +kernel
theorem dX11_judge_83 : decode cX11_judge 83 = .ok (.getfield 56, 3) := by decide +kernel
theorem dX11_judge_86 : decode cX11_judge 86 = .ok (.iload 4, 2) := by decide +kernel
theorem dX11_judge_88 : decode cX11_judge 88 = .ok (.iaload, 1) := by decide +kernel
theorem dX11_judge_89 : decode cX11_judge 89 = .ok (.iload 6, 2) := by decide +kernel
theorem dX11_judge_91 : decode cX11_judge 91 = .ok (.isub, 1) := by decide +kernel
theorem dX11_judge_92 : decode cX11_judge 92 = .ok (.if_icmp .lt 9, 3) := by decide +kernel
theorem dX11_judge_95 : decode cX11_judge 95 = .ok (.bipush 100, 2) := by decide +kernel
theorem dX11_judge_97 : decode cX11_judge 97 = .ok (.iload 6, 2) := by decide +kernel
theorem dX11_judge_99 : decode cX11_judge 99 = .ok (.iadd, 1) := by decide +kernel
theorem dX11_judge_100 : decode cX11_judge 100 = .ok (.ireturn, 1) := by decide +kernel
theorem dX11_judge_101 : decode cX11_judge 101 = .ok (.aload_n 0, 1) := by decide +kernel
theorem dX11_judge_102 : decode cX11_judge 102 = .ok (.getfield 59, 3) := by decide +kernel
theorem dX11_judge_105 : decode cX11_judge 105 = .ok (.bipush 60, 2) := by decide +kernel
theorem dX11_judge_107 : decode cX11_judge 107 = .ok (.iload 4, 2) := by decide +kernel
theorem dX11_judge_109 : decode cX11_judge 109 = .ok (.imul, 1) := by decide +kernel
theorem dX11_judge_110 : decode cX11_judge 110 = .ok (.iload 5, 2) := by decide +kernel
theorem dX11_judge_112 : decode cX11_judge 112 = .ok (.iadd, 1) := by decide +kernel
theorem dX11_judge_113 : decode cX11_judge 113 = .ok (.iload 6, 2) := by decide +kernel
theorem dX11_judge_115 : decode cX11_judge 115 = .ok (.iadd, 1) := by decide +kernel
theorem dX11_judge_116 : decode cX11_judge 116 = .ok (.laload, 1) := by decide +kernel
theorem dX11_judge_117 : decode cX11_judge 117 = .ok (.aload_n 0, 1) := by decide +kernel
theorem dX11_judge_118 : decode cX11_judge 118 = .ok (.getfield 40, 3) := by decide +kernel
theorem dX11_judge_121 : decode cX11_judge 121 = .ok (.iload 6, 2) := by decide +kernel
theorem dX11_judge_123 : decode cX11_judge 123 = .ok (.iaload, 1) := by decide +kernel
theorem dX11_judge_124 : decode cX11_judge 124 = .ok (.i2l, 1) := by decide +kernel
theorem dX11_judge_125 : decode cX11_judge 125 = .ok (.lcmp, 1) := by decide +kernel
theorem dX11_judge_126 : decode cX11_judge 126 = .ok (.ifCond .eq 6, 3) := by decide +kernel
theorem dX11_judge_129 : decode cX11_judge 129 = .ok (.iload 6, 2) := by decide +kernel
theorem dX11_judge_131 : decode cX11_judge 131 = .ok (.ireturn, 1) := by decide +kernel
theorem dX11_judge_132 : decode cX11_judge 132 = .ok (.iinc 6 1, 3) := by decide +kernel
theorem dX11_judge_135 : decode cX11_judge 135 = .ok (.goto (-71), 3) := by decide +kernel
theorem dX11_judge_138 : decode cX11_judge 138 = .ok (.bipush (-5), 2) := by decide +kernel
theorem dX11_judge_140 : decode cX11_judge 140 = .ok (.ireturn, 1) := by decide +kernel
theorem dX11_lays_0 : decode cX11_lays 0 = .ok (.iconst 0, 1) := by decide +kernel
theorem dX11_lays_1 : decode cX11_lays 1 = .ok (.istore_n 2, 1) := by decide +kernel
theorem dX11_lays_2 : decode cX11_lays 2 = .ok (.iload_n 2, 1) := by decide +kernel
theorem dX11_lays_3 : decode cX11_lays 3 = .ok (.sipush 173, 3) := by decide +kernel
theorem dX11_lays_6 : decode cX11_lays 6 = .ok (.if_icmp .ge 15, 3) := by decide +kernel
theorem dX11_lays_9 : decode cX11_lays 9 = .ok (.aload_n 1, 1) := by decide +kernel
theorem dX11_lays_10 : decode cX11_lays 10 = .ok (.iload_n 2, 1) := by decide +kernel
theorem dX11_lays_11 : decode cX11_lays 11 = .ok (.aload_n 0, 1) := by decide +kernel
theorem dX11_lays_12 : decode cX11_lays 12 = .ok (.iload_n 2, 1) := by decide +kernel
theorem dX11_lays_13 : decode cX11_lays 13 = .ok (.iaload, 1) := by decide +kernel
theorem dX11_lays_14 : decode cX11_lays 14 = .ok (.iastore, 1) := by decide +kernel
theorem dX11_lays_15 : decode cX11_lays 15 = .ok (.iinc 2 1, 3) := by decide +kernel
theorem dX11_lays_18 : decode cX11_lays 18 = .ok (.goto (-16), 3) := by decide +kernel
theorem dX11_lays_21 : decode cX11_lays 21 = .ok (.return_, 1) := by decide +kernel
theorem dX11_image_0 : decode cX11_image 0 = .ok (.aload_n 0, 1) := by decide +kernel
theorem dX11_image_1 : decode cX11_image 1 = .ok (.getfield 11, 3) := by decide +kernel
theorem dX11_image_4 : decode cX11_image 4 = .ok (.aload_n 0, 1) := by decide +kernel
theorem dX11_image_5 : decode cX11_image 5 = .ok (.getfield 15, 3) := by decide +kernel
theorem dX11_image_8 : decode cX11_image 8 = .ok (.invokestatic 275, 3) := by decide +kernel
theorem dX11_image_11 : decode cX11_image 11 = .ok (.aload_n 0, 1) := by decide +kernel
theorem dX11_image_12 : decode cX11_image 12 = .ok (.iconst 1, 1) := by decide +kernel
theorem dX11_image_13 : decode cX11_image 13 = .ok (.putfield 338, 3) := by decide +kernel
theorem dX11_image_16 : decode cX11_image 16 = .ok (.aload_n 0, 1) := by decide +kernel
theorem dX11_image_17 : decode cX11_image 17 = .ok (.getfield 11, 3) := by decide +kernel
theorem dX11_image_20 : decode cX11_image 20 = .ok (.bipush 73, 2) := by decide +kernel
theorem dX11_image_22 : decode cX11_image 22 = .ok (.iaload, 1) := by decide +kernel
theorem dX11_image_23 : decode cX11_image 23 = .ok (.ireturn, 1) := by decide +kernel
theorem dX11_undo_0 : decode cX11_undo 0 = .ok (.aload_n 0, 1) := by decide +kernel
theorem dX11_undo_1 : decode cX11_undo 1 = .ok (.getfield 338, 3) := by decide +kernel
theorem dX11_undo_4 : decode cX11_undo 4 = .ok (.ifCond .ne 6, 3) := by decide +kernel
theorem dX11_undo_7 : decode cX11_undo 7 = .ok (.bipush (-3), 2) := by decide +kernel
theorem dX11_undo_9 : decode cX11_undo 9 = .ok (.ireturn, 1) := by decide +kernel
theorem dX11_undo_10 : decode cX11_undo 10 = .ok (.aload_n 0, 1) := by decide +kernel
theorem dX11_undo_11 : decode cX11_undo 11 = .ok (.getfield 15, 3) := by decide +kernel
theorem dX11_undo_14 : decode cX11_undo 14 = .ok (.aload_n 0, 1) := by decide +kernel
theorem dX11_undo_15 : decode cX11_undo 15 = .ok (.getfield 11, 3) := by decide +kernel
theorem dX11_undo_18 : decode cX11_undo 18 = .ok (.invokestatic 275, 3) := by decide +kernel
theorem dX11_undo_21 : decode cX11_undo 21 = .ok (.aload_n 0, 1) := by decide +kernel
theorem dX11_undo_22 : decode cX11_undo 22 = .ok (.getfield 11, 3) := by decide +kernel
theorem dX11_undo_25 : decode cX11_undo 25 = .ok (.bipush 73, 2) := by decide +kernel
theorem dX11_undo_27 : decode cX11_undo 27 = .ok (.iaload, 1) := by decide +kernel
theorem dX11_undo_28 : decode cX11_undo 28 = .ok (.ireturn, 1) := by decide +kernel
theorem dX11_count_0 : decode cX11_count 0 = .ok (.iload_n 1, 1) := by decide +kernel
theorem dX11_count_1 : decode cX11_count 1 = .ok (.tableswitch 74 0 4 #[35, 43, 51, 60, 69], 35) := by decide +kernel
theorem dX11_count_36 : decode cX11_count 36 = .ok (.aload_n 0, 1) := by decide +kernel
theorem dX11_count_37 : decode cX11_count 37 = .ok (.getfield 11, 3) := by decide +kernel
theorem dX11_count_40 : decode cX11_count 40 = .ok (.bipush 73, 2) := by decide +kernel
theorem dX11_count_42 : decode cX11_count 42 = .ok (.iaload, 1) := by decide +kernel
theorem dX11_count_43 : decode cX11_count 43 = .ok (.ireturn, 1) := by decide +kernel
theorem dX11_count_44 : decode cX11_count 44 = .ok (.aload_n 0, 1) := by decide +kernel
theorem dX11_count_45 : decode cX11_count 45 = .ok (.getfield 11, 3) := by decide +kernel
theorem dX11_count_48 : decode cX11_count 48 = .ok (.bipush 110, 2) := by decide +kernel
theorem dX11_count_50 : decode cX11_count 50 = .ok (.iaload, 1) := by decide +kernel
theorem dX11_count_51 : decode cX11_count 51 = .ok (.ireturn, 1) := by decide +kernel
theorem dX11_count_52 : decode cX11_count 52 = .ok (.aload_n 0, 1) := by decide +kernel
theorem dX11_count_53 : decode cX11_count 53 = .ok (.getfield 11, 3) := by decide +kernel
theorem dX11_count_56 : decode cX11_count 56 = .ok (.sipush 131, 3) := by decide +kernel
theorem dX11_count_59 : decode cX11_count 59 = .ok (.iaload, 1) := by decide +kernel
theorem dX11_count_60 : decode cX11_count 60 = .ok (.ireturn, 1) := by decide +kernel
theorem dX11_count_61 : decode cX11_count 61 = .ok (.aload_n 0, 1) := by decide +kernel
theorem dX11_count_62 : decode cX11_count 62 = .ok (.getfield 11, 3) := by decide +kernel
theorem dX11_count_65 : decode cX11_count 65 = .ok (.sipush 148, 3) := by decide +kernel
theorem dX11_count_68 : decode cX11_count 68 = .ok (.iaload, 1) := by decide +kernel
theorem dX11_count_69 : decode cX11_count 69 = .ok (.ireturn, 1) := by decide +kernel
theorem dX11_count_70 : decode cX11_count 70 = .ok (.aload_n 0, 1) := by decide +kernel
theorem dX11_count_71 : decode cX11_count 71 = .ok (.getfield 281, 3) := by decide +kernel
theorem dX11_count_74 : decode cX11_count 74 = .ok (.ireturn, 1) := by decide +kernel
theorem dX11_count_75 : decode cX11_count 75 = .ok (.iload_n 1, 1) := by decide +kernel
theorem dX11_count_76 : decode cX11_count 76 = .ok (.i2l, 1) := by decide +kernel
theorem dX11_count_77 : decode cX11_count 77 = .ok (.ldc2_w 107, 3) := by decide +kernel
theorem dX11_count_80 : decode cX11_count 80 = .ok (.ldc2_w 128, 3) := by decide +kernel
theorem dX11_count_83 : decode cX11_count 83 = .ok (.invokestatic 65, 3) := by decide +kernel
theorem dX11_count_86 : decode cX11_count 86 = .ok (.ifCond .eq 14, 3) := by decide +kernel
theorem dX11_count_89 : decode cX11_count 89 = .ok (.aload_n 0, 1) := by decide +kernel
theorem dX11_count_90 : decode cX11_count 90 = .ok (.getfield 18, 3) := by decide +kernel
theorem dX11_count_93 : decode cX11_count 93 = .ok (.iload_n 1, 1) := by decide +kernel
theorem dX11_count_94 : decode cX11_count 94 = .ok (.iconst 5, 1) := by decide +kernel
theorem dX11_count_95 : decode cX11_count 95 = .ok (.isub, 1) := by decide +kernel
theorem dX11_count_96 : decode cX11_count 96 = .ok (.iaload, 1) := by decide +kernel
theorem dX11_count_97 : decode cX11_count 97 = .ok (.goto 5, 3) := by decide +kernel
theorem dX11_count_100 : decode cX11_count 100 = .ok (.bipush (-2), 2) := by decide +kernel
theorem dX11_count_102 : decode cX11_count 102 = .ok (.ireturn, 1) := by decide +kernel
theorem dX11_tape_0 : decode cX11_tape 0 = .ok (.iload_n 1, 1) := by decide +kernel
theorem dX11_tape_1 : decode cX11_tape 1 = .ok (.invokestatic 335, 3) := by decide +kernel
theorem dX11_tape_4 : decode cX11_tape 4 = .ok (.ifCond .ne 5, 3) := by decide +kernel
theorem dX11_tape_7 : decode cX11_tape 7 = .ok (.iconst (-1), 1) := by decide +kernel
theorem dX11_tape_8 : decode cX11_tape 8 = .ok (.ireturn, 1) := by decide +kernel
theorem dX11_tape_9 : decode cX11_tape 9 = .ok (.iload_n 2, 1) := by decide +kernel
theorem dX11_tape_10 : decode cX11_tape 10 = .ok (.i2l, 1) := by decide +kernel
theorem dX11_tape_11 : decode cX11_tape 11 = .ok (.ldc2_w 342, 3) := by decide +kernel
theorem dX11_tape_14 : decode cX11_tape 14 = .ok (.ldc2_w 97, 3) := by decide +kernel
theorem dX11_tape_17 : decode cX11_tape 17 = .ok (.invokestatic 65, 3) := by decide +kernel
theorem dX11_tape_20 : decode cX11_tape 20 = .ok (.ifCond .eq 13, 3) := by decide +kernel
theorem dX11_tape_23 : decode cX11_tape 23 = .ok (.iload_n 2, 1) := by decide +kernel
theorem dX11_tape_24 : decode cX11_tape 24 = .ok (.ifCond .lt 12, 3) := by decide +kernel
theorem dX11_tape_27 : decode cX11_tape 27 = .ok (.iload_n 3, 1) := by decide +kernel
theorem dX11_tape_28 : decode cX11_tape 28 = .ok (.bipush 60, 2) := by decide +kernel
theorem dX11_tape_30 : decode cX11_tape 30 = .ok (.if_icmp .le 6, 3) := by decide +kernel
theorem dX11_tape_33 : decode cX11_tape 33 = .ok (.bipush (-2), 2) := by decide +kernel
theorem dX11_tape_35 : decode cX11_tape 35 = .ok (.ireturn, 1) := by decide +kernel
theorem dX11_tape_36 : decode cX11_tape 36 = .ok (.iload_n 2, 1) := by decide +kernel
theorem dX11_tape_37 : decode cX11_tape 37 = .ok (.ifCond .lt 10, 3) := by decide +kernel
theorem dX11_tape_40 : decode cX11_tape 40 = .ok (.iload_n 3, 1) := by decide +kernel
theorem dX11_tape_41 : decode cX11_tape 41 = .ok (.ifCond .ge 6, 3) := by decide +kernel
theorem dX11_tape_44 : decode cX11_tape 44 = .ok (.bipush (-14), 2) := by decide +kernel
theorem dX11_tape_46 : decode cX11_tape 46 = .ok (.ireturn, 1) := by decide +kernel
theorem dX11_tape_47 : decode cX11_tape 47 = .ok (.aload_n 0, 1) := by decide +kernel
theorem dX11_tape_48 : decode cX11_tape 48 = .ok (.getfield 53, 3) := by decide +kernel
theorem dX11_tape_51 : decode cX11_tape 51 = .ok (.iload_n 1, 1) := by decide +kernel
theorem dX11_tape_52 : decode cX11_tape 52 = .ok (.iload_n 2, 1) := by decide +kernel
theorem dX11_tape_53 : decode cX11_tape 53 = .ok (.iastore, 1) := by decide +kernel
theorem dX11_tape_54 : decode cX11_tape 54 = .ok (.aload_n 0, 1) := by decide +kernel
theorem dX11_tape_55 : decode cX11_tape 55 = .ok (.getfield 56, 3) := by decide +kernel
theorem dX11_tape_58 : decode cX11_tape 58 = .ok (.iload_n 1, 1) := by decide +kernel
theorem dX11_tape_59 : decode cX11_tape 59 = .ok (.iload_n 2, 1) := by decide +kernel
theorem dX11_tape_60 : decode cX11_tape 60 = .ok (.ifCond .ge 7, 3) := by decide +kernel
theorem dX11_tape_63 : decode cX11_tape 63 = .ok (.iconst 0, 1) := by decide +kernel
theorem dX11_tape_64 : decode cX11_tape 64 = .ok (.goto 4, 3) := by decide +kernel
theorem dX11_tape_67 : decode cX11_tape 67 = .ok (.iload_n 3, 1) := by decide +kernel
theorem dX11_tape_68 : decode cX11_tape 68 = .ok (.iastore, 1) := by decide +kernel
theorem dX11_tape_69 : decode cX11_tape 69 = .ok (.iconst 0, 1) := by decide +kernel
theorem dX11_tape_70 : decode cX11_tape 70 = .ok (.istore 4, 2) := by decide +kernel
theorem dX11_tape_72 : decode cX11_tape 72 = .ok (.iload 4, 2) := by decide +kernel
theorem dX11_tape_74 : decode cX11_tape 74 = .ok (.bipush 60, 2) := by decide +kernel
theorem dX11_tape_76 : decode cX11_tape 76 = .ok (.if_icmp .ge 22, 3) := by decide +kernel
theorem dX11_tape_79 : decode cX11_tape 79 = .ok (.aload_n 0, 1) := by decide +kernel
theorem dX11_tape_80 : decode cX11_tape 80 = .ok (.getfield 59, 3) := by decide +kernel
theorem dX11_tape_83 : decode cX11_tape 83 = .ok (.bipush 60, 2) := by decide +kernel
theorem dX11_tape_85 : decode cX11_tape 85 = .ok (.iload_n 1, 1) := by decide +kernel
theorem dX11_tape_86 : decode cX11_tape 86 = .ok (.imul, 1) := by decide +kernel
theorem dX11_tape_87 : decode cX11_tape 87 = .ok (.iload 4, 2) := by decide +kernel
theorem dX11_tape_89 : decode cX11_tape 89 = .ok (.iadd, 1) := by decide +kernel
theorem dX11_tape_90 : decode cX11_tape 90 = .ok (.lconst 0, 1) := by decide +kernel
theorem dX11_tape_91 : decode cX11_tape 91 = .ok (.lastore, 1) := by decide +kernel
theorem dX11_tape_92 : decode cX11_tape 92 = .ok (.iinc 4 1, 3) := by decide +kernel
theorem dX11_tape_95 : decode cX11_tape 95 = .ok (.goto (-23), 3) := by decide +kernel
theorem dX11_tape_98 : decode cX11_tape 98 = .ok (.iconst 1, 1) := by decide +kernel
theorem dX11_tape_99 : decode cX11_tape 99 = .ok (.ireturn, 1) := by decide +kernel
theorem dX11_cutTo_0 : decode cX11_cutTo 0 = .ok (.iload_n 0, 1) := by decide +kernel
theorem dX11_cutTo_1 : decode cX11_cutTo 1 = .ok (.tableswitch 47 0 3 #[31, 36, 41, 45], 31) := by decide +kernel
theorem dX11_cutTo_32 : decode cX11_cutTo 32 = .ok (.lload_n 1, 1) := by decide +kernel
theorem dX11_cutTo_33 : decode cX11_cutTo 33 = .ok (.l2i, 1) := by decide +kernel
theorem dX11_cutTo_34 : decode cX11_cutTo 34 = .ok (.i2b, 1) := by decide +kernel
theorem dX11_cutTo_35 : decode cX11_cutTo 35 = .ok (.i2l, 1) := by decide +kernel
theorem dX11_cutTo_36 : decode cX11_cutTo 36 = .ok (.lreturn, 1) := by decide +kernel
theorem dX11_cutTo_37 : decode cX11_cutTo 37 = .ok (.lload_n 1, 1) := by decide +kernel
theorem dX11_cutTo_38 : decode cX11_cutTo 38 = .ok (.l2i, 1) := by decide +kernel
theorem dX11_cutTo_39 : decode cX11_cutTo 39 = .ok (.i2s, 1) := by decide +kernel
theorem dX11_cutTo_40 : decode cX11_cutTo 40 = .ok (.i2l, 1) := by decide +kernel
theorem dX11_cutTo_41 : decode cX11_cutTo 41 = .ok (.lreturn, 1) := by decide +kernel
theorem dX11_cutTo_42 : decode cX11_cutTo 42 = .ok (.lload_n 1, 1) := by decide +kernel
theorem dX11_cutTo_43 : decode cX11_cutTo 43 = .ok (.l2i, 1) := by decide +kernel
theorem dX11_cutTo_44 : decode cX11_cutTo 44 = .ok (.i2l, 1) := by decide +kernel
theorem dX11_cutTo_45 : decode cX11_cutTo 45 = .ok (.lreturn, 1) := by decide +kernel
theorem dX11_cutTo_46 : decode cX11_cutTo 46 = .ok (.lload_n 1, 1) := by decide +kernel
theorem dX11_cutTo_47 : decode cX11_cutTo 47 = .ok (.lreturn, 1) := by decide +kernel
theorem dX11_cutTo_48 : decode cX11_cutTo 48 = .ok (.lload_n 1, 1) := by decide +kernel
theorem dX11_cutTo_49 : decode cX11_cutTo 49 = .ok (.lconst 0, 1) := by decide +kernel
theorem dX11_cutTo_50 : decode cX11_cutTo 50 = .ok (.lcmp, 1) := by decide +kernel
theorem dX11_cutTo_51 : decode cX11_cutTo 51 = .ok (.ifCond .eq 7, 3) := by decide +kernel
theorem dX11_cutTo_54 : decode cX11_cutTo 54 = .ok (.lconst 1, 1) := by decide +kernel
theorem dX11_cutTo_55 : decode cX11_cutTo 55 = .ok (.goto 4, 3) := by decide +kernel
theorem dX11_cutTo_58 : decode cX11_cutTo 58 = .ok (.lconst 0, 1) := by decide +kernel
theorem dX11_cutTo_59 : decode cX11_cutTo 59 = .ok (.lreturn, 1) := by decide +kernel
theorem dX11_item_0 : decode cX11_item 0 = .ok (.iload_n 1, 1) := by decide +kernel
theorem dX11_item_1 : decode cX11_item 1 = .ok (.invokestatic 335, 3) := by decide +kernel
theorem dX11_item_4 : decode cX11_item 4 = .ok (.ifCond .ne 5, 3) := by decide +kernel
theorem dX11_item_7 : decode cX11_item 7 = .ok (.iconst (-1), 1) := by decide +kernel
theorem dX11_item_8 : decode cX11_item 8 = .ok (.ireturn, 1) := by decide +kernel
theorem dX11_item_9 : decode cX11_item 9 = .ok (.aload_n 0, 1) := by decide +kernel
theorem dX11_item_10 : decode cX11_item 10 = .ok (.getfield 53, 3) := by decide +kernel
theorem dX11_item_13 : decode cX11_item 13 = .ok (.iload_n 1, 1) := by decide +kernel
theorem dX11_item_14 : decode cX11_item 14 = .ok (.iaload, 1) := by decide +kernel
theorem dX11_item_15 : decode cX11_item 15 = .ok (.ifCond .ge 6, 3) := by decide +kernel
theorem dX11_item_18 : decode cX11_item 18 = .ok (.bipush (-11), 2) := by decide +kernel
theorem dX11_item_20 : decode cX11_item 20 = .ok (.ireturn, 1) := by decide +kernel
theorem dX11_item_21 : decode cX11_item 21 = .ok (.iload_n 2, 1) := by decide +kernel
theorem dX11_item_22 : decode cX11_item 22 = .ok (.i2l, 1) := by decide +kernel
theorem dX11_item_23 : decode cX11_item 23 = .ok (.lconst 0, 1) := by decide +kernel
theorem dX11_item_24 : decode cX11_item 24 = .ok (.aload_n 0, 1) := by decide +kernel
theorem dX11_item_25 : decode cX11_item 25 = .ok (.getfield 56, 3) := by decide +kernel
theorem dX11_item_28 : decode cX11_item 28 = .ok (.iload_n 1, 1) := by decide +kernel
theorem dX11_item_29 : decode cX11_item 29 = .ok (.iaload, 1) := by decide +kernel
theorem dX11_item_30 : decode cX11_item 30 = .ok (.iconst 1, 1) := by decide +kernel
theorem dX11_item_31 : decode cX11_item 31 = .ok (.isub, 1) := by decide +kernel
theorem dX11_item_32 : decode cX11_item 32 = .ok (.i2l, 1) := by decide +kernel
theorem dX11_item_33 : decode cX11_item 33 = .ok (.invokestatic 65, 3) := by decide +kernel
theorem dX11_item_36 : decode cX11_item 36 = .ok (.ifCond .ne 6, 3) := by decide +kernel
theorem dX11_item_39 : decode cX11_item 39 = .ok (.bipush (-13), 2) := by decide +kernel
theorem dX11_item_41 : decode cX11_item 41 = .ok (.ireturn, 1) := by decide +kernel
theorem dX11_item_42 : decode cX11_item 42 = .ok (.aload_n 0, 1) := by decide +kernel
theorem dX11_item_43 : decode cX11_item 43 = .ok (.getfield 59, 3) := by decide +kernel
theorem dX11_item_46 : decode cX11_item 46 = .ok (.bipush 60, 2) := by decide +kernel
theorem dX11_item_48 : decode cX11_item 48 = .ok (.iload_n 1, 1) := by decide +kernel
theorem dX11_item_49 : decode cX11_item 49 = .ok (.imul, 1) := by decide +kernel
theorem dX11_item_50 : decode cX11_item 50 = .ok (.iload_n 2, 1) := by decide +kernel
theorem dX11_item_51 : decode cX11_item 51 = .ok (.iadd, 1) := by decide +kernel
theorem dX11_item_52 : decode cX11_item 52 = .ok (.aload_n 0, 1) := by decide +kernel
theorem dX11_item_53 : decode cX11_item 53 = .ok (.getfield 53, 3) := by decide +kernel
theorem dX11_item_56 : decode cX11_item 56 = .ok (.iload_n 1, 1) := by decide +kernel
theorem dX11_item_57 : decode cX11_item 57 = .ok (.iaload, 1) := by decide +kernel
theorem dX11_item_58 : decode cX11_item 58 = .ok (.lload_n 3, 1) := by decide +kernel
theorem dX11_item_59 : decode cX11_item 59 = .ok (.invokestatic 344, 3) := by decide +kernel
theorem dX11_item_62 : decode cX11_item 62 = .ok (.lastore, 1) := by decide +kernel
theorem dX11_item_63 : decode cX11_item 63 = .ok (.iconst 1, 1) := by decide +kernel
theorem dX11_item_64 : decode cX11_item 64 = .ok (.ireturn, 1) := by decide +kernel
theorem dX11_peek_0 : decode cX11_peek 0 = .ok (.iload_n 1, 1) := by decide +kernel
theorem dX11_peek_1 : decode cX11_peek 1 = .ok (.invokestatic 335, 3) := by decide +kernel
theorem dX11_peek_4 : decode cX11_peek 4 = .ok (.ifCond .eq 35, 3) := by decide +kernel
theorem dX11_peek_7 : decode cX11_peek 7 = .ok (.iload_n 2, 1) := by decide +kernel
theorem dX11_peek_8 : decode cX11_peek 8 = .ok (.i2l, 1) := by decide +kernel
theorem dX11_peek_9 : decode cX11_peek 9 = .ok (.lconst 0, 1) := by decide +kernel
theorem dX11_peek_10 : decode cX11_peek 10 = .ok (.aload_n 0, 1) := by decide +kernel
theorem dX11_peek_11 : decode cX11_peek 11 = .ok (.getfield 56, 3) := by decide +kernel
theorem dX11_peek_14 : decode cX11_peek 14 = .ok (.iload_n 1, 1) := by decide +kernel
theorem dX11_peek_15 : decode cX11_peek 15 = .ok (.iaload, 1) := by decide +kernel
theorem dX11_peek_16 : decode cX11_peek 16 = .ok (.iconst 1, 1) := by decide +kernel
theorem dX11_peek_17 : decode cX11_peek 17 = .ok (.isub, 1) := by decide +kernel
theorem dX11_peek_18 : decode cX11_peek 18 = .ok (.i2l, 1) := by decide +kernel
theorem dX11_peek_19 : decode cX11_peek 19 = .ok (.invokestatic 65, 3) := by decide +kernel
theorem dX11_peek_22 : decode cX11_peek 22 = .ok (.ifCond .eq 17, 3) := by decide +kernel
theorem dX11_peek_25 : decode cX11_peek 25 = .ok (.aload_n 0, 1) := by decide +kernel
theorem dX11_peek_26 : decode cX11_peek 26 = .ok (.getfield 59, 3) := by decide +kernel
theorem dX11_peek_29 : decode cX11_peek 29 = .ok (.bipush 60, 2) := by decide +kernel
theorem dX11_peek_31 : decode cX11_peek 31 = .ok (.iload_n 1, 1) := by decide +kernel
theorem dX11_peek_32 : decode cX11_peek 32 = .ok (.imul, 1) := by decide +kernel
theorem dX11_peek_33 : decode cX11_peek 33 = .ok (.iload_n 2, 1) := by decide +kernel
theorem dX11_peek_34 : decode cX11_peek 34 = .ok (.iadd, 1) := by decide +kernel
theorem dX11_peek_35 : decode cX11_peek 35 = .ok (.laload, 1) := by decide +kernel
theorem dX11_peek_36 : decode cX11_peek 36 = .ok (.goto 6, 3) := by decide +kernel
theorem dX11_peek_39 : decode cX11_peek 39 = .ok (.ldc2_w 143, 3) := by decide +kernel
theorem dX11_peek_42 : decode cX11_peek 42 = .ok (.lreturn, 1) := by decide +kernel
theorem dX11_shift_0 : decode cX11_shift 0 = .ok (.iload_n 1, 1) := by decide +kernel
theorem dX11_shift_1 : decode cX11_shift 1 = .ok (.invokestatic 335, 3) := by decide +kernel
theorem dX11_shift_4 : decode cX11_shift 4 = .ok (.ifCond .eq 10, 3) := by decide +kernel
theorem dX11_shift_7 : decode cX11_shift 7 = .ok (.iload_n 3, 1) := by decide +kernel
theorem dX11_shift_8 : decode cX11_shift 8 = .ok (.invokestatic 335, 3) := by decide +kernel
theorem dX11_shift_11 : decode cX11_shift 11 = .ok (.ifCond .ne 5, 3) := by decide +kernel
theorem dX11_shift_14 : decode cX11_shift 14 = .ok (.iconst (-1), 1) := by decide +kernel
theorem dX11_shift_15 : decode cX11_shift 15 = .ok (.ireturn, 1) := by decide +kernel
theorem dX11_shift_16 : decode cX11_shift 16 = .ok (.aload_n 0, 1) := by decide +kernel
theorem dX11_shift_17 : decode cX11_shift 17 = .ok (.getfield 53, 3) := by decide +kernel
theorem dX11_shift_20 : decode cX11_shift 20 = .ok (.iload_n 1, 1) := by decide +kernel
theorem dX11_shift_21 : decode cX11_shift 21 = .ok (.iaload, 1) := by decide +kernel
theorem dX11_shift_22 : decode cX11_shift 22 = .ok (.ifCond .lt 12, 3) := by decide +kernel
theorem dX11_shift_25 : decode cX11_shift 25 = .ok (.aload_n 0, 1) := by decide +kernel
theorem dX11_shift_26 : decode cX11_shift 26 = .ok (.getfield 53, 3) := by decide +kernel
theorem dX11_shift_29 : decode cX11_shift 29 = .ok (.iload_n 3, 1) := by decide +kernel
theorem dX11_shift_30 : decode cX11_shift 30 = .ok (.iaload, 1) := by decide +kernel
theorem dX11_shift_31 : decode cX11_shift 31 = .ok (.ifCond .ge 6, 3) := by decide +kernel
theorem dX11_shift_34 : decode cX11_shift 34 = .ok (.bipush (-11), 2) := by decide +kernel
theorem dX11_shift_36 : decode cX11_shift 36 = .ok (.ireturn, 1) := by decide +kernel
theorem dX11_shift_37 : decode cX11_shift 37 = .ok (.aload_n 0, 1) := by decide +kernel
theorem dX11_shift_38 : decode cX11_shift 38 = .ok (.getfield 53, 3) := by decide +kernel
theorem dX11_shift_41 : decode cX11_shift 41 = .ok (.iload_n 1, 1) := by decide +kernel
theorem dX11_shift_42 : decode cX11_shift 42 = .ok (.iaload, 1) := by decide +kernel
theorem dX11_shift_43 : decode cX11_shift 43 = .ok (.aload_n 0, 1) := by decide +kernel
theorem dX11_shift_44 : decode cX11_shift 44 = .ok (.getfield 53, 3) := by decide +kernel
theorem dX11_shift_47 : decode cX11_shift 47 = .ok (.iload_n 3, 1) := by decide +kernel
theorem dX11_shift_48 : decode cX11_shift 48 = .ok (.iaload, 1) := by decide +kernel
theorem dX11_shift_49 : decode cX11_shift 49 = .ok (.if_icmp .eq 6, 3) := by decide +kernel
theorem dX11_shift_52 : decode cX11_shift 52 = .ok (.bipush (-12), 2) := by decide +kernel
theorem dX11_shift_54 : decode cX11_shift 54 = .ok (.ireturn, 1) := by decide +kernel
theorem dX11_shift_55 : decode cX11_shift 55 = .ok (.iload 5, 2) := by decide +kernel
theorem dX11_shift_57 : decode cX11_shift 57 = .ok (.ifCond .lt 47, 3) := by decide +kernel
theorem dX11_shift_60 : decode cX11_shift 60 = .ok (.iload_n 2, 1) := by decide +kernel
theorem dX11_shift_61 : decode cX11_shift 61 = .ok (.ifCond .lt 43, 3) := by decide +kernel
theorem dX11_shift_64 : decode cX11_shift 64 = .ok (.iload 4, 2) := by decide +kernel
theorem dX11_shift_66 : decode cX11_shift 66 = .ok (.ifCond .lt 38, 3) := by decide +kernel
theorem dX11_shift_69 : decode cX11_shift 69 = .ok (.iload_n 2, 1) := by decide +kernel
theorem dX11_shift_70 : decode cX11_shift 70 = .ok (.i2l, 1) := by decide +kernel
theorem dX11_shift_71 : decode cX11_shift 71 = .ok (.iload 5, 2) := by decide +kernel
theorem dX11_shift_73 : decode cX11_shift 73 = .ok (.i2l, 1) := by decide +kernel
theorem dX11_shift_74 : decode cX11_shift 74 = .ok (.ladd, 1) := by decide +kernel
theorem dX11_shift_75 : decode cX11_shift 75 = .ok (.aload_n 0, 1) := by decide +kernel
theorem dX11_shift_76 : decode cX11_shift 76 = .ok (.getfield 56, 3) := by decide +kernel
theorem dX11_shift_79 : decode cX11_shift 79 = .ok (.iload_n 1, 1) := by decide +kernel
theorem dX11_shift_80 : decode cX11_shift 80 = .ok (.iaload, 1) := by decide +kernel
theorem dX11_shift_81 : decode cX11_shift 81 = .ok (.i2l, 1) := by decide +kernel
theorem dX11_shift_82 : decode cX11_shift 82 = .ok (.lcmp, 1) := by decide +kernel
theorem dX11_shift_83 : decode cX11_shift 83 = .ok (.ifCond .gt 21, 3) := by decide +kernel
theorem dX11_shift_86 : decode cX11_shift 86 = .ok (.iload 4, 2) := by decide +kernel
theorem dX11_shift_88 : decode cX11_shift 88 = .ok (.i2l, 1) := by decide +kernel
theorem dX11_shift_89 : decode cX11_shift 89 = .ok (.iload 5, 2) := by decide +kernel
theorem dX11_shift_91 : decode cX11_shift 91 = .ok (.i2l, 1) := by decide +kernel
theorem dX11_shift_92 : decode cX11_shift 92 = .ok (.ladd, 1) := by decide +kernel
theorem dX11_shift_93 : decode cX11_shift 93 = .ok (.aload_n 0, 1) := by decide +kernel
theorem dX11_shift_94 : decode cX11_shift 94 = .ok (.getfield 56, 3) := by decide +kernel
theorem dX11_shift_97 : decode cX11_shift 97 = .ok (.iload_n 3, 1) := by decide +kernel
theorem dX11_shift_98 : decode cX11_shift 98 = .ok (.iaload, 1) := by decide +kernel
theorem dX11_shift_99 : decode cX11_shift 99 = .ok (.i2l, 1) := by decide +kernel
theorem dX11_shift_100 : decode cX11_shift 100 = .ok (.lcmp, 1) := by decide +kernel
theorem dX11_shift_101 : decode cX11_shift 101 = .ok (.ifCond .le 6, 3) := by decide +kernel
theorem dX11_shift_104 : decode cX11_shift 104 = .ok (.bipush (-13), 2) := by decide +kernel
theorem dX11_shift_106 : decode cX11_shift 106 = .ok (.ireturn, 1) := by decide +kernel
theorem dX11_shift_107 : decode cX11_shift 107 = .ok (.bipush 60, 2) := by decide +kernel
theorem dX11_shift_109 : decode cX11_shift 109 = .ok (.iload_n 1, 1) := by decide +kernel
theorem dX11_shift_110 : decode cX11_shift 110 = .ok (.imul, 1) := by decide +kernel
theorem dX11_shift_111 : decode cX11_shift 111 = .ok (.iload_n 2, 1) := by decide +kernel
theorem dX11_shift_112 : decode cX11_shift 112 = .ok (.iadd, 1) := by decide +kernel
theorem dX11_shift_113 : decode cX11_shift 113 = .ok (.istore 6, 2) := by decide +kernel
theorem dX11_shift_115 : decode cX11_shift 115 = .ok (.bipush 60, 2) := by decide +kernel
theorem dX11_shift_117 : decode cX11_shift 117 = .ok (.iload_n 3, 1) := by decide +kernel
theorem dX11_shift_118 : decode cX11_shift 118 = .ok (.imul, 1) := by decide +kernel
theorem dX11_shift_119 : decode cX11_shift 119 = .ok (.iload 4, 2) := by decide +kernel
theorem dX11_shift_121 : decode cX11_shift 121 = .ok (.iadd, 1) := by decide +kernel
theorem dX11_shift_122 : decode cX11_shift 122 = .ok (.istore 7, 2) := by decide +kernel
theorem dX11_shift_124 : decode cX11_shift 124 = .ok (.iconst 0, 1) := by decide +kernel
theorem dX11_shift_125 : decode cX11_shift 125 = .ok (.istore 8, 2) := by decide +kernel
theorem dX11_shift_127 : decode cX11_shift 127 = .ok (.iload 8, 2) := by decide +kernel
theorem dX11_shift_129 : decode cX11_shift 129 = .ok (.iload 5, 2) := by decide +kernel
theorem dX11_shift_131 : decode cX11_shift 131 = .ok (.if_icmp .ge 50, 3) := by decide +kernel
theorem dX11_shift_134 : decode cX11_shift 134 = .ok (.iload 6, 2) := by decide +kernel
theorem dX11_shift_136 : decode cX11_shift 136 = .ok (.iload 7, 2) := by decide +kernel
theorem dX11_shift_138 : decode cX11_shift 138 = .ok (.if_icmp .ge 13, 3) := by decide +kernel
theorem dX11_shift_141 : decode cX11_shift 141 = .ok (.iload 5, 2) := by decide +kernel
theorem dX11_shift_143 : decode cX11_shift 143 = .ok (.iconst 1, 1) := by decide +kernel
theorem dX11_shift_144 : decode cX11_shift 144 = .ok (.isub, 1) := by decide +kernel
theorem dX11_shift_145 : decode cX11_shift 145 = .ok (.iload 8, 2) := by decide +kernel
theorem dX11_shift_147 : decode cX11_shift 147 = .ok (.isub, 1) := by decide +kernel
theorem dX11_shift_148 : decode cX11_shift 148 = .ok (.goto 5, 3) := by decide +kernel
theorem dX11_shift_151 : decode cX11_shift 151 = .ok (.iload 8, 2) := by decide +kernel
theorem dX11_shift_153 : decode cX11_shift 153 = .ok (.istore 9, 2) := by decide +kernel
theorem dX11_shift_155 : decode cX11_shift 155 = .ok (.aload_n 0, 1) := by decide +kernel
theorem dX11_shift_156 : decode cX11_shift 156 = .ok (.getfield 59, 3) := by decide +kernel
theorem dX11_shift_159 : decode cX11_shift 159 = .ok (.iload 7, 2) := by decide +kernel
theorem dX11_shift_161 : decode cX11_shift 161 = .ok (.iload 9, 2) := by decide +kernel
theorem dX11_shift_163 : decode cX11_shift 163 = .ok (.iadd, 1) := by decide +kernel
theorem dX11_shift_164 : decode cX11_shift 164 = .ok (.aload_n 0, 1) := by decide +kernel
theorem dX11_shift_165 : decode cX11_shift 165 = .ok (.getfield 59, 3) := by decide +kernel
theorem dX11_shift_168 : decode cX11_shift 168 = .ok (.iload 6, 2) := by decide +kernel
theorem dX11_shift_170 : decode cX11_shift 170 = .ok (.iload 9, 2) := by decide +kernel
theorem dX11_shift_172 : decode cX11_shift 172 = .ok (.iadd, 1) := by decide +kernel
theorem dX11_shift_173 : decode cX11_shift 173 = .ok (.laload, 1) := by decide +kernel
theorem dX11_shift_174 : decode cX11_shift 174 = .ok (.lastore, 1) := by decide +kernel
theorem dX11_shift_175 : decode cX11_shift 175 = .ok (.iinc 8 1, 3) := by decide +kernel
theorem dX11_shift_178 : decode cX11_shift 178 = .ok (.goto (-51), 3) := by decide +kernel
theorem dX11_shift_181 : decode cX11_shift 181 = .ok (.iload 5, 2) := by decide +kernel
theorem dX11_shift_183 : decode cX11_shift 183 = .ok (.ireturn, 1) := by decide +kernel
theorem dL_law_0 : decode cL_law 0 = .ok (.new 7, 3) := by decide +kernel
theorem dL_law_3 : decode cL_law 3 = .ok (.dup, 1) := by decide +kernel
theorem dL_law_4 : decode cL_law 4 = .ok (.invokespecial 9, 3) := by decide +kernel
theorem dL_law_7 : decode cL_law 7 = .ok (.astore_n 1, 1) := by decide +kernel
theorem dL_law_8 : decode cL_law 8 = .ok (.new 10, 3) := by decide +kernel
theorem dL_law_11 : decode cL_law 11 = .ok (.dup, 1) := by decide +kernel
theorem dL_law_12 : decode cL_law 12 = .ok (.invokespecial 12, 3) := by decide +kernel
theorem dL_law_15 : decode cL_law 15 = .ok (.astore_n 2, 1) := by decide +kernel
theorem dL_law_16 : decode cL_law 16 = .ok (.iconst 0, 1) := by decide +kernel
theorem dL_law_17 : decode cL_law 17 = .ok (.istore_n 3, 1) := by decide +kernel
theorem dL_law_18 : decode cL_law 18 = .ok (.iload_n 3, 1) := by decide +kernel
theorem dL_law_19 : decode cL_law 19 = .ok (.aload_n 0, 1) := by decide +kernel
theorem dL_law_20 : decode cL_law 20 = .ok (.arraylength, 1) := by decide +kernel
theorem dL_law_21 : decode cL_law 21 = .ok (.bipush 7, 2) := by decide +kernel
theorem dL_law_23 : decode cL_law 23 = .ok (.isub, 1) := by decide +kernel
theorem dL_law_24 : decode cL_law 24 = .ok (.if_icmp .gt 1867, 3) := by decide +kernel
theorem dL_law_27 : decode cL_law 27 = .ok (.aload_n 0, 1) := by decide +kernel
theorem dL_law_28 : decode cL_law 28 = .ok (.iload_n 3, 1) := by decide +kernel
theorem dL_law_29 : decode cL_law 29 = .ok (.iaload, 1) := by decide +kernel
theorem dL_law_30 : decode cL_law 30 = .ok (.bipush 63, 2) := by decide +kernel
theorem dL_law_32 : decode cL_law 32 = .ok (.iand, 1) := by decide +kernel
theorem dL_law_33 : decode cL_law 33 = .ok (.tableswitch 1852 0 41 #[183, 216, 259, 302, 345, 420, 463, 486, 509, 522, 545, 578, 611, 644, 677, 710, 764, 828, 872, 915, 969, 1013, 1056, 1090, 1144, 1177, 1241, 1305, 1328, 1381, 1404, 1437, 1471, 1514, 1527, 1590, 1603, 1616, 1639, 1682, 1755, 1789], 183) := by decide +kernel
theorem dL_law_216 : decode cL_law 216 = .ok (.aload_n 1, 1) := by decide +kernel
theorem dL_law_217 : decode cL_law 217 = .ok (.aload_n 0, 1) := by decide +kernel
theorem dL_law_218 : decode cL_law 218 = .ok (.iload_n 3, 1) := by decide +kernel
theorem dL_law_219 : decode cL_law 219 = .ok (.iconst 1, 1) := by decide +kernel
theorem dL_law_220 : decode cL_law 220 = .ok (.iadd, 1) := by decide +kernel
theorem dL_law_221 : decode cL_law 221 = .ok (.iaload, 1) := by decide +kernel
theorem dL_law_222 : decode cL_law 222 = .ok (.aload_n 0, 1) := by decide +kernel
theorem dL_law_223 : decode cL_law 223 = .ok (.iload_n 3, 1) := by decide +kernel
theorem dL_law_224 : decode cL_law 224 = .ok (.iconst 2, 1) := by decide +kernel
theorem dL_law_225 : decode cL_law 225 = .ok (.iadd, 1) := by decide +kernel
theorem dL_law_226 : decode cL_law 226 = .ok (.iaload, 1) := by decide +kernel
theorem dL_law_227 : decode cL_law 227 = .ok (.invokevirtual 13, 3) := by decide +kernel
theorem dL_law_230 : decode cL_law 230 = .ok (.aload_n 2, 1) := by decide +kernel
theorem dL_law_231 : decode cL_law 231 = .ok (.aload_n 0, 1) := by decide +kernel
theorem dL_law_232 : decode cL_law 232 = .ok (.iload_n 3, 1) := by decide +kernel
theorem dL_law_233 : decode cL_law 233 = .ok (.iconst 1, 1) := by decide +kernel
theorem dL_law_234 : decode cL_law 234 = .ok (.iadd, 1) := by decide +kernel
theorem dL_law_235 : decode cL_law 235 = .ok (.iaload, 1) := by decide +kernel
theorem dL_law_236 : decode cL_law 236 = .ok (.aload_n 0, 1) := by decide +kernel
theorem dL_law_237 : decode cL_law 237 = .ok (.iload_n 3, 1) := by decide +kernel
theorem dL_law_238 : decode cL_law 238 = .ok (.iconst 2, 1) := by decide +kernel
theorem dL_law_239 : decode cL_law 239 = .ok (.iadd, 1) := by decide +kernel
theorem dL_law_240 : decode cL_law 240 = .ok (.iaload, 1) := by decide +kernel
theorem dL_law_241 : decode cL_law 241 = .ok (.invokevirtual 17, 3) := by decide +kernel
theorem dL_law_244 : decode cL_law 244 = .ok (.if_icmp .eq 1641, 3) := by decide +kernel
theorem dL_law_247 : decode cL_law 247 = .ok (.iconst 0, 1) := by decide +kernel
theorem dL_law_248 : decode cL_law 248 = .ok (.ireturn, 1) := by decide +kernel
theorem dL_law_249 : decode cL_law 249 = .ok (.aload_n 1, 1) := by decide +kernel
theorem dL_law_250 : decode cL_law 250 = .ok (.aload_n 0, 1) := by decide +kernel
theorem dL_law_251 : decode cL_law 251 = .ok (.iload_n 3, 1) := by decide +kernel
theorem dL_law_252 : decode cL_law 252 = .ok (.iconst 1, 1) := by decide +kernel
theorem dL_law_253 : decode cL_law 253 = .ok (.iadd, 1) := by decide +kernel
theorem dL_law_254 : decode cL_law 254 = .ok (.iaload, 1) := by decide +kernel
theorem dL_law_255 : decode cL_law 255 = .ok (.aload_n 0, 1) := by decide +kernel
theorem dL_law_256 : decode cL_law 256 = .ok (.iload_n 3, 1) := by decide +kernel
theorem dL_law_257 : decode cL_law 257 = .ok (.iconst 2, 1) := by decide +kernel
theorem dL_law_258 : decode cL_law 258 = .ok (.iadd, 1) := by decide +kernel
theorem dL_law_259 : decode cL_law 259 = .ok (.iaload, 1) := by decide +kernel
theorem dL_law_260 : decode cL_law 260 = .ok (.aload_n 0, 1) := by decide +kernel
theorem dL_law_261 : decode cL_law 261 = .ok (.iload_n 3, 1) := by decide +kernel
theorem dL_law_262 : decode cL_law 262 = .ok (.iconst 3, 1) := by decide +kernel
theorem dL_law_263 : decode cL_law 263 = .ok (.iadd, 1) := by decide +kernel
theorem dL_law_264 : decode cL_law 264 = .ok (.iaload, 1) := by decide +kernel
theorem dL_law_265 : decode cL_law 265 = .ok (.invokevirtual 18, 3) := by decide +kernel
theorem dL_law_268 : decode cL_law 268 = .ok (.aload_n 2, 1) := by decide +kernel
theorem dL_law_269 : decode cL_law 269 = .ok (.aload_n 0, 1) := by decide +kernel
theorem dL_law_270 : decode cL_law 270 = .ok (.iload_n 3, 1) := by decide +kernel
theorem dL_law_271 : decode cL_law 271 = .ok (.iconst 1, 1) := by decide +kernel
theorem dL_law_272 : decode cL_law 272 = .ok (.iadd, 1) := by decide +kernel
theorem dL_law_273 : decode cL_law 273 = .ok (.iaload, 1) := by decide +kernel
theorem dL_law_274 : decode cL_law 274 = .ok (.aload_n 0, 1) := by decide +kernel
theorem dL_law_275 : decode cL_law 275 = .ok (.iload_n 3, 1) := by decide +kernel
theorem dL_law_276 : decode cL_law 276 = .ok (.iconst 2, 1) := by decide +kernel
theorem dL_law_277 : decode cL_law 277 = .ok (.iadd, 1) := by decide +kernel
theorem dL_law_278 : decode cL_law 278 = .ok (.iaload, 1) := by decide +kernel
theorem dL_law_279 : decode cL_law 279 = .ok (.aload_n 0, 1) := by decide +kernel
theorem dL_law_280 : decode cL_law 280 = .ok (.iload_n 3, 1) := by decide +kernel
theorem dL_law_281 : decode cL_law 281 = .ok (.iconst 3, 1) := by decide +kernel
theorem dL_law_282 : decode cL_law 282 = .ok (.iadd, 1) := by decide +kernel
theorem dL_law_283 : decode cL_law 283 = .ok (.iaload, 1) := by decide +kernel
theorem dL_law_284 : decode cL_law 284 = .ok (.invokevirtual 22, 3) := by decide +kernel
theorem dL_law_287 : decode cL_law 287 = .ok (.if_icmp .eq 1598, 3) := by decide +kernel
theorem dL_law_290 : decode cL_law 290 = .ok (.iconst 0, 1) := by decide +kernel
theorem dL_law_291 : decode cL_law 291 = .ok (.ireturn, 1) := by decide +kernel
theorem dL_law_292 : decode cL_law 292 = .ok (.aload_n 1, 1) := by decide +kernel
theorem dL_law_293 : decode cL_law 293 = .ok (.aload_n 0, 1) := by decide +kernel
theorem dL_law_294 : decode cL_law 294 = .ok (.iload_n 3, 1) := by decide +kernel
theorem dL_law_295 : decode cL_law 295 = .ok (.iconst 1, 1) := by decide +kernel
theorem dL_law_296 : decode cL_law 296 = .ok (.iadd, 1) := by decide +kernel
theorem dL_law_297 : decode cL_law 297 = .ok (.iaload, 1) := by decide +kernel
theorem dL_law_298 : decode cL_law 298 = .ok (.aload_n 0, 1) := by decide +kernel
theorem dL_law_299 : decode cL_law 299 = .ok (.iload_n 3, 1) := by decide +kernel
theorem dL_law_300 : decode cL_law 300 = .ok (.iconst 2, 1) := by decide +kernel
theorem dL_law_301 : decode cL_law 301 = .ok (.iadd, 1) := by decide +kernel
theorem dL_law_302 : decode cL_law 302 = .ok (.iaload, 1) := by decide +kernel
theorem dL_law_303 : decode cL_law 303 = .ok (.aload_n 0, 1) := by decide +kernel
theorem dL_law_304 : decode cL_law 304 = .ok (.iload_n 3, 1) := by decide +kernel
theorem dL_law_305 : decode cL_law 305 = .ok (.iconst 3, 1) := by decide +kernel
theorem dL_law_306 : decode cL_law 306 = .ok (.iadd, 1) := by decide +kernel
theorem dL_law_307 : decode cL_law 307 = .ok (.iaload, 1) := by decide +kernel
theorem dL_law_308 : decode cL_law 308 = .ok (.invokevirtual 23, 3) := by decide +kernel
theorem dL_law_311 : decode cL_law 311 = .ok (.aload_n 2, 1) := by decide +kernel
theorem dL_law_312 : decode cL_law 312 = .ok (.aload_n 0, 1) := by decide +kernel
theorem dL_law_313 : decode cL_law 313 = .ok (.iload_n 3, 1) := by decide +kernel
theorem dL_law_314 : decode cL_law 314 = .ok (.iconst 1, 1) := by decide +kernel
theorem dL_law_315 : decode cL_law 315 = .ok (.iadd, 1) := by decide +kernel
theorem dL_law_316 : decode cL_law 316 = .ok (.iaload, 1) := by decide +kernel
theorem dL_law_317 : decode cL_law 317 = .ok (.aload_n 0, 1) := by decide +kernel
theorem dL_law_318 : decode cL_law 318 = .ok (.iload_n 3, 1) := by decide +kernel
theorem dL_law_319 : decode cL_law 319 = .ok (.iconst 2, 1) := by decide +kernel
theorem dL_law_320 : decode cL_law 320 = .ok (.iadd, 1) := by decide +kernel
theorem dL_law_321 : decode cL_law 321 = .ok (.iaload, 1) := by decide +kernel
theorem dL_law_322 : decode cL_law 322 = .ok (.aload_n 0, 1) := by decide +kernel
theorem dL_law_323 : decode cL_law 323 = .ok (.iload_n 3, 1) := by decide +kernel
theorem dL_law_324 : decode cL_law 324 = .ok (.iconst 3, 1) := by decide +kernel
theorem dL_law_325 : decode cL_law 325 = .ok (.iadd, 1) := by decide +kernel
theorem dL_law_326 : decode cL_law 326 = .ok (.iaload, 1) := by decide +kernel
theorem dL_law_327 : decode cL_law 327 = .ok (.invokevirtual 26, 3) := by decide +kernel
theorem dL_law_330 : decode cL_law 330 = .ok (.if_icmp .eq 1555, 3) := by decide +kernel
theorem dL_law_333 : decode cL_law 333 = .ok (.iconst 0, 1) := by decide +kernel
theorem dL_law_334 : decode cL_law 334 = .ok (.ireturn, 1) := by decide +kernel
theorem dL_law_335 : decode cL_law 335 = .ok (.aload_n 1, 1) := by decide +kernel
theorem dL_law_336 : decode cL_law 336 = .ok (.aload_n 0, 1) := by decide +kernel
theorem dL_law_337 : decode cL_law 337 = .ok (.iload_n 3, 1) := by decide +kernel
theorem dL_law_338 : decode cL_law 338 = .ok (.iconst 1, 1) := by decide +kernel
theorem dL_law_339 : decode cL_law 339 = .ok (.iadd, 1) := by decide +kernel
theorem dL_law_340 : decode cL_law 340 = .ok (.iaload, 1) := by decide +kernel
theorem dL_law_341 : decode cL_law 341 = .ok (.aload_n 0, 1) := by decide +kernel
theorem dL_law_342 : decode cL_law 342 = .ok (.iload_n 3, 1) := by decide +kernel
theorem dL_law_343 : decode cL_law 343 = .ok (.iconst 2, 1) := by decide +kernel
theorem dL_law_344 : decode cL_law 344 = .ok (.iadd, 1) := by decide +kernel
theorem dL_law_345 : decode cL_law 345 = .ok (.iaload, 1) := by decide +kernel
theorem dL_law_346 : decode cL_law 346 = .ok (.aload_n 0, 1) := by decide +kernel
theorem dL_law_347 : decode cL_law 347 = .ok (.iload_n 3, 1) := by decide +kernel
theorem dL_law_348 : decode cL_law 348 = .ok (.iconst 3, 1) := by decide +kernel
theorem dL_law_349 : decode cL_law 349 = .ok (.iadd, 1) := by decide +kernel
theorem dL_law_350 : decode cL_law 350 = .ok (.iaload, 1) := by decide +kernel
theorem dL_law_351 : decode cL_law 351 = .ok (.invokevirtual 27, 3) := by decide +kernel
theorem dL_law_354 : decode cL_law 354 = .ok (.aload_n 2, 1) := by decide +kernel
theorem dL_law_355 : decode cL_law 355 = .ok (.aload_n 0, 1) := by decide +kernel
theorem dL_law_356 : decode cL_law 356 = .ok (.iload_n 3, 1) := by decide +kernel
theorem dL_law_357 : decode cL_law 357 = .ok (.iconst 1, 1) := by decide +kernel
theorem dL_law_358 : decode cL_law 358 = .ok (.iadd, 1) := by decide +kernel
theorem dL_law_359 : decode cL_law 359 = .ok (.iaload, 1) := by decide +kernel
theorem dL_law_360 : decode cL_law 360 = .ok (.aload_n 0, 1) := by decide +kernel
theorem dL_law_361 : decode cL_law 361 = .ok (.iload_n 3, 1) := by decide +kernel
theorem dL_law_362 : decode cL_law 362 = .ok (.iconst 2, 1) := by decide +kernel
theorem dL_law_363 : decode cL_law 363 = .ok (.iadd, 1) := by decide +kernel
theorem dL_law_364 : decode cL_law 364 = .ok (.iaload, 1) := by decide +kernel
theorem dL_law_365 : decode cL_law 365 = .ok (.aload_n 0, 1) := by decide +kernel
theorem dL_law_366 : decode cL_law 366 = .ok (.iload_n 3, 1) := by decide +kernel
theorem dL_law_367 : decode cL_law 367 = .ok (.iconst 3, 1) := by decide +kernel
theorem dL_law_368 : decode cL_law 368 = .ok (.iadd, 1) := by decide +kernel
theorem dL_law_369 : decode cL_law 369 = .ok (.iaload, 1) := by decide +kernel
theorem dL_law_370 : decode cL_law 370 = .ok (.invokevirtual 30, 3) := by decide +kernel
theorem dL_law_373 : decode cL_law 373 = .ok (.if_icmp .eq 1512, 3) := by decide +kernel
theorem dL_law_376 : decode cL_law 376 = .ok (.iconst 0, 1) := by decide +kernel
theorem dL_law_377 : decode cL_law 377 = .ok (.ireturn, 1) := by decide +kernel
theorem dL_law_378 : decode cL_law 378 = .ok (.aload_n 1, 1) := by decide +kernel
theorem dL_law_379 : decode cL_law 379 = .ok (.aload_n 0, 1) := by decide +kernel
theorem dL_law_380 : decode cL_law 380 = .ok (.iload_n 3, 1) := by decide +kernel
theorem dL_law_381 : decode cL_law 381 = .ok (.iconst 1, 1) := by decide +kernel
theorem dL_law_382 : decode cL_law 382 = .ok (.iadd, 1) := by decide +kernel
theorem dL_law_383 : decode cL_law 383 = .ok (.iaload, 1) := by decide +kernel
theorem dL_law_384 : decode cL_law 384 = .ok (.aload_n 0, 1) := by decide +kernel
theorem dL_law_385 : decode cL_law 385 = .ok (.iload_n 3, 1) := by decide +kernel
theorem dL_law_386 : decode cL_law 386 = .ok (.iconst 2, 1) := by decide +kernel
theorem dL_law_387 : decode cL_law 387 = .ok (.iadd, 1) := by decide +kernel
theorem dL_law_388 : decode cL_law 388 = .ok (.iaload, 1) := by decide +kernel
theorem dL_law_389 : decode cL_law 389 = .ok (.aload_n 0, 1) := by decide +kernel
theorem dL_law_390 : decode cL_law 390 = .ok (.iload_n 3, 1) := by decide +kernel
theorem dL_law_391 : decode cL_law 391 = .ok (.iconst 3, 1) := by decide +kernel
theorem dL_law_392 : decode cL_law 392 = .ok (.iadd, 1) := by decide +kernel
theorem dL_law_393 : decode cL_law 393 = .ok (.iaload, 1) := by decide +kernel
theorem dL_law_394 : decode cL_law 394 = .ok (.aload_n 0, 1) := by decide +kernel
theorem dL_law_395 : decode cL_law 395 = .ok (.iload_n 3, 1) := by decide +kernel
theorem dL_law_396 : decode cL_law 396 = .ok (.iconst 4, 1) := by decide +kernel
theorem dL_law_397 : decode cL_law 397 = .ok (.iadd, 1) := by decide +kernel
theorem dL_law_398 : decode cL_law 398 = .ok (.iaload, 1) := by decide +kernel
theorem dL_law_399 : decode cL_law 399 = .ok (.aload_n 0, 1) := by decide +kernel
theorem dL_law_400 : decode cL_law 400 = .ok (.iload_n 3, 1) := by decide +kernel
theorem dL_law_401 : decode cL_law 401 = .ok (.iconst 5, 1) := by decide +kernel
theorem dL_law_402 : decode cL_law 402 = .ok (.iadd, 1) := by decide +kernel
theorem dL_law_403 : decode cL_law 403 = .ok (.iaload, 1) := by decide +kernel
theorem dL_law_404 : decode cL_law 404 = .ok (.aload_n 0, 1) := by decide +kernel
theorem dL_law_405 : decode cL_law 405 = .ok (.iload_n 3, 1) := by decide +kernel
theorem dL_law_406 : decode cL_law 406 = .ok (.bipush 6, 2) := by decide +kernel
theorem dL_law_408 : decode cL_law 408 = .ok (.iadd, 1) := by decide +kernel
theorem dL_law_409 : decode cL_law 409 = .ok (.iaload, 1) := by decide +kernel
theorem dL_law_410 : decode cL_law 410 = .ok (.invokevirtual 31, 3) := by decide +kernel
theorem dL_law_413 : decode cL_law 413 = .ok (.aload_n 2, 1) := by decide +kernel
theorem dL_law_414 : decode cL_law 414 = .ok (.aload_n 0, 1) := by decide +kernel
theorem dL_law_415 : decode cL_law 415 = .ok (.iload_n 3, 1) := by decide +kernel
theorem dL_law_416 : decode cL_law 416 = .ok (.iconst 1, 1) := by decide +kernel
theorem dL_law_417 : decode cL_law 417 = .ok (.iadd, 1) := by decide +kernel
theorem dL_law_418 : decode cL_law 418 = .ok (.iaload, 1) := by decide +kernel
theorem dL_law_419 : decode cL_law 419 = .ok (.aload_n 0, 1) := by decide +kernel
theorem dL_law_420 : decode cL_law 420 = .ok (.iload_n 3, 1) := by decide +kernel
theorem dL_law_421 : decode cL_law 421 = .ok (.iconst 2, 1) := by decide +kernel
theorem dL_law_422 : decode cL_law 422 = .ok (.iadd, 1) := by decide +kernel
theorem dL_law_423 : decode cL_law 423 = .ok (.iaload, 1) := by decide +kernel
theorem dL_law_424 : decode cL_law 424 = .ok (.aload_n 0, 1) := by decide +kernel
theorem dL_law_425 : decode cL_law 425 = .ok (.iload_n 3, 1) := by decide +kernel
theorem dL_law_426 : decode cL_law 426 = .ok (.iconst 3, 1) := by decide +kernel
theorem dL_law_427 : decode cL_law 427 = .ok (.iadd, 1) := by decide +kernel
theorem dL_law_428 : decode cL_law 428 = .ok (.iaload, 1) := by decide +kernel
theorem dL_law_429 : decode cL_law 429 = .ok (.aload_n 0, 1) := by decide +kernel
theorem dL_law_430 : decode cL_law 430 = .ok (.iload_n 3, 1) := by decide +kernel
theorem dL_law_431 : decode cL_law 431 = .ok (.iconst 4, 1) := by decide +kernel
theorem dL_law_432 : decode cL_law 432 = .ok (.iadd, 1) := by decide +kernel
theorem dL_law_433 : decode cL_law 433 = .ok (.iaload, 1) := by decide +kernel
theorem dL_law_434 : decode cL_law 434 = .ok (.aload_n 0, 1) := by decide +kernel
theorem dL_law_435 : decode cL_law 435 = .ok (.iload_n 3, 1) := by decide +kernel
theorem dL_law_436 : decode cL_law 436 = .ok (.iconst 5, 1) := by decide +kernel
theorem dL_law_437 : decode cL_law 437 = .ok (.iadd, 1) := by decide +kernel
theorem dL_law_438 : decode cL_law 438 = .ok (.iaload, 1) := by decide +kernel
theorem dL_law_439 : decode cL_law 439 = .ok (.aload_n 0, 1) := by decide +kernel
theorem dL_law_440 : decode cL_law 440 = .ok (.iload_n 3, 1) := by decide +kernel
theorem dL_law_441 : decode cL_law 441 = .ok (.bipush 6, 2) := by decide +kernel
theorem dL_law_443 : decode cL_law 443 = .ok (.iadd, 1) := by decide +kernel
theorem dL_law_444 : decode cL_law 444 = .ok (.iaload, 1) := by decide +kernel
theorem dL_law_445 : decode cL_law 445 = .ok (.invokevirtual 35, 3) := by decide +kernel
theorem dL_law_448 : decode cL_law 448 = .ok (.if_icmp .eq 1437, 3) := by decide +kernel
theorem dL_law_451 : decode cL_law 451 = .ok (.iconst 0, 1) := by decide +kernel
theorem dL_law_452 : decode cL_law 452 = .ok (.ireturn, 1) := by decide +kernel
theorem dL_law_453 : decode cL_law 453 = .ok (.aload_n 1, 1) := by decide +kernel
theorem dL_law_454 : decode cL_law 454 = .ok (.aload_n 0, 1) := by decide +kernel
theorem dL_law_455 : decode cL_law 455 = .ok (.iload_n 3, 1) := by decide +kernel
theorem dL_law_456 : decode cL_law 456 = .ok (.iconst 1, 1) := by decide +kernel
theorem dL_law_457 : decode cL_law 457 = .ok (.iadd, 1) := by decide +kernel
theorem dL_law_458 : decode cL_law 458 = .ok (.iaload, 1) := by decide +kernel
theorem dL_law_459 : decode cL_law 459 = .ok (.aload_n 0, 1) := by decide +kernel
theorem dL_law_460 : decode cL_law 460 = .ok (.iload_n 3, 1) := by decide +kernel
theorem dL_law_461 : decode cL_law 461 = .ok (.iconst 2, 1) := by decide +kernel
theorem dL_law_462 : decode cL_law 462 = .ok (.iadd, 1) := by decide +kernel
theorem dL_law_463 : decode cL_law 463 = .ok (.iaload, 1) := by decide +kernel
theorem dL_law_464 : decode cL_law 464 = .ok (.aload_n 0, 1) := by decide +kernel
theorem dL_law_465 : decode cL_law 465 = .ok (.iload_n 3, 1) := by decide +kernel
theorem dL_law_466 : decode cL_law 466 = .ok (.iconst 3, 1) := by decide +kernel
theorem dL_law_467 : decode cL_law 467 = .ok (.iadd, 1) := by decide +kernel
theorem dL_law_468 : decode cL_law 468 = .ok (.iaload, 1) := by decide +kernel
theorem dL_law_469 : decode cL_law 469 = .ok (.invokevirtual 36, 3) := by decide +kernel
theorem dL_law_472 : decode cL_law 472 = .ok (.aload_n 2, 1) := by decide +kernel
theorem dL_law_473 : decode cL_law 473 = .ok (.aload_n 0, 1) := by decide +kernel
theorem dL_law_474 : decode cL_law 474 = .ok (.iload_n 3, 1) := by decide +kernel
theorem dL_law_475 : decode cL_law 475 = .ok (.iconst 1, 1) := by decide +kernel
theorem dL_law_476 : decode cL_law 476 = .ok (.iadd, 1) := by decide +kernel
theorem dL_law_477 : decode cL_law 477 = .ok (.iaload, 1) := by decide +kernel
theorem dL_law_478 : decode cL_law 478 = .ok (.aload_n 0, 1) := by decide +kernel
theorem dL_law_479 : decode cL_law 479 = .ok (.iload_n 3, 1) := by decide +kernel
theorem dL_law_480 : decode cL_law 480 = .ok (.iconst 2, 1) := by decide +kernel
theorem dL_law_481 : decode cL_law 481 = .ok (.iadd, 1) := by decide +kernel
theorem dL_law_482 : decode cL_law 482 = .ok (.iaload, 1) := by decide +kernel
theorem dL_law_483 : decode cL_law 483 = .ok (.aload_n 0, 1) := by decide +kernel
theorem dL_law_484 : decode cL_law 484 = .ok (.iload_n 3, 1) := by decide +kernel
theorem dL_law_485 : decode cL_law 485 = .ok (.iconst 3, 1) := by decide +kernel
theorem dL_law_486 : decode cL_law 486 = .ok (.iadd, 1) := by decide +kernel
theorem dL_law_487 : decode cL_law 487 = .ok (.iaload, 1) := by decide +kernel
theorem dL_law_488 : decode cL_law 488 = .ok (.invokevirtual 39, 3) := by decide +kernel
theorem dL_law_491 : decode cL_law 491 = .ok (.if_icmp .eq 1394, 3) := by decide +kernel
theorem dL_law_494 : decode cL_law 494 = .ok (.iconst 0, 1) := by decide +kernel
theorem dL_law_495 : decode cL_law 495 = .ok (.ireturn, 1) := by decide +kernel
theorem dL_law_496 : decode cL_law 496 = .ok (.aload_n 1, 1) := by decide +kernel
theorem dL_law_497 : decode cL_law 497 = .ok (.aload_n 0, 1) := by decide +kernel
theorem dL_law_498 : decode cL_law 498 = .ok (.iload_n 3, 1) := by decide +kernel
theorem dL_law_499 : decode cL_law 499 = .ok (.iconst 1, 1) := by decide +kernel
theorem dL_law_500 : decode cL_law 500 = .ok (.iadd, 1) := by decide +kernel
theorem dL_law_501 : decode cL_law 501 = .ok (.iaload, 1) := by decide +kernel
theorem dL_law_502 : decode cL_law 502 = .ok (.invokevirtual 40, 3) := by decide +kernel
theorem dL_law_505 : decode cL_law 505 = .ok (.aload_n 2, 1) := by decide +kernel
theorem dL_law_506 : decode cL_law 506 = .ok (.aload_n 0, 1) := by decide +kernel
theorem dL_law_507 : decode cL_law 507 = .ok (.iload_n 3, 1) := by decide +kernel
theorem dL_law_508 : decode cL_law 508 = .ok (.iconst 1, 1) := by decide +kernel
theorem dL_law_509 : decode cL_law 509 = .ok (.iadd, 1) := by decide +kernel
theorem dL_law_510 : decode cL_law 510 = .ok (.iaload, 1) := by decide +kernel
theorem dL_law_511 : decode cL_law 511 = .ok (.invokevirtual 44, 3) := by decide +kernel
theorem dL_law_514 : decode cL_law 514 = .ok (.if_icmp .eq 1371, 3) := by decide +kernel
theorem dL_law_517 : decode cL_law 517 = .ok (.iconst 0, 1) := by decide +kernel
theorem dL_law_518 : decode cL_law 518 = .ok (.ireturn, 1) := by decide +kernel
theorem dL_law_519 : decode cL_law 519 = .ok (.aload_n 1, 1) := by decide +kernel
theorem dL_law_520 : decode cL_law 520 = .ok (.aload_n 0, 1) := by decide +kernel
theorem dL_law_521 : decode cL_law 521 = .ok (.iload_n 3, 1) := by decide +kernel
theorem dL_law_522 : decode cL_law 522 = .ok (.iconst 1, 1) := by decide +kernel
theorem dL_law_523 : decode cL_law 523 = .ok (.iadd, 1) := by decide +kernel
theorem dL_law_524 : decode cL_law 524 = .ok (.iaload, 1) := by decide +kernel
theorem dL_law_525 : decode cL_law 525 = .ok (.invokevirtual 45, 3) := by decide +kernel
theorem dL_law_528 : decode cL_law 528 = .ok (.aload_n 2, 1) := by decide +kernel
theorem dL_law_529 : decode cL_law 529 = .ok (.aload_n 0, 1) := by decide +kernel
theorem dL_law_530 : decode cL_law 530 = .ok (.iload_n 3, 1) := by decide +kernel
theorem dL_law_531 : decode cL_law 531 = .ok (.iconst 1, 1) := by decide +kernel
theorem dL_law_532 : decode cL_law 532 = .ok (.iadd, 1) := by decide +kernel
theorem dL_law_533 : decode cL_law 533 = .ok (.iaload, 1) := by decide +kernel
theorem dL_law_534 : decode cL_law 534 = .ok (.invokevirtual 48, 3) := by decide +kernel
theorem dL_law_537 : decode cL_law 537 = .ok (.if_icmp .eq 1348, 3) := by decide +kernel
theorem dL_law_540 : decode cL_law 540 = .ok (.iconst 0, 1) := by decide +kernel
theorem dL_law_541 : decode cL_law 541 = .ok (.ireturn, 1) := by decide +kernel
theorem dL_law_542 : decode cL_law 542 = .ok (.aload_n 1, 1) := by decide +kernel
theorem dL_law_543 : decode cL_law 543 = .ok (.invokevirtual 49, 3) := by decide +kernel
theorem dL_law_546 : decode cL_law 546 = .ok (.aload_n 2, 1) := by decide +kernel
theorem dL_law_547 : decode cL_law 547 = .ok (.invokevirtual 53, 3) := by decide +kernel
theorem dL_law_550 : decode cL_law 550 = .ok (.if_icmp .eq 1335, 3) := by decide +kernel
theorem dL_law_553 : decode cL_law 553 = .ok (.iconst 0, 1) := by decide +kernel
theorem dL_law_554 : decode cL_law 554 = .ok (.ireturn, 1) := by decide +kernel
theorem dL_law_555 : decode cL_law 555 = .ok (.aload_n 1, 1) := by decide +kernel
theorem dL_law_556 : decode cL_law 556 = .ok (.aload_n 0, 1) := by decide +kernel
theorem dL_law_557 : decode cL_law 557 = .ok (.iload_n 3, 1) := by decide +kernel
theorem dL_law_558 : decode cL_law 558 = .ok (.iconst 1, 1) := by decide +kernel
theorem dL_law_559 : decode cL_law 559 = .ok (.iadd, 1) := by decide +kernel
theorem dL_law_560 : decode cL_law 560 = .ok (.iaload, 1) := by decide +kernel
theorem dL_law_561 : decode cL_law 561 = .ok (.invokevirtual 54, 3) := by decide +kernel
theorem dL_law_564 : decode cL_law 564 = .ok (.aload_n 2, 1) := by decide +kernel
theorem dL_law_565 : decode cL_law 565 = .ok (.aload_n 0, 1) := by decide +kernel
theorem dL_law_566 : decode cL_law 566 = .ok (.iload_n 3, 1) := by decide +kernel
theorem dL_law_567 : decode cL_law 567 = .ok (.iconst 1, 1) := by decide +kernel
theorem dL_law_568 : decode cL_law 568 = .ok (.iadd, 1) := by decide +kernel
theorem dL_law_569 : decode cL_law 569 = .ok (.iaload, 1) := by decide +kernel
theorem dL_law_570 : decode cL_law 570 = .ok (.invokevirtual 57, 3) := by decide +kernel
theorem dL_law_573 : decode cL_law 573 = .ok (.if_icmp .eq 1312, 3) := by decide +kernel
theorem dL_law_576 : decode cL_law 576 = .ok (.iconst 0, 1) := by decide +kernel
theorem dL_law_577 : decode cL_law 577 = .ok (.ireturn, 1) := by decide +kernel
theorem dL_law_578 : decode cL_law 578 = .ok (.aload_n 1, 1) := by decide +kernel
theorem dL_law_579 : decode cL_law 579 = .ok (.aload_n 0, 1) := by decide +kernel
theorem dL_law_580 : decode cL_law 580 = .ok (.iload_n 3, 1) := by decide +kernel
theorem dL_law_581 : decode cL_law 581 = .ok (.iconst 1, 1) := by decide +kernel
theorem dL_law_582 : decode cL_law 582 = .ok (.iadd, 1) := by decide +kernel
theorem dL_law_583 : decode cL_law 583 = .ok (.iaload, 1) := by decide +kernel
theorem dL_law_584 : decode cL_law 584 = .ok (.aload_n 0, 1) := by decide +kernel
theorem dL_law_585 : decode cL_law 585 = .ok (.iload_n 3, 1) := by decide +kernel
theorem dL_law_586 : decode cL_law 586 = .ok (.iconst 2, 1) := by decide +kernel
theorem dL_law_587 : decode cL_law 587 = .ok (.iadd, 1) := by decide +kernel
theorem dL_law_588 : decode cL_law 588 = .ok (.iaload, 1) := by decide +kernel
theorem dL_law_589 : decode cL_law 589 = .ok (.invokevirtual 58, 3) := by decide +kernel
theorem dL_law_592 : decode cL_law 592 = .ok (.aload_n 2, 1) := by decide +kernel
theorem dL_law_593 : decode cL_law 593 = .ok (.aload_n 0, 1) := by decide +kernel
theorem dL_law_594 : decode cL_law 594 = .ok (.iload_n 3, 1) := by decide +kernel
theorem dL_law_595 : decode cL_law 595 = .ok (.iconst 1, 1) := by decide +kernel
theorem dL_law_596 : decode cL_law 596 = .ok (.iadd, 1) := by decide +kernel
theorem dL_law_597 : decode cL_law 597 = .ok (.iaload, 1) := by decide +kernel
theorem dL_law_598 : decode cL_law 598 = .ok (.aload_n 0, 1) := by decide +kernel
theorem dL_law_599 : decode cL_law 599 = .ok (.iload_n 3, 1) := by decide +kernel
theorem dL_law_600 : decode cL_law 600 = .ok (.iconst 2, 1) := by decide +kernel
theorem dL_law_601 : decode cL_law 601 = .ok (.iadd, 1) := by decide +kernel
theorem dL_law_602 : decode cL_law 602 = .ok (.iaload, 1) := by decide +kernel
theorem dL_law_603 : decode cL_law 603 = .ok (.invokevirtual 61, 3) := by decide +kernel
theorem dL_law_606 : decode cL_law 606 = .ok (.if_icmp .eq 1279, 3) := by decide +kernel
theorem dL_law_609 : decode cL_law 609 = .ok (.iconst 0, 1) := by decide +kernel
theorem dL_law_610 : decode cL_law 610 = .ok (.ireturn, 1) := by decide +kernel
theorem dL_law_611 : decode cL_law 611 = .ok (.aload_n 1, 1) := by decide +kernel
theorem dL_law_612 : decode cL_law 612 = .ok (.aload_n 0, 1) := by decide +kernel
theorem dL_law_613 : decode cL_law 613 = .ok (.iload_n 3, 1) := by decide +kernel
theorem dL_law_614 : decode cL_law 614 = .ok (.iconst 1, 1) := by decide +kernel
theorem dL_law_615 : decode cL_law 615 = .ok (.iadd, 1) := by decide +kernel
theorem dL_law_616 : decode cL_law 616 = .ok (.iaload, 1) := by decide +kernel
theorem dL_law_617 : decode cL_law 617 = .ok (.aload_n 0, 1) := by decide +kernel
theorem dL_law_618 : decode cL_law 618 = .ok (.iload_n 3, 1) := by decide +kernel
theorem dL_law_619 : decode cL_law 619 = .ok (.iconst 2, 1) := by decide +kernel
theorem dL_law_620 : decode cL_law 620 = .ok (.iadd, 1) := by decide +kernel
theorem dL_law_621 : decode cL_law 621 = .ok (.iaload, 1) := by decide +kernel
theorem dL_law_622 : decode cL_law 622 = .ok (.invokevirtual 62, 3) := by decide +kernel
theorem dL_law_625 : decode cL_law 625 = .ok (.aload_n 2, 1) := by decide +kernel
theorem dL_law_626 : decode cL_law 626 = .ok (.aload_n 0, 1) := by decide +kernel
theorem dL_law_627 : decode cL_law 627 = .ok (.iload_n 3, 1) := by decide +kernel
theorem dL_law_628 : decode cL_law 628 = .ok (.iconst 1, 1) := by decide +kernel
theorem dL_law_629 : decode cL_law 629 = .ok (.iadd, 1) := by decide +kernel
theorem dL_law_630 : decode cL_law 630 = .ok (.iaload, 1) := by decide +kernel
theorem dL_law_631 : decode cL_law 631 = .ok (.aload_n 0, 1) := by decide +kernel
theorem dL_law_632 : decode cL_law 632 = .ok (.iload_n 3, 1) := by decide +kernel
theorem dL_law_633 : decode cL_law 633 = .ok (.iconst 2, 1) := by decide +kernel
theorem dL_law_634 : decode cL_law 634 = .ok (.iadd, 1) := by decide +kernel
theorem dL_law_635 : decode cL_law 635 = .ok (.iaload, 1) := by decide +kernel
theorem dL_law_636 : decode cL_law 636 = .ok (.invokevirtual 65, 3) := by decide +kernel
theorem dL_law_639 : decode cL_law 639 = .ok (.if_icmp .eq 1246, 3) := by decide +kernel
theorem dL_law_642 : decode cL_law 642 = .ok (.iconst 0, 1) := by decide +kernel
theorem dL_law_643 : decode cL_law 643 = .ok (.ireturn, 1) := by decide +kernel
theorem dL_law_644 : decode cL_law 644 = .ok (.aload_n 1, 1) := by decide +kernel
theorem dL_law_645 : decode cL_law 645 = .ok (.aload_n 0, 1) := by decide +kernel
theorem dL_law_646 : decode cL_law 646 = .ok (.iload_n 3, 1) := by decide +kernel
theorem dL_law_647 : decode cL_law 647 = .ok (.iconst 1, 1) := by decide +kernel
theorem dL_law_648 : decode cL_law 648 = .ok (.iadd, 1) := by decide +kernel
theorem dL_law_649 : decode cL_law 649 = .ok (.iaload, 1) := by decide +kernel
theorem dL_law_650 : decode cL_law 650 = .ok (.aload_n 0, 1) := by decide +kernel
theorem dL_law_651 : decode cL_law 651 = .ok (.iload_n 3, 1) := by decide +kernel
theorem dL_law_652 : decode cL_law 652 = .ok (.iconst 2, 1) := by decide +kernel
theorem dL_law_653 : decode cL_law 653 = .ok (.iadd, 1) := by decide +kernel
theorem dL_law_654 : decode cL_law 654 = .ok (.iaload, 1) := by decide +kernel
theorem dL_law_655 : decode cL_law 655 = .ok (.invokevirtual 66, 3) := by decide +kernel
theorem dL_law_658 : decode cL_law 658 = .ok (.aload_n 2, 1) := by decide +kernel
theorem dL_law_659 : decode cL_law 659 = .ok (.aload_n 0, 1) := by decide +kernel
theorem dL_law_660 : decode cL_law 660 = .ok (.iload_n 3, 1) := by decide +kernel
theorem dL_law_661 : decode cL_law 661 = .ok (.iconst 1, 1) := by decide +kernel
theorem dL_law_662 : decode cL_law 662 = .ok (.iadd, 1) := by decide +kernel
theorem dL_law_663 : decode cL_law 663 = .ok (.iaload, 1) := by decide +kernel
theorem dL_law_664 : decode cL_law 664 = .ok (.aload_n 0, 1) := by decide +kernel
theorem dL_law_665 : decode cL_law 665 = .ok (.iload_n 3, 1) := by decide +kernel
theorem dL_law_666 : decode cL_law 666 = .ok (.iconst 2, 1) := by decide +kernel
theorem dL_law_667 : decode cL_law 667 = .ok (.iadd, 1) := by decide +kernel
theorem dL_law_668 : decode cL_law 668 = .ok (.iaload, 1) := by decide +kernel
theorem dL_law_669 : decode cL_law 669 = .ok (.invokevirtual 69, 3) := by decide +kernel
theorem dL_law_672 : decode cL_law 672 = .ok (.if_icmp .eq 1213, 3) := by decide +kernel
theorem dL_law_675 : decode cL_law 675 = .ok (.iconst 0, 1) := by decide +kernel
theorem dL_law_676 : decode cL_law 676 = .ok (.ireturn, 1) := by decide +kernel
theorem dL_law_677 : decode cL_law 677 = .ok (.aload_n 1, 1) := by decide +kernel
theorem dL_law_678 : decode cL_law 678 = .ok (.aload_n 0, 1) := by decide +kernel
theorem dL_law_679 : decode cL_law 679 = .ok (.iload_n 3, 1) := by decide +kernel
theorem dL_law_680 : decode cL_law 680 = .ok (.iconst 1, 1) := by decide +kernel
theorem dL_law_681 : decode cL_law 681 = .ok (.iadd, 1) := by decide +kernel
theorem dL_law_682 : decode cL_law 682 = .ok (.iaload, 1) := by decide +kernel
theorem dL_law_683 : decode cL_law 683 = .ok (.aload_n 0, 1) := by decide +kernel
theorem dL_law_684 : decode cL_law 684 = .ok (.iload_n 3, 1) := by decide +kernel
theorem dL_law_685 : decode cL_law 685 = .ok (.iconst 2, 1) := by decide +kernel
theorem dL_law_686 : decode cL_law 686 = .ok (.iadd, 1) := by decide +kernel
theorem dL_law_687 : decode cL_law 687 = .ok (.iaload, 1) := by decide +kernel
theorem dL_law_688 : decode cL_law 688 = .ok (.invokevirtual 70, 3) := by decide +kernel
theorem dL_law_691 : decode cL_law 691 = .ok (.aload_n 2, 1) := by decide +kernel
theorem dL_law_692 : decode cL_law 692 = .ok (.aload_n 0, 1) := by decide +kernel
theorem dL_law_693 : decode cL_law 693 = .ok (.iload_n 3, 1) := by decide +kernel
theorem dL_law_694 : decode cL_law 694 = .ok (.iconst 1, 1) := by decide +kernel
theorem dL_law_695 : decode cL_law 695 = .ok (.iadd, 1) := by decide +kernel
theorem dL_law_696 : decode cL_law 696 = .ok (.iaload, 1) := by decide +kernel
theorem dL_law_697 : decode cL_law 697 = .ok (.aload_n 0, 1) := by decide +kernel
theorem dL_law_698 : decode cL_law 698 = .ok (.iload_n 3, 1) := by decide +kernel
theorem dL_law_699 : decode cL_law 699 = .ok (.iconst 2, 1) := by decide +kernel
theorem dL_law_700 : decode cL_law 700 = .ok (.iadd, 1) := by decide +kernel
theorem dL_law_701 : decode cL_law 701 = .ok (.iaload, 1) := by decide +kernel
theorem dL_law_702 : decode cL_law 702 = .ok (.invokevirtual 73, 3) := by decide +kernel
theorem dL_law_705 : decode cL_law 705 = .ok (.if_icmp .eq 1180, 3) := by decide +kernel
theorem dL_law_708 : decode cL_law 708 = .ok (.iconst 0, 1) := by decide +kernel
theorem dL_law_709 : decode cL_law 709 = .ok (.ireturn, 1) := by decide +kernel
theorem dL_law_710 : decode cL_law 710 = .ok (.aload_n 1, 1) := by decide +kernel
theorem dL_law_711 : decode cL_law 711 = .ok (.aload_n 0, 1) := by decide +kernel
theorem dL_law_712 : decode cL_law 712 = .ok (.iload_n 3, 1) := by decide +kernel
theorem dL_law_713 : decode cL_law 713 = .ok (.iconst 1, 1) := by decide +kernel
theorem dL_law_714 : decode cL_law 714 = .ok (.iadd, 1) := by decide +kernel
theorem dL_law_715 : decode cL_law 715 = .ok (.iaload, 1) := by decide +kernel
theorem dL_law_716 : decode cL_law 716 = .ok (.aload_n 0, 1) := by decide +kernel
theorem dL_law_717 : decode cL_law 717 = .ok (.iload_n 3, 1) := by decide +kernel
theorem dL_law_718 : decode cL_law 718 = .ok (.iconst 2, 1) := by decide +kernel
theorem dL_law_719 : decode cL_law 719 = .ok (.iadd, 1) := by decide +kernel
theorem dL_law_720 : decode cL_law 720 = .ok (.iaload, 1) := by decide +kernel
theorem dL_law_721 : decode cL_law 721 = .ok (.invokevirtual 74, 3) := by decide +kernel
theorem dL_law_724 : decode cL_law 724 = .ok (.aload_n 2, 1) := by decide +kernel
theorem dL_law_725 : decode cL_law 725 = .ok (.aload_n 0, 1) := by decide +kernel
theorem dL_law_726 : decode cL_law 726 = .ok (.iload_n 3, 1) := by decide +kernel
theorem dL_law_727 : decode cL_law 727 = .ok (.iconst 1, 1) := by decide +kernel
theorem dL_law_728 : decode cL_law 728 = .ok (.iadd, 1) := by decide +kernel
theorem dL_law_729 : decode cL_law 729 = .ok (.iaload, 1) := by decide +kernel
theorem dL_law_730 : decode cL_law 730 = .ok (.aload_n 0, 1) := by decide +kernel
theorem dL_law_731 : decode cL_law 731 = .ok (.iload_n 3, 1) := by decide +kernel
theorem dL_law_732 : decode cL_law 732 = .ok (.iconst 2, 1) := by decide +kernel
theorem dL_law_733 : decode cL_law 733 = .ok (.iadd, 1) := by decide +kernel
theorem dL_law_734 : decode cL_law 734 = .ok (.iaload, 1) := by decide +kernel
theorem dL_law_735 : decode cL_law 735 = .ok (.invokevirtual 77, 3) := by decide +kernel
theorem dL_law_738 : decode cL_law 738 = .ok (.if_icmp .eq 1147, 3) := by decide +kernel
theorem dL_law_741 : decode cL_law 741 = .ok (.iconst 0, 1) := by decide +kernel
theorem dL_law_742 : decode cL_law 742 = .ok (.ireturn, 1) := by decide +kernel
theorem dL_law_743 : decode cL_law 743 = .ok (.aload_n 1, 1) := by decide +kernel
theorem dL_law_744 : decode cL_law 744 = .ok (.aload_n 0, 1) := by decide +kernel
theorem dL_law_745 : decode cL_law 745 = .ok (.iload_n 3, 1) := by decide +kernel
theorem dL_law_746 : decode cL_law 746 = .ok (.iconst 1, 1) := by decide +kernel
theorem dL_law_747 : decode cL_law 747 = .ok (.iadd, 1) := by decide +kernel
theorem dL_law_748 : decode cL_law 748 = .ok (.iaload, 1) := by decide +kernel
theorem dL_law_749 : decode cL_law 749 = .ok (.aload_n 0, 1) := by decide +kernel
theorem dL_law_750 : decode cL_law 750 = .ok (.iload_n 3, 1) := by decide +kernel
theorem dL_law_751 : decode cL_law 751 = .ok (.iconst 2, 1) := by decide +kernel
theorem dL_law_752 : decode cL_law 752 = .ok (.iadd, 1) := by decide +kernel
theorem dL_law_753 : decode cL_law 753 = .ok (.iaload, 1) := by decide +kernel
theorem dL_law_754 : decode cL_law 754 = .ok (.aload_n 0, 1) := by decide +kernel
theorem dL_law_755 : decode cL_law 755 = .ok (.iload_n 3, 1) := by decide +kernel
theorem dL_law_756 : decode cL_law 756 = .ok (.iconst 3, 1) := by decide +kernel
theorem dL_law_757 : decode cL_law 757 = .ok (.iadd, 1) := by decide +kernel
theorem dL_law_758 : decode cL_law 758 = .ok (.iaload, 1) := by decide +kernel
theorem dL_law_759 : decode cL_law 759 = .ok (.aload_n 0, 1) := by decide +kernel
theorem dL_law_760 : decode cL_law 760 = .ok (.iload_n 3, 1) := by decide +kernel
theorem dL_law_761 : decode cL_law 761 = .ok (.iconst 4, 1) := by decide +kernel
theorem dL_law_762 : decode cL_law 762 = .ok (.iadd, 1) := by decide +kernel
theorem dL_law_763 : decode cL_law 763 = .ok (.iaload, 1) := by decide +kernel
theorem dL_law_764 : decode cL_law 764 = .ok (.invokevirtual 78, 3) := by decide +kernel
theorem dL_law_767 : decode cL_law 767 = .ok (.aload_n 2, 1) := by decide +kernel
theorem dL_law_768 : decode cL_law 768 = .ok (.aload_n 0, 1) := by decide +kernel
theorem dL_law_769 : decode cL_law 769 = .ok (.iload_n 3, 1) := by decide +kernel
theorem dL_law_770 : decode cL_law 770 = .ok (.iconst 1, 1) := by decide +kernel
theorem dL_law_771 : decode cL_law 771 = .ok (.iadd, 1) := by decide +kernel
theorem dL_law_772 : decode cL_law 772 = .ok (.iaload, 1) := by decide +kernel
theorem dL_law_773 : decode cL_law 773 = .ok (.aload_n 0, 1) := by decide +kernel
theorem dL_law_774 : decode cL_law 774 = .ok (.iload_n 3, 1) := by decide +kernel
theorem dL_law_775 : decode cL_law 775 = .ok (.iconst 2, 1) := by decide +kernel
theorem dL_law_776 : decode cL_law 776 = .ok (.iadd, 1) := by decide +kernel
theorem dL_law_777 : decode cL_law 777 = .ok (.iaload, 1) := by decide +kernel
theorem dL_law_778 : decode cL_law 778 = .ok (.aload_n 0, 1) := by decide +kernel
theorem dL_law_779 : decode cL_law 779 = .ok (.iload_n 3, 1) := by decide +kernel
theorem dL_law_780 : decode cL_law 780 = .ok (.iconst 3, 1) := by decide +kernel
theorem dL_law_781 : decode cL_law 781 = .ok (.iadd, 1) := by decide +kernel
theorem dL_law_782 : decode cL_law 782 = .ok (.iaload, 1) := by decide +kernel
theorem dL_law_783 : decode cL_law 783 = .ok (.aload_n 0, 1) := by decide +kernel
theorem dL_law_784 : decode cL_law 784 = .ok (.iload_n 3, 1) := by decide +kernel
theorem dL_law_785 : decode cL_law 785 = .ok (.iconst 4, 1) := by decide +kernel
theorem dL_law_786 : decode cL_law 786 = .ok (.iadd, 1) := by decide +kernel
theorem dL_law_787 : decode cL_law 787 = .ok (.iaload, 1) := by decide +kernel
theorem dL_law_788 : decode cL_law 788 = .ok (.invokevirtual 82, 3) := by decide +kernel
theorem dL_law_791 : decode cL_law 791 = .ok (.lcmp, 1) := by decide +kernel
theorem dL_law_792 : decode cL_law 792 = .ok (.ifCond .eq 1093, 3) := by decide +kernel
theorem dL_law_795 : decode cL_law 795 = .ok (.iconst 0, 1) := by decide +kernel
theorem dL_law_796 : decode cL_law 796 = .ok (.ireturn, 1) := by decide +kernel
theorem dL_law_797 : decode cL_law 797 = .ok (.aload_n 1, 1) := by decide +kernel
theorem dL_law_798 : decode cL_law 798 = .ok (.aload_n 0, 1) := by decide +kernel
theorem dL_law_799 : decode cL_law 799 = .ok (.iload_n 3, 1) := by decide +kernel
theorem dL_law_800 : decode cL_law 800 = .ok (.iconst 1, 1) := by decide +kernel
theorem dL_law_801 : decode cL_law 801 = .ok (.iadd, 1) := by decide +kernel
theorem dL_law_802 : decode cL_law 802 = .ok (.iaload, 1) := by decide +kernel
theorem dL_law_803 : decode cL_law 803 = .ok (.aload_n 0, 1) := by decide +kernel
theorem dL_law_804 : decode cL_law 804 = .ok (.iload_n 3, 1) := by decide +kernel
theorem dL_law_805 : decode cL_law 805 = .ok (.iconst 2, 1) := by decide +kernel
theorem dL_law_806 : decode cL_law 806 = .ok (.iadd, 1) := by decide +kernel
theorem dL_law_807 : decode cL_law 807 = .ok (.iaload, 1) := by decide +kernel
theorem dL_law_808 : decode cL_law 808 = .ok (.aload_n 0, 1) := by decide +kernel
theorem dL_law_809 : decode cL_law 809 = .ok (.iload_n 3, 1) := by decide +kernel
theorem dL_law_810 : decode cL_law 810 = .ok (.iconst 3, 1) := by decide +kernel
theorem dL_law_811 : decode cL_law 811 = .ok (.iadd, 1) := by decide +kernel
theorem dL_law_812 : decode cL_law 812 = .ok (.iaload, 1) := by decide +kernel
theorem dL_law_813 : decode cL_law 813 = .ok (.aload_n 0, 1) := by decide +kernel
theorem dL_law_814 : decode cL_law 814 = .ok (.iload_n 3, 1) := by decide +kernel
theorem dL_law_815 : decode cL_law 815 = .ok (.iconst 4, 1) := by decide +kernel
theorem dL_law_816 : decode cL_law 816 = .ok (.iadd, 1) := by decide +kernel
theorem dL_law_817 : decode cL_law 817 = .ok (.iaload, 1) := by decide +kernel
theorem dL_law_818 : decode cL_law 818 = .ok (.aload_n 0, 1) := by decide +kernel
theorem dL_law_819 : decode cL_law 819 = .ok (.iload_n 3, 1) := by decide +kernel
theorem dL_law_820 : decode cL_law 820 = .ok (.iconst 5, 1) := by decide +kernel
theorem dL_law_821 : decode cL_law 821 = .ok (.iadd, 1) := by decide +kernel
theorem dL_law_822 : decode cL_law 822 = .ok (.iaload, 1) := by decide +kernel
theorem dL_law_823 : decode cL_law 823 = .ok (.invokevirtual 83, 3) := by decide +kernel
theorem dL_law_826 : decode cL_law 826 = .ok (.aload_n 2, 1) := by decide +kernel
theorem dL_law_827 : decode cL_law 827 = .ok (.aload_n 0, 1) := by decide +kernel
theorem dL_law_828 : decode cL_law 828 = .ok (.iload_n 3, 1) := by decide +kernel
theorem dL_law_829 : decode cL_law 829 = .ok (.iconst 1, 1) := by decide +kernel
theorem dL_law_830 : decode cL_law 830 = .ok (.iadd, 1) := by decide +kernel
theorem dL_law_831 : decode cL_law 831 = .ok (.iaload, 1) := by decide +kernel
theorem dL_law_832 : decode cL_law 832 = .ok (.aload_n 0, 1) := by decide +kernel
theorem dL_law_833 : decode cL_law 833 = .ok (.iload_n 3, 1) := by decide +kernel
theorem dL_law_834 : decode cL_law 834 = .ok (.iconst 2, 1) := by decide +kernel
theorem dL_law_835 : decode cL_law 835 = .ok (.iadd, 1) := by decide +kernel
theorem dL_law_836 : decode cL_law 836 = .ok (.iaload, 1) := by decide +kernel
theorem dL_law_837 : decode cL_law 837 = .ok (.aload_n 0, 1) := by decide +kernel
theorem dL_law_838 : decode cL_law 838 = .ok (.iload_n 3, 1) := by decide +kernel
theorem dL_law_839 : decode cL_law 839 = .ok (.iconst 3, 1) := by decide +kernel
theorem dL_law_840 : decode cL_law 840 = .ok (.iadd, 1) := by decide +kernel
theorem dL_law_841 : decode cL_law 841 = .ok (.iaload, 1) := by decide +kernel
theorem dL_law_842 : decode cL_law 842 = .ok (.aload_n 0, 1) := by decide +kernel
theorem dL_law_843 : decode cL_law 843 = .ok (.iload_n 3, 1) := by decide +kernel
theorem dL_law_844 : decode cL_law 844 = .ok (.iconst 4, 1) := by decide +kernel
theorem dL_law_845 : decode cL_law 845 = .ok (.iadd, 1) := by decide +kernel
theorem dL_law_846 : decode cL_law 846 = .ok (.iaload, 1) := by decide +kernel
theorem dL_law_847 : decode cL_law 847 = .ok (.aload_n 0, 1) := by decide +kernel
theorem dL_law_848 : decode cL_law 848 = .ok (.iload_n 3, 1) := by decide +kernel
theorem dL_law_849 : decode cL_law 849 = .ok (.iconst 5, 1) := by decide +kernel
theorem dL_law_850 : decode cL_law 850 = .ok (.iadd, 1) := by decide +kernel
theorem dL_law_851 : decode cL_law 851 = .ok (.iaload, 1) := by decide +kernel
theorem dL_law_852 : decode cL_law 852 = .ok (.invokevirtual 87, 3) := by decide +kernel
theorem dL_law_855 : decode cL_law 855 = .ok (.lcmp, 1) := by decide +kernel
theorem dL_law_856 : decode cL_law 856 = .ok (.ifCond .eq 1029, 3) := by decide +kernel
theorem dL_law_859 : decode cL_law 859 = .ok (.iconst 0, 1) := by decide +kernel
theorem dL_law_860 : decode cL_law 860 = .ok (.ireturn, 1) := by decide +kernel
theorem dL_law_861 : decode cL_law 861 = .ok (.aload_n 1, 1) := by decide +kernel
theorem dL_law_862 : decode cL_law 862 = .ok (.aload_n 0, 1) := by decide +kernel
theorem dL_law_863 : decode cL_law 863 = .ok (.iload_n 3, 1) := by decide +kernel
theorem dL_law_864 : decode cL_law 864 = .ok (.iconst 1, 1) := by decide +kernel
theorem dL_law_865 : decode cL_law 865 = .ok (.iadd, 1) := by decide +kernel
theorem dL_law_866 : decode cL_law 866 = .ok (.iaload, 1) := by decide +kernel
theorem dL_law_867 : decode cL_law 867 = .ok (.aload_n 0, 1) := by decide +kernel
theorem dL_law_868 : decode cL_law 868 = .ok (.iload_n 3, 1) := by decide +kernel
theorem dL_law_869 : decode cL_law 869 = .ok (.iconst 2, 1) := by decide +kernel
theorem dL_law_870 : decode cL_law 870 = .ok (.iadd, 1) := by decide +kernel
theorem dL_law_871 : decode cL_law 871 = .ok (.iaload, 1) := by decide +kernel
theorem dL_law_872 : decode cL_law 872 = .ok (.aload_n 0, 1) := by decide +kernel
theorem dL_law_873 : decode cL_law 873 = .ok (.iload_n 3, 1) := by decide +kernel
theorem dL_law_874 : decode cL_law 874 = .ok (.iconst 3, 1) := by decide +kernel
theorem dL_law_875 : decode cL_law 875 = .ok (.iadd, 1) := by decide +kernel
theorem dL_law_876 : decode cL_law 876 = .ok (.iaload, 1) := by decide +kernel
theorem dL_law_877 : decode cL_law 877 = .ok (.invokevirtual 88, 3) := by decide +kernel
theorem dL_law_880 : decode cL_law 880 = .ok (.aload_n 2, 1) := by decide +kernel
theorem dL_law_881 : decode cL_law 881 = .ok (.aload_n 0, 1) := by decide +kernel
theorem dL_law_882 : decode cL_law 882 = .ok (.iload_n 3, 1) := by decide +kernel
theorem dL_law_883 : decode cL_law 883 = .ok (.iconst 1, 1) := by decide +kernel
theorem dL_law_884 : decode cL_law 884 = .ok (.iadd, 1) := by decide +kernel
theorem dL_law_885 : decode cL_law 885 = .ok (.iaload, 1) := by decide +kernel
theorem dL_law_886 : decode cL_law 886 = .ok (.aload_n 0, 1) := by decide +kernel
theorem dL_law_887 : decode cL_law 887 = .ok (.iload_n 3, 1) := by decide +kernel
theorem dL_law_888 : decode cL_law 888 = .ok (.iconst 2, 1) := by decide +kernel
theorem dL_law_889 : decode cL_law 889 = .ok (.iadd, 1) := by decide +kernel
theorem dL_law_890 : decode cL_law 890 = .ok (.iaload, 1) := by decide +kernel
theorem dL_law_891 : decode cL_law 891 = .ok (.aload_n 0, 1) := by decide +kernel
theorem dL_law_892 : decode cL_law 892 = .ok (.iload_n 3, 1) := by decide +kernel
theorem dL_law_893 : decode cL_law 893 = .ok (.iconst 3, 1) := by decide +kernel
theorem dL_law_894 : decode cL_law 894 = .ok (.iadd, 1) := by decide +kernel
theorem dL_law_895 : decode cL_law 895 = .ok (.iaload, 1) := by decide +kernel
theorem dL_law_896 : decode cL_law 896 = .ok (.invokevirtual 92, 3) := by decide +kernel
theorem dL_law_899 : decode cL_law 899 = .ok (.lcmp, 1) := by decide +kernel
theorem dL_law_900 : decode cL_law 900 = .ok (.ifCond .eq 985, 3) := by decide +kernel
theorem dL_law_903 : decode cL_law 903 = .ok (.iconst 0, 1) := by decide +kernel
theorem dL_law_904 : decode cL_law 904 = .ok (.ireturn, 1) := by decide +kernel
theorem dL_law_905 : decode cL_law 905 = .ok (.aload_n 1, 1) := by decide +kernel
theorem dL_law_906 : decode cL_law 906 = .ok (.aload_n 0, 1) := by decide +kernel
theorem dL_law_907 : decode cL_law 907 = .ok (.iload_n 3, 1) := by decide +kernel
theorem dL_law_908 : decode cL_law 908 = .ok (.iconst 1, 1) := by decide +kernel
theorem dL_law_909 : decode cL_law 909 = .ok (.iadd, 1) := by decide +kernel
theorem dL_law_910 : decode cL_law 910 = .ok (.iaload, 1) := by decide +kernel
theorem dL_law_911 : decode cL_law 911 = .ok (.aload_n 0, 1) := by decide +kernel
theorem dL_law_912 : decode cL_law 912 = .ok (.iload_n 3, 1) := by decide +kernel
theorem dL_law_913 : decode cL_law 913 = .ok (.iconst 2, 1) := by decide +kernel
theorem dL_law_914 : decode cL_law 914 = .ok (.iadd, 1) := by decide +kernel
theorem dL_law_915 : decode cL_law 915 = .ok (.iaload, 1) := by decide +kernel
theorem dL_law_916 : decode cL_law 916 = .ok (.aload_n 0, 1) := by decide +kernel
theorem dL_law_917 : decode cL_law 917 = .ok (.iload_n 3, 1) := by decide +kernel
theorem dL_law_918 : decode cL_law 918 = .ok (.iconst 3, 1) := by decide +kernel
theorem dL_law_919 : decode cL_law 919 = .ok (.iadd, 1) := by decide +kernel
theorem dL_law_920 : decode cL_law 920 = .ok (.iaload, 1) := by decide +kernel
theorem dL_law_921 : decode cL_law 921 = .ok (.invokevirtual 93, 3) := by decide +kernel
theorem dL_law_924 : decode cL_law 924 = .ok (.aload_n 2, 1) := by decide +kernel
theorem dL_law_925 : decode cL_law 925 = .ok (.aload_n 0, 1) := by decide +kernel
theorem dL_law_926 : decode cL_law 926 = .ok (.iload_n 3, 1) := by decide +kernel
theorem dL_law_927 : decode cL_law 927 = .ok (.iconst 1, 1) := by decide +kernel
theorem dL_law_928 : decode cL_law 928 = .ok (.iadd, 1) := by decide +kernel
theorem dL_law_929 : decode cL_law 929 = .ok (.iaload, 1) := by decide +kernel
theorem dL_law_930 : decode cL_law 930 = .ok (.aload_n 0, 1) := by decide +kernel
theorem dL_law_931 : decode cL_law 931 = .ok (.iload_n 3, 1) := by decide +kernel
theorem dL_law_932 : decode cL_law 932 = .ok (.iconst 2, 1) := by decide +kernel
theorem dL_law_933 : decode cL_law 933 = .ok (.iadd, 1) := by decide +kernel
theorem dL_law_934 : decode cL_law 934 = .ok (.iaload, 1) := by decide +kernel
theorem dL_law_935 : decode cL_law 935 = .ok (.aload_n 0, 1) := by decide +kernel
theorem dL_law_936 : decode cL_law 936 = .ok (.iload_n 3, 1) := by decide +kernel
theorem dL_law_937 : decode cL_law 937 = .ok (.iconst 3, 1) := by decide +kernel
theorem dL_law_938 : decode cL_law 938 = .ok (.iadd, 1) := by decide +kernel
theorem dL_law_939 : decode cL_law 939 = .ok (.iaload, 1) := by decide +kernel
theorem dL_law_940 : decode cL_law 940 = .ok (.invokevirtual 96, 3) := by decide +kernel
theorem dL_law_943 : decode cL_law 943 = .ok (.if_icmp .eq 942, 3) := by decide +kernel
theorem dL_law_946 : decode cL_law 946 = .ok (.iconst 0, 1) := by decide +kernel
theorem dL_law_947 : decode cL_law 947 = .ok (.ireturn, 1) := by decide +kernel
theorem dL_law_948 : decode cL_law 948 = .ok (.aload_n 1, 1) := by decide +kernel
theorem dL_law_949 : decode cL_law 949 = .ok (.aload_n 0, 1) := by decide +kernel
theorem dL_law_950 : decode cL_law 950 = .ok (.iload_n 3, 1) := by decide +kernel
theorem dL_law_951 : decode cL_law 951 = .ok (.iconst 1, 1) := by decide +kernel
theorem dL_law_952 : decode cL_law 952 = .ok (.iadd, 1) := by decide +kernel
theorem dL_law_953 : decode cL_law 953 = .ok (.iaload, 1) := by decide +kernel
theorem dL_law_954 : decode cL_law 954 = .ok (.aload_n 0, 1) := by decide +kernel
theorem dL_law_955 : decode cL_law 955 = .ok (.iload_n 3, 1) := by decide +kernel
theorem dL_law_956 : decode cL_law 956 = .ok (.iconst 2, 1) := by decide +kernel
theorem dL_law_957 : decode cL_law 957 = .ok (.iadd, 1) := by decide +kernel
theorem dL_law_958 : decode cL_law 958 = .ok (.iaload, 1) := by decide +kernel
theorem dL_law_959 : decode cL_law 959 = .ok (.aload_n 0, 1) := by decide +kernel
theorem dL_law_960 : decode cL_law 960 = .ok (.iload_n 3, 1) := by decide +kernel
theorem dL_law_961 : decode cL_law 961 = .ok (.iconst 3, 1) := by decide +kernel
theorem dL_law_962 : decode cL_law 962 = .ok (.iadd, 1) := by decide +kernel
theorem dL_law_963 : decode cL_law 963 = .ok (.iaload, 1) := by decide +kernel
theorem dL_law_964 : decode cL_law 964 = .ok (.aload_n 0, 1) := by decide +kernel
theorem dL_law_965 : decode cL_law 965 = .ok (.iload_n 3, 1) := by decide +kernel
theorem dL_law_966 : decode cL_law 966 = .ok (.iconst 4, 1) := by decide +kernel
theorem dL_law_967 : decode cL_law 967 = .ok (.iadd, 1) := by decide +kernel
theorem dL_law_968 : decode cL_law 968 = .ok (.iaload, 1) := by decide +kernel
theorem dL_law_969 : decode cL_law 969 = .ok (.invokevirtual 97, 3) := by decide +kernel
theorem dL_law_972 : decode cL_law 972 = .ok (.aload_n 2, 1) := by decide +kernel
theorem dL_law_973 : decode cL_law 973 = .ok (.aload_n 0, 1) := by decide +kernel
theorem dL_law_974 : decode cL_law 974 = .ok (.iload_n 3, 1) := by decide +kernel
theorem dL_law_975 : decode cL_law 975 = .ok (.iconst 1, 1) := by decide +kernel
theorem dL_law_976 : decode cL_law 976 = .ok (.iadd, 1) := by decide +kernel
theorem dL_law_977 : decode cL_law 977 = .ok (.iaload, 1) := by decide +kernel
theorem dL_law_978 : decode cL_law 978 = .ok (.aload_n 0, 1) := by decide +kernel
theorem dL_law_979 : decode cL_law 979 = .ok (.iload_n 3, 1) := by decide +kernel
theorem dL_law_980 : decode cL_law 980 = .ok (.iconst 2, 1) := by decide +kernel
theorem dL_law_981 : decode cL_law 981 = .ok (.iadd, 1) := by decide +kernel
theorem dL_law_982 : decode cL_law 982 = .ok (.iaload, 1) := by decide +kernel
theorem dL_law_983 : decode cL_law 983 = .ok (.aload_n 0, 1) := by decide +kernel
theorem dL_law_984 : decode cL_law 984 = .ok (.iload_n 3, 1) := by decide +kernel
theorem dL_law_985 : decode cL_law 985 = .ok (.iconst 3, 1) := by decide +kernel
theorem dL_law_986 : decode cL_law 986 = .ok (.iadd, 1) := by decide +kernel
theorem dL_law_987 : decode cL_law 987 = .ok (.iaload, 1) := by decide +kernel
theorem dL_law_988 : decode cL_law 988 = .ok (.aload_n 0, 1) := by decide +kernel
theorem dL_law_989 : decode cL_law 989 = .ok (.iload_n 3, 1) := by decide +kernel
theorem dL_law_990 : decode cL_law 990 = .ok (.iconst 4, 1) := by decide +kernel
theorem dL_law_991 : decode cL_law 991 = .ok (.iadd, 1) := by decide +kernel
theorem dL_law_992 : decode cL_law 992 = .ok (.iaload, 1) := by decide +kernel
theorem dL_law_993 : decode cL_law 993 = .ok (.invokevirtual 100, 3) := by decide +kernel
theorem dL_law_996 : decode cL_law 996 = .ok (.lcmp, 1) := by decide +kernel
theorem dL_law_997 : decode cL_law 997 = .ok (.ifCond .eq 888, 3) := by decide +kernel
theorem dL_law_1000 : decode cL_law 1000 = .ok (.iconst 0, 1) := by decide +kernel
theorem dL_law_1001 : decode cL_law 1001 = .ok (.ireturn, 1) := by decide +kernel
theorem dL_law_1002 : decode cL_law 1002 = .ok (.aload_n 1, 1) := by decide +kernel
theorem dL_law_1003 : decode cL_law 1003 = .ok (.aload_n 0, 1) := by decide +kernel
theorem dL_law_1004 : decode cL_law 1004 = .ok (.iload_n 3, 1) := by decide +kernel
theorem dL_law_1005 : decode cL_law 1005 = .ok (.iconst 1, 1) := by decide +kernel
theorem dL_law_1006 : decode cL_law 1006 = .ok (.iadd, 1) := by decide +kernel
theorem dL_law_1007 : decode cL_law 1007 = .ok (.iaload, 1) := by decide +kernel
theorem dL_law_1008 : decode cL_law 1008 = .ok (.aload_n 0, 1) := by decide +kernel
theorem dL_law_1009 : decode cL_law 1009 = .ok (.iload_n 3, 1) := by decide +kernel
theorem dL_law_1010 : decode cL_law 1010 = .ok (.iconst 2, 1) := by decide +kernel
theorem dL_law_1011 : decode cL_law 1011 = .ok (.iadd, 1) := by decide +kernel
theorem dL_law_1012 : decode cL_law 1012 = .ok (.iaload, 1) := by decide +kernel
theorem dL_law_1013 : decode cL_law 1013 = .ok (.aload_n 0, 1) := by decide +kernel
theorem dL_law_1014 : decode cL_law 1014 = .ok (.iload_n 3, 1) := by decide +kernel
theorem dL_law_1015 : decode cL_law 1015 = .ok (.iconst 3, 1) := by decide +kernel
theorem dL_law_1016 : decode cL_law 1016 = .ok (.iadd, 1) := by decide +kernel
theorem dL_law_1017 : decode cL_law 1017 = .ok (.iaload, 1) := by decide +kernel
theorem dL_law_1018 : decode cL_law 1018 = .ok (.invokevirtual 101, 3) := by decide +kernel
theorem dL_law_1021 : decode cL_law 1021 = .ok (.aload_n 2, 1) := by decide +kernel
theorem dL_law_1022 : decode cL_law 1022 = .ok (.aload_n 0, 1) := by decide +kernel
theorem dL_law_1023 : decode cL_law 1023 = .ok (.iload_n 3, 1) := by decide +kernel
theorem dL_law_1024 : decode cL_law 1024 = .ok (.iconst 1, 1) := by decide +kernel
theorem dL_law_1025 : decode cL_law 1025 = .ok (.iadd, 1) := by decide +kernel
theorem dL_law_1026 : decode cL_law 1026 = .ok (.iaload, 1) := by decide +kernel
theorem dL_law_1027 : decode cL_law 1027 = .ok (.aload_n 0, 1) := by decide +kernel
theorem dL_law_1028 : decode cL_law 1028 = .ok (.iload_n 3, 1) := by decide +kernel
theorem dL_law_1029 : decode cL_law 1029 = .ok (.iconst 2, 1) := by decide +kernel
theorem dL_law_1030 : decode cL_law 1030 = .ok (.iadd, 1) := by decide +kernel
theorem dL_law_1031 : decode cL_law 1031 = .ok (.iaload, 1) := by decide +kernel
theorem dL_law_1032 : decode cL_law 1032 = .ok (.aload_n 0, 1) := by decide +kernel
theorem dL_law_1033 : decode cL_law 1033 = .ok (.iload_n 3, 1) := by decide +kernel
theorem dL_law_1034 : decode cL_law 1034 = .ok (.iconst 3, 1) := by decide +kernel
theorem dL_law_1035 : decode cL_law 1035 = .ok (.iadd, 1) := by decide +kernel
theorem dL_law_1036 : decode cL_law 1036 = .ok (.iaload, 1) := by decide +kernel
theorem dL_law_1037 : decode cL_law 1037 = .ok (.invokevirtual 104, 3) := by decide +kernel
theorem dL_law_1040 : decode cL_law 1040 = .ok (.lcmp, 1) := by decide +kernel
theorem dL_law_1041 : decode cL_law 1041 = .ok (.ifCond .eq 844, 3) := by decide +kernel
theorem dL_law_1044 : decode cL_law 1044 = .ok (.iconst 0, 1) := by decide +kernel
theorem dL_law_1045 : decode cL_law 1045 = .ok (.ireturn, 1) := by decide +kernel
theorem dL_law_1046 : decode cL_law 1046 = .ok (.aload_n 1, 1) := by decide +kernel
theorem dL_law_1047 : decode cL_law 1047 = .ok (.aload_n 0, 1) := by decide +kernel
theorem dL_law_1048 : decode cL_law 1048 = .ok (.iload_n 3, 1) := by decide +kernel
theorem dL_law_1049 : decode cL_law 1049 = .ok (.iconst 1, 1) := by decide +kernel
theorem dL_law_1050 : decode cL_law 1050 = .ok (.iadd, 1) := by decide +kernel
theorem dL_law_1051 : decode cL_law 1051 = .ok (.iaload, 1) := by decide +kernel
theorem dL_law_1052 : decode cL_law 1052 = .ok (.aload_n 0, 1) := by decide +kernel
theorem dL_law_1053 : decode cL_law 1053 = .ok (.iload_n 3, 1) := by decide +kernel
theorem dL_law_1054 : decode cL_law 1054 = .ok (.iconst 2, 1) := by decide +kernel
theorem dL_law_1055 : decode cL_law 1055 = .ok (.iadd, 1) := by decide +kernel
theorem dL_law_1056 : decode cL_law 1056 = .ok (.iaload, 1) := by decide +kernel
theorem dL_law_1057 : decode cL_law 1057 = .ok (.aload_n 0, 1) := by decide +kernel
theorem dL_law_1058 : decode cL_law 1058 = .ok (.iload_n 3, 1) := by decide +kernel
theorem dL_law_1059 : decode cL_law 1059 = .ok (.iconst 3, 1) := by decide +kernel
theorem dL_law_1060 : decode cL_law 1060 = .ok (.iadd, 1) := by decide +kernel
theorem dL_law_1061 : decode cL_law 1061 = .ok (.iaload, 1) := by decide +kernel
theorem dL_law_1062 : decode cL_law 1062 = .ok (.invokevirtual 105, 3) := by decide +kernel
theorem dL_law_1065 : decode cL_law 1065 = .ok (.aload_n 2, 1) := by decide +kernel
theorem dL_law_1066 : decode cL_law 1066 = .ok (.aload_n 0, 1) := by decide +kernel
theorem dL_law_1067 : decode cL_law 1067 = .ok (.iload_n 3, 1) := by decide +kernel
theorem dL_law_1068 : decode cL_law 1068 = .ok (.iconst 1, 1) := by decide +kernel
theorem dL_law_1069 : decode cL_law 1069 = .ok (.iadd, 1) := by decide +kernel
theorem dL_law_1070 : decode cL_law 1070 = .ok (.iaload, 1) := by decide +kernel
theorem dL_law_1071 : decode cL_law 1071 = .ok (.aload_n 0, 1) := by decide +kernel
theorem dL_law_1072 : decode cL_law 1072 = .ok (.iload_n 3, 1) := by decide +kernel
theorem dL_law_1073 : decode cL_law 1073 = .ok (.iconst 2, 1) := by decide +kernel
theorem dL_law_1074 : decode cL_law 1074 = .ok (.iadd, 1) := by decide +kernel
theorem dL_law_1075 : decode cL_law 1075 = .ok (.iaload, 1) := by decide +kernel
theorem dL_law_1076 : decode cL_law 1076 = .ok (.aload_n 0, 1) := by decide +kernel
theorem dL_law_1077 : decode cL_law 1077 = .ok (.iload_n 3, 1) := by decide +kernel
theorem dL_law_1078 : decode cL_law 1078 = .ok (.iconst 3, 1) := by decide +kernel
theorem dL_law_1079 : decode cL_law 1079 = .ok (.iadd, 1) := by decide +kernel
theorem dL_law_1080 : decode cL_law 1080 = .ok (.iaload, 1) := by decide +kernel
theorem dL_law_1081 : decode cL_law 1081 = .ok (.invokevirtual 108, 3) := by decide +kernel
theorem dL_law_1084 : decode cL_law 1084 = .ok (.if_icmp .eq 801, 3) := by decide +kernel
theorem dL_law_1087 : decode cL_law 1087 = .ok (.iconst 0, 1) := by decide +kernel
theorem dL_law_1088 : decode cL_law 1088 = .ok (.ireturn, 1) := by decide +kernel
theorem dL_law_1089 : decode cL_law 1089 = .ok (.aload_n 1, 1) := by decide +kernel
theorem dL_law_1090 : decode cL_law 1090 = .ok (.aload_n 0, 1) := by decide +kernel
theorem dL_law_1091 : decode cL_law 1091 = .ok (.iload_n 3, 1) := by decide +kernel
theorem dL_law_1092 : decode cL_law 1092 = .ok (.iconst 1, 1) := by decide +kernel
theorem dL_law_1093 : decode cL_law 1093 = .ok (.iadd, 1) := by decide +kernel
theorem dL_law_1094 : decode cL_law 1094 = .ok (.iaload, 1) := by decide +kernel
theorem dL_law_1095 : decode cL_law 1095 = .ok (.aload_n 0, 1) := by decide +kernel
theorem dL_law_1096 : decode cL_law 1096 = .ok (.iload_n 3, 1) := by decide +kernel
theorem dL_law_1097 : decode cL_law 1097 = .ok (.iconst 2, 1) := by decide +kernel
theorem dL_law_1098 : decode cL_law 1098 = .ok (.iadd, 1) := by decide +kernel
theorem dL_law_1099 : decode cL_law 1099 = .ok (.iaload, 1) := by decide +kernel
theorem dL_law_1100 : decode cL_law 1100 = .ok (.invokevirtual 109, 3) := by decide +kernel
theorem dL_law_1103 : decode cL_law 1103 = .ok (.aload_n 2, 1) := by decide +kernel
theorem dL_law_1104 : decode cL_law 1104 = .ok (.aload_n 0, 1) := by decide +kernel
theorem dL_law_1105 : decode cL_law 1105 = .ok (.iload_n 3, 1) := by decide +kernel
theorem dL_law_1106 : decode cL_law 1106 = .ok (.iconst 1, 1) := by decide +kernel
theorem dL_law_1107 : decode cL_law 1107 = .ok (.iadd, 1) := by decide +kernel
theorem dL_law_1108 : decode cL_law 1108 = .ok (.iaload, 1) := by decide +kernel
theorem dL_law_1109 : decode cL_law 1109 = .ok (.aload_n 0, 1) := by decide +kernel
theorem dL_law_1110 : decode cL_law 1110 = .ok (.iload_n 3, 1) := by decide +kernel
theorem dL_law_1111 : decode cL_law 1111 = .ok (.iconst 2, 1) := by decide +kernel
theorem dL_law_1112 : decode cL_law 1112 = .ok (.iadd, 1) := by decide +kernel
theorem dL_law_1113 : decode cL_law 1113 = .ok (.iaload, 1) := by decide +kernel
theorem dL_law_1114 : decode cL_law 1114 = .ok (.invokevirtual 113, 3) := by decide +kernel
theorem dL_law_1117 : decode cL_law 1117 = .ok (.lcmp, 1) := by decide +kernel
theorem dL_law_1118 : decode cL_law 1118 = .ok (.ifCond .eq 767, 3) := by decide +kernel
theorem dL_law_1121 : decode cL_law 1121 = .ok (.iconst 0, 1) := by decide +kernel
theorem dL_law_1122 : decode cL_law 1122 = .ok (.ireturn, 1) := by decide +kernel
theorem dL_law_1123 : decode cL_law 1123 = .ok (.aload_n 1, 1) := by decide +kernel
theorem dL_law_1124 : decode cL_law 1124 = .ok (.aload_n 0, 1) := by decide +kernel
theorem dL_law_1125 : decode cL_law 1125 = .ok (.iload_n 3, 1) := by decide +kernel
theorem dL_law_1126 : decode cL_law 1126 = .ok (.iconst 1, 1) := by decide +kernel
theorem dL_law_1127 : decode cL_law 1127 = .ok (.iadd, 1) := by decide +kernel
theorem dL_law_1128 : decode cL_law 1128 = .ok (.iaload, 1) := by decide +kernel
theorem dL_law_1129 : decode cL_law 1129 = .ok (.aload_n 0, 1) := by decide +kernel
theorem dL_law_1130 : decode cL_law 1130 = .ok (.iload_n 3, 1) := by decide +kernel
theorem dL_law_1131 : decode cL_law 1131 = .ok (.iconst 2, 1) := by decide +kernel
theorem dL_law_1132 : decode cL_law 1132 = .ok (.iadd, 1) := by decide +kernel
theorem dL_law_1133 : decode cL_law 1133 = .ok (.iaload, 1) := by decide +kernel
theorem dL_law_1134 : decode cL_law 1134 = .ok (.aload_n 0, 1) := by decide +kernel
theorem dL_law_1135 : decode cL_law 1135 = .ok (.iload_n 3, 1) := by decide +kernel
theorem dL_law_1136 : decode cL_law 1136 = .ok (.iconst 3, 1) := by decide +kernel
theorem dL_law_1137 : decode cL_law 1137 = .ok (.iadd, 1) := by decide +kernel
theorem dL_law_1138 : decode cL_law 1138 = .ok (.iaload, 1) := by decide +kernel
theorem dL_law_1139 : decode cL_law 1139 = .ok (.aload_n 0, 1) := by decide +kernel
theorem dL_law_1140 : decode cL_law 1140 = .ok (.iload_n 3, 1) := by decide +kernel
theorem dL_law_1141 : decode cL_law 1141 = .ok (.iconst 4, 1) := by decide +kernel
theorem dL_law_1142 : decode cL_law 1142 = .ok (.iadd, 1) := by decide +kernel
theorem dL_law_1143 : decode cL_law 1143 = .ok (.iaload, 1) := by decide +kernel
theorem dL_law_1144 : decode cL_law 1144 = .ok (.invokevirtual 114, 3) := by decide +kernel
theorem dL_law_1147 : decode cL_law 1147 = .ok (.aload_n 2, 1) := by decide +kernel
theorem dL_law_1148 : decode cL_law 1148 = .ok (.aload_n 0, 1) := by decide +kernel
theorem dL_law_1149 : decode cL_law 1149 = .ok (.iload_n 3, 1) := by decide +kernel
theorem dL_law_1150 : decode cL_law 1150 = .ok (.iconst 1, 1) := by decide +kernel
theorem dL_law_1151 : decode cL_law 1151 = .ok (.iadd, 1) := by decide +kernel
theorem dL_law_1152 : decode cL_law 1152 = .ok (.iaload, 1) := by decide +kernel
theorem dL_law_1153 : decode cL_law 1153 = .ok (.aload_n 0, 1) := by decide +kernel
theorem dL_law_1154 : decode cL_law 1154 = .ok (.iload_n 3, 1) := by decide +kernel
theorem dL_law_1155 : decode cL_law 1155 = .ok (.iconst 2, 1) := by decide +kernel
theorem dL_law_1156 : decode cL_law 1156 = .ok (.iadd, 1) := by decide +kernel
theorem dL_law_1157 : decode cL_law 1157 = .ok (.iaload, 1) := by decide +kernel
theorem dL_law_1158 : decode cL_law 1158 = .ok (.aload_n 0, 1) := by decide +kernel
theorem dL_law_1159 : decode cL_law 1159 = .ok (.iload_n 3, 1) := by decide +kernel
theorem dL_law_1160 : decode cL_law 1160 = .ok (.iconst 3, 1) := by decide +kernel
theorem dL_law_1161 : decode cL_law 1161 = .ok (.iadd, 1) := by decide +kernel
theorem dL_law_1162 : decode cL_law 1162 = .ok (.iaload, 1) := by decide +kernel
theorem dL_law_1163 : decode cL_law 1163 = .ok (.aload_n 0, 1) := by decide +kernel
theorem dL_law_1164 : decode cL_law 1164 = .ok (.iload_n 3, 1) := by decide +kernel
theorem dL_law_1165 : decode cL_law 1165 = .ok (.iconst 4, 1) := by decide +kernel
theorem dL_law_1166 : decode cL_law 1166 = .ok (.iadd, 1) := by decide +kernel
theorem dL_law_1167 : decode cL_law 1167 = .ok (.iaload, 1) := by decide +kernel
theorem dL_law_1168 : decode cL_law 1168 = .ok (.invokevirtual 117, 3) := by decide +kernel
theorem dL_law_1171 : decode cL_law 1171 = .ok (.lcmp, 1) := by decide +kernel
theorem dL_law_1172 : decode cL_law 1172 = .ok (.ifCond .eq 713, 3) := by decide +kernel
theorem dL_law_1175 : decode cL_law 1175 = .ok (.iconst 0, 1) := by decide +kernel
theorem dL_law_1176 : decode cL_law 1176 = .ok (.ireturn, 1) := by decide +kernel
theorem dL_law_1177 : decode cL_law 1177 = .ok (.aload_n 1, 1) := by decide +kernel
theorem dL_law_1178 : decode cL_law 1178 = .ok (.aload_n 0, 1) := by decide +kernel
theorem dL_law_1179 : decode cL_law 1179 = .ok (.iload_n 3, 1) := by decide +kernel
theorem dL_law_1180 : decode cL_law 1180 = .ok (.iconst 1, 1) := by decide +kernel
theorem dL_law_1181 : decode cL_law 1181 = .ok (.iadd, 1) := by decide +kernel
theorem dL_law_1182 : decode cL_law 1182 = .ok (.iaload, 1) := by decide +kernel
theorem dL_law_1183 : decode cL_law 1183 = .ok (.aload_n 0, 1) := by decide +kernel
theorem dL_law_1184 : decode cL_law 1184 = .ok (.iload_n 3, 1) := by decide +kernel
theorem dL_law_1185 : decode cL_law 1185 = .ok (.iconst 2, 1) := by decide +kernel
theorem dL_law_1186 : decode cL_law 1186 = .ok (.iadd, 1) := by decide +kernel
theorem dL_law_1187 : decode cL_law 1187 = .ok (.iaload, 1) := by decide +kernel
theorem dL_law_1188 : decode cL_law 1188 = .ok (.invokevirtual 118, 3) := by decide +kernel
theorem dL_law_1191 : decode cL_law 1191 = .ok (.aload_n 2, 1) := by decide +kernel
theorem dL_law_1192 : decode cL_law 1192 = .ok (.aload_n 0, 1) := by decide +kernel
theorem dL_law_1193 : decode cL_law 1193 = .ok (.iload_n 3, 1) := by decide +kernel
theorem dL_law_1194 : decode cL_law 1194 = .ok (.iconst 1, 1) := by decide +kernel
theorem dL_law_1195 : decode cL_law 1195 = .ok (.iadd, 1) := by decide +kernel
theorem dL_law_1196 : decode cL_law 1196 = .ok (.iaload, 1) := by decide +kernel
theorem dL_law_1197 : decode cL_law 1197 = .ok (.aload_n 0, 1) := by decide +kernel
theorem dL_law_1198 : decode cL_law 1198 = .ok (.iload_n 3, 1) := by decide +kernel
theorem dL_law_1199 : decode cL_law 1199 = .ok (.iconst 2, 1) := by decide +kernel
theorem dL_law_1200 : decode cL_law 1200 = .ok (.iadd, 1) := by decide +kernel
theorem dL_law_1201 : decode cL_law 1201 = .ok (.iaload, 1) := by decide +kernel
theorem dL_law_1202 : decode cL_law 1202 = .ok (.invokevirtual 121, 3) := by decide +kernel
theorem dL_law_1205 : decode cL_law 1205 = .ok (.if_icmp .eq 680, 3) := by decide +kernel
theorem dL_law_1208 : decode cL_law 1208 = .ok (.iconst 0, 1) := by decide +kernel
theorem dL_law_1209 : decode cL_law 1209 = .ok (.ireturn, 1) := by decide +kernel
theorem dL_law_1210 : decode cL_law 1210 = .ok (.aload_n 1, 1) := by decide +kernel
theorem dL_law_1211 : decode cL_law 1211 = .ok (.aload_n 0, 1) := by decide +kernel
theorem dL_law_1212 : decode cL_law 1212 = .ok (.iload_n 3, 1) := by decide +kernel
theorem dL_law_1213 : decode cL_law 1213 = .ok (.iconst 1, 1) := by decide +kernel
theorem dL_law_1214 : decode cL_law 1214 = .ok (.iadd, 1) := by decide +kernel
theorem dL_law_1215 : decode cL_law 1215 = .ok (.iaload, 1) := by decide +kernel
theorem dL_law_1216 : decode cL_law 1216 = .ok (.aload_n 0, 1) := by decide +kernel
theorem dL_law_1217 : decode cL_law 1217 = .ok (.iload_n 3, 1) := by decide +kernel
theorem dL_law_1218 : decode cL_law 1218 = .ok (.iconst 2, 1) := by decide +kernel
theorem dL_law_1219 : decode cL_law 1219 = .ok (.iadd, 1) := by decide +kernel
theorem dL_law_1220 : decode cL_law 1220 = .ok (.iaload, 1) := by decide +kernel
theorem dL_law_1221 : decode cL_law 1221 = .ok (.aload_n 0, 1) := by decide +kernel
theorem dL_law_1222 : decode cL_law 1222 = .ok (.iload_n 3, 1) := by decide +kernel
theorem dL_law_1223 : decode cL_law 1223 = .ok (.iconst 3, 1) := by decide +kernel
theorem dL_law_1224 : decode cL_law 1224 = .ok (.iadd, 1) := by decide +kernel
theorem dL_law_1225 : decode cL_law 1225 = .ok (.iaload, 1) := by decide +kernel
theorem dL_law_1226 : decode cL_law 1226 = .ok (.aload_n 0, 1) := by decide +kernel
theorem dL_law_1227 : decode cL_law 1227 = .ok (.iload_n 3, 1) := by decide +kernel
theorem dL_law_1228 : decode cL_law 1228 = .ok (.iconst 4, 1) := by decide +kernel
theorem dL_law_1229 : decode cL_law 1229 = .ok (.iadd, 1) := by decide +kernel
theorem dL_law_1230 : decode cL_law 1230 = .ok (.iaload, 1) := by decide +kernel
theorem dL_law_1231 : decode cL_law 1231 = .ok (.aload_n 0, 1) := by decide +kernel
theorem dL_law_1232 : decode cL_law 1232 = .ok (.iload_n 3, 1) := by decide +kernel
theorem dL_law_1233 : decode cL_law 1233 = .ok (.iconst 5, 1) := by decide +kernel
theorem dL_law_1234 : decode cL_law 1234 = .ok (.iadd, 1) := by decide +kernel
theorem dL_law_1235 : decode cL_law 1235 = .ok (.iaload, 1) := by decide +kernel
theorem dL_law_1236 : decode cL_law 1236 = .ok (.invokevirtual 122, 3) := by decide +kernel
theorem dL_law_1239 : decode cL_law 1239 = .ok (.aload_n 2, 1) := by decide +kernel
theorem dL_law_1240 : decode cL_law 1240 = .ok (.aload_n 0, 1) := by decide +kernel
theorem dL_law_1241 : decode cL_law 1241 = .ok (.iload_n 3, 1) := by decide +kernel
theorem dL_law_1242 : decode cL_law 1242 = .ok (.iconst 1, 1) := by decide +kernel
theorem dL_law_1243 : decode cL_law 1243 = .ok (.iadd, 1) := by decide +kernel
theorem dL_law_1244 : decode cL_law 1244 = .ok (.iaload, 1) := by decide +kernel
theorem dL_law_1245 : decode cL_law 1245 = .ok (.aload_n 0, 1) := by decide +kernel
theorem dL_law_1246 : decode cL_law 1246 = .ok (.iload_n 3, 1) := by decide +kernel
theorem dL_law_1247 : decode cL_law 1247 = .ok (.iconst 2, 1) := by decide +kernel
theorem dL_law_1248 : decode cL_law 1248 = .ok (.iadd, 1) := by decide +kernel
theorem dL_law_1249 : decode cL_law 1249 = .ok (.iaload, 1) := by decide +kernel
theorem dL_law_1250 : decode cL_law 1250 = .ok (.aload_n 0, 1) := by decide +kernel
theorem dL_law_1251 : decode cL_law 1251 = .ok (.iload_n 3, 1) := by decide +kernel
theorem dL_law_1252 : decode cL_law 1252 = .ok (.iconst 3, 1) := by decide +kernel
theorem dL_law_1253 : decode cL_law 1253 = .ok (.iadd, 1) := by decide +kernel
theorem dL_law_1254 : decode cL_law 1254 = .ok (.iaload, 1) := by decide +kernel
theorem dL_law_1255 : decode cL_law 1255 = .ok (.aload_n 0, 1) := by decide +kernel
theorem dL_law_1256 : decode cL_law 1256 = .ok (.iload_n 3, 1) := by decide +kernel
theorem dL_law_1257 : decode cL_law 1257 = .ok (.iconst 4, 1) := by decide +kernel
theorem dL_law_1258 : decode cL_law 1258 = .ok (.iadd, 1) := by decide +kernel
theorem dL_law_1259 : decode cL_law 1259 = .ok (.iaload, 1) := by decide +kernel
theorem dL_law_1260 : decode cL_law 1260 = .ok (.aload_n 0, 1) := by decide +kernel
theorem dL_law_1261 : decode cL_law 1261 = .ok (.iload_n 3, 1) := by decide +kernel
theorem dL_law_1262 : decode cL_law 1262 = .ok (.iconst 5, 1) := by decide +kernel
theorem dL_law_1263 : decode cL_law 1263 = .ok (.iadd, 1) := by decide +kernel
theorem dL_law_1264 : decode cL_law 1264 = .ok (.iaload, 1) := by decide +kernel
theorem dL_law_1265 : decode cL_law 1265 = .ok (.invokevirtual 125, 3) := by decide +kernel
theorem dL_law_1268 : decode cL_law 1268 = .ok (.lcmp, 1) := by decide +kernel
theorem dL_law_1269 : decode cL_law 1269 = .ok (.ifCond .eq 616, 3) := by decide +kernel
theorem dL_law_1272 : decode cL_law 1272 = .ok (.iconst 0, 1) := by decide +kernel
theorem dL_law_1273 : decode cL_law 1273 = .ok (.ireturn, 1) := by decide +kernel
theorem dL_law_1274 : decode cL_law 1274 = .ok (.aload_n 1, 1) := by decide +kernel
theorem dL_law_1275 : decode cL_law 1275 = .ok (.aload_n 0, 1) := by decide +kernel
theorem dL_law_1276 : decode cL_law 1276 = .ok (.iload_n 3, 1) := by decide +kernel
theorem dL_law_1277 : decode cL_law 1277 = .ok (.iconst 1, 1) := by decide +kernel
theorem dL_law_1278 : decode cL_law 1278 = .ok (.iadd, 1) := by decide +kernel
theorem dL_law_1279 : decode cL_law 1279 = .ok (.iaload, 1) := by decide +kernel
theorem dL_law_1280 : decode cL_law 1280 = .ok (.aload_n 0, 1) := by decide +kernel
theorem dL_law_1281 : decode cL_law 1281 = .ok (.iload_n 3, 1) := by decide +kernel
theorem dL_law_1282 : decode cL_law 1282 = .ok (.iconst 2, 1) := by decide +kernel
theorem dL_law_1283 : decode cL_law 1283 = .ok (.iadd, 1) := by decide +kernel
theorem dL_law_1284 : decode cL_law 1284 = .ok (.iaload, 1) := by decide +kernel
theorem dL_law_1285 : decode cL_law 1285 = .ok (.aload_n 0, 1) := by decide +kernel
theorem dL_law_1286 : decode cL_law 1286 = .ok (.iload_n 3, 1) := by decide +kernel
theorem dL_law_1287 : decode cL_law 1287 = .ok (.iconst 3, 1) := by decide +kernel
theorem dL_law_1288 : decode cL_law 1288 = .ok (.iadd, 1) := by decide +kernel
theorem dL_law_1289 : decode cL_law 1289 = .ok (.iaload, 1) := by decide +kernel
theorem dL_law_1290 : decode cL_law 1290 = .ok (.aload_n 0, 1) := by decide +kernel
theorem dL_law_1291 : decode cL_law 1291 = .ok (.iload_n 3, 1) := by decide +kernel
theorem dL_law_1292 : decode cL_law 1292 = .ok (.iconst 4, 1) := by decide +kernel
theorem dL_law_1293 : decode cL_law 1293 = .ok (.iadd, 1) := by decide +kernel
theorem dL_law_1294 : decode cL_law 1294 = .ok (.iaload, 1) := by decide +kernel
theorem dL_law_1295 : decode cL_law 1295 = .ok (.aload_n 0, 1) := by decide +kernel
theorem dL_law_1296 : decode cL_law 1296 = .ok (.iload_n 3, 1) := by decide +kernel
theorem dL_law_1297 : decode cL_law 1297 = .ok (.iconst 5, 1) := by decide +kernel
theorem dL_law_1298 : decode cL_law 1298 = .ok (.iadd, 1) := by decide +kernel
theorem dL_law_1299 : decode cL_law 1299 = .ok (.iaload, 1) := by decide +kernel
theorem dL_law_1300 : decode cL_law 1300 = .ok (.invokevirtual 126, 3) := by decide +kernel
theorem dL_law_1303 : decode cL_law 1303 = .ok (.aload_n 2, 1) := by decide +kernel
theorem dL_law_1304 : decode cL_law 1304 = .ok (.aload_n 0, 1) := by decide +kernel
theorem dL_law_1305 : decode cL_law 1305 = .ok (.iload_n 3, 1) := by decide +kernel
theorem dL_law_1306 : decode cL_law 1306 = .ok (.iconst 1, 1) := by decide +kernel
theorem dL_law_1307 : decode cL_law 1307 = .ok (.iadd, 1) := by decide +kernel
theorem dL_law_1308 : decode cL_law 1308 = .ok (.iaload, 1) := by decide +kernel
theorem dL_law_1309 : decode cL_law 1309 = .ok (.aload_n 0, 1) := by decide +kernel
theorem dL_law_1310 : decode cL_law 1310 = .ok (.iload_n 3, 1) := by decide +kernel
theorem dL_law_1311 : decode cL_law 1311 = .ok (.iconst 2, 1) := by decide +kernel
theorem dL_law_1312 : decode cL_law 1312 = .ok (.iadd, 1) := by decide +kernel
theorem dL_law_1313 : decode cL_law 1313 = .ok (.iaload, 1) := by decide +kernel
theorem dL_law_1314 : decode cL_law 1314 = .ok (.aload_n 0, 1) := by decide +kernel
theorem dL_law_1315 : decode cL_law 1315 = .ok (.iload_n 3, 1) := by decide +kernel
theorem dL_law_1316 : decode cL_law 1316 = .ok (.iconst 3, 1) := by decide +kernel
theorem dL_law_1317 : decode cL_law 1317 = .ok (.iadd, 1) := by decide +kernel
theorem dL_law_1318 : decode cL_law 1318 = .ok (.iaload, 1) := by decide +kernel
theorem dL_law_1319 : decode cL_law 1319 = .ok (.aload_n 0, 1) := by decide +kernel
theorem dL_law_1320 : decode cL_law 1320 = .ok (.iload_n 3, 1) := by decide +kernel
theorem dL_law_1321 : decode cL_law 1321 = .ok (.iconst 4, 1) := by decide +kernel
theorem dL_law_1322 : decode cL_law 1322 = .ok (.iadd, 1) := by decide +kernel
theorem dL_law_1323 : decode cL_law 1323 = .ok (.iaload, 1) := by decide +kernel
theorem dL_law_1324 : decode cL_law 1324 = .ok (.aload_n 0, 1) := by decide +kernel
theorem dL_law_1325 : decode cL_law 1325 = .ok (.iload_n 3, 1) := by decide +kernel
theorem dL_law_1326 : decode cL_law 1326 = .ok (.iconst 5, 1) := by decide +kernel
theorem dL_law_1327 : decode cL_law 1327 = .ok (.iadd, 1) := by decide +kernel
theorem dL_law_1328 : decode cL_law 1328 = .ok (.iaload, 1) := by decide +kernel
theorem dL_law_1329 : decode cL_law 1329 = .ok (.invokevirtual 129, 3) := by decide +kernel
theorem dL_law_1332 : decode cL_law 1332 = .ok (.lcmp, 1) := by decide +kernel
theorem dL_law_1333 : decode cL_law 1333 = .ok (.ifCond .eq 552, 3) := by decide +kernel
theorem dL_law_1336 : decode cL_law 1336 = .ok (.iconst 0, 1) := by decide +kernel
theorem dL_law_1337 : decode cL_law 1337 = .ok (.ireturn, 1) := by decide +kernel
theorem dL_law_1338 : decode cL_law 1338 = .ok (.aload_n 1, 1) := by decide +kernel
theorem dL_law_1339 : decode cL_law 1339 = .ok (.aload_n 0, 1) := by decide +kernel
theorem dL_law_1340 : decode cL_law 1340 = .ok (.iload_n 3, 1) := by decide +kernel
theorem dL_law_1341 : decode cL_law 1341 = .ok (.iconst 1, 1) := by decide +kernel
theorem dL_law_1342 : decode cL_law 1342 = .ok (.iadd, 1) := by decide +kernel
theorem dL_law_1343 : decode cL_law 1343 = .ok (.iaload, 1) := by decide +kernel
theorem dL_law_1344 : decode cL_law 1344 = .ok (.invokevirtual 130, 3) := by decide +kernel
theorem dL_law_1347 : decode cL_law 1347 = .ok (.aload_n 2, 1) := by decide +kernel
theorem dL_law_1348 : decode cL_law 1348 = .ok (.aload_n 0, 1) := by decide +kernel
theorem dL_law_1349 : decode cL_law 1349 = .ok (.iload_n 3, 1) := by decide +kernel
theorem dL_law_1350 : decode cL_law 1350 = .ok (.iconst 1, 1) := by decide +kernel
theorem dL_law_1351 : decode cL_law 1351 = .ok (.iadd, 1) := by decide +kernel
theorem dL_law_1352 : decode cL_law 1352 = .ok (.iaload, 1) := by decide +kernel
theorem dL_law_1353 : decode cL_law 1353 = .ok (.invokevirtual 133, 3) := by decide +kernel
theorem dL_law_1356 : decode cL_law 1356 = .ok (.if_icmp .eq 529, 3) := by decide +kernel
theorem dL_law_1359 : decode cL_law 1359 = .ok (.iconst 0, 1) := by decide +kernel
theorem dL_law_1360 : decode cL_law 1360 = .ok (.ireturn, 1) := by decide +kernel
theorem dL_law_1361 : decode cL_law 1361 = .ok (.aload_n 1, 1) := by decide +kernel
theorem dL_law_1362 : decode cL_law 1362 = .ok (.aload_n 0, 1) := by decide +kernel
theorem dL_law_1363 : decode cL_law 1363 = .ok (.iload_n 3, 1) := by decide +kernel
theorem dL_law_1364 : decode cL_law 1364 = .ok (.iconst 1, 1) := by decide +kernel
theorem dL_law_1365 : decode cL_law 1365 = .ok (.iadd, 1) := by decide +kernel
theorem dL_law_1366 : decode cL_law 1366 = .ok (.iaload, 1) := by decide +kernel
theorem dL_law_1367 : decode cL_law 1367 = .ok (.aload_n 0, 1) := by decide +kernel
theorem dL_law_1368 : decode cL_law 1368 = .ok (.iload_n 3, 1) := by decide +kernel
theorem dL_law_1369 : decode cL_law 1369 = .ok (.iconst 2, 1) := by decide +kernel
theorem dL_law_1370 : decode cL_law 1370 = .ok (.iadd, 1) := by decide +kernel
theorem dL_law_1371 : decode cL_law 1371 = .ok (.iaload, 1) := by decide +kernel
theorem dL_law_1372 : decode cL_law 1372 = .ok (.aload_n 0, 1) := by decide +kernel
theorem dL_law_1373 : decode cL_law 1373 = .ok (.iload_n 3, 1) := by decide +kernel
theorem dL_law_1374 : decode cL_law 1374 = .ok (.iconst 3, 1) := by decide +kernel
theorem dL_law_1375 : decode cL_law 1375 = .ok (.iadd, 1) := by decide +kernel
theorem dL_law_1376 : decode cL_law 1376 = .ok (.iaload, 1) := by decide +kernel
theorem dL_law_1377 : decode cL_law 1377 = .ok (.aload_n 0, 1) := by decide +kernel
theorem dL_law_1378 : decode cL_law 1378 = .ok (.iload_n 3, 1) := by decide +kernel
theorem dL_law_1379 : decode cL_law 1379 = .ok (.iconst 4, 1) := by decide +kernel
theorem dL_law_1380 : decode cL_law 1380 = .ok (.iadd, 1) := by decide +kernel
theorem dL_law_1381 : decode cL_law 1381 = .ok (.iaload, 1) := by decide +kernel
theorem dL_law_1382 : decode cL_law 1382 = .ok (.invokevirtual 134, 3) := by decide +kernel
theorem dL_law_1385 : decode cL_law 1385 = .ok (.aload_n 2, 1) := by decide +kernel
theorem dL_law_1386 : decode cL_law 1386 = .ok (.aload_n 0, 1) := by decide +kernel
theorem dL_law_1387 : decode cL_law 1387 = .ok (.iload_n 3, 1) := by decide +kernel
theorem dL_law_1388 : decode cL_law 1388 = .ok (.iconst 1, 1) := by decide +kernel
theorem dL_law_1389 : decode cL_law 1389 = .ok (.iadd, 1) := by decide +kernel
theorem dL_law_1390 : decode cL_law 1390 = .ok (.iaload, 1) := by decide +kernel
theorem dL_law_1391 : decode cL_law 1391 = .ok (.aload_n 0, 1) := by decide +kernel
theorem dL_law_1392 : decode cL_law 1392 = .ok (.iload_n 3, 1) := by decide +kernel
theorem dL_law_1393 : decode cL_law 1393 = .ok (.iconst 2, 1) := by decide +kernel
theorem dL_law_1394 : decode cL_law 1394 = .ok (.iadd, 1) := by decide +kernel
theorem dL_law_1395 : decode cL_law 1395 = .ok (.iaload, 1) := by decide +kernel
theorem dL_law_1396 : decode cL_law 1396 = .ok (.aload_n 0, 1) := by decide +kernel
theorem dL_law_1397 : decode cL_law 1397 = .ok (.iload_n 3, 1) := by decide +kernel
theorem dL_law_1398 : decode cL_law 1398 = .ok (.iconst 3, 1) := by decide +kernel
theorem dL_law_1399 : decode cL_law 1399 = .ok (.iadd, 1) := by decide +kernel
theorem dL_law_1400 : decode cL_law 1400 = .ok (.iaload, 1) := by decide +kernel
theorem dL_law_1401 : decode cL_law 1401 = .ok (.aload_n 0, 1) := by decide +kernel
theorem dL_law_1402 : decode cL_law 1402 = .ok (.iload_n 3, 1) := by decide +kernel
theorem dL_law_1403 : decode cL_law 1403 = .ok (.iconst 4, 1) := by decide +kernel
theorem dL_law_1404 : decode cL_law 1404 = .ok (.iadd, 1) := by decide +kernel
theorem dL_law_1405 : decode cL_law 1405 = .ok (.iaload, 1) := by decide +kernel
theorem dL_law_1406 : decode cL_law 1406 = .ok (.invokevirtual 138, 3) := by decide +kernel
theorem dL_law_1409 : decode cL_law 1409 = .ok (.if_icmp .eq 476, 3) := by decide +kernel
theorem dL_law_1412 : decode cL_law 1412 = .ok (.iconst 0, 1) := by decide +kernel
theorem dL_law_1413 : decode cL_law 1413 = .ok (.ireturn, 1) := by decide +kernel
theorem dL_law_1414 : decode cL_law 1414 = .ok (.aload_n 1, 1) := by decide +kernel
theorem dL_law_1415 : decode cL_law 1415 = .ok (.aload_n 0, 1) := by decide +kernel
theorem dL_law_1416 : decode cL_law 1416 = .ok (.iload_n 3, 1) := by decide +kernel
theorem dL_law_1417 : decode cL_law 1417 = .ok (.iconst 1, 1) := by decide +kernel
theorem dL_law_1418 : decode cL_law 1418 = .ok (.iadd, 1) := by decide +kernel
theorem dL_law_1419 : decode cL_law 1419 = .ok (.iaload, 1) := by decide +kernel
theorem dL_law_1420 : decode cL_law 1420 = .ok (.invokevirtual 139, 3) := by decide +kernel
theorem dL_law_1423 : decode cL_law 1423 = .ok (.aload_n 2, 1) := by decide +kernel
theorem dL_law_1424 : decode cL_law 1424 = .ok (.aload_n 0, 1) := by decide +kernel
theorem dL_law_1425 : decode cL_law 1425 = .ok (.iload_n 3, 1) := by decide +kernel
theorem dL_law_1426 : decode cL_law 1426 = .ok (.iconst 1, 1) := by decide +kernel
theorem dL_law_1427 : decode cL_law 1427 = .ok (.iadd, 1) := by decide +kernel
theorem dL_law_1428 : decode cL_law 1428 = .ok (.iaload, 1) := by decide +kernel
theorem dL_law_1429 : decode cL_law 1429 = .ok (.invokevirtual 142, 3) := by decide +kernel
theorem dL_law_1432 : decode cL_law 1432 = .ok (.if_icmp .eq 453, 3) := by decide +kernel
theorem dL_law_1435 : decode cL_law 1435 = .ok (.iconst 0, 1) := by decide +kernel
theorem dL_law_1436 : decode cL_law 1436 = .ok (.ireturn, 1) := by decide +kernel
theorem dL_law_1437 : decode cL_law 1437 = .ok (.aload_n 1, 1) := by decide +kernel
theorem dL_law_1438 : decode cL_law 1438 = .ok (.aload_n 0, 1) := by decide +kernel
theorem dL_law_1439 : decode cL_law 1439 = .ok (.iload_n 3, 1) := by decide +kernel
theorem dL_law_1440 : decode cL_law 1440 = .ok (.iconst 1, 1) := by decide +kernel
theorem dL_law_1441 : decode cL_law 1441 = .ok (.iadd, 1) := by decide +kernel
theorem dL_law_1442 : decode cL_law 1442 = .ok (.iaload, 1) := by decide +kernel
theorem dL_law_1443 : decode cL_law 1443 = .ok (.aload_n 0, 1) := by decide +kernel
theorem dL_law_1444 : decode cL_law 1444 = .ok (.iload_n 3, 1) := by decide +kernel
theorem dL_law_1445 : decode cL_law 1445 = .ok (.iconst 2, 1) := by decide +kernel
theorem dL_law_1446 : decode cL_law 1446 = .ok (.iadd, 1) := by decide +kernel
theorem dL_law_1447 : decode cL_law 1447 = .ok (.iaload, 1) := by decide +kernel
theorem dL_law_1448 : decode cL_law 1448 = .ok (.invokevirtual 143, 3) := by decide +kernel
theorem dL_law_1451 : decode cL_law 1451 = .ok (.aload_n 2, 1) := by decide +kernel
theorem dL_law_1452 : decode cL_law 1452 = .ok (.aload_n 0, 1) := by decide +kernel
theorem dL_law_1453 : decode cL_law 1453 = .ok (.iload_n 3, 1) := by decide +kernel
theorem dL_law_1454 : decode cL_law 1454 = .ok (.iconst 1, 1) := by decide +kernel
theorem dL_law_1455 : decode cL_law 1455 = .ok (.iadd, 1) := by decide +kernel
theorem dL_law_1456 : decode cL_law 1456 = .ok (.iaload, 1) := by decide +kernel
theorem dL_law_1457 : decode cL_law 1457 = .ok (.aload_n 0, 1) := by decide +kernel
theorem dL_law_1458 : decode cL_law 1458 = .ok (.iload_n 3, 1) := by decide +kernel
theorem dL_law_1459 : decode cL_law 1459 = .ok (.iconst 2, 1) := by decide +kernel
theorem dL_law_1460 : decode cL_law 1460 = .ok (.iadd, 1) := by decide +kernel
theorem dL_law_1461 : decode cL_law 1461 = .ok (.iaload, 1) := by decide +kernel
theorem dL_law_1462 : decode cL_law 1462 = .ok (.invokevirtual 146, 3) := by decide +kernel
theorem dL_law_1465 : decode cL_law 1465 = .ok (.if_icmp .eq 420, 3) := by decide +kernel
theorem dL_law_1468 : decode cL_law 1468 = .ok (.iconst 0, 1) := by decide +kernel
theorem dL_law_1469 : decode cL_law 1469 = .ok (.ireturn, 1) := by decide +kernel
theorem dL_law_1470 : decode cL_law 1470 = .ok (.aload_n 1, 1) := by decide +kernel
theorem dL_law_1471 : decode cL_law 1471 = .ok (.aload_n 0, 1) := by decide +kernel
theorem dL_law_1472 : decode cL_law 1472 = .ok (.iload_n 3, 1) := by decide +kernel
theorem dL_law_1473 : decode cL_law 1473 = .ok (.iconst 1, 1) := by decide +kernel
theorem dL_law_1474 : decode cL_law 1474 = .ok (.iadd, 1) := by decide +kernel
theorem dL_law_1475 : decode cL_law 1475 = .ok (.iaload, 1) := by decide +kernel
theorem dL_law_1476 : decode cL_law 1476 = .ok (.aload_n 0, 1) := by decide +kernel
theorem dL_law_1477 : decode cL_law 1477 = .ok (.iload_n 3, 1) := by decide +kernel
theorem dL_law_1478 : decode cL_law 1478 = .ok (.iconst 2, 1) := by decide +kernel
theorem dL_law_1479 : decode cL_law 1479 = .ok (.iadd, 1) := by decide +kernel
theorem dL_law_1480 : decode cL_law 1480 = .ok (.iaload, 1) := by decide +kernel
theorem dL_law_1481 : decode cL_law 1481 = .ok (.invokevirtual 147, 3) := by decide +kernel
theorem dL_law_1484 : decode cL_law 1484 = .ok (.aload_n 2, 1) := by decide +kernel
theorem dL_law_1485 : decode cL_law 1485 = .ok (.aload_n 0, 1) := by decide +kernel
theorem dL_law_1486 : decode cL_law 1486 = .ok (.iload_n 3, 1) := by decide +kernel
theorem dL_law_1487 : decode cL_law 1487 = .ok (.iconst 1, 1) := by decide +kernel
theorem dL_law_1488 : decode cL_law 1488 = .ok (.iadd, 1) := by decide +kernel
theorem dL_law_1489 : decode cL_law 1489 = .ok (.iaload, 1) := by decide +kernel
theorem dL_law_1490 : decode cL_law 1490 = .ok (.aload_n 0, 1) := by decide +kernel
theorem dL_law_1491 : decode cL_law 1491 = .ok (.iload_n 3, 1) := by decide +kernel
theorem dL_law_1492 : decode cL_law 1492 = .ok (.iconst 2, 1) := by decide +kernel
theorem dL_law_1493 : decode cL_law 1493 = .ok (.iadd, 1) := by decide +kernel
theorem dL_law_1494 : decode cL_law 1494 = .ok (.iaload, 1) := by decide +kernel
theorem dL_law_1495 : decode cL_law 1495 = .ok (.invokevirtual 150, 3) := by decide +kernel
theorem dL_law_1498 : decode cL_law 1498 = .ok (.lcmp, 1) := by decide +kernel
theorem dL_law_1499 : decode cL_law 1499 = .ok (.ifCond .eq 386, 3) := by decide +kernel
theorem dL_law_1502 : decode cL_law 1502 = .ok (.iconst 0, 1) := by decide +kernel
theorem dL_law_1503 : decode cL_law 1503 = .ok (.ireturn, 1) := by decide +kernel
theorem dL_law_1504 : decode cL_law 1504 = .ok (.aload_n 1, 1) := by decide +kernel
theorem dL_law_1505 : decode cL_law 1505 = .ok (.aload_n 0, 1) := by decide +kernel
theorem dL_law_1506 : decode cL_law 1506 = .ok (.iload_n 3, 1) := by decide +kernel
theorem dL_law_1507 : decode cL_law 1507 = .ok (.iconst 1, 1) := by decide +kernel
theorem dL_law_1508 : decode cL_law 1508 = .ok (.iadd, 1) := by decide +kernel
theorem dL_law_1509 : decode cL_law 1509 = .ok (.iaload, 1) := by decide +kernel
theorem dL_law_1510 : decode cL_law 1510 = .ok (.aload_n 0, 1) := by decide +kernel
theorem dL_law_1511 : decode cL_law 1511 = .ok (.iload_n 3, 1) := by decide +kernel
theorem dL_law_1512 : decode cL_law 1512 = .ok (.iconst 2, 1) := by decide +kernel
theorem dL_law_1513 : decode cL_law 1513 = .ok (.iadd, 1) := by decide +kernel
theorem dL_law_1514 : decode cL_law 1514 = .ok (.iaload, 1) := by decide +kernel
theorem dL_law_1515 : decode cL_law 1515 = .ok (.aload_n 0, 1) := by decide +kernel
theorem dL_law_1516 : decode cL_law 1516 = .ok (.iload_n 3, 1) := by decide +kernel
theorem dL_law_1517 : decode cL_law 1517 = .ok (.iconst 3, 1) := by decide +kernel
theorem dL_law_1518 : decode cL_law 1518 = .ok (.iadd, 1) := by decide +kernel
theorem dL_law_1519 : decode cL_law 1519 = .ok (.iaload, 1) := by decide +kernel
theorem dL_law_1520 : decode cL_law 1520 = .ok (.invokevirtual 151, 3) := by decide +kernel
theorem dL_law_1523 : decode cL_law 1523 = .ok (.aload_n 2, 1) := by decide +kernel
theorem dL_law_1524 : decode cL_law 1524 = .ok (.aload_n 0, 1) := by decide +kernel
theorem dL_law_1525 : decode cL_law 1525 = .ok (.iload_n 3, 1) := by decide +kernel
theorem dL_law_1526 : decode cL_law 1526 = .ok (.iconst 1, 1) := by decide +kernel
theorem dL_law_1527 : decode cL_law 1527 = .ok (.iadd, 1) := by decide +kernel
theorem dL_law_1528 : decode cL_law 1528 = .ok (.iaload, 1) := by decide +kernel
theorem dL_law_1529 : decode cL_law 1529 = .ok (.aload_n 0, 1) := by decide +kernel
theorem dL_law_1530 : decode cL_law 1530 = .ok (.iload_n 3, 1) := by decide +kernel
theorem dL_law_1531 : decode cL_law 1531 = .ok (.iconst 2, 1) := by decide +kernel
theorem dL_law_1532 : decode cL_law 1532 = .ok (.iadd, 1) := by decide +kernel
theorem dL_law_1533 : decode cL_law 1533 = .ok (.iaload, 1) := by decide +kernel
theorem dL_law_1534 : decode cL_law 1534 = .ok (.aload_n 0, 1) := by decide +kernel
theorem dL_law_1535 : decode cL_law 1535 = .ok (.iload_n 3, 1) := by decide +kernel
theorem dL_law_1536 : decode cL_law 1536 = .ok (.iconst 3, 1) := by decide +kernel
theorem dL_law_1537 : decode cL_law 1537 = .ok (.iadd, 1) := by decide +kernel
theorem dL_law_1538 : decode cL_law 1538 = .ok (.iaload, 1) := by decide +kernel
theorem dL_law_1539 : decode cL_law 1539 = .ok (.invokevirtual 154, 3) := by decide +kernel
theorem dL_law_1542 : decode cL_law 1542 = .ok (.if_icmp .eq 343, 3) := by decide +kernel
theorem dL_law_1545 : decode cL_law 1545 = .ok (.iconst 0, 1) := by decide +kernel
theorem dL_law_1546 : decode cL_law 1546 = .ok (.ireturn, 1) := by decide +kernel
theorem dL_law_1547 : decode cL_law 1547 = .ok (.aload_n 1, 1) := by decide +kernel
theorem dL_law_1548 : decode cL_law 1548 = .ok (.invokevirtual 155, 3) := by decide +kernel
theorem dL_law_1551 : decode cL_law 1551 = .ok (.aload_n 2, 1) := by decide +kernel
theorem dL_law_1552 : decode cL_law 1552 = .ok (.invokevirtual 158, 3) := by decide +kernel
theorem dL_law_1555 : decode cL_law 1555 = .ok (.if_icmp .eq 330, 3) := by decide +kernel
theorem dL_law_1558 : decode cL_law 1558 = .ok (.iconst 0, 1) := by decide +kernel
theorem dL_law_1559 : decode cL_law 1559 = .ok (.ireturn, 1) := by decide +kernel
theorem dL_law_1560 : decode cL_law 1560 = .ok (.aload_n 1, 1) := by decide +kernel
theorem dL_law_1561 : decode cL_law 1561 = .ok (.aload_n 0, 1) := by decide +kernel
theorem dL_law_1562 : decode cL_law 1562 = .ok (.iload_n 3, 1) := by decide +kernel
theorem dL_law_1563 : decode cL_law 1563 = .ok (.iconst 1, 1) := by decide +kernel
theorem dL_law_1564 : decode cL_law 1564 = .ok (.iadd, 1) := by decide +kernel
theorem dL_law_1565 : decode cL_law 1565 = .ok (.iaload, 1) := by decide +kernel
theorem dL_law_1566 : decode cL_law 1566 = .ok (.aload_n 0, 1) := by decide +kernel
theorem dL_law_1567 : decode cL_law 1567 = .ok (.iload_n 3, 1) := by decide +kernel
theorem dL_law_1568 : decode cL_law 1568 = .ok (.iconst 2, 1) := by decide +kernel
theorem dL_law_1569 : decode cL_law 1569 = .ok (.iadd, 1) := by decide +kernel
theorem dL_law_1570 : decode cL_law 1570 = .ok (.iaload, 1) := by decide +kernel
theorem dL_law_1571 : decode cL_law 1571 = .ok (.aload_n 0, 1) := by decide +kernel
theorem dL_law_1572 : decode cL_law 1572 = .ok (.iload_n 3, 1) := by decide +kernel
theorem dL_law_1573 : decode cL_law 1573 = .ok (.iconst 3, 1) := by decide +kernel
theorem dL_law_1574 : decode cL_law 1574 = .ok (.iadd, 1) := by decide +kernel
theorem dL_law_1575 : decode cL_law 1575 = .ok (.iaload, 1) := by decide +kernel
theorem dL_law_1576 : decode cL_law 1576 = .ok (.aload_n 0, 1) := by decide +kernel
theorem dL_law_1577 : decode cL_law 1577 = .ok (.iload_n 3, 1) := by decide +kernel
theorem dL_law_1578 : decode cL_law 1578 = .ok (.iconst 4, 1) := by decide +kernel
theorem dL_law_1579 : decode cL_law 1579 = .ok (.iadd, 1) := by decide +kernel
theorem dL_law_1580 : decode cL_law 1580 = .ok (.iaload, 1) := by decide +kernel
theorem dL_law_1581 : decode cL_law 1581 = .ok (.aload_n 0, 1) := by decide +kernel
theorem dL_law_1582 : decode cL_law 1582 = .ok (.iload_n 3, 1) := by decide +kernel
theorem dL_law_1583 : decode cL_law 1583 = .ok (.iconst 5, 1) := by decide +kernel
theorem dL_law_1584 : decode cL_law 1584 = .ok (.iadd, 1) := by decide +kernel
theorem dL_law_1585 : decode cL_law 1585 = .ok (.iaload, 1) := by decide +kernel
theorem dL_law_1586 : decode cL_law 1586 = .ok (.invokevirtual 159, 3) := by decide +kernel
theorem dL_law_1589 : decode cL_law 1589 = .ok (.aload_n 2, 1) := by decide +kernel
theorem dL_law_1590 : decode cL_law 1590 = .ok (.aload_n 0, 1) := by decide +kernel
theorem dL_law_1591 : decode cL_law 1591 = .ok (.iload_n 3, 1) := by decide +kernel
theorem dL_law_1592 : decode cL_law 1592 = .ok (.iconst 1, 1) := by decide +kernel
theorem dL_law_1593 : decode cL_law 1593 = .ok (.iadd, 1) := by decide +kernel
theorem dL_law_1594 : decode cL_law 1594 = .ok (.iaload, 1) := by decide +kernel
theorem dL_law_1595 : decode cL_law 1595 = .ok (.aload_n 0, 1) := by decide +kernel
theorem dL_law_1596 : decode cL_law 1596 = .ok (.iload_n 3, 1) := by decide +kernel
theorem dL_law_1597 : decode cL_law 1597 = .ok (.iconst 2, 1) := by decide +kernel
theorem dL_law_1598 : decode cL_law 1598 = .ok (.iadd, 1) := by decide +kernel
theorem dL_law_1599 : decode cL_law 1599 = .ok (.iaload, 1) := by decide +kernel
theorem dL_law_1600 : decode cL_law 1600 = .ok (.aload_n 0, 1) := by decide +kernel
theorem dL_law_1601 : decode cL_law 1601 = .ok (.iload_n 3, 1) := by decide +kernel
theorem dL_law_1602 : decode cL_law 1602 = .ok (.iconst 3, 1) := by decide +kernel
theorem dL_law_1603 : decode cL_law 1603 = .ok (.iadd, 1) := by decide +kernel
theorem dL_law_1604 : decode cL_law 1604 = .ok (.iaload, 1) := by decide +kernel
theorem dL_law_1605 : decode cL_law 1605 = .ok (.aload_n 0, 1) := by decide +kernel
theorem dL_law_1606 : decode cL_law 1606 = .ok (.iload_n 3, 1) := by decide +kernel
theorem dL_law_1607 : decode cL_law 1607 = .ok (.iconst 4, 1) := by decide +kernel
theorem dL_law_1608 : decode cL_law 1608 = .ok (.iadd, 1) := by decide +kernel
theorem dL_law_1609 : decode cL_law 1609 = .ok (.iaload, 1) := by decide +kernel
theorem dL_law_1610 : decode cL_law 1610 = .ok (.aload_n 0, 1) := by decide +kernel
theorem dL_law_1611 : decode cL_law 1611 = .ok (.iload_n 3, 1) := by decide +kernel
theorem dL_law_1612 : decode cL_law 1612 = .ok (.iconst 5, 1) := by decide +kernel
theorem dL_law_1613 : decode cL_law 1613 = .ok (.iadd, 1) := by decide +kernel
theorem dL_law_1614 : decode cL_law 1614 = .ok (.iaload, 1) := by decide +kernel
theorem dL_law_1615 : decode cL_law 1615 = .ok (.invokevirtual 163, 3) := by decide +kernel
theorem dL_law_1618 : decode cL_law 1618 = .ok (.if_icmp .eq 267, 3) := by decide +kernel
theorem dL_law_1621 : decode cL_law 1621 = .ok (.iconst 0, 1) := by decide +kernel
theorem dL_law_1622 : decode cL_law 1622 = .ok (.ireturn, 1) := by decide +kernel
theorem dL_law_1623 : decode cL_law 1623 = .ok (.aload_n 1, 1) := by decide +kernel
theorem dL_law_1624 : decode cL_law 1624 = .ok (.invokevirtual 164, 3) := by decide +kernel
theorem dL_law_1627 : decode cL_law 1627 = .ok (.aload_n 2, 1) := by decide +kernel
theorem dL_law_1628 : decode cL_law 1628 = .ok (.invokevirtual 167, 3) := by decide +kernel
theorem dL_law_1631 : decode cL_law 1631 = .ok (.if_icmp .eq 254, 3) := by decide +kernel
theorem dL_law_1634 : decode cL_law 1634 = .ok (.iconst 0, 1) := by decide +kernel
theorem dL_law_1635 : decode cL_law 1635 = .ok (.ireturn, 1) := by decide +kernel
theorem dL_law_1636 : decode cL_law 1636 = .ok (.aload_n 1, 1) := by decide +kernel
theorem dL_law_1637 : decode cL_law 1637 = .ok (.invokevirtual 168, 3) := by decide +kernel
theorem dL_law_1640 : decode cL_law 1640 = .ok (.aload_n 2, 1) := by decide +kernel
theorem dL_law_1641 : decode cL_law 1641 = .ok (.invokevirtual 171, 3) := by decide +kernel
theorem dL_law_1644 : decode cL_law 1644 = .ok (.if_icmp .eq 241, 3) := by decide +kernel
theorem dL_law_1647 : decode cL_law 1647 = .ok (.iconst 0, 1) := by decide +kernel
theorem dL_law_1648 : decode cL_law 1648 = .ok (.ireturn, 1) := by decide +kernel
theorem dL_law_1649 : decode cL_law 1649 = .ok (.aload_n 1, 1) := by decide +kernel
theorem dL_law_1650 : decode cL_law 1650 = .ok (.aload_n 0, 1) := by decide +kernel
theorem dL_law_1651 : decode cL_law 1651 = .ok (.iload_n 3, 1) := by decide +kernel
theorem dL_law_1652 : decode cL_law 1652 = .ok (.iconst 1, 1) := by decide +kernel
theorem dL_law_1653 : decode cL_law 1653 = .ok (.iadd, 1) := by decide +kernel
theorem dL_law_1654 : decode cL_law 1654 = .ok (.iaload, 1) := by decide +kernel
theorem dL_law_1655 : decode cL_law 1655 = .ok (.invokevirtual 172, 3) := by decide +kernel
theorem dL_law_1658 : decode cL_law 1658 = .ok (.aload_n 2, 1) := by decide +kernel
theorem dL_law_1659 : decode cL_law 1659 = .ok (.aload_n 0, 1) := by decide +kernel
theorem dL_law_1660 : decode cL_law 1660 = .ok (.iload_n 3, 1) := by decide +kernel
theorem dL_law_1661 : decode cL_law 1661 = .ok (.iconst 1, 1) := by decide +kernel
theorem dL_law_1662 : decode cL_law 1662 = .ok (.iadd, 1) := by decide +kernel
theorem dL_law_1663 : decode cL_law 1663 = .ok (.iaload, 1) := by decide +kernel
theorem dL_law_1664 : decode cL_law 1664 = .ok (.invokevirtual 175, 3) := by decide +kernel
theorem dL_law_1667 : decode cL_law 1667 = .ok (.if_icmp .eq 218, 3) := by decide +kernel
theorem dL_law_1670 : decode cL_law 1670 = .ok (.iconst 0, 1) := by decide +kernel
theorem dL_law_1671 : decode cL_law 1671 = .ok (.ireturn, 1) := by decide +kernel
theorem dL_law_1672 : decode cL_law 1672 = .ok (.aload_n 1, 1) := by decide +kernel
theorem dL_law_1673 : decode cL_law 1673 = .ok (.aload_n 0, 1) := by decide +kernel
theorem dL_law_1674 : decode cL_law 1674 = .ok (.iload_n 3, 1) := by decide +kernel
theorem dL_law_1675 : decode cL_law 1675 = .ok (.iconst 1, 1) := by decide +kernel
theorem dL_law_1676 : decode cL_law 1676 = .ok (.iadd, 1) := by decide +kernel
theorem dL_law_1677 : decode cL_law 1677 = .ok (.iaload, 1) := by decide +kernel
theorem dL_law_1678 : decode cL_law 1678 = .ok (.aload_n 0, 1) := by decide +kernel
theorem dL_law_1679 : decode cL_law 1679 = .ok (.iload_n 3, 1) := by decide +kernel
theorem dL_law_1680 : decode cL_law 1680 = .ok (.iconst 2, 1) := by decide +kernel
theorem dL_law_1681 : decode cL_law 1681 = .ok (.iadd, 1) := by decide +kernel
theorem dL_law_1682 : decode cL_law 1682 = .ok (.iaload, 1) := by decide +kernel
theorem dL_law_1683 : decode cL_law 1683 = .ok (.aload_n 0, 1) := by decide +kernel
theorem dL_law_1684 : decode cL_law 1684 = .ok (.iload_n 3, 1) := by decide +kernel
theorem dL_law_1685 : decode cL_law 1685 = .ok (.iconst 3, 1) := by decide +kernel
theorem dL_law_1686 : decode cL_law 1686 = .ok (.iadd, 1) := by decide +kernel
theorem dL_law_1687 : decode cL_law 1687 = .ok (.iaload, 1) := by decide +kernel
theorem dL_law_1688 : decode cL_law 1688 = .ok (.invokevirtual 176, 3) := by decide +kernel
theorem dL_law_1691 : decode cL_law 1691 = .ok (.aload_n 2, 1) := by decide +kernel
theorem dL_law_1692 : decode cL_law 1692 = .ok (.aload_n 0, 1) := by decide +kernel
theorem dL_law_1693 : decode cL_law 1693 = .ok (.iload_n 3, 1) := by decide +kernel
theorem dL_law_1694 : decode cL_law 1694 = .ok (.iconst 1, 1) := by decide +kernel
theorem dL_law_1695 : decode cL_law 1695 = .ok (.iadd, 1) := by decide +kernel
theorem dL_law_1696 : decode cL_law 1696 = .ok (.iaload, 1) := by decide +kernel
theorem dL_law_1697 : decode cL_law 1697 = .ok (.aload_n 0, 1) := by decide +kernel
theorem dL_law_1698 : decode cL_law 1698 = .ok (.iload_n 3, 1) := by decide +kernel
theorem dL_law_1699 : decode cL_law 1699 = .ok (.iconst 2, 1) := by decide +kernel
theorem dL_law_1700 : decode cL_law 1700 = .ok (.iadd, 1) := by decide +kernel
theorem dL_law_1701 : decode cL_law 1701 = .ok (.iaload, 1) := by decide +kernel
theorem dL_law_1702 : decode cL_law 1702 = .ok (.aload_n 0, 1) := by decide +kernel
theorem dL_law_1703 : decode cL_law 1703 = .ok (.iload_n 3, 1) := by decide +kernel
theorem dL_law_1704 : decode cL_law 1704 = .ok (.iconst 3, 1) := by decide +kernel
theorem dL_law_1705 : decode cL_law 1705 = .ok (.iadd, 1) := by decide +kernel
theorem dL_law_1706 : decode cL_law 1706 = .ok (.iaload, 1) := by decide +kernel
theorem dL_law_1707 : decode cL_law 1707 = .ok (.invokevirtual 179, 3) := by decide +kernel
theorem dL_law_1710 : decode cL_law 1710 = .ok (.if_icmp .eq 175, 3) := by decide +kernel
theorem dL_law_1713 : decode cL_law 1713 = .ok (.iconst 0, 1) := by decide +kernel
theorem dL_law_1714 : decode cL_law 1714 = .ok (.ireturn, 1) := by decide +kernel
theorem dL_law_1715 : decode cL_law 1715 = .ok (.aload_n 1, 1) := by decide +kernel
theorem dL_law_1716 : decode cL_law 1716 = .ok (.aload_n 0, 1) := by decide +kernel
theorem dL_law_1717 : decode cL_law 1717 = .ok (.iload_n 3, 1) := by decide +kernel
theorem dL_law_1718 : decode cL_law 1718 = .ok (.iconst 1, 1) := by decide +kernel
theorem dL_law_1719 : decode cL_law 1719 = .ok (.iadd, 1) := by decide +kernel
theorem dL_law_1720 : decode cL_law 1720 = .ok (.iaload, 1) := by decide +kernel
theorem dL_law_1721 : decode cL_law 1721 = .ok (.aload_n 0, 1) := by decide +kernel
theorem dL_law_1722 : decode cL_law 1722 = .ok (.iload_n 3, 1) := by decide +kernel
theorem dL_law_1723 : decode cL_law 1723 = .ok (.iconst 2, 1) := by decide +kernel
theorem dL_law_1724 : decode cL_law 1724 = .ok (.iadd, 1) := by decide +kernel
theorem dL_law_1725 : decode cL_law 1725 = .ok (.iaload, 1) := by decide +kernel
theorem dL_law_1726 : decode cL_law 1726 = .ok (.aload_n 0, 1) := by decide +kernel
theorem dL_law_1727 : decode cL_law 1727 = .ok (.iload_n 3, 1) := by decide +kernel
theorem dL_law_1728 : decode cL_law 1728 = .ok (.iconst 3, 1) := by decide +kernel
theorem dL_law_1729 : decode cL_law 1729 = .ok (.iadd, 1) := by decide +kernel
theorem dL_law_1730 : decode cL_law 1730 = .ok (.iaload, 1) := by decide +kernel
theorem dL_law_1731 : decode cL_law 1731 = .ok (.i2l, 1) := by decide +kernel
theorem dL_law_1732 : decode cL_law 1732 = .ok (.bipush 32, 2) := by decide +kernel
theorem dL_law_1734 : decode cL_law 1734 = .ok (.lshl, 1) := by decide +kernel
theorem dL_law_1735 : decode cL_law 1735 = .ok (.aload_n 0, 1) := by decide +kernel
theorem dL_law_1736 : decode cL_law 1736 = .ok (.iload_n 3, 1) := by decide +kernel
theorem dL_law_1737 : decode cL_law 1737 = .ok (.iconst 4, 1) := by decide +kernel
theorem dL_law_1738 : decode cL_law 1738 = .ok (.iadd, 1) := by decide +kernel
theorem dL_law_1739 : decode cL_law 1739 = .ok (.iaload, 1) := by decide +kernel
theorem dL_law_1740 : decode cL_law 1740 = .ok (.i2l, 1) := by decide +kernel
theorem dL_law_1741 : decode cL_law 1741 = .ok (.ldc2_w 180, 3) := by decide +kernel
theorem dL_law_1744 : decode cL_law 1744 = .ok (.land, 1) := by decide +kernel
theorem dL_law_1745 : decode cL_law 1745 = .ok (.lor, 1) := by decide +kernel
theorem dL_law_1746 : decode cL_law 1746 = .ok (.invokevirtual 182, 3) := by decide +kernel
theorem dL_law_1749 : decode cL_law 1749 = .ok (.aload_n 2, 1) := by decide +kernel
theorem dL_law_1750 : decode cL_law 1750 = .ok (.aload_n 0, 1) := by decide +kernel
theorem dL_law_1751 : decode cL_law 1751 = .ok (.iload_n 3, 1) := by decide +kernel
theorem dL_law_1752 : decode cL_law 1752 = .ok (.iconst 1, 1) := by decide +kernel
theorem dL_law_1753 : decode cL_law 1753 = .ok (.iadd, 1) := by decide +kernel
theorem dL_law_1754 : decode cL_law 1754 = .ok (.iaload, 1) := by decide +kernel
theorem dL_law_1755 : decode cL_law 1755 = .ok (.aload_n 0, 1) := by decide +kernel
theorem dL_law_1756 : decode cL_law 1756 = .ok (.iload_n 3, 1) := by decide +kernel
theorem dL_law_1757 : decode cL_law 1757 = .ok (.iconst 2, 1) := by decide +kernel
theorem dL_law_1758 : decode cL_law 1758 = .ok (.iadd, 1) := by decide +kernel
theorem dL_law_1759 : decode cL_law 1759 = .ok (.iaload, 1) := by decide +kernel
theorem dL_law_1760 : decode cL_law 1760 = .ok (.aload_n 0, 1) := by decide +kernel
theorem dL_law_1761 : decode cL_law 1761 = .ok (.iload_n 3, 1) := by decide +kernel
theorem dL_law_1762 : decode cL_law 1762 = .ok (.iconst 3, 1) := by decide +kernel
theorem dL_law_1763 : decode cL_law 1763 = .ok (.iadd, 1) := by decide +kernel
theorem dL_law_1764 : decode cL_law 1764 = .ok (.iaload, 1) := by decide +kernel
theorem dL_law_1765 : decode cL_law 1765 = .ok (.i2l, 1) := by decide +kernel
theorem dL_law_1766 : decode cL_law 1766 = .ok (.bipush 32, 2) := by decide +kernel
theorem dL_law_1768 : decode cL_law 1768 = .ok (.lshl, 1) := by decide +kernel
theorem dL_law_1769 : decode cL_law 1769 = .ok (.aload_n 0, 1) := by decide +kernel
theorem dL_law_1770 : decode cL_law 1770 = .ok (.iload_n 3, 1) := by decide +kernel
theorem dL_law_1771 : decode cL_law 1771 = .ok (.iconst 4, 1) := by decide +kernel
theorem dL_law_1772 : decode cL_law 1772 = .ok (.iadd, 1) := by decide +kernel
theorem dL_law_1773 : decode cL_law 1773 = .ok (.iaload, 1) := by decide +kernel
theorem dL_law_1774 : decode cL_law 1774 = .ok (.i2l, 1) := by decide +kernel
theorem dL_law_1775 : decode cL_law 1775 = .ok (.ldc2_w 180, 3) := by decide +kernel
theorem dL_law_1778 : decode cL_law 1778 = .ok (.land, 1) := by decide +kernel
theorem dL_law_1779 : decode cL_law 1779 = .ok (.lor, 1) := by decide +kernel
theorem dL_law_1780 : decode cL_law 1780 = .ok (.invokevirtual 186, 3) := by decide +kernel
theorem dL_law_1783 : decode cL_law 1783 = .ok (.if_icmp .eq 102, 3) := by decide +kernel
theorem dL_law_1786 : decode cL_law 1786 = .ok (.iconst 0, 1) := by decide +kernel
theorem dL_law_1787 : decode cL_law 1787 = .ok (.ireturn, 1) := by decide +kernel
theorem dL_law_1788 : decode cL_law 1788 = .ok (.aload_n 1, 1) := by decide +kernel
theorem dL_law_1789 : decode cL_law 1789 = .ok (.aload_n 0, 1) := by decide +kernel
theorem dL_law_1790 : decode cL_law 1790 = .ok (.iload_n 3, 1) := by decide +kernel
theorem dL_law_1791 : decode cL_law 1791 = .ok (.iconst 1, 1) := by decide +kernel
theorem dL_law_1792 : decode cL_law 1792 = .ok (.iadd, 1) := by decide +kernel
theorem dL_law_1793 : decode cL_law 1793 = .ok (.iaload, 1) := by decide +kernel
theorem dL_law_1794 : decode cL_law 1794 = .ok (.aload_n 0, 1) := by decide +kernel
theorem dL_law_1795 : decode cL_law 1795 = .ok (.iload_n 3, 1) := by decide +kernel
theorem dL_law_1796 : decode cL_law 1796 = .ok (.iconst 2, 1) := by decide +kernel
theorem dL_law_1797 : decode cL_law 1797 = .ok (.iadd, 1) := by decide +kernel
theorem dL_law_1798 : decode cL_law 1798 = .ok (.iaload, 1) := by decide +kernel
theorem dL_law_1799 : decode cL_law 1799 = .ok (.invokevirtual 187, 3) := by decide +kernel
theorem dL_law_1802 : decode cL_law 1802 = .ok (.aload_n 2, 1) := by decide +kernel
theorem dL_law_1803 : decode cL_law 1803 = .ok (.aload_n 0, 1) := by decide +kernel
theorem dL_law_1804 : decode cL_law 1804 = .ok (.iload_n 3, 1) := by decide +kernel
theorem dL_law_1805 : decode cL_law 1805 = .ok (.iconst 1, 1) := by decide +kernel
theorem dL_law_1806 : decode cL_law 1806 = .ok (.iadd, 1) := by decide +kernel
theorem dL_law_1807 : decode cL_law 1807 = .ok (.iaload, 1) := by decide +kernel
theorem dL_law_1808 : decode cL_law 1808 = .ok (.aload_n 0, 1) := by decide +kernel
theorem dL_law_1809 : decode cL_law 1809 = .ok (.iload_n 3, 1) := by decide +kernel
theorem dL_law_1810 : decode cL_law 1810 = .ok (.iconst 2, 1) := by decide +kernel
theorem dL_law_1811 : decode cL_law 1811 = .ok (.iadd, 1) := by decide +kernel
theorem dL_law_1812 : decode cL_law 1812 = .ok (.iaload, 1) := by decide +kernel
theorem dL_law_1813 : decode cL_law 1813 = .ok (.invokevirtual 190, 3) := by decide +kernel
theorem dL_law_1816 : decode cL_law 1816 = .ok (.lcmp, 1) := by decide +kernel
theorem dL_law_1817 : decode cL_law 1817 = .ok (.ifCond .eq 68, 3) := by decide +kernel
theorem dL_law_1820 : decode cL_law 1820 = .ok (.iconst 0, 1) := by decide +kernel
theorem dL_law_1821 : decode cL_law 1821 = .ok (.ireturn, 1) := by decide +kernel
theorem dL_law_1822 : decode cL_law 1822 = .ok (.aload_n 1, 1) := by decide +kernel
theorem dL_law_1823 : decode cL_law 1823 = .ok (.aload_n 0, 1) := by decide +kernel
theorem dL_law_1824 : decode cL_law 1824 = .ok (.iload_n 3, 1) := by decide +kernel
theorem dL_law_1825 : decode cL_law 1825 = .ok (.iconst 1, 1) := by decide +kernel
theorem dL_law_1826 : decode cL_law 1826 = .ok (.iadd, 1) := by decide +kernel
theorem dL_law_1827 : decode cL_law 1827 = .ok (.iaload, 1) := by decide +kernel
theorem dL_law_1828 : decode cL_law 1828 = .ok (.aload_n 0, 1) := by decide +kernel
theorem dL_law_1829 : decode cL_law 1829 = .ok (.iload_n 3, 1) := by decide +kernel
theorem dL_law_1830 : decode cL_law 1830 = .ok (.iconst 2, 1) := by decide +kernel
theorem dL_law_1831 : decode cL_law 1831 = .ok (.iadd, 1) := by decide +kernel
theorem dL_law_1832 : decode cL_law 1832 = .ok (.iaload, 1) := by decide +kernel
theorem dL_law_1833 : decode cL_law 1833 = .ok (.aload_n 0, 1) := by decide +kernel
theorem dL_law_1834 : decode cL_law 1834 = .ok (.iload_n 3, 1) := by decide +kernel
theorem dL_law_1835 : decode cL_law 1835 = .ok (.iconst 3, 1) := by decide +kernel
theorem dL_law_1836 : decode cL_law 1836 = .ok (.iadd, 1) := by decide +kernel
theorem dL_law_1837 : decode cL_law 1837 = .ok (.iaload, 1) := by decide +kernel
theorem dL_law_1838 : decode cL_law 1838 = .ok (.aload_n 0, 1) := by decide +kernel
theorem dL_law_1839 : decode cL_law 1839 = .ok (.iload_n 3, 1) := by decide +kernel
theorem dL_law_1840 : decode cL_law 1840 = .ok (.iconst 4, 1) := by decide +kernel
theorem dL_law_1841 : decode cL_law 1841 = .ok (.iadd, 1) := by decide +kernel
theorem dL_law_1842 : decode cL_law 1842 = .ok (.iaload, 1) := by decide +kernel
theorem dL_law_1843 : decode cL_law 1843 = .ok (.aload_n 0, 1) := by decide +kernel
theorem dL_law_1844 : decode cL_law 1844 = .ok (.iload_n 3, 1) := by decide +kernel
theorem dL_law_1845 : decode cL_law 1845 = .ok (.iconst 5, 1) := by decide +kernel
theorem dL_law_1846 : decode cL_law 1846 = .ok (.iadd, 1) := by decide +kernel
theorem dL_law_1847 : decode cL_law 1847 = .ok (.iaload, 1) := by decide +kernel
theorem dL_law_1848 : decode cL_law 1848 = .ok (.invokevirtual 191, 3) := by decide +kernel
theorem dL_law_1851 : decode cL_law 1851 = .ok (.aload_n 2, 1) := by decide +kernel
theorem dL_law_1852 : decode cL_law 1852 = .ok (.aload_n 0, 1) := by decide +kernel
theorem dL_law_1853 : decode cL_law 1853 = .ok (.iload_n 3, 1) := by decide +kernel
theorem dL_law_1854 : decode cL_law 1854 = .ok (.iconst 1, 1) := by decide +kernel
theorem dL_law_1855 : decode cL_law 1855 = .ok (.iadd, 1) := by decide +kernel
theorem dL_law_1856 : decode cL_law 1856 = .ok (.iaload, 1) := by decide +kernel
theorem dL_law_1857 : decode cL_law 1857 = .ok (.aload_n 0, 1) := by decide +kernel
theorem dL_law_1858 : decode cL_law 1858 = .ok (.iload_n 3, 1) := by decide +kernel
theorem dL_law_1859 : decode cL_law 1859 = .ok (.iconst 2, 1) := by decide +kernel
theorem dL_law_1860 : decode cL_law 1860 = .ok (.iadd, 1) := by decide +kernel
theorem dL_law_1861 : decode cL_law 1861 = .ok (.iaload, 1) := by decide +kernel
theorem dL_law_1862 : decode cL_law 1862 = .ok (.aload_n 0, 1) := by decide +kernel
theorem dL_law_1863 : decode cL_law 1863 = .ok (.iload_n 3, 1) := by decide +kernel
theorem dL_law_1864 : decode cL_law 1864 = .ok (.iconst 3, 1) := by decide +kernel
theorem dL_law_1865 : decode cL_law 1865 = .ok (.iadd, 1) := by decide +kernel
theorem dL_law_1866 : decode cL_law 1866 = .ok (.iaload, 1) := by decide +kernel
theorem dL_law_1867 : decode cL_law 1867 = .ok (.aload_n 0, 1) := by decide +kernel
theorem dL_law_1868 : decode cL_law 1868 = .ok (.iload_n 3, 1) := by decide +kernel
theorem dL_law_1869 : decode cL_law 1869 = .ok (.iconst 4, 1) := by decide +kernel
theorem dL_law_1870 : decode cL_law 1870 = .ok (.iadd, 1) := by decide +kernel
theorem dL_law_1871 : decode cL_law 1871 = .ok (.iaload, 1) := by decide +kernel
theorem dL_law_1872 : decode cL_law 1872 = .ok (.aload_n 0, 1) := by decide +kernel
theorem dL_law_1873 : decode cL_law 1873 = .ok (.iload_n 3, 1) := by decide +kernel
theorem dL_law_1874 : decode cL_law 1874 = .ok (.iconst 5, 1) := by decide +kernel
theorem dL_law_1875 : decode cL_law 1875 = .ok (.iadd, 1) := by decide +kernel
theorem dL_law_1876 : decode cL_law 1876 = .ok (.iaload, 1) := by decide +kernel
theorem dL_law_1877 : decode cL_law 1877 = .ok (.invokevirtual 194, 3) := by decide +kernel
theorem dL_law_1880 : decode cL_law 1880 = .ok (.if_icmp .eq 5, 3) := by decide +kernel
theorem dL_law_1883 : decode cL_law 1883 = .ok (.iconst 0, 1) := by decide +kernel
theorem dL_law_1884 : decode cL_law 1884 = .ok (.ireturn, 1) := by decide +kernel
theorem dL_law_1885 : decode cL_law 1885 = .ok (.iinc 3 7, 3) := by decide +kernel
theorem dL_law_1888 : decode cL_law 1888 = .ok (.goto (-1870), 3) := by decide +kernel
theorem dL_law_1891 : decode cL_law 1891 = .ok (.iconst 1, 1) := by decide +kernel
theorem dL_law_1892 : decode cL_law 1892 = .ok (.ireturn, 1) := by decide +kernel
theorem dJxf58ca_isNaN_12338_0 : decode cJxf58ca_isNaN_12338 0 = .ok (.fload_n 0, 1) := by decide +kernel
theorem dJxf58ca_isNaN_12338_1 : decode cJxf58ca_isNaN_12338 1 = .ok (.fload_n 0, 1) := by decide +kernel
theorem dJxf58ca_isNaN_12338_2 : decode cJxf58ca_isNaN_12338 2 = .ok (.fcmp .l, 1) := by decide +kernel
theorem dJxf58ca_isNaN_12338_3 : decode cJxf58ca_isNaN_12338 3 = .ok (.ifCond .eq 7, 3) := by decide +kernel
theorem dJxf58ca_isNaN_12338_6 : decode cJxf58ca_isNaN_12338 6 = .ok (.iconst 1, 1) := by decide +kernel
theorem dJxf58ca_isNaN_12338_7 : decode cJxf58ca_isNaN_12338 7 = .ok (.goto 4, 3) := by decide +kernel
theorem dJxf58ca_isNaN_12338_10 : decode cJxf58ca_isNaN_12338 10 = .ok (.iconst 0, 1) := by decide +kernel
theorem dJxf58ca_isNaN_12338_11 : decode cJxf58ca_isNaN_12338 11 = .ok (.ireturn, 1) := by decide +kernel
theorem dJxf58ca_floatToIntBits_5c35a_0 : decode cJxf58ca_floatToIntBits_5c35a 0 = .ok (.fload_n 0, 1) := by decide +kernel
theorem dJxf58ca_floatToIntBits_5c35a_1 : decode cJxf58ca_floatToIntBits_5c35a 1 = .ok (.invokestatic 59, 3) := by decide +kernel
theorem dJxf58ca_floatToIntBits_5c35a_4 : decode cJxf58ca_floatToIntBits_5c35a 4 = .ok (.ifCond .ne 8, 3) := by decide +kernel
theorem dJxf58ca_floatToIntBits_5c35a_7 : decode cJxf58ca_floatToIntBits_5c35a 7 = .ok (.fload_n 0, 1) := by decide +kernel
theorem dJxf58ca_floatToIntBits_5c35a_8 : decode cJxf58ca_floatToIntBits_5c35a 8 = .ok (.invokestatic 74, 3) := by decide +kernel
theorem dJxf58ca_floatToIntBits_5c35a_11 : decode cJxf58ca_floatToIntBits_5c35a 11 = .ok (.ireturn, 1) := by decide +kernel
theorem dJxf58ca_floatToIntBits_5c35a_12 : decode cJxf58ca_floatToIntBits_5c35a 12 = .ok (.ldc 77, 2) := by decide +kernel
theorem dJxf58ca_floatToIntBits_5c35a_14 : decode cJxf58ca_floatToIntBits_5c35a 14 = .ok (.ireturn, 1) := by decide +kernel
theorem dJ9_abs_0f7a4_0 : decode cJ9_abs_0f7a4 0 = .ok (.iload_n 0, 1) := by decide +kernel
theorem dJ9_abs_0f7a4_1 : decode cJ9_abs_0f7a4 1 = .ok (.ifCond .ge 8, 3) := by decide +kernel
theorem dJ9_abs_0f7a4_4 : decode cJ9_abs_0f7a4 4 = .ok (.iload_n 0, 1) := by decide +kernel
theorem dJ9_abs_0f7a4_5 : decode cJ9_abs_0f7a4 5 = .ok (.ineg, 1) := by decide +kernel
theorem dJ9_abs_0f7a4_6 : decode cJ9_abs_0f7a4 6 = .ok (.goto 4, 3) := by decide +kernel
theorem dJ9_abs_0f7a4_9 : decode cJ9_abs_0f7a4 9 = .ok (.iload_n 0, 1) := by decide +kernel
theorem dJ9_abs_0f7a4_10 : decode cJ9_abs_0f7a4 10 = .ok (.ireturn, 1) := by decide +kernel
theorem dJ9_max_7cf53_0 : decode cJ9_max_7cf53 0 = .ok (.iload_n 0, 1) := by decide +kernel
theorem dJ9_max_7cf53_1 : decode cJ9_max_7cf53 1 = .ok (.iload_n 1, 1) := by decide +kernel
theorem dJ9_max_7cf53_2 : decode cJ9_max_7cf53 2 = .ok (.if_icmp .lt 7, 3) := by decide +kernel
theorem dJ9_max_7cf53_5 : decode cJ9_max_7cf53 5 = .ok (.iload_n 0, 1) := by decide +kernel
theorem dJ9_max_7cf53_6 : decode cJ9_max_7cf53 6 = .ok (.goto 4, 3) := by decide +kernel
theorem dJ9_max_7cf53_9 : decode cJ9_max_7cf53 9 = .ok (.iload_n 1, 1) := by decide +kernel
theorem dJ9_max_7cf53_10 : decode cJ9_max_7cf53 10 = .ok (.ireturn, 1) := by decide +kernel
theorem dJ9_min_7cf53_0 : decode cJ9_min_7cf53 0 = .ok (.iload_n 0, 1) := by decide +kernel
theorem dJ9_min_7cf53_1 : decode cJ9_min_7cf53 1 = .ok (.iload_n 1, 1) := by decide +kernel
theorem dJ9_min_7cf53_2 : decode cJ9_min_7cf53 2 = .ok (.if_icmp .gt 7, 3) := by decide +kernel
theorem dJ9_min_7cf53_5 : decode cJ9_min_7cf53 5 = .ok (.iload_n 0, 1) := by decide +kernel
theorem dJ9_min_7cf53_6 : decode cJ9_min_7cf53 6 = .ok (.goto 4, 3) := by decide +kernel
theorem dJ9_min_7cf53_9 : decode cJ9_min_7cf53 9 = .ok (.iload_n 1, 1) := by decide +kernel
theorem dJ9_min_7cf53_10 : decode cJ9_min_7cf53 10 = .ok (.ireturn, 1) := by decide +kernel
theorem dJ0_length_8abf5_0 : decode cJ0_length_8abf5 0 = .ok (.aload_n 0, 1) := by decide +kernel
theorem dJ0_length_8abf5_1 : decode cJ0_length_8abf5 1 = .ok (.getfield 9, 3) := by decide +kernel
theorem dJ0_length_8abf5_4 : decode cJ0_length_8abf5 4 = .ok (.arraylength, 1) := by decide +kernel
theorem dJ0_length_8abf5_5 : decode cJ0_length_8abf5 5 = .ok (.aload_n 0, 1) := by decide +kernel
theorem dJ0_length_8abf5_6 : decode cJ0_length_8abf5 6 = .ok (.invokevirtual 335, 3) := by decide +kernel
theorem dJ0_length_8abf5_9 : decode cJ0_length_8abf5 9 = .ok (.ishr, 1) := by decide +kernel
theorem dJ0_length_8abf5_10 : decode cJ0_length_8abf5 10 = .ok (.ireturn, 1) := by decide +kernel
theorem dJ0_isEmpty_aae02_0 : decode cJ0_isEmpty_aae02 0 = .ok (.aload_n 0, 1) := by decide +kernel
theorem dJ0_isEmpty_aae02_1 : decode cJ0_isEmpty_aae02 1 = .ok (.getfield 9, 3) := by decide +kernel
theorem dJ0_isEmpty_aae02_4 : decode cJ0_isEmpty_aae02 4 = .ok (.arraylength, 1) := by decide +kernel
theorem dJ0_isEmpty_aae02_5 : decode cJ0_isEmpty_aae02 5 = .ok (.ifCond .ne 7, 3) := by decide +kernel
theorem dJ0_isEmpty_aae02_8 : decode cJ0_isEmpty_aae02 8 = .ok (.iconst 1, 1) := by decide +kernel
theorem dJ0_isEmpty_aae02_9 : decode cJ0_isEmpty_aae02 9 = .ok (.goto 4, 3) := by decide +kernel
theorem dJ0_isEmpty_aae02_12 : decode cJ0_isEmpty_aae02 12 = .ok (.iconst 0, 1) := by decide +kernel
theorem dJ0_isEmpty_aae02_13 : decode cJ0_isEmpty_aae02 13 = .ok (.ireturn, 1) := by decide +kernel
theorem dJ0_charAt_5068e_0 : decode cJ0_charAt_5068e 0 = .ok (.aload_n 0, 1) := by decide +kernel
theorem dJ0_charAt_5068e_1 : decode cJ0_charAt_5068e 1 = .ok (.invokevirtual 492, 3) := by decide +kernel
theorem dJ0_charAt_5068e_4 : decode cJ0_charAt_5068e 4 = .ok (.ifCond .eq 12, 3) := by decide +kernel
theorem dJ0_charAt_5068e_7 : decode cJ0_charAt_5068e 7 = .ok (.aload_n 0, 1) := by decide +kernel
theorem dJ0_charAt_5068e_8 : decode cJ0_charAt_5068e 8 = .ok (.getfield 9, 3) := by decide +kernel
theorem dJ0_charAt_5068e_11 : decode cJ0_charAt_5068e 11 = .ok (.iload_n 1, 1) := by decide +kernel
theorem dJ0_charAt_5068e_12 : decode cJ0_charAt_5068e 12 = .ok (.invokestatic 495, 3) := by decide +kernel
theorem dJ0_charAt_5068e_15 : decode cJ0_charAt_5068e 15 = .ok (.ireturn, 1) := by decide +kernel
theorem dJ0_charAt_5068e_16 : decode cJ0_charAt_5068e 16 = .ok (.aload_n 0, 1) := by decide +kernel
theorem dJ0_charAt_5068e_17 : decode cJ0_charAt_5068e 17 = .ok (.getfield 9, 3) := by decide +kernel
theorem dJ0_charAt_5068e_20 : decode cJ0_charAt_5068e 20 = .ok (.iload_n 1, 1) := by decide +kernel
theorem dJ0_charAt_5068e_21 : decode cJ0_charAt_5068e 21 = .ok (.invokestatic 498, 3) := by decide +kernel
theorem dJ0_charAt_5068e_24 : decode cJ0_charAt_5068e 24 = .ok (.ireturn, 1) := by decide +kernel
theorem dJ0_coder_7d493_0 : decode cJ0_coder_7d493 0 = .ok (.getstatic 38, 3) := by decide +kernel
theorem dJ0_coder_7d493_3 : decode cJ0_coder_7d493 3 = .ok (.ifCond .eq 10, 3) := by decide +kernel
theorem dJ0_coder_7d493_6 : decode cJ0_coder_7d493 6 = .ok (.aload_n 0, 1) := by decide +kernel
theorem dJ0_coder_7d493_7 : decode cJ0_coder_7d493 7 = .ok (.getfield 15, 3) := by decide +kernel
theorem dJ0_coder_7d493_10 : decode cJ0_coder_7d493 10 = .ok (.goto 4, 3) := by decide +kernel
theorem dJ0_coder_7d493_13 : decode cJ0_coder_7d493 13 = .ok (.iconst 1, 1) := by decide +kernel
theorem dJ0_coder_7d493_14 : decode cJ0_coder_7d493 14 = .ok (.ireturn, 1) := by decide +kernel
theorem dJ0_isLatin1_aae02_0 : decode cJ0_isLatin1_aae02 0 = .ok (.getstatic 38, 3) := by decide +kernel
theorem dJ0_isLatin1_aae02_3 : decode cJ0_isLatin1_aae02 3 = .ok (.ifCond .eq 14, 3) := by decide +kernel
theorem dJ0_isLatin1_aae02_6 : decode cJ0_isLatin1_aae02 6 = .ok (.aload_n 0, 1) := by decide +kernel
theorem dJ0_isLatin1_aae02_7 : decode cJ0_isLatin1_aae02 7 = .ok (.getfield 15, 3) := by decide +kernel
theorem dJ0_isLatin1_aae02_10 : decode cJ0_isLatin1_aae02 10 = .ok (.ifCond .ne 7, 3) := by decide +kernel
theorem dJ0_isLatin1_aae02_13 : decode cJ0_isLatin1_aae02 13 = .ok (.iconst 1, 1) := by decide +kernel
theorem dJ0_isLatin1_aae02_14 : decode cJ0_isLatin1_aae02 14 = .ok (.goto 4, 3) := by decide +kernel
theorem dJ0_isLatin1_aae02_17 : decode cJ0_isLatin1_aae02 17 = .ok (.iconst 0, 1) := by decide +kernel
theorem dJ0_isLatin1_aae02_18 : decode cJ0_isLatin1_aae02 18 = .ok (.ireturn, 1) := by decide +kernel
theorem dJ0_checkIndex_df160_0 : decode cJ0_checkIndex_df160 0 = .ok (.iload_n 0, 1) := by decide +kernel
theorem dJ0_checkIndex_df160_1 : decode cJ0_checkIndex_df160 1 = .ok (.iload_n 1, 1) := by decide +kernel
theorem dJ0_checkIndex_df160_2 : decode cJ0_checkIndex_df160 2 = .ok (.getstatic 1053, 3) := by decide +kernel
theorem dJ0_checkIndex_df160_5 : decode cJ0_checkIndex_df160 5 = .ok (.invokestatic 1059, 3) := by decide +kernel
theorem dJ0_checkIndex_df160_8 : decode cJ0_checkIndex_df160 8 = .ok (.pop, 1) := by decide +kernel
theorem dJ0_checkIndex_df160_9 : decode cJ0_checkIndex_df160 9 = .ok (.return_, 1) := by decide +kernel
theorem dJ1_charAt_3b067_0 : decode cJ1_charAt_3b067 0 = .ok (.iload_n 1, 1) := by decide +kernel
theorem dJ1_charAt_3b067_1 : decode cJ1_charAt_3b067 1 = .ok (.aload_n 0, 1) := by decide +kernel
theorem dJ1_charAt_3b067_2 : decode cJ1_charAt_3b067 2 = .ok (.arraylength, 1) := by decide +kernel
theorem dJ1_charAt_3b067_3 : decode cJ1_charAt_3b067 3 = .ok (.invokestatic 9, 3) := by decide +kernel
theorem dJ1_charAt_3b067_6 : decode cJ1_charAt_3b067 6 = .ok (.aload_n 0, 1) := by decide +kernel
theorem dJ1_charAt_3b067_7 : decode cJ1_charAt_3b067 7 = .ok (.iload_n 1, 1) := by decide +kernel
theorem dJ1_charAt_3b067_8 : decode cJ1_charAt_3b067 8 = .ok (.baload, 1) := by decide +kernel
theorem dJ1_charAt_3b067_9 : decode cJ1_charAt_3b067 9 = .ok (.sipush 255, 3) := by decide +kernel
theorem dJ1_charAt_3b067_12 : decode cJ1_charAt_3b067 12 = .ok (.iand, 1) := by decide +kernel
theorem dJ1_charAt_3b067_13 : decode cJ1_charAt_3b067 13 = .ok (.i2c, 1) := by decide +kernel
theorem dJ1_charAt_3b067_14 : decode cJ1_charAt_3b067 14 = .ok (.ireturn, 1) := by decide +kernel
theorem dJ2_getChar_3b067_0 : decode cJ2_getChar_3b067 0 = .ok (.getstatic 44, 3) := by decide +kernel
theorem dJ2_getChar_3b067_3 : decode cJ2_getChar_3b067 3 = .ok (.ifCond .ne 25, 3) := by decide +kernel
theorem dJ2_getChar_3b067_6 : decode cJ2_getChar_3b067 6 = .ok (.iload_n 1, 1) := by decide +kernel
theorem dJ2_getChar_3b067_7 : decode cJ2_getChar_3b067 7 = .ok (.ifCond .lt 11, 3) := by decide +kernel
theorem dJ2_getChar_3b067_10 : decode cJ2_getChar_3b067 10 = .ok (.iload_n 1, 1) := by decide +kernel
theorem dJ2_getChar_3b067_11 : decode cJ2_getChar_3b067 11 = .ok (.aload_n 0, 1) := by decide +kernel
theorem dJ2_getChar_3b067_12 : decode cJ2_getChar_3b067 12 = .ok (.invokestatic 48, 3) := by decide +kernel
theorem dJ2_getChar_3b067_15 : decode cJ2_getChar_3b067 15 = .ok (.if_icmp .lt 13, 3) := by decide +kernel
theorem dJ2_getChar_3b067_18 : decode cJ2_getChar_3b067 18 = .ok (.new 52, 3) := by decide +kernel
theorem dJ2_getChar_3b067_21 : decode cJ2_getChar_3b067 21 = .ok (.dup, 1) := by decide +kernel
theorem dJ2_getChar_3b067_22 : decode cJ2_getChar_3b067 22 = .ok (.ldc 54, 2) := by decide +kernel
theorem dJ2_getChar_3b067_24 : decode cJ2_getChar_3b067 24 = .ok (.invokespecial 56, 3) := by decide +kernel
theorem dJ2_getChar_3b067_27 : decode cJ2_getChar_3b067 27 = .ok (.athrow, 1) := by decide +kernel
theorem dJ2_getChar_3b067_28 : decode cJ2_getChar_3b067 28 = .ok (.iload_n 1, 1) := by decide +kernel
theorem dJ2_getChar_3b067_29 : decode cJ2_getChar_3b067 29 = .ok (.iconst 1, 1) := by decide +kernel
theorem dJ2_getChar_3b067_30 : decode cJ2_getChar_3b067 30 = .ok (.ishl, 1) := by decide +kernel
theorem dJ2_getChar_3b067_31 : decode cJ2_getChar_3b067 31 = .ok (.istore_n 1, 1) := by decide +kernel
theorem dJ2_getChar_3b067_32 : decode cJ2_getChar_3b067 32 = .ok (.aload_n 0, 1) := by decide +kernel
theorem dJ2_getChar_3b067_33 : decode cJ2_getChar_3b067 33 = .ok (.iload_n 1, 1) := by decide +kernel
theorem dJ2_getChar_3b067_34 : decode cJ2_getChar_3b067 34 = .ok (.iinc 1 1, 3) := by decide +kernel
theorem dJ2_getChar_3b067_37 : decode cJ2_getChar_3b067 37 = .ok (.baload, 1) := by decide +kernel
theorem dJ2_getChar_3b067_38 : decode cJ2_getChar_3b067 38 = .ok (.sipush 255, 3) := by decide +kernel
theorem dJ2_getChar_3b067_41 : decode cJ2_getChar_3b067 41 = .ok (.iand, 1) := by decide +kernel
theorem dJ2_getChar_3b067_42 : decode cJ2_getChar_3b067 42 = .ok (.getstatic 59, 3) := by decide +kernel
theorem dJ2_getChar_3b067_45 : decode cJ2_getChar_3b067 45 = .ok (.ishl, 1) := by decide +kernel
theorem dJ2_getChar_3b067_46 : decode cJ2_getChar_3b067 46 = .ok (.aload_n 0, 1) := by decide +kernel
theorem dJ2_getChar_3b067_47 : decode cJ2_getChar_3b067 47 = .ok (.iload_n 1, 1) := by decide +kernel
theorem dJ2_getChar_3b067_48 : decode cJ2_getChar_3b067 48 = .ok (.baload, 1) := by decide +kernel
theorem dJ2_getChar_3b067_49 : decode cJ2_getChar_3b067 49 = .ok (.sipush 255, 3) := by decide +kernel
theorem dJ2_getChar_3b067_52 : decode cJ2_getChar_3b067 52 = .ok (.iand, 1) := by decide +kernel
theorem dJ2_getChar_3b067_53 : decode cJ2_getChar_3b067 53 = .ok (.getstatic 63, 3) := by decide +kernel
theorem dJ2_getChar_3b067_56 : decode cJ2_getChar_3b067 56 = .ok (.ishl, 1) := by decide +kernel
theorem dJ2_getChar_3b067_57 : decode cJ2_getChar_3b067 57 = .ok (.ior, 1) := by decide +kernel
theorem dJ2_getChar_3b067_58 : decode cJ2_getChar_3b067 58 = .ok (.i2c, 1) := by decide +kernel
theorem dJ2_getChar_3b067_59 : decode cJ2_getChar_3b067 59 = .ok (.ireturn, 1) := by decide +kernel
theorem dJ2_length_9d52b_0 : decode cJ2_length_9d52b 0 = .ok (.aload_n 0, 1) := by decide +kernel
theorem dJ2_length_9d52b_1 : decode cJ2_length_9d52b 1 = .ok (.arraylength, 1) := by decide +kernel
theorem dJ2_length_9d52b_2 : decode cJ2_length_9d52b 2 = .ok (.iconst 1, 1) := by decide +kernel
theorem dJ2_length_9d52b_3 : decode cJ2_length_9d52b 3 = .ok (.ishr, 1) := by decide +kernel
theorem dJ2_length_9d52b_4 : decode cJ2_length_9d52b 4 = .ok (.ireturn, 1) := by decide +kernel
theorem dJ2_charAt_3b067_0 : decode cJ2_charAt_3b067 0 = .ok (.iload_n 1, 1) := by decide +kernel
theorem dJ2_charAt_3b067_1 : decode cJ2_charAt_3b067 1 = .ok (.aload_n 0, 1) := by decide +kernel
theorem dJ2_charAt_3b067_2 : decode cJ2_charAt_3b067 2 = .ok (.invokestatic 67, 3) := by decide +kernel
theorem dJ2_charAt_3b067_5 : decode cJ2_charAt_3b067 5 = .ok (.aload_n 0, 1) := by decide +kernel
theorem dJ2_charAt_3b067_6 : decode cJ2_charAt_3b067 6 = .ok (.iload_n 1, 1) := by decide +kernel
theorem dJ2_charAt_3b067_7 : decode cJ2_charAt_3b067 7 = .ok (.invokestatic 71, 3) := by decide +kernel
theorem dJ2_charAt_3b067_10 : decode cJ2_charAt_3b067 10 = .ok (.ireturn, 1) := by decide +kernel
theorem dJ2_checkIndex_2214a_0 : decode cJ2_checkIndex_2214a 0 = .ok (.iload_n 0, 1) := by decide +kernel
theorem dJ2_checkIndex_2214a_1 : decode cJ2_checkIndex_2214a 1 = .ok (.aload_n 1, 1) := by decide +kernel
theorem dJ2_checkIndex_2214a_2 : decode cJ2_checkIndex_2214a 2 = .ok (.invokestatic 48, 3) := by decide +kernel
theorem dJ2_checkIndex_2214a_5 : decode cJ2_checkIndex_2214a 5 = .ok (.invokestatic 414, 3) := by decide +kernel
theorem dJ2_checkIndex_2214a_8 : decode cJ2_checkIndex_2214a 8 = .ok (.return_, 1) := by decide +kernel
theorem dJ3_checkIndex_8e157_0 : decode cJ3_checkIndex_8e157 0 = .ok (.iload_n 0, 1) := by decide +kernel
theorem dJ3_checkIndex_8e157_1 : decode cJ3_checkIndex_8e157 1 = .ok (.ifCond .lt 8, 3) := by decide +kernel
theorem dJ3_checkIndex_8e157_4 : decode cJ3_checkIndex_8e157 4 = .ok (.iload_n 0, 1) := by decide +kernel
theorem dJ3_checkIndex_8e157_5 : decode cJ3_checkIndex_8e157 5 = .ok (.iload_n 1, 1) := by decide +kernel
theorem dJ3_checkIndex_8e157_6 : decode cJ3_checkIndex_8e157 6 = .ok (.if_icmp .lt 10, 3) := by decide +kernel
theorem dJ3_checkIndex_8e157_9 : decode cJ3_checkIndex_8e157 9 = .ok (.aload_n 2, 1) := by decide +kernel
theorem dJ3_checkIndex_8e157_10 : decode cJ3_checkIndex_8e157 10 = .ok (.iload_n 0, 1) := by decide +kernel
theorem dJ3_checkIndex_8e157_11 : decode cJ3_checkIndex_8e157 11 = .ok (.iload_n 1, 1) := by decide +kernel
theorem dJ3_checkIndex_8e157_12 : decode cJ3_checkIndex_8e157 12 = .ok (.invokestatic 95, 3) := by decide +kernel
theorem dJ3_checkIndex_8e157_15 : decode cJ3_checkIndex_8e157 15 = .ok (.athrow, 1) := by decide +kernel
theorem dJ3_checkIndex_8e157_16 : decode cJ3_checkIndex_8e157 16 = .ok (.iload_n 0, 1) := by decide +kernel
theorem dJ3_checkIndex_8e157_17 : decode cJ3_checkIndex_8e157 17 = .ok (.ireturn, 1) := by decide +kernel

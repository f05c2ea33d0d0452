/-! ===== what stands where in the program ===== -/
section
variable {L : Nat} {xs : Nat → Int32}
theorem lk_37_0 : (zPr L xs).1 37 0 = o_push (.long 0) 1 := rfl
theorem lk_37_1 : (zPr L xs).1 37 1 = o_lstore 2 1 := rfl
theorem lk_37_2 : (zPr L xs).1 37 2 = o_push (.int (1)) 1 := rfl
theorem lk_37_3 : (zPr L xs).1 37 3 = o_istore 4 2 := rfl
theorem lk_37_5 : (zPr L xs).1 37 5 = o_push (.int (0)) 1 := rfl
theorem lk_37_6 : (zPr L xs).1 37 6 = o_istore 5 2 := rfl
theorem lk_37_8 : (zPr L xs).1 37 8 = o_iload 5 2 := rfl
theorem lk_37_10 : (zPr L xs).1 37 10 = o_push (.int (48)) 2 := rfl
theorem lk_37_12 : (zPr L xs).1 37 12 = o_icge 87 := rfl
theorem lk_37_15 : (zPr L xs).1 37 15 = o_iload 4 2 := rfl
theorem lk_37_17 : (zPr L xs).1 37 17 = o_ifeq 87 := rfl
theorem lk_37_20 : (zPr L xs).1 37 20 = o_aload 0 1 := rfl
theorem lk_37_21 : (zPr L xs).1 37 21 = o_iload 1 1 := rfl
theorem lk_37_22 : (zPr L xs).1 37 22 = o_cv 38 1 5 (4 + 1) (4 + 1) := rfl
theorem lk_37_25 : (zPr L xs).1 37 25 = o_istore 6 2 := rfl
theorem lk_37_27 : (zPr L xs).1 37 27 = o_aload 0 1 := rfl
theorem lk_37_28 : (zPr L xs).1 37 28 = o_push (.int (58)) 2 := rfl
theorem lk_37_30 : (zPr L xs).1 37 30 = o_cv 40 1 2 (4 + 1) (4 + 1) := rfl
theorem lk_37_33 : (zPr L xs).1 37 33 = o_ifeq 44 := rfl
theorem lk_37_36 : (zPr L xs).1 37 36 = o_aload 0 1 := rfl
theorem lk_37_37 : (zPr L xs).1 37 37 = o_iload 1 1 := rfl
theorem lk_37_38 : (zPr L xs).1 37 38 = o_cv 38 1 5 (4 + 1) (4 + 1) := rfl
theorem lk_37_41 : (zPr L xs).1 37 41 = o_goto 46 := rfl
theorem lk_37_44 : (zPr L xs).1 37 44 = o_iload 6 2 := rfl
theorem lk_37_46 : (zPr L xs).1 37 46 = o_istore 7 2 := rfl
theorem lk_37_48 : (zPr L xs).1 37 48 = o_lload 2 1 := rfl
theorem lk_37_49 : (zPr L xs).1 37 49 = o_aload 0 1 := rfl
theorem lk_37_50 : (zPr L xs).1 37 50 = o_gfR (4 + 1) (zgf 4 2) := rfl
theorem lk_37_53 : (zPr L xs).1 37 53 = o_iload 6 2 := rfl
theorem lk_37_55 : (zPr L xs).1 37 55 = o_iload 7 2 := rfl
theorem lk_37_57 : (zPr L xs).1 37 57 = o_mx (fun x y => if y < x then y else x) := rfl
theorem lk_37_60 : (zPr L xs).1 37 60 = o_iload 6 2 := rfl
theorem lk_37_62 : (zPr L xs).1 37 62 = o_iload 7 2 := rfl
theorem lk_37_64 : (zPr L xs).1 37 64 = o_mx (fun x y => if x < y then y else x) := rfl
theorem lk_37_67 : (zPr L xs).1 37 67 = o_iload 1 1 := rfl
theorem lk_37_68 : (zPr L xs).1 37 68 = o_cv 66 3 8 (7 + 1) (7 + 1) := rfl
theorem lk_37_71 : (zPr L xs).1 37 71 = o_lop (fun x y => x ||| y) := rfl
theorem lk_37_72 : (zPr L xs).1 37 72 = o_lstore 2 1 := rfl
theorem lk_37_73 : (zPr L xs).1 37 73 = o_aload 0 1 := rfl
theorem lk_37_74 : (zPr L xs).1 37 74 = o_push (.int (44)) 2 := rfl
theorem lk_37_76 : (zPr L xs).1 37 76 = o_cv 40 1 2 (4 + 1) (4 + 1) := rfl
theorem lk_37_79 : (zPr L xs).1 37 79 = o_istore 4 2 := rfl
theorem lk_37_81 : (zPr L xs).1 37 81 = o_iinc 5 (1) := rfl
theorem lk_37_84 : (zPr L xs).1 37 84 = o_goto 8 := rfl
theorem lk_37_87 : (zPr L xs).1 37 87 = o_lload 2 1 := rfl
theorem lk_37_88 : (zPr L xs).1 37 88 = o_lret := rfl
theorem lk_91_0 : (zPr L xs).1 91 0 = o_iload 1 1 := rfl
theorem lk_91_1 : (zPr L xs).1 91 1 = o_aload 0 1 := rfl
theorem lk_91_2 : (zPr L xs).1 91 2 = o_gfR (9 + 1) (zgf 9 17) := rfl
theorem lk_91_5 : (zPr L xs).1 91 5 = o_aload 0 1 := rfl
theorem lk_91_6 : (zPr L xs).1 91 6 = o_gfI (9 + 1) (zgf 9 20) := rfl
theorem lk_91_9 : (zPr L xs).1 91 9 = o_xald 20 := rfl
theorem lk_91_10 : (zPr L xs).1 91 10 = o_icge 30 := rfl
theorem lk_91_13 : (zPr L xs).1 91 13 = o_aload 0 1 := rfl
theorem lk_91_14 : (zPr L xs).1 91 14 = o_gfR (9 + 1) (zgf 9 16) := rfl
theorem lk_91_17 : (zPr L xs).1 91 17 = o_push (.int (48)) 2 := rfl
theorem lk_91_19 : (zPr L xs).1 91 19 = o_aload 0 1 := rfl
theorem lk_91_20 : (zPr L xs).1 91 20 = o_gfI (9 + 1) (zgf 9 20) := rfl
theorem lk_91_23 : (zPr L xs).1 91 23 = o_iop (fun x y => x * y) := rfl
theorem lk_91_24 : (zPr L xs).1 91 24 = o_iload 1 1 := rfl
theorem lk_91_25 : (zPr L xs).1 91 25 = o_iop (fun x y => x + y) := rfl
theorem lk_91_26 : (zPr L xs).1 91 26 = o_xald 20 := rfl
theorem lk_91_27 : (zPr L xs).1 91 27 = o_goto 31 := rfl
theorem lk_91_30 : (zPr L xs).1 91 30 = o_push (.int (0)) 1 := rfl
theorem lk_91_31 : (zPr L xs).1 91 31 = o_iret (fun x => x) := rfl
theorem lk_160_0 : (zPr L xs).1 160 0 = o_new (8 + 1) 3 := rfl
theorem lk_160_3 : (zPr L xs).1 160 3 = o_dup := rfl
theorem lk_160_4 : (zPr L xs).1 160 4 = o_cv 70 0 2 (8 + 1) (8 + 1) := rfl
theorem lk_160_7 : (zPr L xs).1 160 7 = o_astore 1 1 := rfl
theorem lk_160_8 : (zPr L xs).1 160 8 = o_new (9 + 1) 39 := rfl
theorem lk_160_11 : (zPr L xs).1 160 11 = o_dup := rfl
theorem lk_160_12 : (zPr L xs).1 160 12 = o_cv 86 0 2 (9 + 1) (9 + 1) := rfl
theorem lk_160_15 : (zPr L xs).1 160 15 = o_astore 2 1 := rfl
theorem lk_160_16 : (zPr L xs).1 160 16 = o_push (.int (1)) 1 := rfl
theorem lk_160_17 : (zPr L xs).1 160 17 = o_newa 21 2 := rfl
theorem lk_160_19 : (zPr L xs).1 160 19 = o_astore 3 1 := rfl
theorem lk_160_20 : (zPr L xs).1 160 20 = o_push (.int (0)) 1 := rfl
theorem lk_160_21 : (zPr L xs).1 160 21 = o_istore 4 2 := rfl
theorem lk_160_23 : (zPr L xs).1 160 23 = o_iload 4 2 := rfl
theorem lk_160_25 : (zPr L xs).1 160 25 = o_aload 0 1 := rfl
theorem lk_160_26 : (zPr L xs).1 160 26 = o_xlen L := rfl
theorem lk_160_27 : (zPr L xs).1 160 27 = o_push (.int (4)) 1 := rfl
theorem lk_160_28 : (zPr L xs).1 160 28 = o_iop (fun x y => x - y) := rfl
theorem lk_160_29 : (zPr L xs).1 160 29 = o_icgt 511 := rfl
theorem lk_160_32 : (zPr L xs).1 160 32 = o_aload 0 1 := rfl
theorem lk_160_33 : (zPr L xs).1 160 33 = o_iload 4 2 := rfl
theorem lk_160_35 : (zPr L xs).1 160 35 = o_sald L xs := rfl
theorem lk_160_36 : (zPr L xs).1 160 36 = o_push (.int (7)) 2 := rfl
theorem lk_160_38 : (zPr L xs).1 160 38 = o_iop (fun x y => x &&& y) := rfl
theorem lk_160_39 : (zPr L xs).1 160 39 = o_tsw (0) (7) [84, 159, 215, 251, 307, 375, 400, 425] 505 := rfl
theorem lk_160_84 : (zPr L xs).1 160 84 = o_aload 1 1 := rfl
theorem lk_160_85 : (zPr L xs).1 160 85 = o_aload 0 1 := rfl
theorem lk_160_86 : (zPr L xs).1 160 86 = o_iload 4 2 := rfl
theorem lk_160_88 : (zPr L xs).1 160 88 = o_push (.int (1)) 1 := rfl
theorem lk_160_89 : (zPr L xs).1 160 89 = o_iop (fun x y => x + y) := rfl
theorem lk_160_90 : (zPr L xs).1 160 90 = o_sald L xs := rfl
theorem lk_160_91 : (zPr L xs).1 160 91 = o_aload 0 1 := rfl
theorem lk_160_92 : (zPr L xs).1 160 92 = o_iload 4 2 := rfl
theorem lk_160_94 : (zPr L xs).1 160 94 = o_push (.int (2)) 1 := rfl
theorem lk_160_95 : (zPr L xs).1 160 95 = o_iop (fun x y => x + y) := rfl
theorem lk_160_96 : (zPr L xs).1 160 96 = o_sald L xs := rfl
theorem lk_160_97 : (zPr L xs).1 160 97 = o_aload 3 1 := rfl
theorem lk_160_98 : (zPr L xs).1 160 98 = o_cs 154 4 5 := rfl
theorem lk_160_101 : (zPr L xs).1 160 101 = o_istore 5 2 := rfl
theorem lk_160_103 : (zPr L xs).1 160 103 = o_aload 2 1 := rfl
theorem lk_160_104 : (zPr L xs).1 160 104 = o_aload 0 1 := rfl
theorem lk_160_105 : (zPr L xs).1 160 105 = o_iload 4 2 := rfl
theorem lk_160_107 : (zPr L xs).1 160 107 = o_push (.int (1)) 1 := rfl
theorem lk_160_108 : (zPr L xs).1 160 108 = o_iop (fun x y => x + y) := rfl
theorem lk_160_109 : (zPr L xs).1 160 109 = o_sald L xs := rfl
theorem lk_160_110 : (zPr L xs).1 160 110 = o_aload 0 1 := rfl
theorem lk_160_111 : (zPr L xs).1 160 111 = o_iload 4 2 := rfl
theorem lk_160_113 : (zPr L xs).1 160 113 = o_push (.int (2)) 1 := rfl
theorem lk_160_114 : (zPr L xs).1 160 114 = o_iop (fun x y => x + y) := rfl
theorem lk_160_115 : (zPr L xs).1 160 115 = o_sald L xs := rfl
theorem lk_160_116 : (zPr L xs).1 160 116 = o_cv 145 2 7 (9 + 1) (9 + 1) := rfl
theorem lk_160_119 : (zPr L xs).1 160 119 = o_istore 6 2 := rfl
theorem lk_160_121 : (zPr L xs).1 160 121 = o_aload 2 1 := rfl
theorem lk_160_122 : (zPr L xs).1 160 122 = o_cv 87 0 1 (9 + 1) (9 + 1) := rfl
theorem lk_160_125 : (zPr L xs).1 160 125 = o_iload 5 2 := rfl
theorem lk_160_127 : (zPr L xs).1 160 127 = o_iceq 132 := rfl
theorem lk_160_130 : (zPr L xs).1 160 130 = o_push (.int (0)) 1 := rfl
theorem lk_160_131 : (zPr L xs).1 160 131 = o_iret (fun x => x &&& 1) := rfl
theorem lk_160_132 : (zPr L xs).1 160 132 = o_iload 5 2 := rfl
theorem lk_160_134 : (zPr L xs).1 160 134 = o_ifne 156 := rfl
theorem lk_160_137 : (zPr L xs).1 160 137 = o_aload 3 1 := rfl
theorem lk_160_138 : (zPr L xs).1 160 138 = o_push (.int (0)) 1 := rfl
theorem lk_160_139 : (zPr L xs).1 160 139 = o_lald := rfl
theorem lk_160_140 : (zPr L xs).1 160 140 = o_iload 6 2 := rfl
theorem lk_160_142 : (zPr L xs).1 160 142 = o_ifeq 149 := rfl
theorem lk_160_145 : (zPr L xs).1 160 145 = o_push (.long 1) 1 := rfl
theorem lk_160_146 : (zPr L xs).1 160 146 = o_goto 150 := rfl
theorem lk_160_149 : (zPr L xs).1 160 149 = o_push (.long 0) 1 := rfl
theorem lk_160_150 : (zPr L xs).1 160 150 = o_lcmp := rfl
theorem lk_160_151 : (zPr L xs).1 160 151 = o_ifeq 156 := rfl
theorem lk_160_154 : (zPr L xs).1 160 154 = o_push (.int (0)) 1 := rfl
theorem lk_160_155 : (zPr L xs).1 160 155 = o_iret (fun x => x &&& 1) := rfl
theorem lk_160_156 : (zPr L xs).1 160 156 = o_goto 505 := rfl
theorem lk_160_159 : (zPr L xs).1 160 159 = o_aload 1 1 := rfl
theorem lk_160_160 : (zPr L xs).1 160 160 = o_aload 0 1 := rfl
theorem lk_160_161 : (zPr L xs).1 160 161 = o_iload 4 2 := rfl
theorem lk_160_163 : (zPr L xs).1 160 163 = o_push (.int (1)) 1 := rfl
theorem lk_160_164 : (zPr L xs).1 160 164 = o_iop (fun x y => x + y) := rfl
theorem lk_160_165 : (zPr L xs).1 160 165 = o_sald L xs := rfl
theorem lk_160_166 : (zPr L xs).1 160 166 = o_aload 3 1 := rfl
theorem lk_160_167 : (zPr L xs).1 160 167 = o_cs 155 3 4 := rfl
theorem lk_160_170 : (zPr L xs).1 160 170 = o_istore 5 2 := rfl
theorem lk_160_172 : (zPr L xs).1 160 172 = o_aload 2 1 := rfl
theorem lk_160_173 : (zPr L xs).1 160 173 = o_aload 0 1 := rfl
theorem lk_160_174 : (zPr L xs).1 160 174 = o_iload 4 2 := rfl
theorem lk_160_176 : (zPr L xs).1 160 176 = o_push (.int (1)) 1 := rfl
theorem lk_160_177 : (zPr L xs).1 160 177 = o_iop (fun x y => x + y) := rfl
theorem lk_160_178 : (zPr L xs).1 160 178 = o_sald L xs := rfl
theorem lk_160_179 : (zPr L xs).1 160 179 = o_cv 146 1 5 (9 + 1) (9 + 1) := rfl
theorem lk_160_182 : (zPr L xs).1 160 182 = o_istore 6 2 := rfl
theorem lk_160_184 : (zPr L xs).1 160 184 = o_aload 2 1 := rfl
theorem lk_160_185 : (zPr L xs).1 160 185 = o_cv 87 0 1 (9 + 1) (9 + 1) := rfl
theorem lk_160_188 : (zPr L xs).1 160 188 = o_iload 5 2 := rfl
theorem lk_160_190 : (zPr L xs).1 160 190 = o_iceq 195 := rfl
theorem lk_160_193 : (zPr L xs).1 160 193 = o_push (.int (0)) 1 := rfl
theorem lk_160_194 : (zPr L xs).1 160 194 = o_iret (fun x => x &&& 1) := rfl
theorem lk_160_195 : (zPr L xs).1 160 195 = o_iload 5 2 := rfl
theorem lk_160_197 : (zPr L xs).1 160 197 = o_ifne 212 := rfl
theorem lk_160_200 : (zPr L xs).1 160 200 = o_aload 3 1 := rfl
theorem lk_160_201 : (zPr L xs).1 160 201 = o_push (.int (0)) 1 := rfl
theorem lk_160_202 : (zPr L xs).1 160 202 = o_lald := rfl
theorem lk_160_203 : (zPr L xs).1 160 203 = o_iload 6 2 := rfl
theorem lk_160_205 : (zPr L xs).1 160 205 = o_i2l := rfl
theorem lk_160_206 : (zPr L xs).1 160 206 = o_lcmp := rfl
theorem lk_160_207 : (zPr L xs).1 160 207 = o_ifeq 212 := rfl
theorem lk_160_210 : (zPr L xs).1 160 210 = o_push (.int (0)) 1 := rfl
theorem lk_160_211 : (zPr L xs).1 160 211 = o_iret (fun x => x &&& 1) := rfl
theorem lk_160_212 : (zPr L xs).1 160 212 = o_goto 505 := rfl
theorem lk_160_215 : (zPr L xs).1 160 215 = o_aload 1 1 := rfl
theorem lk_160_216 : (zPr L xs).1 160 216 = o_aload 0 1 := rfl
theorem lk_160_217 : (zPr L xs).1 160 217 = o_iload 4 2 := rfl
theorem lk_160_219 : (zPr L xs).1 160 219 = o_push (.int (1)) 1 := rfl
theorem lk_160_220 : (zPr L xs).1 160 220 = o_iop (fun x y => x + y) := rfl
theorem lk_160_221 : (zPr L xs).1 160 221 = o_sald L xs := rfl
theorem lk_160_222 : (zPr L xs).1 160 222 = o_cs 156 2 3 := rfl
theorem lk_160_225 : (zPr L xs).1 160 225 = o_istore 5 2 := rfl
theorem lk_160_227 : (zPr L xs).1 160 227 = o_aload 2 1 := rfl
theorem lk_160_228 : (zPr L xs).1 160 228 = o_aload 0 1 := rfl
theorem lk_160_229 : (zPr L xs).1 160 229 = o_iload 4 2 := rfl
theorem lk_160_231 : (zPr L xs).1 160 231 = o_push (.int (1)) 1 := rfl
theorem lk_160_232 : (zPr L xs).1 160 232 = o_iop (fun x y => x + y) := rfl
theorem lk_160_233 : (zPr L xs).1 160 233 = o_sald L xs := rfl
theorem lk_160_234 : (zPr L xs).1 160 234 = o_cv 147 1 2 (9 + 1) (9 + 1) := rfl
theorem lk_160_237 : (zPr L xs).1 160 237 = o_aload 2 1 := rfl
theorem lk_160_238 : (zPr L xs).1 160 238 = o_cv 87 0 1 (9 + 1) (9 + 1) := rfl
theorem lk_160_241 : (zPr L xs).1 160 241 = o_iload 5 2 := rfl
theorem lk_160_243 : (zPr L xs).1 160 243 = o_iceq 248 := rfl
theorem lk_160_246 : (zPr L xs).1 160 246 = o_push (.int (0)) 1 := rfl
theorem lk_160_247 : (zPr L xs).1 160 247 = o_iret (fun x => x &&& 1) := rfl
theorem lk_160_248 : (zPr L xs).1 160 248 = o_goto 505 := rfl
theorem lk_160_251 : (zPr L xs).1 160 251 = o_aload 1 1 := rfl
theorem lk_160_252 : (zPr L xs).1 160 252 = o_aload 0 1 := rfl
theorem lk_160_253 : (zPr L xs).1 160 253 = o_iload 4 2 := rfl
theorem lk_160_255 : (zPr L xs).1 160 255 = o_push (.int (1)) 1 := rfl
theorem lk_160_256 : (zPr L xs).1 160 256 = o_iop (fun x y => x + y) := rfl
theorem lk_160_257 : (zPr L xs).1 160 257 = o_sald L xs := rfl
theorem lk_160_258 : (zPr L xs).1 160 258 = o_aload 3 1 := rfl
theorem lk_160_259 : (zPr L xs).1 160 259 = o_cs 157 3 4 := rfl
theorem lk_160_262 : (zPr L xs).1 160 262 = o_istore 5 2 := rfl
theorem lk_160_264 : (zPr L xs).1 160 264 = o_aload 2 1 := rfl
theorem lk_160_265 : (zPr L xs).1 160 265 = o_aload 0 1 := rfl
theorem lk_160_266 : (zPr L xs).1 160 266 = o_iload 4 2 := rfl
theorem lk_160_268 : (zPr L xs).1 160 268 = o_push (.int (1)) 1 := rfl
theorem lk_160_269 : (zPr L xs).1 160 269 = o_iop (fun x y => x + y) := rfl
theorem lk_160_270 : (zPr L xs).1 160 270 = o_sald L xs := rfl
theorem lk_160_271 : (zPr L xs).1 160 271 = o_cv 148 1 2 (9 + 1) (9 + 1) := rfl
theorem lk_160_274 : (zPr L xs).1 160 274 = o_istore 6 2 := rfl
theorem lk_160_276 : (zPr L xs).1 160 276 = o_aload 2 1 := rfl
theorem lk_160_277 : (zPr L xs).1 160 277 = o_cv 87 0 1 (9 + 1) (9 + 1) := rfl
theorem lk_160_280 : (zPr L xs).1 160 280 = o_iload 5 2 := rfl
theorem lk_160_282 : (zPr L xs).1 160 282 = o_iceq 287 := rfl
theorem lk_160_285 : (zPr L xs).1 160 285 = o_push (.int (0)) 1 := rfl
theorem lk_160_286 : (zPr L xs).1 160 286 = o_iret (fun x => x &&& 1) := rfl
theorem lk_160_287 : (zPr L xs).1 160 287 = o_iload 5 2 := rfl
theorem lk_160_289 : (zPr L xs).1 160 289 = o_ifne 304 := rfl
theorem lk_160_292 : (zPr L xs).1 160 292 = o_aload 3 1 := rfl
theorem lk_160_293 : (zPr L xs).1 160 293 = o_push (.int (0)) 1 := rfl
theorem lk_160_294 : (zPr L xs).1 160 294 = o_lald := rfl
theorem lk_160_295 : (zPr L xs).1 160 295 = o_iload 6 2 := rfl
theorem lk_160_297 : (zPr L xs).1 160 297 = o_i2l := rfl
theorem lk_160_298 : (zPr L xs).1 160 298 = o_lcmp := rfl
theorem lk_160_299 : (zPr L xs).1 160 299 = o_ifeq 304 := rfl
theorem lk_160_302 : (zPr L xs).1 160 302 = o_push (.int (0)) 1 := rfl
theorem lk_160_303 : (zPr L xs).1 160 303 = o_iret (fun x => x &&& 1) := rfl
theorem lk_160_304 : (zPr L xs).1 160 304 = o_goto 505 := rfl
theorem lk_160_307 : (zPr L xs).1 160 307 = o_aload 1 1 := rfl
theorem lk_160_308 : (zPr L xs).1 160 308 = o_aload 0 1 := rfl
theorem lk_160_309 : (zPr L xs).1 160 309 = o_iload 4 2 := rfl
theorem lk_160_311 : (zPr L xs).1 160 311 = o_push (.int (1)) 1 := rfl
theorem lk_160_312 : (zPr L xs).1 160 312 = o_iop (fun x y => x + y) := rfl
theorem lk_160_313 : (zPr L xs).1 160 313 = o_sald L xs := rfl
theorem lk_160_314 : (zPr L xs).1 160 314 = o_aload 0 1 := rfl
theorem lk_160_315 : (zPr L xs).1 160 315 = o_iload 4 2 := rfl
theorem lk_160_317 : (zPr L xs).1 160 317 = o_push (.int (2)) 1 := rfl
theorem lk_160_318 : (zPr L xs).1 160 318 = o_iop (fun x y => x + y) := rfl
theorem lk_160_319 : (zPr L xs).1 160 319 = o_sald L xs := rfl
theorem lk_160_320 : (zPr L xs).1 160 320 = o_aload 3 1 := rfl
theorem lk_160_321 : (zPr L xs).1 160 321 = o_cs 158 4 5 := rfl
theorem lk_160_324 : (zPr L xs).1 160 324 = o_istore 5 2 := rfl
theorem lk_160_326 : (zPr L xs).1 160 326 = o_aload 2 1 := rfl
theorem lk_160_327 : (zPr L xs).1 160 327 = o_aload 0 1 := rfl
theorem lk_160_328 : (zPr L xs).1 160 328 = o_iload 4 2 := rfl
theorem lk_160_330 : (zPr L xs).1 160 330 = o_push (.int (1)) 1 := rfl
theorem lk_160_331 : (zPr L xs).1 160 331 = o_iop (fun x y => x + y) := rfl
theorem lk_160_332 : (zPr L xs).1 160 332 = o_sald L xs := rfl
theorem lk_160_333 : (zPr L xs).1 160 333 = o_aload 0 1 := rfl
theorem lk_160_334 : (zPr L xs).1 160 334 = o_iload 4 2 := rfl
theorem lk_160_336 : (zPr L xs).1 160 336 = o_push (.int (2)) 1 := rfl
theorem lk_160_337 : (zPr L xs).1 160 337 = o_iop (fun x y => x + y) := rfl
theorem lk_160_338 : (zPr L xs).1 160 338 = o_sald L xs := rfl
theorem lk_160_339 : (zPr L xs).1 160 339 = o_cv 149 2 3 (9 + 1) (9 + 1) := rfl
theorem lk_160_342 : (zPr L xs).1 160 342 = o_istore 6 2 := rfl
theorem lk_160_344 : (zPr L xs).1 160 344 = o_aload 2 1 := rfl
theorem lk_160_345 : (zPr L xs).1 160 345 = o_cv 87 0 1 (9 + 1) (9 + 1) := rfl
theorem lk_160_348 : (zPr L xs).1 160 348 = o_iload 5 2 := rfl
theorem lk_160_350 : (zPr L xs).1 160 350 = o_iceq 355 := rfl
theorem lk_160_353 : (zPr L xs).1 160 353 = o_push (.int (0)) 1 := rfl
theorem lk_160_354 : (zPr L xs).1 160 354 = o_iret (fun x => x &&& 1) := rfl
theorem lk_160_355 : (zPr L xs).1 160 355 = o_iload 5 2 := rfl
theorem lk_160_357 : (zPr L xs).1 160 357 = o_ifne 372 := rfl
theorem lk_160_360 : (zPr L xs).1 160 360 = o_aload 3 1 := rfl
theorem lk_160_361 : (zPr L xs).1 160 361 = o_push (.int (0)) 1 := rfl
theorem lk_160_362 : (zPr L xs).1 160 362 = o_lald := rfl
theorem lk_160_363 : (zPr L xs).1 160 363 = o_iload 6 2 := rfl
theorem lk_160_365 : (zPr L xs).1 160 365 = o_i2l := rfl
theorem lk_160_366 : (zPr L xs).1 160 366 = o_lcmp := rfl
theorem lk_160_367 : (zPr L xs).1 160 367 = o_ifeq 372 := rfl
theorem lk_160_370 : (zPr L xs).1 160 370 = o_push (.int (0)) 1 := rfl
theorem lk_160_371 : (zPr L xs).1 160 371 = o_iret (fun x => x &&& 1) := rfl
theorem lk_160_372 : (zPr L xs).1 160 372 = o_goto 505 := rfl
theorem lk_160_375 : (zPr L xs).1 160 375 = o_aload 1 1 := rfl
theorem lk_160_376 : (zPr L xs).1 160 376 = o_aload 0 1 := rfl
theorem lk_160_377 : (zPr L xs).1 160 377 = o_iload 4 2 := rfl
theorem lk_160_379 : (zPr L xs).1 160 379 = o_push (.int (1)) 1 := rfl
theorem lk_160_380 : (zPr L xs).1 160 380 = o_iop (fun x y => x + y) := rfl
theorem lk_160_381 : (zPr L xs).1 160 381 = o_sald L xs := rfl
theorem lk_160_382 : (zPr L xs).1 160 382 = o_cv 76 1 2 (8 + 1) (8 + 1) := rfl
theorem lk_160_385 : (zPr L xs).1 160 385 = o_aload 2 1 := rfl
theorem lk_160_386 : (zPr L xs).1 160 386 = o_aload 0 1 := rfl
theorem lk_160_387 : (zPr L xs).1 160 387 = o_iload 4 2 := rfl
theorem lk_160_389 : (zPr L xs).1 160 389 = o_push (.int (1)) 1 := rfl
theorem lk_160_390 : (zPr L xs).1 160 390 = o_iop (fun x y => x + y) := rfl
theorem lk_160_391 : (zPr L xs).1 160 391 = o_sald L xs := rfl
theorem lk_160_392 : (zPr L xs).1 160 392 = o_cv 150 1 2 (9 + 1) (9 + 1) := rfl
theorem lk_160_395 : (zPr L xs).1 160 395 = o_iceq 505 := rfl
theorem lk_160_398 : (zPr L xs).1 160 398 = o_push (.int (0)) 1 := rfl
theorem lk_160_399 : (zPr L xs).1 160 399 = o_iret (fun x => x &&& 1) := rfl
theorem lk_160_400 : (zPr L xs).1 160 400 = o_aload 1 1 := rfl
theorem lk_160_401 : (zPr L xs).1 160 401 = o_aload 0 1 := rfl
theorem lk_160_402 : (zPr L xs).1 160 402 = o_iload 4 2 := rfl
theorem lk_160_404 : (zPr L xs).1 160 404 = o_push (.int (1)) 1 := rfl
theorem lk_160_405 : (zPr L xs).1 160 405 = o_iop (fun x y => x + y) := rfl
theorem lk_160_406 : (zPr L xs).1 160 406 = o_sald L xs := rfl
theorem lk_160_407 : (zPr L xs).1 160 407 = o_cv 77 1 2 (8 + 1) (8 + 1) := rfl
theorem lk_160_410 : (zPr L xs).1 160 410 = o_aload 2 1 := rfl
theorem lk_160_411 : (zPr L xs).1 160 411 = o_aload 0 1 := rfl
theorem lk_160_412 : (zPr L xs).1 160 412 = o_iload 4 2 := rfl
theorem lk_160_414 : (zPr L xs).1 160 414 = o_push (.int (1)) 1 := rfl
theorem lk_160_415 : (zPr L xs).1 160 415 = o_iop (fun x y => x + y) := rfl
theorem lk_160_416 : (zPr L xs).1 160 416 = o_sald L xs := rfl
theorem lk_160_417 : (zPr L xs).1 160 417 = o_cv 152 1 2 (9 + 1) (9 + 1) := rfl
theorem lk_160_420 : (zPr L xs).1 160 420 = o_iceq 505 := rfl
theorem lk_160_423 : (zPr L xs).1 160 423 = o_push (.int (0)) 1 := rfl
theorem lk_160_424 : (zPr L xs).1 160 424 = o_iret (fun x => x &&& 1) := rfl
theorem lk_160_425 : (zPr L xs).1 160 425 = o_aload 1 1 := rfl
theorem lk_160_426 : (zPr L xs).1 160 426 = o_aload 0 1 := rfl
theorem lk_160_427 : (zPr L xs).1 160 427 = o_iload 4 2 := rfl
theorem lk_160_429 : (zPr L xs).1 160 429 = o_push (.int (1)) 1 := rfl
theorem lk_160_430 : (zPr L xs).1 160 430 = o_iop (fun x y => x + y) := rfl
theorem lk_160_431 : (zPr L xs).1 160 431 = o_sald L xs := rfl
theorem lk_160_432 : (zPr L xs).1 160 432 = o_aload 0 1 := rfl
theorem lk_160_433 : (zPr L xs).1 160 433 = o_iload 4 2 := rfl
theorem lk_160_435 : (zPr L xs).1 160 435 = o_push (.int (2)) 1 := rfl
theorem lk_160_436 : (zPr L xs).1 160 436 = o_iop (fun x y => x + y) := rfl
theorem lk_160_437 : (zPr L xs).1 160 437 = o_sald L xs := rfl
theorem lk_160_438 : (zPr L xs).1 160 438 = o_aload 0 1 := rfl
theorem lk_160_439 : (zPr L xs).1 160 439 = o_iload 4 2 := rfl
theorem lk_160_441 : (zPr L xs).1 160 441 = o_push (.int (3)) 1 := rfl
theorem lk_160_442 : (zPr L xs).1 160 442 = o_iop (fun x y => x + y) := rfl
theorem lk_160_443 : (zPr L xs).1 160 443 = o_sald L xs := rfl
theorem lk_160_444 : (zPr L xs).1 160 444 = o_aload 3 1 := rfl
theorem lk_160_445 : (zPr L xs).1 160 445 = o_cs 159 5 6 := rfl
theorem lk_160_448 : (zPr L xs).1 160 448 = o_istore 5 2 := rfl
theorem lk_160_450 : (zPr L xs).1 160 450 = o_aload 2 1 := rfl
theorem lk_160_451 : (zPr L xs).1 160 451 = o_aload 0 1 := rfl
theorem lk_160_452 : (zPr L xs).1 160 452 = o_iload 4 2 := rfl
theorem lk_160_454 : (zPr L xs).1 160 454 = o_push (.int (1)) 1 := rfl
theorem lk_160_455 : (zPr L xs).1 160 455 = o_iop (fun x y => x + y) := rfl
theorem lk_160_456 : (zPr L xs).1 160 456 = o_sald L xs := rfl
theorem lk_160_457 : (zPr L xs).1 160 457 = o_aload 0 1 := rfl
theorem lk_160_458 : (zPr L xs).1 160 458 = o_iload 4 2 := rfl
theorem lk_160_460 : (zPr L xs).1 160 460 = o_push (.int (2)) 1 := rfl
theorem lk_160_461 : (zPr L xs).1 160 461 = o_iop (fun x y => x + y) := rfl
theorem lk_160_462 : (zPr L xs).1 160 462 = o_sald L xs := rfl
theorem lk_160_463 : (zPr L xs).1 160 463 = o_aload 0 1 := rfl
theorem lk_160_464 : (zPr L xs).1 160 464 = o_iload 4 2 := rfl
theorem lk_160_466 : (zPr L xs).1 160 466 = o_push (.int (3)) 1 := rfl
theorem lk_160_467 : (zPr L xs).1 160 467 = o_iop (fun x y => x + y) := rfl
theorem lk_160_468 : (zPr L xs).1 160 468 = o_sald L xs := rfl
theorem lk_160_469 : (zPr L xs).1 160 469 = o_cv 153 3 5 (9 + 1) (9 + 1) := rfl
theorem lk_160_472 : (zPr L xs).1 160 472 = o_istore 6 2 := rfl
theorem lk_160_474 : (zPr L xs).1 160 474 = o_aload 2 1 := rfl
theorem lk_160_475 : (zPr L xs).1 160 475 = o_cv 87 0 1 (9 + 1) (9 + 1) := rfl
theorem lk_160_478 : (zPr L xs).1 160 478 = o_iload 5 2 := rfl
theorem lk_160_480 : (zPr L xs).1 160 480 = o_iceq 485 := rfl
theorem lk_160_483 : (zPr L xs).1 160 483 = o_push (.int (0)) 1 := rfl
theorem lk_160_484 : (zPr L xs).1 160 484 = o_iret (fun x => x &&& 1) := rfl
theorem lk_160_485 : (zPr L xs).1 160 485 = o_iload 5 2 := rfl
theorem lk_160_487 : (zPr L xs).1 160 487 = o_ifne 502 := rfl
theorem lk_160_490 : (zPr L xs).1 160 490 = o_aload 3 1 := rfl
theorem lk_160_491 : (zPr L xs).1 160 491 = o_push (.int (0)) 1 := rfl
theorem lk_160_492 : (zPr L xs).1 160 492 = o_lald := rfl
theorem lk_160_493 : (zPr L xs).1 160 493 = o_iload 6 2 := rfl
theorem lk_160_495 : (zPr L xs).1 160 495 = o_i2l := rfl
theorem lk_160_496 : (zPr L xs).1 160 496 = o_lcmp := rfl
theorem lk_160_497 : (zPr L xs).1 160 497 = o_ifeq 502 := rfl
theorem lk_160_500 : (zPr L xs).1 160 500 = o_push (.int (0)) 1 := rfl
theorem lk_160_501 : (zPr L xs).1 160 501 = o_iret (fun x => x &&& 1) := rfl
theorem lk_160_502 : (zPr L xs).1 160 502 = o_goto 505 := rfl
theorem lk_160_505 : (zPr L xs).1 160 505 = o_iinc 4 (4) := rfl
theorem lk_160_508 : (zPr L xs).1 160 508 = o_goto 23 := rfl
theorem lk_160_511 : (zPr L xs).1 160 511 = o_push (.int (1)) 1 := rfl
theorem lk_160_512 : (zPr L xs).1 160 512 = o_iret (fun x => x &&& 1) := rfl
end

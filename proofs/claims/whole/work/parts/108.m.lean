theorem dX11_pairLine_0 : decode cX11_pairLine 0 = .ok (.aload_n 0, 1) := by decide +kernel
theorem dX11_pairLine_1 : decode cX11_pairLine 1 = .ok (.getfield 26, 3) := by decide +kernel
theorem dX11_pairLine_4 : decode cX11_pairLine 4 = .ok (.iconst 4, 1) := by decide +kernel
theorem dX11_pairLine_5 : decode cX11_pairLine 5 = .ok (.iaload, 1) := by decide +kernel
theorem dX11_pairLine_6 : decode cX11_pairLine 6 = .ok (.bipush 8, 2) := by decide +kernel
theorem dX11_pairLine_8 : decode cX11_pairLine 8 = .ok (.if_icmp .ne 8, 3) := by decide +kernel
theorem dX11_pairLine_11 : decode cX11_pairLine 11 = .ok (.aload_n 0, 1) := by decide +kernel
theorem dX11_pairLine_12 : decode cX11_pairLine 12 = .ok (.iload_n 1, 1) := by decide +kernel
theorem dX11_pairLine_13 : decode cX11_pairLine 13 = .ok (.invokevirtual 247, 3) := by decide +kernel
theorem dX11_pairLine_16 : decode cX11_pairLine 16 = .ok (.aload_n 0, 1) := by decide +kernel
theorem dX11_pairLine_17 : decode cX11_pairLine 17 = .ok (.getfield 22, 3) := by decide +kernel
theorem dX11_pairLine_20 : decode cX11_pairLine 20 = .ok (.iconst (-1), 1) := by decide +kernel
theorem dX11_pairLine_21 : decode cX11_pairLine 21 = .ok (.if_icmp .eq 4, 3) := by decide +kernel
theorem dX11_pairLine_24 : decode cX11_pairLine 24 = .ok (.return_, 1) := by decide +kernel
theorem dX11_pairLine_25 : decode cX11_pairLine 25 = .ok (.iconst 5, 1) := by decide +kernel
theorem dX11_pairLine_26 : decode cX11_pairLine 26 = .ok (.bipush 6, 2) := by decide +kernel
theorem dX11_pairLine_28 : decode cX11_pairLine 28 = .ok (.aload_n 0, 1) := by decide +kernel
theorem dX11_pairLine_29 : decode cX11_pairLine 29 = .ok (.getfield 26, 3) := by decide +kernel
theorem dX11_pairLine_32 : decode cX11_pairLine 32 = .ok (.iconst 4, 1) := by decide +kernel
theorem dX11_pairLine_33 : decode cX11_pairLine 33 = .ok (.iaload, 1) := by decide +kernel
theorem dX11_pairLine_34 : decode cX11_pairLine 34 = .ok (.imul, 1) := by decide +kernel
theorem dX11_pairLine_35 : decode cX11_pairLine 35 = .ok (.iadd, 1) := by decide +kernel
theorem dX11_pairLine_36 : decode cX11_pairLine 36 = .ok (.istore_n 2, 1) := by decide +kernel
theorem dX11_pairLine_37 : decode cX11_pairLine 37 = .ok (.aload_n 0, 1) := by decide +kernel
theorem dX11_pairLine_38 : decode cX11_pairLine 38 = .ok (.getfield 26, 3) := by decide +kernel
theorem dX11_pairLine_41 : decode cX11_pairLine 41 = .ok (.iload_n 2, 1) := by decide +kernel
theorem dX11_pairLine_42 : decode cX11_pairLine 42 = .ok (.iconst 0, 1) := by decide +kernel
theorem dX11_pairLine_43 : decode cX11_pairLine 43 = .ok (.iadd, 1) := by decide +kernel
theorem dX11_pairLine_44 : decode cX11_pairLine 44 = .ok (.aload_n 0, 1) := by decide +kernel
theorem dX11_pairLine_45 : decode cX11_pairLine 45 = .ok (.iconst 0, 1) := by decide +kernel
theorem dX11_pairLine_46 : decode cX11_pairLine 46 = .ok (.bipush 11, 2) := by decide +kernel
theorem dX11_pairLine_48 : decode cX11_pairLine 48 = .ok (.invokevirtual 250, 3) := by decide +kernel
theorem dX11_pairLine_51 : decode cX11_pairLine 51 = .ok (.iastore, 1) := by decide +kernel
theorem dX11_pairLine_52 : decode cX11_pairLine 52 = .ok (.aload_n 0, 1) := by decide +kernel
theorem dX11_pairLine_53 : decode cX11_pairLine 53 = .ok (.ldc 253, 2) := by decide +kernel
theorem dX11_pairLine_55 : decode cX11_pairLine 55 = .ok (.invokevirtual 255, 3) := by decide +kernel
theorem dX11_pairLine_58 : decode cX11_pairLine 58 = .ok (.aload_n 0, 1) := by decide +kernel
theorem dX11_pairLine_59 : decode cX11_pairLine 59 = .ok (.getfield 26, 3) := by decide +kernel
theorem dX11_pairLine_62 : decode cX11_pairLine 62 = .ok (.iload_n 2, 1) := by decide +kernel
theorem dX11_pairLine_63 : decode cX11_pairLine 63 = .ok (.iconst 1, 1) := by decide +kernel
theorem dX11_pairLine_64 : decode cX11_pairLine 64 = .ok (.iadd, 1) := by decide +kernel
theorem dX11_pairLine_65 : decode cX11_pairLine 65 = .ok (.aload_n 0, 1) := by decide +kernel
theorem dX11_pairLine_66 : decode cX11_pairLine 66 = .ok (.iconst 0, 1) := by decide +kernel
theorem dX11_pairLine_67 : decode cX11_pairLine 67 = .ok (.bipush 11, 2) := by decide +kernel
theorem dX11_pairLine_69 : decode cX11_pairLine 69 = .ok (.invokevirtual 250, 3) := by decide +kernel
theorem dX11_pairLine_72 : decode cX11_pairLine 72 = .ok (.iastore, 1) := by decide +kernel
theorem dX11_pairLine_73 : decode cX11_pairLine 73 = .ok (.aload_n 0, 1) := by decide +kernel
theorem dX11_pairLine_74 : decode cX11_pairLine 74 = .ok (.getfield 26, 3) := by decide +kernel
theorem dX11_pairLine_77 : decode cX11_pairLine 77 = .ok (.iload_n 2, 1) := by decide +kernel
theorem dX11_pairLine_78 : decode cX11_pairLine 78 = .ok (.iconst 1, 1) := by decide +kernel
theorem dX11_pairLine_79 : decode cX11_pairLine 79 = .ok (.iadd, 1) := by decide +kernel
theorem dX11_pairLine_80 : decode cX11_pairLine 80 = .ok (.iconst 1, 1) := by decide +kernel
theorem dX11_pairLine_81 : decode cX11_pairLine 81 = .ok (.iadd, 1) := by decide +kernel
theorem dX11_pairLine_82 : decode cX11_pairLine 82 = .ok (.aload_n 0, 1) := by decide +kernel
theorem dX11_pairLine_83 : decode cX11_pairLine 83 = .ok (.iconst 0, 1) := by decide +kernel
theorem dX11_pairLine_84 : decode cX11_pairLine 84 = .ok (.bipush 11, 2) := by decide +kernel
theorem dX11_pairLine_86 : decode cX11_pairLine 86 = .ok (.invokevirtual 250, 3) := by decide +kernel
theorem dX11_pairLine_89 : decode cX11_pairLine 89 = .ok (.iastore, 1) := by decide +kernel
theorem dX11_pairLine_90 : decode cX11_pairLine 90 = .ok (.aload_n 0, 1) := by decide +kernel
theorem dX11_pairLine_91 : decode cX11_pairLine 91 = .ok (.ldc_w 259, 3) := by decide +kernel
theorem dX11_pairLine_94 : decode cX11_pairLine 94 = .ok (.invokevirtual 255, 3) := by decide +kernel
theorem dX11_pairLine_97 : decode cX11_pairLine 97 = .ok (.aload_n 0, 1) := by decide +kernel
theorem dX11_pairLine_98 : decode cX11_pairLine 98 = .ok (.getfield 26, 3) := by decide +kernel
theorem dX11_pairLine_101 : decode cX11_pairLine 101 = .ok (.iload_n 2, 1) := by decide +kernel
theorem dX11_pairLine_102 : decode cX11_pairLine 102 = .ok (.iconst 3, 1) := by decide +kernel
theorem dX11_pairLine_103 : decode cX11_pairLine 103 = .ok (.iadd, 1) := by decide +kernel
theorem dX11_pairLine_104 : decode cX11_pairLine 104 = .ok (.aload_n 0, 1) := by decide +kernel
theorem dX11_pairLine_105 : decode cX11_pairLine 105 = .ok (.iconst 0, 1) := by decide +kernel
theorem dX11_pairLine_106 : decode cX11_pairLine 106 = .ok (.bipush 11, 2) := by decide +kernel
theorem dX11_pairLine_108 : decode cX11_pairLine 108 = .ok (.invokevirtual 250, 3) := by decide +kernel
theorem dX11_pairLine_111 : decode cX11_pairLine 111 = .ok (.iastore, 1) := by decide +kernel
theorem dX11_pairLine_112 : decode cX11_pairLine 112 = .ok (.aload_n 0, 1) := by decide +kernel
theorem dX11_pairLine_113 : decode cX11_pairLine 113 = .ok (.getfield 26, 3) := by decide +kernel
theorem dX11_pairLine_116 : decode cX11_pairLine 116 = .ok (.iload_n 2, 1) := by decide +kernel
theorem dX11_pairLine_117 : decode cX11_pairLine 117 = .ok (.iconst 3, 1) := by decide +kernel
theorem dX11_pairLine_118 : decode cX11_pairLine 118 = .ok (.iadd, 1) := by decide +kernel
theorem dX11_pairLine_119 : decode cX11_pairLine 119 = .ok (.iconst 1, 1) := by decide +kernel
theorem dX11_pairLine_120 : decode cX11_pairLine 120 = .ok (.iadd, 1) := by decide +kernel
theorem dX11_pairLine_121 : decode cX11_pairLine 121 = .ok (.aload_n 0, 1) := by decide +kernel
theorem dX11_pairLine_122 : decode cX11_pairLine 122 = .ok (.iconst 0, 1) := by decide +kernel
theorem dX11_pairLine_123 : decode cX11_pairLine 123 = .ok (.bipush 11, 2) := by decide +kernel
theorem dX11_pairLine_125 : decode cX11_pairLine 125 = .ok (.invokevirtual 250, 3) := by decide +kernel
theorem dX11_pairLine_128 : decode cX11_pairLine 128 = .ok (.iastore, 1) := by decide +kernel
theorem dX11_pairLine_129 : decode cX11_pairLine 129 = .ok (.aload_n 0, 1) := by decide +kernel
theorem dX11_pairLine_130 : decode cX11_pairLine 130 = .ok (.getfield 26, 3) := by decide +kernel
theorem dX11_pairLine_133 : decode cX11_pairLine 133 = .ok (.iload_n 2, 1) := by decide +kernel
theorem dX11_pairLine_134 : decode cX11_pairLine 134 = .ok (.iconst 5, 1) := by decide +kernel
theorem dX11_pairLine_135 : decode cX11_pairLine 135 = .ok (.iadd, 1) := by decide +kernel
theorem dX11_pairLine_136 : decode cX11_pairLine 136 = .ok (.aload_n 0, 1) := by decide +kernel
theorem dX11_pairLine_137 : decode cX11_pairLine 137 = .ok (.ldc_w 261, 3) := by decide +kernel
theorem dX11_pairLine_140 : decode cX11_pairLine 140 = .ok (.invokevirtual 244, 3) := by decide +kernel
theorem dX11_pairLine_143 : decode cX11_pairLine 143 = .ok (.ifCond .eq 13, 3) := by decide +kernel
theorem dX11_pairLine_146 : decode cX11_pairLine 146 = .ok (.aload_n 0, 1) := by decide +kernel
theorem dX11_pairLine_147 : decode cX11_pairLine 147 = .ok (.iconst 1, 1) := by decide +kernel
theorem dX11_pairLine_148 : decode cX11_pairLine 148 = .ok (.bipush 40, 2) := by decide +kernel
theorem dX11_pairLine_150 : decode cX11_pairLine 150 = .ok (.invokevirtual 250, 3) := by decide +kernel
theorem dX11_pairLine_153 : decode cX11_pairLine 153 = .ok (.goto 4, 3) := by decide +kernel
theorem dX11_pairLine_156 : decode cX11_pairLine 156 = .ok (.iconst 1, 1) := by decide +kernel
theorem dX11_pairLine_157 : decode cX11_pairLine 157 = .ok (.iastore, 1) := by decide +kernel
theorem dX11_pairLine_158 : decode cX11_pairLine 158 = .ok (.aload_n 0, 1) := by decide +kernel
theorem dX11_pairLine_159 : decode cX11_pairLine 159 = .ok (.getfield 26, 3) := by decide +kernel
theorem dX11_pairLine_162 : decode cX11_pairLine 162 = .ok (.iload_n 2, 1) := by decide +kernel
theorem dX11_pairLine_163 : decode cX11_pairLine 163 = .ok (.iconst 5, 1) := by decide +kernel
theorem dX11_pairLine_164 : decode cX11_pairLine 164 = .ok (.iadd, 1) := by decide +kernel
theorem dX11_pairLine_165 : decode cX11_pairLine 165 = .ok (.iaload, 1) := by decide +kernel
theorem dX11_pairLine_166 : decode cX11_pairLine 166 = .ok (.aload_n 0, 1) := by decide +kernel
theorem dX11_pairLine_167 : decode cX11_pairLine 167 = .ok (.getfield 26, 3) := by decide +kernel
theorem dX11_pairLine_170 : decode cX11_pairLine 170 = .ok (.iconst 0, 1) := by decide +kernel
theorem dX11_pairLine_171 : decode cX11_pairLine 171 = .ok (.iaload, 1) := by decide +kernel
theorem dX11_pairLine_172 : decode cX11_pairLine 172 = .ok (.iadd, 1) := by decide +kernel
theorem dX11_pairLine_173 : decode cX11_pairLine 173 = .ok (.iconst 1, 1) := by decide +kernel
theorem dX11_pairLine_174 : decode cX11_pairLine 174 = .ok (.isub, 1) := by decide +kernel
theorem dX11_pairLine_175 : decode cX11_pairLine 175 = .ok (.aload_n 0, 1) := by decide +kernel
theorem dX11_pairLine_176 : decode cX11_pairLine 176 = .ok (.getfield 26, 3) := by decide +kernel
theorem dX11_pairLine_179 : decode cX11_pairLine 179 = .ok (.iconst 0, 1) := by decide +kernel
theorem dX11_pairLine_180 : decode cX11_pairLine 180 = .ok (.iaload, 1) := by decide +kernel
theorem dX11_pairLine_181 : decode cX11_pairLine 181 = .ok (.idiv, 1) := by decide +kernel
theorem dX11_pairLine_182 : decode cX11_pairLine 182 = .ok (.istore_n 3, 1) := by decide +kernel
theorem dX11_pairLine_183 : decode cX11_pairLine 183 = .ok (.aload_n 0, 1) := by decide +kernel
theorem dX11_pairLine_184 : decode cX11_pairLine 184 = .ok (.getfield 22, 3) := by decide +kernel
theorem dX11_pairLine_187 : decode cX11_pairLine 187 = .ok (.iconst (-1), 1) := by decide +kernel
theorem dX11_pairLine_188 : decode cX11_pairLine 188 = .ok (.if_icmp .ne 22, 3) := by decide +kernel
theorem dX11_pairLine_191 : decode cX11_pairLine 191 = .ok (.aload_n 0, 1) := by decide +kernel
theorem dX11_pairLine_192 : decode cX11_pairLine 192 = .ok (.getfield 26, 3) := by decide +kernel
theorem dX11_pairLine_195 : decode cX11_pairLine 195 = .ok (.bipush 72, 2) := by decide +kernel
theorem dX11_pairLine_197 : decode cX11_pairLine 197 = .ok (.iaload, 1) := by decide +kernel
theorem dX11_pairLine_198 : decode cX11_pairLine 198 = .ok (.iload_n 3, 1) := by decide +kernel
theorem dX11_pairLine_199 : decode cX11_pairLine 199 = .ok (.iadd, 1) := by decide +kernel
theorem dX11_pairLine_200 : decode cX11_pairLine 200 = .ok (.bipush 8, 2) := by decide +kernel
theorem dX11_pairLine_202 : decode cX11_pairLine 202 = .ok (.if_icmp .le 8, 3) := by decide +kernel
theorem dX11_pairLine_205 : decode cX11_pairLine 205 = .ok (.aload_n 0, 1) := by decide +kernel
theorem dX11_pairLine_206 : decode cX11_pairLine 206 = .ok (.iload_n 1, 1) := by decide +kernel
theorem dX11_pairLine_207 : decode cX11_pairLine 207 = .ok (.invokevirtual 247, 3) := by decide +kernel
theorem dX11_pairLine_210 : decode cX11_pairLine 210 = .ok (.aload_n 0, 1) := by decide +kernel
theorem dX11_pairLine_211 : decode cX11_pairLine 211 = .ok (.getfield 22, 3) := by decide +kernel
theorem dX11_pairLine_214 : decode cX11_pairLine 214 = .ok (.iconst (-1), 1) := by decide +kernel
theorem dX11_pairLine_215 : decode cX11_pairLine 215 = .ok (.if_icmp .eq 4, 3) := by decide +kernel
theorem dX11_pairLine_218 : decode cX11_pairLine 218 = .ok (.return_, 1) := by decide +kernel
theorem dX11_pairLine_219 : decode cX11_pairLine 219 = .ok (.iconst 0, 1) := by decide +kernel
theorem dX11_pairLine_220 : decode cX11_pairLine 220 = .ok (.istore 4, 2) := by decide +kernel
theorem dX11_pairLine_222 : decode cX11_pairLine 222 = .ok (.iload 4, 2) := by decide +kernel
theorem dX11_pairLine_224 : decode cX11_pairLine 224 = .ok (.iload_n 3, 1) := by decide +kernel
theorem dX11_pairLine_225 : decode cX11_pairLine 225 = .ok (.if_icmp .ge 63, 3) := by decide +kernel
theorem dX11_pairLine_228 : decode cX11_pairLine 228 = .ok (.aload_n 0, 1) := by decide +kernel
theorem dX11_pairLine_229 : decode cX11_pairLine 229 = .ok (.getfield 26, 3) := by decide +kernel
theorem dX11_pairLine_232 : decode cX11_pairLine 232 = .ok (.bipush 73, 2) := by decide +kernel
theorem dX11_pairLine_234 : decode cX11_pairLine 234 = .ok (.aload_n 0, 1) := by decide +kernel
theorem dX11_pairLine_235 : decode cX11_pairLine 235 = .ok (.getfield 26, 3) := by decide +kernel
theorem dX11_pairLine_238 : decode cX11_pairLine 238 = .ok (.bipush 72, 2) := by decide +kernel
theorem dX11_pairLine_240 : decode cX11_pairLine 240 = .ok (.iaload, 1) := by decide +kernel
theorem dX11_pairLine_241 : decode cX11_pairLine 241 = .ok (.iadd, 1) := by decide +kernel
theorem dX11_pairLine_242 : decode cX11_pairLine 242 = .ok (.aload_n 0, 1) := by decide +kernel
theorem dX11_pairLine_243 : decode cX11_pairLine 243 = .ok (.getfield 26, 3) := by decide +kernel
theorem dX11_pairLine_246 : decode cX11_pairLine 246 = .ok (.iconst 4, 1) := by decide +kernel
theorem dX11_pairLine_247 : decode cX11_pairLine 247 = .ok (.iaload, 1) := by decide +kernel
theorem dX11_pairLine_248 : decode cX11_pairLine 248 = .ok (.iastore, 1) := by decide +kernel
theorem dX11_pairLine_249 : decode cX11_pairLine 249 = .ok (.aload_n 0, 1) := by decide +kernel
theorem dX11_pairLine_250 : decode cX11_pairLine 250 = .ok (.getfield 26, 3) := by decide +kernel
theorem dX11_pairLine_253 : decode cX11_pairLine 253 = .ok (.bipush 81, 2) := by decide +kernel
theorem dX11_pairLine_255 : decode cX11_pairLine 255 = .ok (.aload_n 0, 1) := by decide +kernel
theorem dX11_pairLine_256 : decode cX11_pairLine 256 = .ok (.getfield 26, 3) := by decide +kernel
theorem dX11_pairLine_259 : decode cX11_pairLine 259 = .ok (.bipush 72, 2) := by decide +kernel
theorem dX11_pairLine_261 : decode cX11_pairLine 261 = .ok (.iaload, 1) := by decide +kernel
theorem dX11_pairLine_262 : decode cX11_pairLine 262 = .ok (.iadd, 1) := by decide +kernel
theorem dX11_pairLine_263 : decode cX11_pairLine 263 = .ok (.aload_n 0, 1) := by decide +kernel
theorem dX11_pairLine_264 : decode cX11_pairLine 264 = .ok (.getfield 26, 3) := by decide +kernel
theorem dX11_pairLine_267 : decode cX11_pairLine 267 = .ok (.bipush 72, 2) := by decide +kernel
theorem dX11_pairLine_269 : decode cX11_pairLine 269 = .ok (.iaload, 1) := by decide +kernel
theorem dX11_pairLine_270 : decode cX11_pairLine 270 = .ok (.iastore, 1) := by decide +kernel
theorem dX11_pairLine_271 : decode cX11_pairLine 271 = .ok (.aload_n 0, 1) := by decide +kernel
theorem dX11_pairLine_272 : decode cX11_pairLine 272 = .ok (.getfield 26, 3) := by decide +kernel
theorem dX11_pairLine_275 : decode cX11_pairLine 275 = .ok (.bipush 72, 2) := by decide +kernel
theorem dX11_pairLine_277 : decode cX11_pairLine 277 = .ok (.dup2, 1) := by decide +kernel
theorem dX11_pairLine_278 : decode cX11_pairLine 278 = .ok (.iaload, 1) := by decide +kernel
theorem dX11_pairLine_279 : decode cX11_pairLine 279 = .ok (.iconst 1, 1) := by decide +kernel
theorem dX11_pairLine_280 : decode cX11_pairLine 280 = .ok (.iadd, 1) := by decide +kernel
theorem dX11_pairLine_281 : decode cX11_pairLine 281 = .ok (.iastore, 1) := by decide +kernel
theorem dX11_pairLine_282 : decode cX11_pairLine 282 = .ok (.iinc 4 1, 3) := by decide +kernel
theorem dX11_pairLine_285 : decode cX11_pairLine 285 = .ok (.goto (-63), 3) := by decide +kernel
theorem dX11_pairLine_288 : decode cX11_pairLine 288 = .ok (.aload_n 0, 1) := by decide +kernel
theorem dX11_pairLine_289 : decode cX11_pairLine 289 = .ok (.getfield 26, 3) := by decide +kernel
theorem dX11_pairLine_292 : decode cX11_pairLine 292 = .ok (.iconst 4, 1) := by decide +kernel
theorem dX11_pairLine_293 : decode cX11_pairLine 293 = .ok (.dup2, 1) := by decide +kernel
theorem dX11_pairLine_294 : decode cX11_pairLine 294 = .ok (.iaload, 1) := by decide +kernel
theorem dX11_pairLine_295 : decode cX11_pairLine 295 = .ok (.iconst 1, 1) := by decide +kernel
theorem dX11_pairLine_296 : decode cX11_pairLine 296 = .ok (.iadd, 1) := by decide +kernel
theorem dX11_pairLine_297 : decode cX11_pairLine 297 = .ok (.iastore, 1) := by decide +kernel
theorem dX11_pairLine_298 : decode cX11_pairLine 298 = .ok (.return_, 1) := by decide +kernel
def sX11_pairLine_L222 (F : Nat) (l0 : Nat) (l3 : Int32) (l4 : Int32) (h : HP) : Option ((Int32 × HP) ⊕ HP) :=
  if l3 ≤ l4 then
    some (.inr h)
  else
    (gR h 11 (some l0) 11).bind fun t63 =>
    (gR h 11 (some l0) 11).bind fun t64 =>
    (aI h 13 t64 (72 : Int32)).bind fun t65 =>
    (gR h 11 (some l0) 11).bind fun t66 =>
    (aI h 13 t66 (4 : Int32)).bind fun t67 =>
    (sI h t63 ((73 : Int32) + t65) t67).bind fun h68 =>
    (gR h68 11 (some l0) 11).bind fun t69 =>
    (gR h68 11 (some l0) 11).bind fun t70 =>
    (aI h68 13 t70 (72 : Int32)).bind fun t71 =>
    (gR h68 11 (some l0) 11).bind fun t72 =>
    (aI h68 13 t72 (72 : Int32)).bind fun t73 =>
    (sI h68 t69 ((81 : Int32) + t71) t73).bind fun h74 =>
    (gR h74 11 (some l0) 11).bind fun t75 =>
    (aI h74 13 t75 (72 : Int32)).bind fun t76 =>
    (sI h74 t75 (72 : Int32) (t76 + (1 : Int32))).bind fun h77 =>
    some (.inl (l4 + (1 : Int32), h77))
def sX11_pairLine (F : Nat) (l0 : Nat) (l1 : Int32) (h : HP) : Option HP :=
  (gR h 11 (some l0) 11).bind fun t1 =>
  (aI h 13 t1 (4 : Int32)).bind fun t2 =>
  (if ¬ t2 = (8 : Int32) then
      some h
    else
      (dO h 11 (some l0)).bind fun a4 =>
      (sX11_wrong F a4 l1 h).bind fun h5 =>
      some h5).bind fun h3 =>
  (gI h3 11 (some l0) 10).bind fun t6 =>
  if t6 = (-1 : Int32) then
    (gR h3 11 (some l0) 11).bind fun t7 =>
    (aI h3 13 t7 (4 : Int32)).bind fun t8 =>
    nmI ((5 : Int32) + ((6 : Int32) * t8)) fun l2_9 =>
    (gR h3 11 (some l0) 11).bind fun t10 =>
    (dO h3 11 (some l0)).bind fun a11 =>
    bd2 (sX11_number F a11 (0 : Int32) (11 : Int32) h3) fun t12 h13 =>
    (sI h13 t10 (l2_9 + (0 : Int32)) t12).bind fun h14 =>
    (dO h14 11 (some l0)).bind fun a15 =>
    (sX11_expects F a15 (5) h14).bind fun h16 =>
    (gR h16 11 (some l0) 11).bind fun t17 =>
    (dO h16 11 (some l0)).bind fun a18 =>
    bd2 (sX11_number F a18 (0 : Int32) (11 : Int32) h16) fun t19 h20 =>
    (sI h20 t17 (l2_9 + (1 : Int32)) t19).bind fun h21 =>
    (gR h21 11 (some l0) 11).bind fun t22 =>
    (dO h21 11 (some l0)).bind fun a23 =>
    bd2 (sX11_number F a23 (0 : Int32) (11 : Int32) h21) fun t24 h25 =>
    (sI h25 t22 ((l2_9 + (1 : Int32)) + (1 : Int32)) t24).bind fun h26 =>
    (dO h26 11 (some l0)).bind fun a27 =>
    (sX11_expects F a27 (6) h26).bind fun h28 =>
    (gR h28 11 (some l0) 11).bind fun t29 =>
    (dO h28 11 (some l0)).bind fun a30 =>
    bd2 (sX11_number F a30 (0 : Int32) (11 : Int32) h28) fun t31 h32 =>
    (sI h32 t29 (l2_9 + (3 : Int32)) t31).bind fun h33 =>
    (gR h33 11 (some l0) 11).bind fun t34 =>
    (dO h33 11 (some l0)).bind fun a35 =>
    bd2 (sX11_number F a35 (0 : Int32) (11 : Int32) h33) fun t36 h37 =>
    (sI h37 t34 ((l2_9 + (3 : Int32)) + (1 : Int32)) t36).bind fun h38 =>
    (gR h38 11 (some l0) 11).bind fun t39 =>
    (dO h38 11 (some l0)).bind fun a40 =>
    bd2 (sX11_has_ F a40 (7) h38) fun t41 h42 =>
    (if t41 = 0 then
        some ((1 : Int32), h42)
      else
        (dO h42 11 (some l0)).bind fun a45 =>
        bd2 (sX11_number F a45 (1 : Int32) (40 : Int32) h42) fun t46 h47 =>
        some (t46, h47)).bind fun r => match r with
    | (s43, h44) =>
    (sI h44 t39 (l2_9 + (5 : Int32)) s43).bind fun h48 =>
    (gR h48 11 (some l0) 11).bind fun t49 =>
    (aI h48 13 t49 (l2_9 + (5 : Int32))).bind fun t50 =>
    (gR h48 11 (some l0) 11).bind fun t51 =>
    (aI h48 13 t51 (0 : Int32)).bind fun t52 =>
    (gR h48 11 (some l0) 11).bind fun t53 =>
    (aI h48 13 t53 (0 : Int32)).bind fun t54 =>
    (dvI ((t50 + t52) - (1 : Int32)) t54).bind fun t55 =>
    (gI h48 11 (some l0) 10).bind fun t56 =>
    (if ¬ t56 = (-1 : Int32) then
        some h48
      else
        (gR h48 11 (some l0) 11).bind fun t58 =>
        (aI h48 13 t58 (72 : Int32)).bind fun t59 =>
        if (t59 + t55) ≤ (8 : Int32) then
          some h48
        else
          (dO h48 11 (some l0)).bind fun a60 =>
          (sX11_wrong F a60 l1 h48).bind fun h61 =>
          some h61).bind fun h57 =>
    (gI h57 11 (some l0) 10).bind fun t62 =>
    if t62 = (-1 : Int32) then
      (iter (fun s => sX11_pairLine_L222 F l0 t55 s.1 s.2) F ((0 : Int32), h57)).bind fun h78 =>
        (gR h78 11 (some l0) 11).bind fun t79 =>
        (aI h78 13 t79 (4 : Int32)).bind fun t80 =>
        (sI h78 t79 (4 : Int32) (t80 + (1 : Int32))).bind fun h81 =>
        some h81
    else
      some h57
  else
    some h3
abbrev rm_X11_pairLine : Room := { frames := 6, cells := 0, slots := 0, locals := 129 }
set_option maxRecDepth 100000 in
set_option maxHeartbeats 4000000 in
theorem mt_X11_pairLine {w : WD} {l : Launch} {F : Nat} {l0 : Nat} {l1 : Int32} {h : HP} {h' : HP} (hs : sX11_pairLine F l0 l1 h = some h') : MV w l yX11_pairLine cX11_pairLine 5 rm_X11_pairLine 0 0 [rf w (some l0), .int l1] h h' := by
  refine of_body [(0, rf w (some l0)), (1, .int l1)] (by decide) (by simp [lg_sl, rf_cat, cat_i, cat_l, cat_a]) (by simp [lv_args, rf_cat, cat_i, cat_l, cat_a]) ?_
  intro x hw_ hnL_ hl_ hc hret hnm hQ
  subst hw_; subst hl_
  have hnl : ∀ i, i < 5 → i < x.nL := fun i h => by rw [hnL_]; exact h
  have hw : wpO (sX11_pairLine F l0 l1 h) (fun r => r = h') := ⟨_, hs, rfl⟩
  unfold sX11_pairLine at hw
  refine R_aload_n (q := 0) (i := 0) (v := (some l0)) hc dX11_pairLine_0 rfl rfl ?_
  refine R_getR hc fl_11_26 dX11_pairLine_1 hw (fun t1 hw => ?_)
  refine R_iconst (v := (4 : Int32)) hc dX11_pairLine_4 kI_4 ?_
  refine R_iaload hc dX11_pairLine_5 hw (fun t2 hw => ?_)
  refine R_bipush (v := (8 : Int32)) hc dX11_pairLine_6 kB_8 ?_
  refine R_join (fun (h3 : HP) => Rn x 0 0 16 [(0, rf x.w (some l0)), (1, .int l1)] [] h3) hw (fun r hw => ?_) (fun hw => ?_)
  · revert r hw
    intro h3 hw
    show Rn x 0 0 16 [(0, rf x.w (some l0)), (1, .int l1)] [] h3
    refine R_aload_n (q := 0) (i := 0) (v := (some l0)) hc dX11_pairLine_16 rfl rfl ?_
    refine R_getI hc fl_11_22 dX11_pairLine_17 hw (fun t6 hw => ?_)
    refine R_iconst (v := (-1 : Int32)) hc dX11_pairLine_20 kI_m1 ?_
    refine R_icmp_eq (tgt := 25) hc dX11_pairLine_21 (by decide) hw (fun hw => ?_) (fun hw => ?_)
    · refine R_iconst (v := (5 : Int32)) hc dX11_pairLine_25 kI_5 ?_
      refine R_bipush (v := (6 : Int32)) hc dX11_pairLine_26 kB_6 ?_
      refine R_aload_n (q := 0) (i := 0) (v := (some l0)) hc dX11_pairLine_28 rfl rfl ?_
      refine R_getR hc fl_11_26 dX11_pairLine_29 hw (fun t7 hw => ?_)
      refine R_iconst (v := (4 : Int32)) hc dX11_pairLine_32 kI_4 ?_
      refine R_iaload hc dX11_pairLine_33 hw (fun t8 hw => ?_)
      refine R_imul hc dX11_pairLine_34 ?_
      refine R_iadd hc dX11_pairLine_35 ?_
      refine R_nmI hw (fun l2_9 hw => ?_)
      refine R_istore_n (i := 2) (v := l2_9) hc [(2, .int l2_9), (0, rf x.w (some l0)), (1, .int l1)] dX11_pairLine_36 rfl (hnl 2 (le_b rfl)) rfl ?_
      refine R_aload_n (q := 1) (i := 0) (v := (some l0)) hc dX11_pairLine_37 rfl rfl ?_
      refine R_getR hc fl_11_26 dX11_pairLine_38 hw (fun t10 hw => ?_)
      refine R_iload_n (q := 0) (i := 2) (v := l2_9) hc dX11_pairLine_41 rfl rfl ?_
      refine R_iconst (v := (0 : Int32)) hc dX11_pairLine_42 kI_0 ?_
      refine R_iadd hc dX11_pairLine_43 ?_
      refine R_aload_n (q := 1) (i := 0) (v := (some l0)) hc dX11_pairLine_44 rfl rfl ?_
      refine R_iconst (v := (0 : Int32)) hc dX11_pairLine_45 kI_0 ?_
      refine R_bipush (v := (11 : Int32)) hc dX11_pairLine_46 kB_11 ?_
      refine R_cVIi (As := [.int (0 : Int32), .int (11 : Int32)]) (rest := [.int (l2_9 + (0 : Int32)), rf x.w t10]) (r := (some l0)) (ci := 11) hc ml_11_250 mf_X11_number rfl (by decide) ⟨rfl, rfl⟩ ⟨le_b rfl, le_b rfl⟩ ⟨Nat.zero_le _, Nat.zero_le _⟩ (fun a v h' e => mt_X11_number e) rfl rfl (by simp [rf_cat, cat_i, cat_l, cat_a]) dX11_pairLine_48 hw (fun t12 h13 hw => ?_)
      refine R_iastore hc dX11_pairLine_51 hw (fun h14 hw => ?_)
      refine R_aload_n (q := 1) (i := 0) (v := (some l0)) hc dX11_pairLine_52 rfl rfl ?_
      refine R_ldcS (k := 5) hc (hc.sk.2.2.2.2.2.1 (RX11, 253, "up", 5) (List.mem_of_getElem? (i := 8) rfl)) dX11_pairLine_53 ?_
      refine R_cVVi (As := [.ref (x.w.aS (5))]) (rest := []) (r := (some l0)) (ci := 11) hc ml_11_255 mf_X11_expects rfl (by decide) ⟨rfl, rfl⟩ ⟨le_b rfl, le_b rfl⟩ ⟨Nat.zero_le _, Nat.zero_le _⟩ (fun a h' e => mt_X11_expects e) rfl rfl (Nat.zero_le _) dX11_pairLine_55 hw (fun h16 hw => ?_)
      refine R_aload_n (q := 1) (i := 0) (v := (some l0)) hc dX11_pairLine_58 rfl rfl ?_
      refine R_getR hc fl_11_26 dX11_pairLine_59 hw (fun t17 hw => ?_)
      refine R_iload_n (q := 0) (i := 2) (v := l2_9) hc dX11_pairLine_62 rfl rfl ?_
      refine R_iconst (v := (1 : Int32)) hc dX11_pairLine_63 kI_1 ?_
      refine R_iadd hc dX11_pairLine_64 ?_
      refine R_aload_n (q := 1) (i := 0) (v := (some l0)) hc dX11_pairLine_65 rfl rfl ?_
      refine R_iconst (v := (0 : Int32)) hc dX11_pairLine_66 kI_0 ?_
      refine R_bipush (v := (11 : Int32)) hc dX11_pairLine_67 kB_11 ?_
      refine R_cVIi (As := [.int (0 : Int32), .int (11 : Int32)]) (rest := [.int (l2_9 + (1 : Int32)), rf x.w t17]) (r := (some l0)) (ci := 11) hc ml_11_250 mf_X11_number rfl (by decide) ⟨rfl, rfl⟩ ⟨le_b rfl, le_b rfl⟩ ⟨Nat.zero_le _, Nat.zero_le _⟩ (fun a v h' e => mt_X11_number e) rfl rfl (by simp [rf_cat, cat_i, cat_l, cat_a]) dX11_pairLine_69 hw (fun t19 h20 hw => ?_)
      refine R_iastore hc dX11_pairLine_72 hw (fun h21 hw => ?_)
      refine R_aload_n (q := 1) (i := 0) (v := (some l0)) hc dX11_pairLine_73 rfl rfl ?_
      refine R_getR hc fl_11_26 dX11_pairLine_74 hw (fun t22 hw => ?_)
      refine R_iload_n (q := 0) (i := 2) (v := l2_9) hc dX11_pairLine_77 rfl rfl ?_
      refine R_iconst (v := (1 : Int32)) hc dX11_pairLine_78 kI_1 ?_
      refine R_iadd hc dX11_pairLine_79 ?_
      refine R_iconst (v := (1 : Int32)) hc dX11_pairLine_80 kI_1 ?_
      refine R_iadd hc dX11_pairLine_81 ?_
      refine R_aload_n (q := 1) (i := 0) (v := (some l0)) hc dX11_pairLine_82 rfl rfl ?_
      refine R_iconst (v := (0 : Int32)) hc dX11_pairLine_83 kI_0 ?_
      refine R_bipush (v := (11 : Int32)) hc dX11_pairLine_84 kB_11 ?_
      refine R_cVIi (As := [.int (0 : Int32), .int (11 : Int32)]) (rest := [.int ((l2_9 + (1 : Int32)) + (1 : Int32)), rf x.w t22]) (r := (some l0)) (ci := 11) hc ml_11_250 mf_X11_number rfl (by decide) ⟨rfl, rfl⟩ ⟨le_b rfl, le_b rfl⟩ ⟨Nat.zero_le _, Nat.zero_le _⟩ (fun a v h' e => mt_X11_number e) rfl rfl (by simp [rf_cat, cat_i, cat_l, cat_a]) dX11_pairLine_86 hw (fun t24 h25 hw => ?_)
      refine R_iastore hc dX11_pairLine_89 hw (fun h26 hw => ?_)
      refine R_aload_n (q := 1) (i := 0) (v := (some l0)) hc dX11_pairLine_90 rfl rfl ?_
      refine R_ldcwS (k := 6) hc (hc.sk.2.2.2.2.2.1 (RX11, 259, "low", 6) (List.mem_of_getElem? (i := 9) rfl)) dX11_pairLine_91 ?_
      refine R_cVVi (As := [.ref (x.w.aS (6))]) (rest := []) (r := (some l0)) (ci := 11) hc ml_11_255 mf_X11_expects rfl (by decide) ⟨rfl, rfl⟩ ⟨le_b rfl, le_b rfl⟩ ⟨Nat.zero_le _, Nat.zero_le _⟩ (fun a h' e => mt_X11_expects e) rfl rfl (Nat.zero_le _) dX11_pairLine_94 hw (fun h28 hw => ?_)
      refine R_aload_n (q := 1) (i := 0) (v := (some l0)) hc dX11_pairLine_97 rfl rfl ?_
      refine R_getR hc fl_11_26 dX11_pairLine_98 hw (fun t29 hw => ?_)
      refine R_iload_n (q := 0) (i := 2) (v := l2_9) hc dX11_pairLine_101 rfl rfl ?_
      refine R_iconst (v := (3 : Int32)) hc dX11_pairLine_102 kI_3 ?_
      refine R_iadd hc dX11_pairLine_103 ?_
      refine R_aload_n (q := 1) (i := 0) (v := (some l0)) hc dX11_pairLine_104 rfl rfl ?_
      refine R_iconst (v := (0 : Int32)) hc dX11_pairLine_105 kI_0 ?_
      refine R_bipush (v := (11 : Int32)) hc dX11_pairLine_106 kB_11 ?_
      refine R_cVIi (As := [.int (0 : Int32), .int (11 : Int32)]) (rest := [.int (l2_9 + (3 : Int32)), rf x.w t29]) (r := (some l0)) (ci := 11) hc ml_11_250 mf_X11_number rfl (by decide) ⟨rfl, rfl⟩ ⟨le_b rfl, le_b rfl⟩ ⟨Nat.zero_le _, Nat.zero_le _⟩ (fun a v h' e => mt_X11_number e) rfl rfl (by simp [rf_cat, cat_i, cat_l, cat_a]) dX11_pairLine_108 hw (fun t31 h32 hw => ?_)
      refine R_iastore hc dX11_pairLine_111 hw (fun h33 hw => ?_)
      refine R_aload_n (q := 1) (i := 0) (v := (some l0)) hc dX11_pairLine_112 rfl rfl ?_
      refine R_getR hc fl_11_26 dX11_pairLine_113 hw (fun t34 hw => ?_)
      refine R_iload_n (q := 0) (i := 2) (v := l2_9) hc dX11_pairLine_116 rfl rfl ?_
      refine R_iconst (v := (3 : Int32)) hc dX11_pairLine_117 kI_3 ?_
      refine R_iadd hc dX11_pairLine_118 ?_
      refine R_iconst (v := (1 : Int32)) hc dX11_pairLine_119 kI_1 ?_
      refine R_iadd hc dX11_pairLine_120 ?_
      refine R_aload_n (q := 1) (i := 0) (v := (some l0)) hc dX11_pairLine_121 rfl rfl ?_
      refine R_iconst (v := (0 : Int32)) hc dX11_pairLine_122 kI_0 ?_
      refine R_bipush (v := (11 : Int32)) hc dX11_pairLine_123 kB_11 ?_
      refine R_cVIi (As := [.int (0 : Int32), .int (11 : Int32)]) (rest := [.int ((l2_9 + (3 : Int32)) + (1 : Int32)), rf x.w t34]) (r := (some l0)) (ci := 11) hc ml_11_250 mf_X11_number rfl (by decide) ⟨rfl, rfl⟩ ⟨le_b rfl, le_b rfl⟩ ⟨Nat.zero_le _, Nat.zero_le _⟩ (fun a v h' e => mt_X11_number e) rfl rfl (by simp [rf_cat, cat_i, cat_l, cat_a]) dX11_pairLine_125 hw (fun t36 h37 hw => ?_)
      refine R_iastore hc dX11_pairLine_128 hw (fun h38 hw => ?_)
      refine R_aload_n (q := 1) (i := 0) (v := (some l0)) hc dX11_pairLine_129 rfl rfl ?_
      refine R_getR hc fl_11_26 dX11_pairLine_130 hw (fun t39 hw => ?_)
      refine R_iload_n (q := 0) (i := 2) (v := l2_9) hc dX11_pairLine_133 rfl rfl ?_
      refine R_iconst (v := (5 : Int32)) hc dX11_pairLine_134 kI_5 ?_
      refine R_iadd hc dX11_pairLine_135 ?_
      refine R_aload_n (q := 1) (i := 0) (v := (some l0)) hc dX11_pairLine_136 rfl rfl ?_
      refine R_ldcwS (k := 7) hc (hc.sk.2.2.2.2.2.1 (RX11, 261, "wide", 7) (List.mem_of_getElem? (i := 10) rfl)) dX11_pairLine_137 ?_
      refine R_cVIi (As := [.ref (x.w.aS (7))]) (rest := [.int (l2_9 + (5 : Int32)), rf x.w t39]) (r := (some l0)) (ci := 11) hc ml_11_244 mf_X11_has_ rfl (by decide) ⟨rfl, rfl⟩ ⟨le_b rfl, le_b rfl⟩ ⟨Nat.zero_le _, Nat.zero_le _⟩ (fun a v h' e => mt_X11_has_ e) rfl rfl (by simp [rf_cat, cat_i, cat_l, cat_a]) dX11_pairLine_140 hw (fun t41 h42 hw => ?_)
      refine R_join (fun (r : (Int32 × HP)) => match r with | (s43, h44) => Rn x 0 0 157 [(0, rf x.w (some l0)), (1, .int l1), (2, .int l2_9)] [.int s43, .int (l2_9 + (5 : Int32)), rf x.w t39] h44) hw (fun r hw => ?_) (fun hw => ?_)
      · obtain ⟨s43, h44⟩ := r
        show Rn x 0 0 157 [(0, rf x.w (some l0)), (1, .int l1), (2, .int l2_9)] [.int s43, .int (l2_9 + (5 : Int32)), rf x.w t39] h44
        refine R_iastore hc dX11_pairLine_157 hw (fun h48 hw => ?_)
        refine R_aload_n (q := 0) (i := 0) (v := (some l0)) hc dX11_pairLine_158 rfl rfl ?_
        refine R_getR hc fl_11_26 dX11_pairLine_159 hw (fun t49 hw => ?_)
        refine R_iload_n (q := 2) (i := 2) (v := l2_9) hc dX11_pairLine_162 rfl rfl ?_
        refine R_iconst (v := (5 : Int32)) hc dX11_pairLine_163 kI_5 ?_
        refine R_iadd hc dX11_pairLine_164 ?_
        refine R_iaload hc dX11_pairLine_165 hw (fun t50 hw => ?_)
        refine R_aload_n (q := 0) (i := 0) (v := (some l0)) hc dX11_pairLine_166 rfl rfl ?_
        refine R_getR hc fl_11_26 dX11_pairLine_167 hw (fun t51 hw => ?_)
        refine R_iconst (v := (0 : Int32)) hc dX11_pairLine_170 kI_0 ?_
        refine R_iaload hc dX11_pairLine_171 hw (fun t52 hw => ?_)
        refine R_iadd hc dX11_pairLine_172 ?_
        refine R_iconst (v := (1 : Int32)) hc dX11_pairLine_173 kI_1 ?_
        refine R_isub hc dX11_pairLine_174 ?_
        refine R_aload_n (q := 0) (i := 0) (v := (some l0)) hc dX11_pairLine_175 rfl rfl ?_
        refine R_getR hc fl_11_26 dX11_pairLine_176 hw (fun t53 hw => ?_)
        refine R_iconst (v := (0 : Int32)) hc dX11_pairLine_179 kI_0 ?_
        refine R_iaload hc dX11_pairLine_180 hw (fun t54 hw => ?_)
        refine R_idiv hc dX11_pairLine_181 hw (fun t55 hw => ?_)
        refine R_istore_n (i := 3) (v := t55) hc [(3, .int t55), (0, rf x.w (some l0)), (1, .int l1), (2, .int l2_9)] dX11_pairLine_182 rfl (hnl 3 (le_b rfl)) rfl ?_
        refine R_aload_n (q := 1) (i := 0) (v := (some l0)) hc dX11_pairLine_183 rfl rfl ?_
        refine R_getI hc fl_11_22 dX11_pairLine_184 hw (fun t56 hw => ?_)
        refine R_iconst (v := (-1 : Int32)) hc dX11_pairLine_187 kI_m1 ?_
        refine R_join (fun (h57 : HP) => Rn x 0 0 210 [(0, rf x.w (some l0)), (3, .int t55)] [] h57) hw (fun r hw => ?_) (fun hw => ?_)
        · revert r hw
          intro h57 hw
          show Rn x 0 0 210 [(0, rf x.w (some l0)), (3, .int t55)] [] h57
          refine R_aload_n (q := 0) (i := 0) (v := (some l0)) hc dX11_pairLine_210 rfl rfl ?_
          refine R_getI hc fl_11_22 dX11_pairLine_211 hw (fun t62 hw => ?_)
          refine R_iconst (v := (-1 : Int32)) hc dX11_pairLine_214 kI_m1 ?_
          refine R_icmp_eq (tgt := 219) hc dX11_pairLine_215 (by decide) hw (fun hw => ?_) (fun hw => ?_)
          · refine R_iconst (v := (0 : Int32)) hc dX11_pairLine_219 kI_0 ?_
            refine R_istore (i := 4) (v := (0 : Int32)) hc [(4, .int (0 : Int32)), (0, rf x.w (some l0)), (3, .int t55)] dX11_pairLine_220 (hnl 4 (le_b rfl)) rfl ?_
            refine R_sub hc [1, 2, 0] rfl ?_
            refine R_loop (P := fun (s : (Int32 × HP)) => Rn x 0 0 222 [(0, rf x.w (some l0)), (3, .int t55), (4, .int s.1)] [] s.2) (fun h78 => Rn x 0 0 288 [(0, rf x.w (some l0))] [] h78) hw (fun r hw => ?_) (fun X hX s hw => ?_)
            · revert r hw
              intro h78 hw
              show Rn x 0 0 288 [(0, rf x.w (some l0))] [] h78
              refine R_aload_n (q := 0) (i := 0) (v := (some l0)) hc dX11_pairLine_288 rfl rfl ?_
              refine R_getR hc fl_11_26 dX11_pairLine_289 hw (fun t79 hw => ?_)
              refine R_iconst (v := (4 : Int32)) hc dX11_pairLine_292 kI_4 ?_
              refine R_dup2 hc dX11_pairLine_293 rfl (rf_cat _ _) ?_
              refine R_iaload hc dX11_pairLine_294 hw (fun t80 hw => ?_)
              refine R_iconst (v := (1 : Int32)) hc dX11_pairLine_295 kI_1 ?_
              refine R_iadd hc dX11_pairLine_296 ?_
              refine R_iastore hc dX11_pairLine_297 hw (fun h81 hw => ?_)
              exact R_return hc hret hQ hw dX11_pairLine_298
            · obtain ⟨l4_83, h84⟩ := s
              show Rn x 0 0 222 [(0, rf x.w (some l0)), (3, .int t55), (4, .int l4_83)] [] h84
              have hw : wpO (sX11_pairLine_L222 F l0 t55 l4_83 h84) _ := hw
              unfold sX11_pairLine_L222 at hw
              refine R_iload (q := 2) (i := 4) (v := l4_83) hc dX11_pairLine_222 rfl ?_
              refine R_iload_n (q := 1) (i := 3) (v := t55) hc dX11_pairLine_224 rfl rfl ?_
              refine R_icmp_ge (tgt := 288) hc dX11_pairLine_225 (by decide) hw (fun hw => ?_) (fun hw => ?_)
              · refine R_sub hc [0] rfl ?_
                exact (wpO_some hw :)
              · refine R_aload_n (q := 0) (i := 0) (v := (some l0)) hc dX11_pairLine_228 rfl rfl ?_
                refine R_getR hc fl_11_26 dX11_pairLine_229 hw (fun t63 hw => ?_)
                refine R_bipush (v := (73 : Int32)) hc dX11_pairLine_232 kB_73 ?_
                refine R_aload_n (q := 0) (i := 0) (v := (some l0)) hc dX11_pairLine_234 rfl rfl ?_
                refine R_getR hc fl_11_26 dX11_pairLine_235 hw (fun t64 hw => ?_)
                refine R_bipush (v := (72 : Int32)) hc dX11_pairLine_238 kB_72 ?_
                refine R_iaload hc dX11_pairLine_240 hw (fun t65 hw => ?_)
                refine R_iadd hc dX11_pairLine_241 ?_
                refine R_aload_n (q := 0) (i := 0) (v := (some l0)) hc dX11_pairLine_242 rfl rfl ?_
                refine R_getR hc fl_11_26 dX11_pairLine_243 hw (fun t66 hw => ?_)
                refine R_iconst (v := (4 : Int32)) hc dX11_pairLine_246 kI_4 ?_
                refine R_iaload hc dX11_pairLine_247 hw (fun t67 hw => ?_)
                refine R_iastore hc dX11_pairLine_248 hw (fun h68 hw => ?_)
                refine R_aload_n (q := 0) (i := 0) (v := (some l0)) hc dX11_pairLine_249 rfl rfl ?_
                refine R_getR hc fl_11_26 dX11_pairLine_250 hw (fun t69 hw => ?_)
                refine R_bipush (v := (81 : Int32)) hc dX11_pairLine_253 kB_81 ?_
                refine R_aload_n (q := 0) (i := 0) (v := (some l0)) hc dX11_pairLine_255 rfl rfl ?_
                refine R_getR hc fl_11_26 dX11_pairLine_256 hw (fun t70 hw => ?_)
                refine R_bipush (v := (72 : Int32)) hc dX11_pairLine_259 kB_72 ?_
                refine R_iaload hc dX11_pairLine_261 hw (fun t71 hw => ?_)
                refine R_iadd hc dX11_pairLine_262 ?_
                refine R_aload_n (q := 0) (i := 0) (v := (some l0)) hc dX11_pairLine_263 rfl rfl ?_
                refine R_getR hc fl_11_26 dX11_pairLine_264 hw (fun t72 hw => ?_)
                refine R_bipush (v := (72 : Int32)) hc dX11_pairLine_267 kB_72 ?_
                refine R_iaload hc dX11_pairLine_269 hw (fun t73 hw => ?_)
                refine R_iastore hc dX11_pairLine_270 hw (fun h74 hw => ?_)
                refine R_aload_n (q := 0) (i := 0) (v := (some l0)) hc dX11_pairLine_271 rfl rfl ?_
                refine R_getR hc fl_11_26 dX11_pairLine_272 hw (fun t75 hw => ?_)
                refine R_bipush (v := (72 : Int32)) hc dX11_pairLine_275 kB_72 ?_
                refine R_dup2 hc dX11_pairLine_277 rfl (rf_cat _ _) ?_
                refine R_iaload hc dX11_pairLine_278 hw (fun t76 hw => ?_)
                refine R_iconst (v := (1 : Int32)) hc dX11_pairLine_279 kI_1 ?_
                refine R_iadd hc dX11_pairLine_280 ?_
                refine R_iastore hc dX11_pairLine_281 hw (fun h77 hw => ?_)
                refine R_iinc (q := 2) (i := 4) (v := l4_83) hc [(4, .int (l4_83 + (1 : Int32))), (0, rf x.w (some l0)), (3, .int t55)] dX11_pairLine_282 rfl (kC_1 _) (hnl 4 (le_b rfl)) rfl ?_
                refine R_goto (tgt := 222) hc dX11_pairLine_285 (by decide) ?_
                refine R_sub hc [1, 2, 0] rfl ?_
                exact hX (l4_83 + (1 : Int32), h77) (wpO_some hw :)
          · exact R_return hc hret hQ hw dX11_pairLine_218
        · refine R_icmp_ne (tgt := 210) hc dX11_pairLine_188 (by decide) hw (fun hw => ?_) (fun hw => ?_)
          · refine R_sub hc [1, 0] rfl ?_
            exact (wpO_some hw :)
          · refine R_aload_n (q := 1) (i := 0) (v := (some l0)) hc dX11_pairLine_191 rfl rfl ?_
            refine R_getR hc fl_11_26 dX11_pairLine_192 hw (fun t58 hw => ?_)
            refine R_bipush (v := (72 : Int32)) hc dX11_pairLine_195 kB_72 ?_
            refine R_iaload hc dX11_pairLine_197 hw (fun t59 hw => ?_)
            refine R_iload_n (q := 0) (i := 3) (v := t55) hc dX11_pairLine_198 rfl rfl ?_
            refine R_iadd hc dX11_pairLine_199 ?_
            refine R_bipush (v := (8 : Int32)) hc dX11_pairLine_200 kB_8 ?_
            refine R_icmp_le (tgt := 210) hc dX11_pairLine_202 (by decide) hw (fun hw => ?_) (fun hw => ?_)
            · refine R_sub hc [1, 0] rfl ?_
              exact (wpO_some hw :)
            · refine R_aload_n (q := 1) (i := 0) (v := (some l0)) hc dX11_pairLine_205 rfl rfl ?_
              refine R_iload_n (q := 2) (i := 1) (v := l1) hc dX11_pairLine_206 rfl rfl ?_
              refine R_cVVi (As := [.int l1]) (rest := []) (r := (some l0)) (ci := 11) hc ml_11_247 mf_X11_wrong rfl (by decide) ⟨rfl, rfl⟩ ⟨le_b rfl, le_b rfl⟩ ⟨Nat.zero_le _, Nat.zero_le _⟩ (fun a h' e => mt_X11_wrong e) rfl rfl (Nat.zero_le _) dX11_pairLine_207 hw (fun h61 hw => ?_)
              refine R_sub hc [1, 0] rfl ?_
              exact (wpO_some hw :)
      · refine R_if_eq (tgt := 156) hc dX11_pairLine_143 (by decide) hw (fun hw => ?_) (fun hw => ?_)
        · refine R_iconst (v := (1 : Int32)) hc dX11_pairLine_156 kI_1 ?_
          refine R_sub hc [1, 2, 0] rfl ?_
          exact (wpO_some hw :)
        · refine R_aload_n (q := 1) (i := 0) (v := (some l0)) hc dX11_pairLine_146 rfl rfl ?_
          refine R_iconst (v := (1 : Int32)) hc dX11_pairLine_147 kI_1 ?_
          refine R_bipush (v := (40 : Int32)) hc dX11_pairLine_148 kB_40 ?_
          refine R_cVIi (As := [.int (1 : Int32), .int (40 : Int32)]) (rest := [.int (l2_9 + (5 : Int32)), rf x.w t39]) (r := (some l0)) (ci := 11) hc ml_11_250 mf_X11_number rfl (by decide) ⟨rfl, rfl⟩ ⟨le_b rfl, le_b rfl⟩ ⟨Nat.zero_le _, Nat.zero_le _⟩ (fun a v h' e => mt_X11_number e) rfl rfl (by simp [rf_cat, cat_i, cat_l, cat_a]) dX11_pairLine_150 hw (fun t46 h47 hw => ?_)
          refine R_goto (tgt := 157) hc dX11_pairLine_153 (by decide) ?_
          refine R_sub hc [1, 2, 0] rfl ?_
          exact (wpO_some hw :)
    · exact R_return hc hret hQ hw dX11_pairLine_24
  · refine R_icmp_ne (tgt := 16) hc dX11_pairLine_8 (by decide) hw (fun hw => ?_) (fun hw => ?_)
    · refine R_sub hc [0, 1] rfl ?_
      exact (wpO_some hw :)
    · refine R_aload_n (q := 0) (i := 0) (v := (some l0)) hc dX11_pairLine_11 rfl rfl ?_
      refine R_iload_n (q := 1) (i := 1) (v := l1) hc dX11_pairLine_12 rfl rfl ?_
      refine R_cVVi (As := [.int l1]) (rest := []) (r := (some l0)) (ci := 11) hc ml_11_247 mf_X11_wrong rfl (by decide) ⟨rfl, rfl⟩ ⟨le_b rfl, le_b rfl⟩ ⟨Nat.zero_le _, Nat.zero_le _⟩ (fun a h' e => mt_X11_wrong e) rfl rfl (Nat.zero_le _) dX11_pairLine_13 hw (fun h5 hw => ?_)
      refine R_sub hc [0, 1] rfl ?_
      exact (wpO_some hw :)
theorem dX11_netLine_0 : decode cX11_netLine 0 = .ok (.aload_n 0, 1) := by decide +kernel
theorem dX11_netLine_1 : decode cX11_netLine 1 = .ok (.invokevirtual 232, 3) := by decide +kernel
theorem dX11_netLine_4 : decode cX11_netLine 4 = .ok (.istore_n 2, 1) := by decide +kernel
theorem dX11_netLine_5 : decode cX11_netLine 5 = .ok (.aload_n 0, 1) := by decide +kernel
theorem dX11_netLine_6 : decode cX11_netLine 6 = .ok (.iconst 0, 1) := by decide +kernel
theorem dX11_netLine_7 : decode cX11_netLine 7 = .ok (.bipush 11, 2) := by decide +kernel
theorem dX11_netLine_9 : decode cX11_netLine 9 = .ok (.invokevirtual 250, 3) := by decide +kernel
theorem dX11_netLine_12 : decode cX11_netLine 12 = .ok (.istore_n 3, 1) := by decide +kernel
theorem dX11_netLine_13 : decode cX11_netLine 13 = .ok (.aload_n 0, 1) := by decide +kernel
theorem dX11_netLine_14 : decode cX11_netLine 14 = .ok (.getfield 22, 3) := by decide +kernel
theorem dX11_netLine_17 : decode cX11_netLine 17 = .ok (.iconst (-1), 1) := by decide +kernel
theorem dX11_netLine_18 : decode cX11_netLine 18 = .ok (.if_icmp .ne 21, 3) := by decide +kernel
theorem dX11_netLine_21 : decode cX11_netLine 21 = .ok (.aload_n 0, 1) := by decide +kernel
theorem dX11_netLine_22 : decode cX11_netLine 22 = .ok (.getfield 26, 3) := by decide +kernel
theorem dX11_netLine_25 : decode cX11_netLine 25 = .ok (.iload_n 1, 1) := by decide +kernel
theorem dX11_netLine_26 : decode cX11_netLine 26 = .ok (.iaload, 1) := by decide +kernel
theorem dX11_netLine_27 : decode cX11_netLine 27 = .ok (.iload_n 3, 1) := by decide +kernel
theorem dX11_netLine_28 : decode cX11_netLine 28 = .ok (.invokestatic 178, 3) := by decide +kernel
theorem dX11_netLine_31 : decode cX11_netLine 31 = .ok (.ifCond .eq 8, 3) := by decide +kernel
theorem dX11_netLine_34 : decode cX11_netLine 34 = .ok (.aload_n 0, 1) := by decide +kernel
theorem dX11_netLine_35 : decode cX11_netLine 35 = .ok (.iload_n 2, 1) := by decide +kernel
theorem dX11_netLine_36 : decode cX11_netLine 36 = .ok (.invokevirtual 247, 3) := by decide +kernel
theorem dX11_netLine_39 : decode cX11_netLine 39 = .ok (.aload_n 0, 1) := by decide +kernel
theorem dX11_netLine_40 : decode cX11_netLine 40 = .ok (.getfield 22, 3) := by decide +kernel
theorem dX11_netLine_43 : decode cX11_netLine 43 = .ok (.iconst (-1), 1) := by decide +kernel
theorem dX11_netLine_44 : decode cX11_netLine 44 = .ok (.if_icmp .ne 15, 3) := by decide +kernel
theorem dX11_netLine_47 : decode cX11_netLine 47 = .ok (.aload_n 0, 1) := by decide +kernel
theorem dX11_netLine_48 : decode cX11_netLine 48 = .ok (.getfield 26, 3) := by decide +kernel
theorem dX11_netLine_51 : decode cX11_netLine 51 = .ok (.iload_n 1, 1) := by decide +kernel
theorem dX11_netLine_52 : decode cX11_netLine 52 = .ok (.dup2, 1) := by decide +kernel
theorem dX11_netLine_53 : decode cX11_netLine 53 = .ok (.iaload, 1) := by decide +kernel
theorem dX11_netLine_54 : decode cX11_netLine 54 = .ok (.iconst 1, 1) := by decide +kernel
theorem dX11_netLine_55 : decode cX11_netLine 55 = .ok (.iload_n 3, 1) := by decide +kernel
theorem dX11_netLine_56 : decode cX11_netLine 56 = .ok (.ishl, 1) := by decide +kernel
theorem dX11_netLine_57 : decode cX11_netLine 57 = .ok (.ior, 1) := by decide +kernel
theorem dX11_netLine_58 : decode cX11_netLine 58 = .ok (.iastore, 1) := by decide +kernel
theorem dX11_netLine_59 : decode cX11_netLine 59 = .ok (.return_, 1) := by decide +kernel
def sX11_netLine (F : Nat) (l0 : Nat) (l1 : Int32) (h : HP) : Option HP :=
  (dO h 11 (some l0)).bind fun a1 =>
  bd2 (sX11_here F a1 h) fun t2 h3 =>
  (dO h3 11 (some l0)).bind fun a4 =>
  bd2 (sX11_number F a4 (0 : Int32) (11 : Int32) h3) fun t5 h6 =>
  (gI h6 11 (some l0) 10).bind fun t7 =>
  (if ¬ t7 = (-1 : Int32) then
      some h6
    else
      (gR h6 11 (some l0) 11).bind fun t9 =>
      (aI h6 13 t9 l1).bind fun t10 =>
      (sX11_has F t10 t5 h6).bind fun t11 =>
      if t11 = 0 then
        some h6
      else
        (dO h6 11 (some l0)).bind fun a12 =>
        (sX11_wrong F a12 t2 h6).bind fun h13 =>
        some h13).bind fun h8 =>
  (gI h8 11 (some l0) 10).bind fun t14 =>
  if ¬ t14 = (-1 : Int32) then
    some h8
  else
    (gR h8 11 (some l0) 11).bind fun t15 =>
    (aI h8 13 t15 l1).bind fun t16 =>
    (sI h8 t15 l1 (t16 ||| (jshl (1 : Int32) t5))).bind fun h17 =>
    some h17
abbrev rm_X11_netLine : Room := { frames := 2, cells := 0, slots := 0, locals := 46 }
set_option maxRecDepth 100000 in
set_option maxHeartbeats 4000000 in
theorem mt_X11_netLine {w : WD} {l : Launch} {F : Nat} {l0 : Nat} {l1 : Int32} {h : HP} {h' : HP} (hs : sX11_netLine F l0 l1 h = some h') : MV w l yX11_netLine cX11_netLine 4 rm_X11_netLine 0 0 [rf w (some l0), .int l1] h h' := by
  refine of_body [(0, rf w (some l0)), (1, .int l1)] (by decide) (by simp [lg_sl, rf_cat, cat_i, cat_l, cat_a]) (by simp [lv_args, rf_cat, cat_i, cat_l, cat_a]) ?_
  intro x hw_ hnL_ hl_ hc hret hnm hQ
  subst hw_; subst hl_
  have hnl : ∀ i, i < 4 → i < x.nL := fun i h => by rw [hnL_]; exact h
  have hw : wpO (sX11_netLine F l0 l1 h) (fun r => r = h') := ⟨_, hs, rfl⟩
  unfold sX11_netLine at hw
  refine R_aload_n (q := 0) (i := 0) (v := (some l0)) hc dX11_netLine_0 rfl rfl ?_
  refine R_cVIi (As := []) (rest := []) (r := (some l0)) (ci := 11) hc ml_11_232 mf_X11_here rfl (by decide) ⟨rfl, rfl⟩ ⟨le_b rfl, le_b rfl⟩ ⟨Nat.zero_le _, Nat.zero_le _⟩ (fun a v h' e => mt_X11_here e) rfl rfl (Nat.zero_le _) dX11_netLine_1 hw (fun t2 h3 hw => ?_)
  refine R_istore_n (i := 2) (v := t2) hc [(2, .int t2), (0, rf x.w (some l0)), (1, .int l1)] dX11_netLine_4 rfl (hnl 2 (le_b rfl)) rfl ?_
  refine R_aload_n (q := 1) (i := 0) (v := (some l0)) hc dX11_netLine_5 rfl rfl ?_
  refine R_iconst (v := (0 : Int32)) hc dX11_netLine_6 kI_0 ?_
  refine R_bipush (v := (11 : Int32)) hc dX11_netLine_7 kB_11 ?_
  refine R_cVIi (As := [.int (0 : Int32), .int (11 : Int32)]) (rest := []) (r := (some l0)) (ci := 11) hc ml_11_250 mf_X11_number rfl (by decide) ⟨rfl, rfl⟩ ⟨le_b rfl, le_b rfl⟩ ⟨Nat.zero_le _, Nat.zero_le _⟩ (fun a v h' e => mt_X11_number e) rfl rfl (Nat.zero_le _) dX11_netLine_9 hw (fun t5 h6 hw => ?_)
  refine R_istore_n (i := 3) (v := t5) hc [(3, .int t5), (2, .int t2), (0, rf x.w (some l0)), (1, .int l1)] dX11_netLine_12 rfl (hnl 3 (le_b rfl)) rfl ?_
  refine R_aload_n (q := 2) (i := 0) (v := (some l0)) hc dX11_netLine_13 rfl rfl ?_
  refine R_getI hc fl_11_22 dX11_netLine_14 hw (fun t7 hw => ?_)
  refine R_iconst (v := (-1 : Int32)) hc dX11_netLine_17 kI_m1 ?_
  refine R_join (fun (h8 : HP) => Rn x 0 0 39 [(0, rf x.w (some l0)), (1, .int l1), (3, .int t5)] [] h8) hw (fun r hw => ?_) (fun hw => ?_)
  · revert r hw
    intro h8 hw
    show Rn x 0 0 39 [(0, rf x.w (some l0)), (1, .int l1), (3, .int t5)] [] h8
    refine R_aload_n (q := 0) (i := 0) (v := (some l0)) hc dX11_netLine_39 rfl rfl ?_
    refine R_getI hc fl_11_22 dX11_netLine_40 hw (fun t14 hw => ?_)
    refine R_iconst (v := (-1 : Int32)) hc dX11_netLine_43 kI_m1 ?_
    refine R_icmp_ne (tgt := 59) hc dX11_netLine_44 (by decide) hw (fun hw => ?_) (fun hw => ?_)
    · exact R_return hc hret hQ hw dX11_netLine_59
    · refine R_aload_n (q := 0) (i := 0) (v := (some l0)) hc dX11_netLine_47 rfl rfl ?_
      refine R_getR hc fl_11_26 dX11_netLine_48 hw (fun t15 hw => ?_)
      refine R_iload_n (q := 1) (i := 1) (v := l1) hc dX11_netLine_51 rfl rfl ?_
      refine R_dup2 hc dX11_netLine_52 rfl (rf_cat _ _) ?_
      refine R_iaload hc dX11_netLine_53 hw (fun t16 hw => ?_)
      refine R_iconst (v := (1 : Int32)) hc dX11_netLine_54 kI_1 ?_
      refine R_iload_n (q := 2) (i := 3) (v := t5) hc dX11_netLine_55 rfl rfl ?_
      refine R_ishl hc dX11_netLine_56 ?_
      refine R_ior hc dX11_netLine_57 ?_
      refine R_iastore hc dX11_netLine_58 hw (fun h17 hw => ?_)
      exact R_return hc hret hQ hw dX11_netLine_59
  · refine R_icmp_ne (tgt := 39) hc dX11_netLine_18 (by decide) hw (fun hw => ?_) (fun hw => ?_)
    · refine R_sub hc [2, 3, 0] rfl ?_
      exact (wpO_some hw :)
    · refine R_aload_n (q := 2) (i := 0) (v := (some l0)) hc dX11_netLine_21 rfl rfl ?_
      refine R_getR hc fl_11_26 dX11_netLine_22 hw (fun t9 hw => ?_)
      refine R_iload_n (q := 3) (i := 1) (v := l1) hc dX11_netLine_25 rfl rfl ?_
      refine R_iaload hc dX11_netLine_26 hw (fun t10 hw => ?_)
      refine R_iload_n (q := 0) (i := 3) (v := t5) hc dX11_netLine_27 rfl rfl ?_
      refine R_cSI (As := [.int t10, .int t5]) (rest := []) hc ml_11_178 mf_X11_has ⟨rfl, rfl⟩ ⟨le_b rfl, le_b rfl⟩ ⟨Nat.zero_le _, Nat.zero_le _⟩ (fun v e => mt_X11_has e) rfl rfl (Nat.zero_le _) dX11_netLine_28 hw (fun t11 hw => ?_)
      refine R_if_eq (tgt := 39) hc dX11_netLine_31 (by decide) hw (fun hw => ?_) (fun hw => ?_)
      · refine R_sub hc [2, 3, 0] rfl ?_
        exact (wpO_some hw :)
      · refine R_aload_n (q := 2) (i := 0) (v := (some l0)) hc dX11_netLine_34 rfl rfl ?_
        refine R_iload_n (q := 1) (i := 2) (v := t2) hc dX11_netLine_35 rfl rfl ?_
        refine R_cVVi (As := [.int t2]) (rest := []) (r := (some l0)) (ci := 11) hc ml_11_247 mf_X11_wrong rfl (by decide) ⟨rfl, rfl⟩ ⟨le_b rfl, le_b rfl⟩ ⟨Nat.zero_le _, Nat.zero_le _⟩ (fun a h' e => mt_X11_wrong e) rfl rfl (Nat.zero_le _) dX11_netLine_36 hw (fun h13 hw => ?_)
        refine R_sub hc [2, 3, 0] rfl ?_
        exact (wpO_some hw :)
theorem dX11_members_0 : decode cX11_members 0 = .ok (.iconst 0, 1) := by decide +kernel
theorem dX11_members_1 : decode cX11_members 1 = .ok (.istore_n 1, 1) := by decide +kernel
theorem dX11_members_2 : decode cX11_members 2 = .ok (.iconst 0, 1) := by decide +kernel
theorem dX11_members_3 : decode cX11_members 3 = .ok (.istore_n 2, 1) := by decide +kernel
theorem dX11_members_4 : decode cX11_members 4 = .ok (.iload_n 2, 1) := by decide +kernel
theorem dX11_members_5 : decode cX11_members 5 = .ok (.bipush 12, 2) := by decide +kernel
theorem dX11_members_7 : decode cX11_members 7 = .ok (.if_icmp .ge 17, 3) := by decide +kernel
theorem dX11_members_10 : decode cX11_members 10 = .ok (.iload_n 1, 1) := by decide +kernel
theorem dX11_members_11 : decode cX11_members 11 = .ok (.iload_n 0, 1) := by decide +kernel
theorem dX11_members_12 : decode cX11_members 12 = .ok (.iload_n 2, 1) := by decide +kernel
theorem dX11_members_13 : decode cX11_members 13 = .ok (.ishr, 1) := by decide +kernel
theorem dX11_members_14 : decode cX11_members 14 = .ok (.iconst 1, 1) := by decide +kernel
theorem dX11_members_15 : decode cX11_members 15 = .ok (.iand, 1) := by decide +kernel
theorem dX11_members_16 : decode cX11_members 16 = .ok (.iadd, 1) := by decide +kernel
theorem dX11_members_17 : decode cX11_members 17 = .ok (.istore_n 1, 1) := by decide +kernel
theorem dX11_members_18 : decode cX11_members 18 = .ok (.iinc 2 1, 3) := by decide +kernel
theorem dX11_members_21 : decode cX11_members 21 = .ok (.goto (-17), 3) := by decide +kernel
theorem dX11_members_24 : decode cX11_members 24 = .ok (.iload_n 1, 1) := by decide +kernel
theorem dX11_members_25 : decode cX11_members 25 = .ok (.ireturn, 1) := by decide +kernel
def sX11_members_L4 (F : Nat) (l0 : Int32) (l1 : Int32) (l2 : Int32) (h : HP) : Option ((Int32 × Int32) ⊕ Int32) :=
  if (12 : Int32) ≤ l2 then
    some (.inr l1)
  else
    nmI (l1 + ((jshr l0 l2) &&& (1 : Int32))) fun l1_1 =>
    some (.inl (l1_1, l2 + (1 : Int32)))
def sX11_members (F : Nat) (l0 : Int32) (h : HP) : Option Int32 :=
  (iter (fun s => sX11_members_L4 F l0 s.1 s.2 h) F ((0 : Int32), (0 : Int32))).bind fun l1_2 =>
    some l1_2
abbrev rm_X11_members : Room := { frames := 0, cells := 0, slots := 0, locals := 0 }
set_option maxRecDepth 100000 in
set_option maxHeartbeats 4000000 in
theorem mt_X11_members {w : WD} {l : Launch} {F : Nat} {l0 : Int32} {h : HP} {v : Int32} (hs : sX11_members F l0 h = some v) : MI w l yX11_members cX11_members 3 .int rm_X11_members 0 0 [.int l0] h v h := by
  refine of_body [(0, .int l0)] (by decide) (by simp [lg_sl, rf_cat, cat_i, cat_l, cat_a]) (by simp [lv_args, rf_cat, cat_i, cat_l, cat_a]) ?_
  intro x hw_ hnL_ hl_ hc hret hnm hQ
  subst hw_; subst hl_
  have hnl : ∀ i, i < 3 → i < x.nL := fun i h => by rw [hnL_]; exact h
  have hw : wpO (sX11_members F l0 h) (fun r => r = v) := ⟨_, hs, rfl⟩
  unfold sX11_members at hw
  refine R_iconst (v := (0 : Int32)) hc dX11_members_0 kI_0 ?_
  refine R_istore_n (i := 1) (v := (0 : Int32)) hc [(1, .int (0 : Int32)), (0, .int l0)] dX11_members_1 rfl (hnl 1 (le_b rfl)) rfl ?_
  refine R_iconst (v := (0 : Int32)) hc dX11_members_2 kI_0 ?_
  refine R_istore_n (i := 2) (v := (0 : Int32)) hc [(2, .int (0 : Int32)), (1, .int (0 : Int32)), (0, .int l0)] dX11_members_3 rfl (hnl 2 (le_b rfl)) rfl ?_
  refine R_sub hc [2, 1, 0] rfl ?_
  refine R_loop (P := fun (s : (Int32 × Int32)) => Rn x 0 0 4 [(0, .int l0), (1, .int s.1), (2, .int s.2)] [] h) (fun l1_2 => Rn x 0 0 24 [(1, .int l1_2)] [] h) hw (fun r hw => ?_) (fun X hX s hw => ?_)
  · revert r hw
    intro l1_2 hw
    show Rn x 0 0 24 [(1, .int l1_2)] [] h
    refine R_iload_n (q := 0) (i := 1) (v := l1_2) hc dX11_members_24 rfl rfl ?_
    exact R_ireturnP hc hret rfl hQ hw dX11_members_25
  · obtain ⟨l1_4, l2_5⟩ := s
    show Rn x 0 0 4 [(0, .int l0), (1, .int l1_4), (2, .int l2_5)] [] h
    have hw : wpO (sX11_members_L4 F l0 l1_4 l2_5 h) _ := hw
    unfold sX11_members_L4 at hw
    refine R_iload_n (q := 2) (i := 2) (v := l2_5) hc dX11_members_4 rfl rfl ?_
    refine R_bipush (v := (12 : Int32)) hc dX11_members_5 kB_12 ?_
    refine R_icmp_ge (tgt := 24) hc dX11_members_7 (by decide) hw (fun hw => ?_) (fun hw => ?_)
    · refine R_sub hc [1] rfl ?_
      exact (wpO_some hw :)
    · refine R_iload_n (q := 1) (i := 1) (v := l1_4) hc dX11_members_10 rfl rfl ?_
      refine R_iload_n (q := 0) (i := 0) (v := l0) hc dX11_members_11 rfl rfl ?_
      refine R_iload_n (q := 2) (i := 2) (v := l2_5) hc dX11_members_12 rfl rfl ?_
      refine R_ishr hc dX11_members_13 ?_
      refine R_iconst (v := (1 : Int32)) hc dX11_members_14 kI_1 ?_
      refine R_iand hc dX11_members_15 ?_
      refine R_iadd hc dX11_members_16 ?_
      refine R_nmI hw (fun l1_1 hw => ?_)
      refine R_istore_n (i := 1) (v := l1_1) hc [(1, .int l1_1), (0, .int l0), (2, .int l2_5)] dX11_members_17 rfl (hnl 1 (le_b rfl)) rfl ?_
      refine R_iinc (q := 2) (i := 2) (v := l2_5) hc [(2, .int (l2_5 + (1 : Int32))), (1, .int l1_1), (0, .int l0)] dX11_members_18 rfl (kC_1 _) (hnl 2 (le_b rfl)) rfl ?_
      refine R_goto (tgt := 4) hc dX11_members_21 (by decide) ?_
      refine R_sub hc [2, 1, 0] rfl ?_
      exact hX (l1_1, l2_5 + (1 : Int32)) (wpO_some hw :)
theorem dX11_blockLine_0 : decode cX11_blockLine 0 = .ok (.aload_n 0, 1) := by decide +kernel
theorem dX11_blockLine_1 : decode cX11_blockLine 1 = .ok (.getfield 26, 3) := by decide +kernel
theorem dX11_blockLine_4 : decode cX11_blockLine 4 = .ok (.bipush 53, 2) := by decide +kernel
theorem dX11_blockLine_6 : decode cX11_blockLine 6 = .ok (.iaload, 1) := by decide +kernel
theorem dX11_blockLine_7 : decode cX11_blockLine 7 = .ok (.bipush 6, 2) := by decide +kernel
theorem dX11_blockLine_9 : decode cX11_blockLine 9 = .ok (.if_icmp .ne 8, 3) := by decide +kernel
theorem dX11_blockLine_12 : decode cX11_blockLine 12 = .ok (.aload_n 0, 1) := by decide +kernel
theorem dX11_blockLine_13 : decode cX11_blockLine 13 = .ok (.iload_n 1, 1) := by decide +kernel
theorem dX11_blockLine_14 : decode cX11_blockLine 14 = .ok (.invokevirtual 247, 3) := by decide +kernel
theorem dX11_blockLine_17 : decode cX11_blockLine 17 = .ok (.aload_n 0, 1) := by decide +kernel
theorem dX11_blockLine_18 : decode cX11_blockLine 18 = .ok (.getfield 22, 3) := by decide +kernel
theorem dX11_blockLine_21 : decode cX11_blockLine 21 = .ok (.iconst (-1), 1) := by decide +kernel
theorem dX11_blockLine_22 : decode cX11_blockLine 22 = .ok (.if_icmp .eq 4, 3) := by decide +kernel
theorem dX11_blockLine_25 : decode cX11_blockLine 25 = .ok (.return_, 1) := by decide +kernel
theorem dX11_blockLine_26 : decode cX11_blockLine 26 = .ok (.bipush 54, 2) := by decide +kernel
theorem dX11_blockLine_28 : decode cX11_blockLine 28 = .ok (.iconst 3, 1) := by decide +kernel
theorem dX11_blockLine_29 : decode cX11_blockLine 29 = .ok (.aload_n 0, 1) := by decide +kernel
theorem dX11_blockLine_30 : decode cX11_blockLine 30 = .ok (.getfield 26, 3) := by decide +kernel
theorem dX11_blockLine_33 : decode cX11_blockLine 33 = .ok (.bipush 53, 2) := by decide +kernel
theorem dX11_blockLine_35 : decode cX11_blockLine 35 = .ok (.iaload, 1) := by decide +kernel
theorem dX11_blockLine_36 : decode cX11_blockLine 36 = .ok (.imul, 1) := by decide +kernel
theorem dX11_blockLine_37 : decode cX11_blockLine 37 = .ok (.iadd, 1) := by decide +kernel
theorem dX11_blockLine_38 : decode cX11_blockLine 38 = .ok (.istore_n 2, 1) := by decide +kernel
theorem dX11_blockLine_39 : decode cX11_blockLine 39 = .ok (.aload_n 0, 1) := by decide +kernel
theorem dX11_blockLine_40 : decode cX11_blockLine 40 = .ok (.getfield 26, 3) := by decide +kernel
theorem dX11_blockLine_43 : decode cX11_blockLine 43 = .ok (.iload_n 2, 1) := by decide +kernel
theorem dX11_blockLine_44 : decode cX11_blockLine 44 = .ok (.aload_n 0, 1) := by decide +kernel
theorem dX11_blockLine_45 : decode cX11_blockLine 45 = .ok (.iconst 0, 1) := by decide +kernel
theorem dX11_blockLine_46 : decode cX11_blockLine 46 = .ok (.bipush 11, 2) := by decide +kernel
theorem dX11_blockLine_48 : decode cX11_blockLine 48 = .ok (.invokevirtual 250, 3) := by decide +kernel
theorem dX11_blockLine_51 : decode cX11_blockLine 51 = .ok (.iastore, 1) := by decide +kernel
theorem dX11_blockLine_52 : decode cX11_blockLine 52 = .ok (.aload_n 0, 1) := by decide +kernel
theorem dX11_blockLine_53 : decode cX11_blockLine 53 = .ok (.getfield 26, 3) := by decide +kernel
theorem dX11_blockLine_56 : decode cX11_blockLine 56 = .ok (.iload_n 2, 1) := by decide +kernel
theorem dX11_blockLine_57 : decode cX11_blockLine 57 = .ok (.iconst 1, 1) := by decide +kernel
theorem dX11_blockLine_58 : decode cX11_blockLine 58 = .ok (.iadd, 1) := by decide +kernel
theorem dX11_blockLine_59 : decode cX11_blockLine 59 = .ok (.aload_n 0, 1) := by decide +kernel
theorem dX11_blockLine_60 : decode cX11_blockLine 60 = .ok (.iconst 0, 1) := by decide +kernel
theorem dX11_blockLine_61 : decode cX11_blockLine 61 = .ok (.bipush 40, 2) := by decide +kernel
theorem dX11_blockLine_63 : decode cX11_blockLine 63 = .ok (.invokevirtual 250, 3) := by decide +kernel
theorem dX11_blockLine_66 : decode cX11_blockLine 66 = .ok (.iastore, 1) := by decide +kernel
theorem dX11_blockLine_67 : decode cX11_blockLine 67 = .ok (.aload_n 0, 1) := by decide +kernel
theorem dX11_blockLine_68 : decode cX11_blockLine 68 = .ok (.getfield 26, 3) := by decide +kernel
theorem dX11_blockLine_71 : decode cX11_blockLine 71 = .ok (.iload_n 2, 1) := by decide +kernel
theorem dX11_blockLine_72 : decode cX11_blockLine 72 = .ok (.iconst 2, 1) := by decide +kernel
theorem dX11_blockLine_73 : decode cX11_blockLine 73 = .ok (.iadd, 1) := by decide +kernel
theorem dX11_blockLine_74 : decode cX11_blockLine 74 = .ok (.aload_n 0, 1) := by decide +kernel
theorem dX11_blockLine_75 : decode cX11_blockLine 75 = .ok (.aload_n 0, 1) := by decide +kernel
theorem dX11_blockLine_76 : decode cX11_blockLine 76 = .ok (.getfield 26, 3) := by decide +kernel
theorem dX11_blockLine_79 : decode cX11_blockLine 79 = .ok (.iload_n 2, 1) := by decide +kernel
theorem dX11_blockLine_80 : decode cX11_blockLine 80 = .ok (.iconst 1, 1) := by decide +kernel
theorem dX11_blockLine_81 : decode cX11_blockLine 81 = .ok (.iadd, 1) := by decide +kernel
theorem dX11_blockLine_82 : decode cX11_blockLine 82 = .ok (.iaload, 1) := by decide +kernel
theorem dX11_blockLine_83 : decode cX11_blockLine 83 = .ok (.bipush 40, 2) := by decide +kernel
theorem dX11_blockLine_85 : decode cX11_blockLine 85 = .ok (.invokevirtual 250, 3) := by decide +kernel
theorem dX11_blockLine_88 : decode cX11_blockLine 88 = .ok (.iastore, 1) := by decide +kernel
theorem dX11_blockLine_89 : decode cX11_blockLine 89 = .ok (.aload_n 0, 1) := by decide +kernel
theorem dX11_blockLine_90 : decode cX11_blockLine 90 = .ok (.getfield 26, 3) := by decide +kernel
theorem dX11_blockLine_93 : decode cX11_blockLine 93 = .ok (.bipush 53, 2) := by decide +kernel
theorem dX11_blockLine_95 : decode cX11_blockLine 95 = .ok (.dup2, 1) := by decide +kernel
theorem dX11_blockLine_96 : decode cX11_blockLine 96 = .ok (.iaload, 1) := by decide +kernel
theorem dX11_blockLine_97 : decode cX11_blockLine 97 = .ok (.iconst 1, 1) := by decide +kernel
theorem dX11_blockLine_98 : decode cX11_blockLine 98 = .ok (.iadd, 1) := by decide +kernel
theorem dX11_blockLine_99 : decode cX11_blockLine 99 = .ok (.iastore, 1) := by decide +kernel
theorem dX11_blockLine_100 : decode cX11_blockLine 100 = .ok (.return_, 1) := by decide +kernel
def sX11_blockLine (F : Nat) (l0 : Nat) (l1 : Int32) (h : HP) : Option HP :=
  (gR h 11 (some l0) 11).bind fun t1 =>
  (aI h 13 t1 (53 : Int32)).bind fun t2 =>
  (if ¬ t2 = (6 : Int32) then
      some h
    else
      (dO h 11 (some l0)).bind fun a4 =>
      (sX11_wrong F a4 l1 h).bind fun h5 =>
      some h5).bind fun h3 =>
  (gI h3 11 (some l0) 10).bind fun t6 =>
  if t6 = (-1 : Int32) then
    (gR h3 11 (some l0) 11).bind fun t7 =>
    (aI h3 13 t7 (53 : Int32)).bind fun t8 =>
    nmI ((54 : Int32) + ((3 : Int32) * t8)) fun l2_9 =>
    (gR h3 11 (some l0) 11).bind fun t10 =>
    (dO h3 11 (some l0)).bind fun a11 =>
    bd2 (sX11_number F a11 (0 : Int32) (11 : Int32) h3) fun t12 h13 =>
    (sI h13 t10 l2_9 t12).bind fun h14 =>
    (gR h14 11 (some l0) 11).bind fun t15 =>
    (dO h14 11 (some l0)).bind fun a16 =>
    bd2 (sX11_number F a16 (0 : Int32) (40 : Int32) h14) fun t17 h18 =>
    (sI h18 t15 (l2_9 + (1 : Int32)) t17).bind fun h19 =>
    (gR h19 11 (some l0) 11).bind fun t20 =>
    (gR h19 11 (some l0) 11).bind fun t21 =>
    (aI h19 13 t21 (l2_9 + (1 : Int32))).bind fun t22 =>
    (dO h19 11 (some l0)).bind fun a23 =>
    bd2 (sX11_number F a23 t22 (40 : Int32) h19) fun t24 h25 =>
    (sI h25 t20 (l2_9 + (2 : Int32)) t24).bind fun h26 =>
    (gR h26 11 (some l0) 11).bind fun t27 =>
    (aI h26 13 t27 (53 : Int32)).bind fun t28 =>
    (sI h26 t27 (53 : Int32) (t28 + (1 : Int32))).bind fun h29 =>
    some h29
  else
    some h3
abbrev rm_X11_blockLine : Room := { frames := 2, cells := 0, slots := 0, locals := 46 }
set_option maxRecDepth 100000 in
set_option maxHeartbeats 4000000 in
theorem mt_X11_blockLine {w : WD} {l : Launch} {F : Nat} {l0 : Nat} {l1 : Int32} {h : HP} {h' : HP} (hs : sX11_blockLine F l0 l1 h = some h') : MV w l yX11_blockLine cX11_blockLine 3 rm_X11_blockLine 0 0 [rf w (some l0), .int l1] h h' := by
  refine of_body [(0, rf w (some l0)), (1, .int l1)] (by decide) (by simp [lg_sl, rf_cat, cat_i, cat_l, cat_a]) (by simp [lv_args, rf_cat, cat_i, cat_l, cat_a]) ?_
  intro x hw_ hnL_ hl_ hc hret hnm hQ
  subst hw_; subst hl_
  have hnl : ∀ i, i < 3 → i < x.nL := fun i h => by rw [hnL_]; exact h
  have hw : wpO (sX11_blockLine F l0 l1 h) (fun r => r = h') := ⟨_, hs, rfl⟩
  unfold sX11_blockLine at hw
  refine R_aload_n (q := 0) (i := 0) (v := (some l0)) hc dX11_blockLine_0 rfl rfl ?_
  refine R_getR hc fl_11_26 dX11_blockLine_1 hw (fun t1 hw => ?_)
  refine R_bipush (v := (53 : Int32)) hc dX11_blockLine_4 kB_53 ?_
  refine R_iaload hc dX11_blockLine_6 hw (fun t2 hw => ?_)
  refine R_bipush (v := (6 : Int32)) hc dX11_blockLine_7 kB_6 ?_
  refine R_join (fun (h3 : HP) => Rn x 0 0 17 [(0, rf x.w (some l0))] [] h3) hw (fun r hw => ?_) (fun hw => ?_)
  · revert r hw
    intro h3 hw
    show Rn x 0 0 17 [(0, rf x.w (some l0))] [] h3
    refine R_aload_n (q := 0) (i := 0) (v := (some l0)) hc dX11_blockLine_17 rfl rfl ?_
    refine R_getI hc fl_11_22 dX11_blockLine_18 hw (fun t6 hw => ?_)
    refine R_iconst (v := (-1 : Int32)) hc dX11_blockLine_21 kI_m1 ?_
    refine R_icmp_eq (tgt := 26) hc dX11_blockLine_22 (by decide) hw (fun hw => ?_) (fun hw => ?_)
    · refine R_bipush (v := (54 : Int32)) hc dX11_blockLine_26 kB_54 ?_
      refine R_iconst (v := (3 : Int32)) hc dX11_blockLine_28 kI_3 ?_
      refine R_aload_n (q := 0) (i := 0) (v := (some l0)) hc dX11_blockLine_29 rfl rfl ?_
      refine R_getR hc fl_11_26 dX11_blockLine_30 hw (fun t7 hw => ?_)
      refine R_bipush (v := (53 : Int32)) hc dX11_blockLine_33 kB_53 ?_
      refine R_iaload hc dX11_blockLine_35 hw (fun t8 hw => ?_)
      refine R_imul hc dX11_blockLine_36 ?_
      refine R_iadd hc dX11_blockLine_37 ?_
      refine R_nmI hw (fun l2_9 hw => ?_)
      refine R_istore_n (i := 2) (v := l2_9) hc [(2, .int l2_9), (0, rf x.w (some l0))] dX11_blockLine_38 rfl (hnl 2 (le_b rfl)) rfl ?_
      refine R_aload_n (q := 1) (i := 0) (v := (some l0)) hc dX11_blockLine_39 rfl rfl ?_
      refine R_getR hc fl_11_26 dX11_blockLine_40 hw (fun t10 hw => ?_)
      refine R_iload_n (q := 0) (i := 2) (v := l2_9) hc dX11_blockLine_43 rfl rfl ?_
      refine R_aload_n (q := 1) (i := 0) (v := (some l0)) hc dX11_blockLine_44 rfl rfl ?_
      refine R_iconst (v := (0 : Int32)) hc dX11_blockLine_45 kI_0 ?_
      refine R_bipush (v := (11 : Int32)) hc dX11_blockLine_46 kB_11 ?_
      refine R_cVIi (As := [.int (0 : Int32), .int (11 : Int32)]) (rest := [.int l2_9, rf x.w t10]) (r := (some l0)) (ci := 11) hc ml_11_250 mf_X11_number rfl (by decide) ⟨rfl, rfl⟩ ⟨le_b rfl, le_b rfl⟩ ⟨Nat.zero_le _, Nat.zero_le _⟩ (fun a v h' e => mt_X11_number e) rfl rfl (by simp [rf_cat, cat_i, cat_l, cat_a]) dX11_blockLine_48 hw (fun t12 h13 hw => ?_)
      refine R_iastore hc dX11_blockLine_51 hw (fun h14 hw => ?_)
      refine R_aload_n (q := 1) (i := 0) (v := (some l0)) hc dX11_blockLine_52 rfl rfl ?_
      refine R_getR hc fl_11_26 dX11_blockLine_53 hw (fun t15 hw => ?_)
      refine R_iload_n (q := 0) (i := 2) (v := l2_9) hc dX11_blockLine_56 rfl rfl ?_
      refine R_iconst (v := (1 : Int32)) hc dX11_blockLine_57 kI_1 ?_
      refine R_iadd hc dX11_blockLine_58 ?_
      refine R_aload_n (q := 1) (i := 0) (v := (some l0)) hc dX11_blockLine_59 rfl rfl ?_
      refine R_iconst (v := (0 : Int32)) hc dX11_blockLine_60 kI_0 ?_
      refine R_bipush (v := (40 : Int32)) hc dX11_blockLine_61 kB_40 ?_
      refine R_cVIi (As := [.int (0 : Int32), .int (40 : Int32)]) (rest := [.int (l2_9 + (1 : Int32)), rf x.w t15]) (r := (some l0)) (ci := 11) hc ml_11_250 mf_X11_number rfl (by decide) ⟨rfl, rfl⟩ ⟨le_b rfl, le_b rfl⟩ ⟨Nat.zero_le _, Nat.zero_le _⟩ (fun a v h' e => mt_X11_number e) rfl rfl (by simp [rf_cat, cat_i, cat_l, cat_a]) dX11_blockLine_63 hw (fun t17 h18 hw => ?_)
      refine R_iastore hc dX11_blockLine_66 hw (fun h19 hw => ?_)
      refine R_aload_n (q := 1) (i := 0) (v := (some l0)) hc dX11_blockLine_67 rfl rfl ?_
      refine R_getR hc fl_11_26 dX11_blockLine_68 hw (fun t20 hw => ?_)
      refine R_iload_n (q := 0) (i := 2) (v := l2_9) hc dX11_blockLine_71 rfl rfl ?_
      refine R_iconst (v := (2 : Int32)) hc dX11_blockLine_72 kI_2 ?_
      refine R_iadd hc dX11_blockLine_73 ?_
      refine R_aload_n (q := 1) (i := 0) (v := (some l0)) hc dX11_blockLine_74 rfl rfl ?_
      refine R_aload_n (q := 1) (i := 0) (v := (some l0)) hc dX11_blockLine_75 rfl rfl ?_
      refine R_getR hc fl_11_26 dX11_blockLine_76 hw (fun t21 hw => ?_)
      refine R_iload_n (q := 0) (i := 2) (v := l2_9) hc dX11_blockLine_79 rfl rfl ?_
      refine R_iconst (v := (1 : Int32)) hc dX11_blockLine_80 kI_1 ?_
      refine R_iadd hc dX11_blockLine_81 ?_
      refine R_iaload hc dX11_blockLine_82 hw (fun t22 hw => ?_)
      refine R_bipush (v := (40 : Int32)) hc dX11_blockLine_83 kB_40 ?_
      refine R_cVIi (As := [.int t22, .int (40 : Int32)]) (rest := [.int (l2_9 + (2 : Int32)), rf x.w t20]) (r := (some l0)) (ci := 11) hc ml_11_250 mf_X11_number rfl (by decide) ⟨rfl, rfl⟩ ⟨le_b rfl, le_b rfl⟩ ⟨Nat.zero_le _, Nat.zero_le _⟩ (fun a v h' e => mt_X11_number e) rfl rfl (by simp [rf_cat, cat_i, cat_l, cat_a]) dX11_blockLine_85 hw (fun t24 h25 hw => ?_)
      refine R_iastore hc dX11_blockLine_88 hw (fun h26 hw => ?_)
      refine R_aload_n (q := 1) (i := 0) (v := (some l0)) hc dX11_blockLine_89 rfl rfl ?_
      refine R_getR hc fl_11_26 dX11_blockLine_90 hw (fun t27 hw => ?_)
      refine R_bipush (v := (53 : Int32)) hc dX11_blockLine_93 kB_53 ?_
      refine R_dup2 hc dX11_blockLine_95 rfl (rf_cat _ _) ?_
      refine R_iaload hc dX11_blockLine_96 hw (fun t28 hw => ?_)
      refine R_iconst (v := (1 : Int32)) hc dX11_blockLine_97 kI_1 ?_
      refine R_iadd hc dX11_blockLine_98 ?_
      refine R_iastore hc dX11_blockLine_99 hw (fun h29 hw => ?_)
      exact R_return hc hret hQ hw dX11_blockLine_100
    · exact R_return hc hret hQ hw dX11_blockLine_25
  · refine R_icmp_ne (tgt := 17) hc dX11_blockLine_9 (by decide) hw (fun hw => ?_) (fun hw => ?_)
    · refine R_sub hc [0] rfl ?_
      exact (wpO_some hw :)
    · refine R_aload_n (q := 0) (i := 0) (v := (some l0)) hc dX11_blockLine_12 rfl rfl ?_
      refine R_iload_n (q := 1) (i := 1) (v := l1) hc dX11_blockLine_13 rfl rfl ?_
      refine R_cVVi (As := [.int l1]) (rest := []) (r := (some l0)) (ci := 11) hc ml_11_247 mf_X11_wrong rfl (by decide) ⟨rfl, rfl⟩ ⟨le_b rfl, le_b rfl⟩ ⟨Nat.zero_le _, Nat.zero_le _⟩ (fun a h' e => mt_X11_wrong e) rfl rfl (Nat.zero_le _) dX11_blockLine_14 hw (fun h5 hw => ?_)
      refine R_sub hc [0] rfl ?_
      exact (wpO_some hw :)
theorem dX11_line_0 : decode cX11_line 0 = .ok (.aload_n 0, 1) := by decide +kernel
theorem dX11_line_1 : decode cX11_line 1 = .ok (.invokevirtual 232, 3) := by decide +kernel
theorem dX11_line_4 : decode cX11_line 4 = .ok (.istore_n 1, 1) := by decide +kernel
theorem dX11_line_5 : decode cX11_line 5 = .ok (.aload_n 0, 1) := by decide +kernel
theorem dX11_line_6 : decode cX11_line 6 = .ok (.ldc_w 263, 3) := by decide +kernel
theorem dX11_line_9 : decode cX11_line 9 = .ok (.invokevirtual 244, 3) := by decide +kernel
theorem dX11_line_12 : decode cX11_line 12 = .ok (.ifCond .eq 11, 3) := by decide +kernel
theorem dX11_line_15 : decode cX11_line 15 = .ok (.aload_n 0, 1) := by decide +kernel
theorem dX11_line_16 : decode cX11_line 16 = .ok (.iload_n 1, 1) := by decide +kernel
theorem dX11_line_17 : decode cX11_line 17 = .ok (.invokevirtual 265, 3) := by decide +kernel
theorem dX11_line_20 : decode cX11_line 20 = .ok (.goto 81, 3) := by decide +kernel
theorem dX11_line_23 : decode cX11_line 23 = .ok (.aload_n 0, 1) := by decide +kernel
theorem dX11_line_24 : decode cX11_line 24 = .ok (.ldc_w 268, 3) := by decide +kernel
theorem dX11_line_27 : decode cX11_line 27 = .ok (.invokevirtual 244, 3) := by decide +kernel
theorem dX11_line_30 : decode cX11_line 30 = .ok (.ifCond .eq 11, 3) := by decide +kernel
theorem dX11_line_33 : decode cX11_line 33 = .ok (.aload_n 0, 1) := by decide +kernel
theorem dX11_line_34 : decode cX11_line 34 = .ok (.iconst 2, 1) := by decide +kernel
theorem dX11_line_35 : decode cX11_line 35 = .ok (.invokevirtual 270, 3) := by decide +kernel
theorem dX11_line_38 : decode cX11_line 38 = .ok (.goto 63, 3) := by decide +kernel
theorem dX11_line_41 : decode cX11_line 41 = .ok (.aload_n 0, 1) := by decide +kernel
theorem dX11_line_42 : decode cX11_line 42 = .ok (.ldc_w 273, 3) := by decide +kernel
theorem dX11_line_45 : decode cX11_line 45 = .ok (.invokevirtual 244, 3) := by decide +kernel
theorem dX11_line_48 : decode cX11_line 48 = .ok (.ifCond .eq 30, 3) := by decide +kernel
theorem dX11_line_51 : decode cX11_line 51 = .ok (.aload_n 0, 1) := by decide +kernel
theorem dX11_line_52 : decode cX11_line 52 = .ok (.getfield 26, 3) := by decide +kernel
theorem dX11_line_55 : decode cX11_line 55 = .ok (.iconst 3, 1) := by decide +kernel
theorem dX11_line_56 : decode cX11_line 56 = .ok (.iaload, 1) := by decide +kernel
theorem dX11_line_57 : decode cX11_line 57 = .ok (.invokestatic 275, 3) := by decide +kernel
theorem dX11_line_60 : decode cX11_line 60 = .ok (.bipush 6, 2) := by decide +kernel
theorem dX11_line_62 : decode cX11_line 62 = .ok (.if_icmp .ne 8, 3) := by decide +kernel
theorem dX11_line_65 : decode cX11_line 65 = .ok (.aload_n 0, 1) := by decide +kernel
theorem dX11_line_66 : decode cX11_line 66 = .ok (.iload_n 1, 1) := by decide +kernel
theorem dX11_line_67 : decode cX11_line 67 = .ok (.invokevirtual 247, 3) := by decide +kernel
theorem dX11_line_70 : decode cX11_line 70 = .ok (.aload_n 0, 1) := by decide +kernel
theorem dX11_line_71 : decode cX11_line 71 = .ok (.iconst 3, 1) := by decide +kernel
theorem dX11_line_72 : decode cX11_line 72 = .ok (.invokevirtual 270, 3) := by decide +kernel
theorem dX11_line_75 : decode cX11_line 75 = .ok (.goto 26, 3) := by decide +kernel
theorem dX11_line_78 : decode cX11_line 78 = .ok (.aload_n 0, 1) := by decide +kernel
theorem dX11_line_79 : decode cX11_line 79 = .ok (.ldc_w 278, 3) := by decide +kernel
theorem dX11_line_82 : decode cX11_line 82 = .ok (.invokevirtual 244, 3) := by decide +kernel
theorem dX11_line_85 : decode cX11_line 85 = .ok (.ifCond .eq 11, 3) := by decide +kernel
theorem dX11_line_88 : decode cX11_line 88 = .ok (.aload_n 0, 1) := by decide +kernel
theorem dX11_line_89 : decode cX11_line 89 = .ok (.iload_n 1, 1) := by decide +kernel
theorem dX11_line_90 : decode cX11_line 90 = .ok (.invokevirtual 280, 3) := by decide +kernel
theorem dX11_line_93 : decode cX11_line 93 = .ok (.goto 8, 3) := by decide +kernel
theorem dX11_line_96 : decode cX11_line 96 = .ok (.aload_n 0, 1) := by decide +kernel
theorem dX11_line_97 : decode cX11_line 97 = .ok (.iload_n 1, 1) := by decide +kernel
theorem dX11_line_98 : decode cX11_line 98 = .ok (.invokevirtual 247, 3) := by decide +kernel
theorem dX11_line_101 : decode cX11_line 101 = .ok (.return_, 1) := by decide +kernel
def sX11_line (F : Nat) (l0 : Nat) (h : HP) : Option HP :=
  (dO h 11 (some l0)).bind fun a1 =>
  bd2 (sX11_here F a1 h) fun t2 h3 =>
  (dO h3 11 (some l0)).bind fun a4 =>
  bd2 (sX11_has_ F a4 (1) h3) fun t5 h6 =>
  if t5 = 0 then
    (dO h6 11 (some l0)).bind fun a7 =>
    bd2 (sX11_has_ F a7 (2) h6) fun t8 h9 =>
    if t8 = 0 then
      (dO h9 11 (some l0)).bind fun a10 =>
      bd2 (sX11_has_ F a10 (3) h9) fun t11 h12 =>
      if t11 = 0 then
        (dO h12 11 (some l0)).bind fun a13 =>
        bd2 (sX11_has_ F a13 (4) h12) fun t14 h15 =>
        if t14 = 0 then
          (dO h15 11 (some l0)).bind fun a16 =>
          (sX11_wrong F a16 t2 h15).bind fun h17 =>
          some h17
        else
          (dO h15 11 (some l0)).bind fun a18 =>
          (sX11_blockLine F a18 t2 h15).bind fun h19 =>
          some h19
      else
        (gR h12 11 (some l0) 11).bind fun t20 =>
        (aI h12 13 t20 (3 : Int32)).bind fun t21 =>
        (sX11_members F t21 h12).bind fun t22 =>
        if ¬ t22 = (6 : Int32) then
          (dO h12 11 (some l0)).bind fun a23 =>
          (sX11_netLine F a23 (3 : Int32) h12).bind fun h24 =>
          some h24
        else
          (dO h12 11 (some l0)).bind fun a25 =>
          (sX11_wrong F a25 t2 h12).bind fun h26 =>
          (dO h26 11 (some l0)).bind fun a27 =>
          (sX11_netLine F a27 (3 : Int32) h26).bind fun h28 =>
          some h28
    else
      (dO h9 11 (some l0)).bind fun a29 =>
      (sX11_netLine F a29 (2 : Int32) h9).bind fun h30 =>
      some h30
  else
    (dO h6 11 (some l0)).bind fun a31 =>
    (sX11_pairLine F a31 t2 h6).bind fun h32 =>
    some h32
abbrev rm_X11_line : Room := { frames := 7, cells := 0, slots := 0, locals := 153 }
set_option maxRecDepth 100000 in
set_option maxHeartbeats 4000000 in
theorem mt_X11_line {w : WD} {l : Launch} {F : Nat} {l0 : Nat} {h : HP} {h' : HP} (hs : sX11_line F l0 h = some h') : MV w l yX11_line cX11_line 2 rm_X11_line 0 0 [rf w (some l0)] h h' := by
  refine of_body [(0, rf w (some l0))] (by decide) (by simp [lg_sl, rf_cat, cat_i, cat_l, cat_a]) (by simp [lv_args, rf_cat, cat_i, cat_l, cat_a]) ?_
  intro x hw_ hnL_ hl_ hc hret hnm hQ
  subst hw_; subst hl_
  have hnl : ∀ i, i < 2 → i < x.nL := fun i h => by rw [hnL_]; exact h
  have hw : wpO (sX11_line F l0 h) (fun r => r = h') := ⟨_, hs, rfl⟩
  unfold sX11_line at hw
  refine R_aload_n (q := 0) (i := 0) (v := (some l0)) hc dX11_line_0 rfl rfl ?_
  refine R_cVIi (As := []) (rest := []) (r := (some l0)) (ci := 11) hc ml_11_232 mf_X11_here rfl (by decide) ⟨rfl, rfl⟩ ⟨le_b rfl, le_b rfl⟩ ⟨Nat.zero_le _, Nat.zero_le _⟩ (fun a v h' e => mt_X11_here e) rfl rfl (Nat.zero_le _) dX11_line_1 hw (fun t2 h3 hw => ?_)
  refine R_istore_n (i := 1) (v := t2) hc [(1, .int t2), (0, rf x.w (some l0))] dX11_line_4 rfl (hnl 1 (le_b rfl)) rfl ?_
  refine R_aload_n (q := 1) (i := 0) (v := (some l0)) hc dX11_line_5 rfl rfl ?_
  refine R_ldcwS (k := 1) hc (hc.sk.2.2.2.2.2.1 (RX11, 263, "pair", 1) (List.mem_of_getElem? (i := 11) rfl)) dX11_line_6 ?_
  refine R_cVIi (As := [.ref (x.w.aS (1))]) (rest := []) (r := (some l0)) (ci := 11) hc ml_11_244 mf_X11_has_ rfl (by decide) ⟨rfl, rfl⟩ ⟨le_b rfl, le_b rfl⟩ ⟨Nat.zero_le _, Nat.zero_le _⟩ (fun a v h' e => mt_X11_has_ e) rfl rfl (Nat.zero_le _) dX11_line_9 hw (fun t5 h6 hw => ?_)
  refine R_if_eq (tgt := 23) hc dX11_line_12 (by decide) hw (fun hw => ?_) (fun hw => ?_)
  · refine R_aload_n (q := 1) (i := 0) (v := (some l0)) hc dX11_line_23 rfl rfl ?_
    refine R_ldcwS (k := 2) hc (hc.sk.2.2.2.2.2.1 (RX11, 268, "rail", 2) (List.mem_of_getElem? (i := 12) rfl)) dX11_line_24 ?_
    refine R_cVIi (As := [.ref (x.w.aS (2))]) (rest := []) (r := (some l0)) (ci := 11) hc ml_11_244 mf_X11_has_ rfl (by decide) ⟨rfl, rfl⟩ ⟨le_b rfl, le_b rfl⟩ ⟨Nat.zero_le _, Nat.zero_le _⟩ (fun a v h' e => mt_X11_has_ e) rfl rfl (Nat.zero_le _) dX11_line_27 hw (fun t8 h9 hw => ?_)
    refine R_if_eq (tgt := 41) hc dX11_line_30 (by decide) hw (fun hw => ?_) (fun hw => ?_)
    · refine R_aload_n (q := 1) (i := 0) (v := (some l0)) hc dX11_line_41 rfl rfl ?_
      refine R_ldcwS (k := 3) hc (hc.sk.2.2.2.2.2.1 (RX11, 273, "pin", 3) (List.mem_of_getElem? (i := 13) rfl)) dX11_line_42 ?_
      refine R_cVIi (As := [.ref (x.w.aS (3))]) (rest := []) (r := (some l0)) (ci := 11) hc ml_11_244 mf_X11_has_ rfl (by decide) ⟨rfl, rfl⟩ ⟨le_b rfl, le_b rfl⟩ ⟨Nat.zero_le _, Nat.zero_le _⟩ (fun a v h' e => mt_X11_has_ e) rfl rfl (Nat.zero_le _) dX11_line_45 hw (fun t11 h12 hw => ?_)
      refine R_if_eq (tgt := 78) hc dX11_line_48 (by decide) hw (fun hw => ?_) (fun hw => ?_)
      · refine R_aload_n (q := 1) (i := 0) (v := (some l0)) hc dX11_line_78 rfl rfl ?_
        refine R_ldcwS (k := 4) hc (hc.sk.2.2.2.2.2.1 (RX11, 278, "block", 4) (List.mem_of_getElem? (i := 14) rfl)) dX11_line_79 ?_
        refine R_cVIi (As := [.ref (x.w.aS (4))]) (rest := []) (r := (some l0)) (ci := 11) hc ml_11_244 mf_X11_has_ rfl (by decide) ⟨rfl, rfl⟩ ⟨le_b rfl, le_b rfl⟩ ⟨Nat.zero_le _, Nat.zero_le _⟩ (fun a v h' e => mt_X11_has_ e) rfl rfl (Nat.zero_le _) dX11_line_82 hw (fun t14 h15 hw => ?_)
        refine R_if_eq (tgt := 96) hc dX11_line_85 (by decide) hw (fun hw => ?_) (fun hw => ?_)
        · refine R_aload_n (q := 1) (i := 0) (v := (some l0)) hc dX11_line_96 rfl rfl ?_
          refine R_iload_n (q := 0) (i := 1) (v := t2) hc dX11_line_97 rfl rfl ?_
          refine R_cVVi (As := [.int t2]) (rest := []) (r := (some l0)) (ci := 11) hc ml_11_247 mf_X11_wrong rfl (by decide) ⟨rfl, rfl⟩ ⟨le_b rfl, le_b rfl⟩ ⟨Nat.zero_le _, Nat.zero_le _⟩ (fun a h' e => mt_X11_wrong e) rfl rfl (Nat.zero_le _) dX11_line_98 hw (fun h17 hw => ?_)
          exact R_return hc hret hQ hw dX11_line_101
        · refine R_aload_n (q := 1) (i := 0) (v := (some l0)) hc dX11_line_88 rfl rfl ?_
          refine R_iload_n (q := 0) (i := 1) (v := t2) hc dX11_line_89 rfl rfl ?_
          refine R_cVVi (As := [.int t2]) (rest := []) (r := (some l0)) (ci := 11) hc ml_11_280 mf_X11_blockLine rfl (by decide) ⟨rfl, rfl⟩ ⟨le_b rfl, le_b rfl⟩ ⟨Nat.zero_le _, Nat.zero_le _⟩ (fun a h' e => mt_X11_blockLine e) rfl rfl (Nat.zero_le _) dX11_line_90 hw (fun h19 hw => ?_)
          refine R_goto (tgt := 101) hc dX11_line_93 (by decide) ?_
          exact R_return hc hret hQ hw dX11_line_101
      · refine R_aload_n (q := 1) (i := 0) (v := (some l0)) hc dX11_line_51 rfl rfl ?_
        refine R_getR hc fl_11_26 dX11_line_52 hw (fun t20 hw => ?_)
        refine R_iconst (v := (3 : Int32)) hc dX11_line_55 kI_3 ?_
        refine R_iaload hc dX11_line_56 hw (fun t21 hw => ?_)
        refine R_cSI (As := [.int t21]) (rest := []) hc ml_11_275 mf_X11_members ⟨rfl, rfl⟩ ⟨le_b rfl, le_b rfl⟩ ⟨Nat.zero_le _, Nat.zero_le _⟩ (fun v e => mt_X11_members e) rfl rfl (Nat.zero_le _) dX11_line_57 hw (fun t22 hw => ?_)
        refine R_bipush (v := (6 : Int32)) hc dX11_line_60 kB_6 ?_
        refine R_icmp_ne (tgt := 70) hc dX11_line_62 (by decide) hw (fun hw => ?_) (fun hw => ?_)
        · refine R_aload_n (q := 1) (i := 0) (v := (some l0)) hc dX11_line_70 rfl rfl ?_
          refine R_iconst (v := (3 : Int32)) hc dX11_line_71 kI_3 ?_
          refine R_cVVi (As := [.int (3 : Int32)]) (rest := []) (r := (some l0)) (ci := 11) hc ml_11_270 mf_X11_netLine rfl (by decide) ⟨rfl, rfl⟩ ⟨le_b rfl, le_b rfl⟩ ⟨Nat.zero_le _, Nat.zero_le _⟩ (fun a h' e => mt_X11_netLine e) rfl rfl (Nat.zero_le _) dX11_line_72 hw (fun h24 hw => ?_)
          refine R_goto (tgt := 101) hc dX11_line_75 (by decide) ?_
          exact R_return hc hret hQ hw dX11_line_101
        · refine R_aload_n (q := 1) (i := 0) (v := (some l0)) hc dX11_line_65 rfl rfl ?_
          refine R_iload_n (q := 0) (i := 1) (v := t2) hc dX11_line_66 rfl rfl ?_
          refine R_cVVi (As := [.int t2]) (rest := []) (r := (some l0)) (ci := 11) hc ml_11_247 mf_X11_wrong rfl (by decide) ⟨rfl, rfl⟩ ⟨le_b rfl, le_b rfl⟩ ⟨Nat.zero_le _, Nat.zero_le _⟩ (fun a h' e => mt_X11_wrong e) rfl rfl (Nat.zero_le _) dX11_line_67 hw (fun h26 hw => ?_)
          refine R_aload_n (q := 1) (i := 0) (v := (some l0)) hc dX11_line_70 rfl rfl ?_
          refine R_iconst (v := (3 : Int32)) hc dX11_line_71 kI_3 ?_
          refine R_cVVi (As := [.int (3 : Int32)]) (rest := []) (r := (some l0)) (ci := 11) hc ml_11_270 mf_X11_netLine rfl (by decide) ⟨rfl, rfl⟩ ⟨le_b rfl, le_b rfl⟩ ⟨Nat.zero_le _, Nat.zero_le _⟩ (fun a h' e => mt_X11_netLine e) rfl rfl (Nat.zero_le _) dX11_line_72 hw (fun h28 hw => ?_)
          refine R_goto (tgt := 101) hc dX11_line_75 (by decide) ?_
          exact R_return hc hret hQ hw dX11_line_101
    · refine R_aload_n (q := 1) (i := 0) (v := (some l0)) hc dX11_line_33 rfl rfl ?_
      refine R_iconst (v := (2 : Int32)) hc dX11_line_34 kI_2 ?_
      refine R_cVVi (As := [.int (2 : Int32)]) (rest := []) (r := (some l0)) (ci := 11) hc ml_11_270 mf_X11_netLine rfl (by decide) ⟨rfl, rfl⟩ ⟨le_b rfl, le_b rfl⟩ ⟨Nat.zero_le _, Nat.zero_le _⟩ (fun a h' e => mt_X11_netLine e) rfl rfl (Nat.zero_le _) dX11_line_35 hw (fun h30 hw => ?_)
      refine R_goto (tgt := 101) hc dX11_line_38 (by decide) ?_
      exact R_return hc hret hQ hw dX11_line_101
  · refine R_aload_n (q := 1) (i := 0) (v := (some l0)) hc dX11_line_15 rfl rfl ?_
    refine R_iload_n (q := 0) (i := 1) (v := t2) hc dX11_line_16 rfl rfl ?_
    refine R_cVVi (As := [.int t2]) (rest := []) (r := (some l0)) (ci := 11) hc ml_11_265 mf_X11_pairLine rfl (by decide) ⟨rfl, rfl⟩ ⟨le_b rfl, le_b rfl⟩ ⟨Nat.zero_le _, Nat.zero_le _⟩ (fun a h' e => mt_X11_pairLine e) rfl rfl (Nat.zero_le _) dX11_line_17 hw (fun h32 hw => ?_)
    refine R_goto (tgt := 101) hc dX11_line_20 (by decide) ?_
    exact R_return hc hret hQ hw dX11_line_101
theorem dX11_cell_0 : decode cX11_cell 0 = .ok (.aload_n 0, 1) := by decide +kernel
theorem dX11_cell_1 : decode cX11_cell 1 = .ok (.iconst (-1), 1) := by decide +kernel
theorem dX11_cell_2 : decode cX11_cell 2 = .ok (.putfield 22, 3) := by decide +kernel
theorem dX11_cell_5 : decode cX11_cell 5 = .ok (.aload_n 0, 1) := by decide +kernel
theorem dX11_cell_6 : decode cX11_cell 6 = .ok (.aload_n 0, 1) := by decide +kernel
theorem dX11_cell_7 : decode cX11_cell 7 = .ok (.getfield 223, 3) := by decide +kernel
theorem dX11_cell_10 : decode cX11_cell 10 = .ok (.putfield 229, 3) := by decide +kernel
theorem dX11_cell_13 : decode cX11_cell 13 = .ok (.aload_n 0, 1) := by decide +kernel
theorem dX11_cell_14 : decode cX11_cell 14 = .ok (.iconst 0, 1) := by decide +kernel
theorem dX11_cell_15 : decode cX11_cell 15 = .ok (.putfield 223, 3) := by decide +kernel
theorem dX11_cell_18 : decode cX11_cell 18 = .ok (.aload_n 0, 1) := by decide +kernel
theorem dX11_cell_19 : decode cX11_cell 19 = .ok (.iconst 0, 1) := by decide +kernel
theorem dX11_cell_20 : decode cX11_cell 20 = .ok (.putfield 226, 3) := by decide +kernel
theorem dX11_cell_23 : decode cX11_cell 23 = .ok (.aload_n 0, 1) := by decide +kernel
theorem dX11_cell_24 : decode cX11_cell 24 = .ok (.getfield 26, 3) := by decide +kernel
theorem dX11_cell_27 : decode cX11_cell 27 = .ok (.invokestatic 96, 3) := by decide +kernel
theorem dX11_cell_30 : decode cX11_cell 30 = .ok (.aload_n 0, 1) := by decide +kernel
theorem dX11_cell_31 : decode cX11_cell 31 = .ok (.ldc_w 283, 3) := by decide +kernel
theorem dX11_cell_34 : decode cX11_cell 34 = .ok (.invokevirtual 255, 3) := by decide +kernel
theorem dX11_cell_37 : decode cX11_cell 37 = .ok (.aload_n 0, 1) := by decide +kernel
theorem dX11_cell_38 : decode cX11_cell 38 = .ok (.getfield 26, 3) := by decide +kernel
theorem dX11_cell_41 : decode cX11_cell 41 = .ok (.iconst 0, 1) := by decide +kernel
theorem dX11_cell_42 : decode cX11_cell 42 = .ok (.aload_n 0, 1) := by decide +kernel
theorem dX11_cell_43 : decode cX11_cell 43 = .ok (.iconst 1, 1) := by decide +kernel
theorem dX11_cell_44 : decode cX11_cell 44 = .ok (.bipush 9, 2) := by decide +kernel
theorem dX11_cell_46 : decode cX11_cell 46 = .ok (.invokevirtual 250, 3) := by decide +kernel
theorem dX11_cell_49 : decode cX11_cell 49 = .ok (.iastore, 1) := by decide +kernel
theorem dX11_cell_50 : decode cX11_cell 50 = .ok (.aload_n 0, 1) := by decide +kernel
theorem dX11_cell_51 : decode cX11_cell 51 = .ok (.getfield 26, 3) := by decide +kernel
theorem dX11_cell_54 : decode cX11_cell 54 = .ok (.iconst 1, 1) := by decide +kernel
theorem dX11_cell_55 : decode cX11_cell 55 = .ok (.aload_n 0, 1) := by decide +kernel
theorem dX11_cell_56 : decode cX11_cell 56 = .ok (.iconst 1, 1) := by decide +kernel
theorem dX11_cell_57 : decode cX11_cell 57 = .ok (.iconst 4, 1) := by decide +kernel
theorem dX11_cell_58 : decode cX11_cell 58 = .ok (.invokevirtual 250, 3) := by decide +kernel
theorem dX11_cell_61 : decode cX11_cell 61 = .ok (.iastore, 1) := by decide +kernel
theorem dX11_cell_62 : decode cX11_cell 62 = .ok (.iconst 0, 1) := by decide +kernel
theorem dX11_cell_63 : decode cX11_cell 63 = .ok (.istore_n 1, 1) := by decide +kernel
theorem dX11_cell_64 : decode cX11_cell 64 = .ok (.aload_n 0, 1) := by decide +kernel
theorem dX11_cell_65 : decode cX11_cell 65 = .ok (.getfield 22, 3) := by decide +kernel
theorem dX11_cell_68 : decode cX11_cell 68 = .ok (.iconst (-1), 1) := by decide +kernel
theorem dX11_cell_69 : decode cX11_cell 69 = .ok (.if_icmp .ne 89, 3) := by decide +kernel
theorem dX11_cell_72 : decode cX11_cell 72 = .ok (.aload_n 0, 1) := by decide +kernel
theorem dX11_cell_73 : decode cX11_cell 73 = .ok (.invokevirtual 232, 3) := by decide +kernel
theorem dX11_cell_76 : decode cX11_cell 76 = .ok (.aload_n 0, 1) := by decide +kernel
theorem dX11_cell_77 : decode cX11_cell 77 = .ok (.getfield 229, 3) := by decide +kernel
theorem dX11_cell_80 : decode cX11_cell 80 = .ok (.if_icmp .ge 78, 3) := by decide +kernel
theorem dX11_cell_83 : decode cX11_cell 83 = .ok (.aload_n 0, 1) := by decide +kernel
theorem dX11_cell_84 : decode cX11_cell 84 = .ok (.getfield 19, 3) := by decide +kernel
theorem dX11_cell_87 : decode cX11_cell 87 = .ok (.aload_n 0, 1) := by decide +kernel
theorem dX11_cell_88 : decode cX11_cell 88 = .ok (.getfield 226, 3) := by decide +kernel
theorem dX11_cell_91 : decode cX11_cell 91 = .ok (.iaload, 1) := by decide +kernel
theorem dX11_cell_92 : decode cX11_cell 92 = .ok (.bipush 59, 2) := by decide +kernel
theorem dX11_cell_94 : decode cX11_cell 94 = .ok (.if_icmp .eq 14, 3) := by decide +kernel
theorem dX11_cell_97 : decode cX11_cell 97 = .ok (.aload_n 0, 1) := by decide +kernel
theorem dX11_cell_98 : decode cX11_cell 98 = .ok (.aload_n 0, 1) := by decide +kernel
theorem dX11_cell_99 : decode cX11_cell 99 = .ok (.getfield 226, 3) := by decide +kernel
theorem dX11_cell_102 : decode cX11_cell 102 = .ok (.invokevirtual 247, 3) := by decide +kernel
theorem dX11_cell_105 : decode cX11_cell 105 = .ok (.goto 13, 3) := by decide +kernel
theorem dX11_cell_108 : decode cX11_cell 108 = .ok (.aload_n 0, 1) := by decide +kernel
theorem dX11_cell_109 : decode cX11_cell 109 = .ok (.dup, 1) := by decide +kernel
theorem dX11_cell_110 : decode cX11_cell 110 = .ok (.getfield 226, 3) := by decide +kernel
theorem dX11_cell_113 : decode cX11_cell 113 = .ok (.iconst 1, 1) := by decide +kernel
theorem dX11_cell_114 : decode cX11_cell 114 = .ok (.iadd, 1) := by decide +kernel
theorem dX11_cell_115 : decode cX11_cell 115 = .ok (.putfield 226, 3) := by decide +kernel
theorem dX11_cell_118 : decode cX11_cell 118 = .ok (.aload_n 0, 1) := by decide +kernel
theorem dX11_cell_119 : decode cX11_cell 119 = .ok (.getfield 22, 3) := by decide +kernel
theorem dX11_cell_122 : decode cX11_cell 122 = .ok (.iconst (-1), 1) := by decide +kernel
theorem dX11_cell_123 : decode cX11_cell 123 = .ok (.if_icmp .ne 17, 3) := by decide +kernel
theorem dX11_cell_126 : decode cX11_cell 126 = .ok (.iload_n 1, 1) := by decide +kernel
theorem dX11_cell_127 : decode cX11_cell 127 = .ok (.bipush 20, 2) := by decide +kernel
theorem dX11_cell_129 : decode cX11_cell 129 = .ok (.if_icmp .ne 11, 3) := by decide +kernel
theorem dX11_cell_132 : decode cX11_cell 132 = .ok (.aload_n 0, 1) := by decide +kernel
theorem dX11_cell_133 : decode cX11_cell 133 = .ok (.aload_n 0, 1) := by decide +kernel
theorem dX11_cell_134 : decode cX11_cell 134 = .ok (.invokevirtual 232, 3) := by decide +kernel
theorem dX11_cell_137 : decode cX11_cell 137 = .ok (.invokevirtual 247, 3) := by decide +kernel
theorem dX11_cell_140 : decode cX11_cell 140 = .ok (.aload_n 0, 1) := by decide +kernel
theorem dX11_cell_141 : decode cX11_cell 141 = .ok (.getfield 22, 3) := by decide +kernel
theorem dX11_cell_144 : decode cX11_cell 144 = .ok (.iconst (-1), 1) := by decide +kernel
theorem dX11_cell_145 : decode cX11_cell 145 = .ok (.if_icmp .ne 7, 3) := by decide +kernel
theorem dX11_cell_148 : decode cX11_cell 148 = .ok (.aload_n 0, 1) := by decide +kernel
theorem dX11_cell_149 : decode cX11_cell 149 = .ok (.invokevirtual 285, 3) := by decide +kernel
theorem dX11_cell_152 : decode cX11_cell 152 = .ok (.iinc 1 1, 3) := by decide +kernel
theorem dX11_cell_155 : decode cX11_cell 155 = .ok (.goto (-91), 3) := by decide +kernel
theorem dX11_cell_158 : decode cX11_cell 158 = .ok (.aload_n 0, 1) := by decide +kernel
theorem dX11_cell_159 : decode cX11_cell 159 = .ok (.aload_n 0, 1) := by decide +kernel
theorem dX11_cell_160 : decode cX11_cell 160 = .ok (.getfield 22, 3) := by decide +kernel
theorem dX11_cell_163 : decode cX11_cell 163 = .ok (.iconst (-1), 1) := by decide +kernel
theorem dX11_cell_164 : decode cX11_cell 164 = .ok (.if_icmp .ne 7, 3) := by decide +kernel
theorem dX11_cell_167 : decode cX11_cell 167 = .ok (.iconst 0, 1) := by decide +kernel
theorem dX11_cell_168 : decode cX11_cell 168 = .ok (.goto 4, 3) := by decide +kernel
theorem dX11_cell_171 : decode cX11_cell 171 = .ok (.iconst 1, 1) := by decide +kernel
theorem dX11_cell_172 : decode cX11_cell 172 = .ok (.putfield 100, 3) := by decide +kernel
theorem dX11_cell_175 : decode cX11_cell 175 = .ok (.aload_n 0, 1) := by decide +kernel
theorem dX11_cell_176 : decode cX11_cell 176 = .ok (.getfield 100, 3) := by decide +kernel
theorem dX11_cell_179 : decode cX11_cell 179 = .ok (.ifCond .le 5, 3) := by decide +kernel
theorem dX11_cell_182 : decode cX11_cell 182 = .ok (.iconst 0, 1) := by decide +kernel
theorem dX11_cell_183 : decode cX11_cell 183 = .ok (.ireturn, 1) := by decide +kernel
theorem dX11_cell_184 : decode cX11_cell 184 = .ok (.iconst 0, 1) := by decide +kernel
theorem dX11_cell_185 : decode cX11_cell 185 = .ok (.istore_n 1, 1) := by decide +kernel
theorem dX11_cell_186 : decode cX11_cell 186 = .ok (.iload_n 1, 1) := by decide +kernel
theorem dX11_cell_187 : decode cX11_cell 187 = .ok (.bipush 106, 2) := by decide +kernel
theorem dX11_cell_189 : decode cX11_cell 189 = .ok (.if_icmp .ge 21, 3) := by decide +kernel
theorem dX11_cell_192 : decode cX11_cell 192 = .ok (.aload_n 0, 1) := by decide +kernel
theorem dX11_cell_193 : decode cX11_cell 193 = .ok (.getfield 7, 3) := by decide +kernel
theorem dX11_cell_196 : decode cX11_cell 196 = .ok (.iload_n 1, 1) := by decide +kernel
theorem dX11_cell_197 : decode cX11_cell 197 = .ok (.aload_n 0, 1) := by decide +kernel
theorem dX11_cell_198 : decode cX11_cell 198 = .ok (.getfield 26, 3) := by decide +kernel
theorem dX11_cell_201 : decode cX11_cell 201 = .ok (.iload_n 1, 1) := by decide +kernel
theorem dX11_cell_202 : decode cX11_cell 202 = .ok (.iaload, 1) := by decide +kernel
theorem dX11_cell_203 : decode cX11_cell 203 = .ok (.iastore, 1) := by decide +kernel
theorem dX11_cell_204 : decode cX11_cell 204 = .ok (.iinc 1 1, 3) := by decide +kernel
theorem dX11_cell_207 : decode cX11_cell 207 = .ok (.goto (-21), 3) := by decide +kernel
theorem dX11_cell_210 : decode cX11_cell 210 = .ok (.aload_n 0, 1) := by decide +kernel
theorem dX11_cell_211 : decode cX11_cell 211 = .ok (.iconst 0, 1) := by decide +kernel
theorem dX11_cell_212 : decode cX11_cell 212 = .ok (.putfield 288, 3) := by decide +kernel
theorem dX11_cell_215 : decode cX11_cell 215 = .ok (.aload_n 0, 1) := by decide +kernel
theorem dX11_cell_216 : decode cX11_cell 216 = .ok (.invokevirtual 103, 3) := by decide +kernel
theorem dX11_cell_219 : decode cX11_cell 219 = .ok (.ireturn, 1) := by decide +kernel
def sX11_cell_L64 (F : Nat) (l0 : Nat) (l1 : Int32) (h : HP) : Option ((Int32 × HP) ⊕ HP) :=
  (gI h 11 (some l0) 10).bind fun t20 =>
  if ¬ t20 = (-1 : Int32) then
    some (.inr h)
  else
    (dO h 11 (some l0)).bind fun a21 =>
    bd2 (sX11_here F a21 h) fun t22 h23 =>
    (gI h23 11 (some l0) 8).bind fun t24 =>
    if t24 ≤ t22 then
      some (.inr h23)
    else
      (gR h23 11 (some l0) 6).bind fun t25 =>
      (gI h23 11 (some l0) 9).bind fun t26 =>
      (aI h23 13 t25 t26).bind fun t27 =>
      (if t27 = (59 : Int32) then
          (gI h23 11 (some l0) 9).bind fun t29 =>
          (pI h23 11 (some l0) 9 (t29 + (1 : Int32))).bind fun h30 =>
          some h30
        else
          (gI h23 11 (some l0) 9).bind fun t31 =>
          (dO h23 11 (some l0)).bind fun a32 =>
          (sX11_wrong F a32 t31 h23).bind fun h33 =>
          some h33).bind fun h28 =>
      (gI h28 11 (some l0) 10).bind fun t34 =>
      if ¬ t34 = (-1 : Int32) then
        (gI h28 11 (some l0) 10).bind fun t35 =>
        if ¬ t35 = (-1 : Int32) then
          some (.inl (l1 + (1 : Int32), h28))
        else
          (dO h28 11 (some l0)).bind fun a36 =>
          (sX11_line F a36 h28).bind fun h37 =>
          some (.inl (l1 + (1 : Int32), h37))
      else
        if ¬ l1 = (20 : Int32) then
          (gI h28 11 (some l0) 10).bind fun t38 =>
          if ¬ t38 = (-1 : Int32) then
            some (.inl (l1 + (1 : Int32), h28))
          else
            (dO h28 11 (some l0)).bind fun a39 =>
            (sX11_line F a39 h28).bind fun h40 =>
            some (.inl (l1 + (1 : Int32), h40))
        else
          (dO h28 11 (some l0)).bind fun a41 =>
          bd2 (sX11_here F a41 h28) fun t42 h43 =>
          (dO h43 11 (some l0)).bind fun a44 =>
          (sX11_wrong F a44 t42 h43).bind fun h45 =>
          (gI h45 11 (some l0) 10).bind fun t46 =>
          if ¬ t46 = (-1 : Int32) then
            some (.inl (l1 + (1 : Int32), h45))
          else
            (dO h45 11 (some l0)).bind fun a47 =>
            (sX11_line F a47 h45).bind fun h48 =>
            some (.inl (l1 + (1 : Int32), h48))
def sX11_cell_L186 (F : Nat) (l0 : Nat) (l1 : Int32) (h : HP) : Option ((Int32 × HP) ⊕ HP) :=
  if (106 : Int32) ≤ l1 then
    some (.inr h)
  else
    (gR h 11 (some l0) 1).bind fun t54 =>
    (gR h 11 (some l0) 11).bind fun t55 =>
    (aI h 13 t55 l1).bind fun t56 =>
    (sI h t54 l1 t56).bind fun h57 =>
    some (.inl (l1 + (1 : Int32), h57))
def sX11_cell (F : Nat) (l0 : Nat) (h : HP) : Option (Int32 × HP) :=
  (pI h 11 (some l0) 10 (-1 : Int32)).bind fun h1 =>
  (gI h1 11 (some l0) 7).bind fun t2 =>
  (pI h1 11 (some l0) 8 t2).bind fun h3 =>
  (pI h3 11 (some l0) 7 (0 : Int32)).bind fun h4 =>
  (pI h4 11 (some l0) 9 (0 : Int32)).bind fun h5 =>
  (gR h5 11 (some l0) 11).bind fun t6 =>
  (sX11_clears F t6 h5).bind fun h7 =>
  (dO h7 11 (some l0)).bind fun a8 =>
  (sX11_expects F a8 (0) h7).bind fun h9 =>
  (gR h9 11 (some l0) 11).bind fun t10 =>
  (dO h9 11 (some l0)).bind fun a11 =>
  bd2 (sX11_number F a11 (1 : Int32) (9 : Int32) h9) fun t12 h13 =>
  (sI h13 t10 (0 : Int32) t12).bind fun h14 =>
  (gR h14 11 (some l0) 11).bind fun t15 =>
  (dO h14 11 (some l0)).bind fun a16 =>
  bd2 (sX11_number F a16 (1 : Int32) (4 : Int32) h14) fun t17 h18 =>
  (sI h18 t15 (1 : Int32) t17).bind fun h19 =>
  (iter (fun s => sX11_cell_L64 F l0 s.1 s.2) F ((0 : Int32), h19)).bind fun h49 =>
    (gI h49 11 (some l0) 10).bind fun t50 =>
    (if ¬ t50 = (-1 : Int32) then
        some (1 : Int32)
      else
        some (0 : Int32)).bind fun s51 =>
    (pI h49 11 (some l0) 0 s51).bind fun h52 =>
    (gI h52 11 (some l0) 0).bind fun t53 =>
    if t53 ≤ 0 then
      (iter (fun s => sX11_cell_L186 F l0 s.1 s.2) F ((0 : Int32), h52)).bind fun h58 =>
        (pI h58 11 (some l0) 3 (0 : Int32)).bind fun h59 =>
        (dO h59 11 (some l0)).bind fun a60 =>
        (sX11_fingers F a60 h59).bind fun t61 =>
        some (t61, h59)
    else
      some ((0 : Int32), h52)
abbrev rm_X11_cell : Room := { frames := 8, cells := 0, slots := 0, locals := 174 }
set_option maxRecDepth 100000 in
set_option maxHeartbeats 4000000 in
theorem mt_X11_cell {w : WD} {l : Launch} {F : Nat} {l0 : Nat} {h : HP} {v : Int32} {h' : HP} (hs : sX11_cell F l0 h = some (v, h')) : MI w l yX11_cell cX11_cell 2 .int rm_X11_cell 0 0 [rf w (some l0)] h v h' := by
  refine of_body [(0, rf w (some l0))] (by decide) (by simp [lg_sl, rf_cat, cat_i, cat_l, cat_a]) (by simp [lv_args, rf_cat, cat_i, cat_l, cat_a]) ?_
  intro x hw_ hnL_ hl_ hc hret hnm hQ
  subst hw_; subst hl_
  have hnl : ∀ i, i < 2 → i < x.nL := fun i h => by rw [hnL_]; exact h
  have hw : wpO (sX11_cell F l0 h) (fun r => r = (v, h')) := ⟨_, hs, rfl⟩
  unfold sX11_cell at hw
  refine R_aload_n (q := 0) (i := 0) (v := (some l0)) hc dX11_cell_0 rfl rfl ?_
  refine R_iconst (v := (-1 : Int32)) hc dX11_cell_1 kI_m1 ?_
  refine R_putI hc pl_11_22 rfl rfl dX11_cell_2 hw (fun h1 hw => ?_)
  refine R_aload_n (q := 0) (i := 0) (v := (some l0)) hc dX11_cell_5 rfl rfl ?_
  refine R_aload_n (q := 0) (i := 0) (v := (some l0)) hc dX11_cell_6 rfl rfl ?_
  refine R_getI hc fl_11_223 dX11_cell_7 hw (fun t2 hw => ?_)
  refine R_putI hc pl_11_229 rfl rfl dX11_cell_10 hw (fun h3 hw => ?_)
  refine R_aload_n (q := 0) (i := 0) (v := (some l0)) hc dX11_cell_13 rfl rfl ?_
  refine R_iconst (v := (0 : Int32)) hc dX11_cell_14 kI_0 ?_
  refine R_putI hc pl_11_223 rfl rfl dX11_cell_15 hw (fun h4 hw => ?_)
  refine R_aload_n (q := 0) (i := 0) (v := (some l0)) hc dX11_cell_18 rfl rfl ?_
  refine R_iconst (v := (0 : Int32)) hc dX11_cell_19 kI_0 ?_
  refine R_putI hc pl_11_226 rfl rfl dX11_cell_20 hw (fun h5 hw => ?_)
  refine R_aload_n (q := 0) (i := 0) (v := (some l0)) hc dX11_cell_23 rfl rfl ?_
  refine R_getR hc fl_11_26 dX11_cell_24 hw (fun t6 hw => ?_)
  refine R_cSVi (As := [rf x.w t6]) (rest := []) hc ml_11_96 mf_X11_clears ⟨rfl, rfl⟩ ⟨le_b rfl, le_b rfl⟩ ⟨Nat.zero_le _, Nat.zero_le _⟩ (fun h' e => mt_X11_clears e) rfl rfl (Nat.zero_le _) dX11_cell_27 hw (fun h7 hw => ?_)
  refine R_aload_n (q := 0) (i := 0) (v := (some l0)) hc dX11_cell_30 rfl rfl ?_
  refine R_ldcwS (k := 0) hc (hc.sk.2.2.2.2.2.1 (RX11, 283, "cell", 0) (List.mem_of_getElem? (i := 15) rfl)) dX11_cell_31 ?_
  refine R_cVVi (As := [.ref (x.w.aS (0))]) (rest := []) (r := (some l0)) (ci := 11) hc ml_11_255 mf_X11_expects rfl (by decide) ⟨rfl, rfl⟩ ⟨le_b rfl, le_b rfl⟩ ⟨Nat.zero_le _, Nat.zero_le _⟩ (fun a h' e => mt_X11_expects e) rfl rfl (Nat.zero_le _) dX11_cell_34 hw (fun h9 hw => ?_)
  refine R_aload_n (q := 0) (i := 0) (v := (some l0)) hc dX11_cell_37 rfl rfl ?_
  refine R_getR hc fl_11_26 dX11_cell_38 hw (fun t10 hw => ?_)
  refine R_iconst (v := (0 : Int32)) hc dX11_cell_41 kI_0 ?_
  refine R_aload_n (q := 0) (i := 0) (v := (some l0)) hc dX11_cell_42 rfl rfl ?_
  refine R_iconst (v := (1 : Int32)) hc dX11_cell_43 kI_1 ?_
  refine R_bipush (v := (9 : Int32)) hc dX11_cell_44 kB_9 ?_
  refine R_cVIi (As := [.int (1 : Int32), .int (9 : Int32)]) (rest := [.int (0 : Int32), rf x.w t10]) (r := (some l0)) (ci := 11) hc ml_11_250 mf_X11_number rfl (by decide) ⟨rfl, rfl⟩ ⟨le_b rfl, le_b rfl⟩ ⟨Nat.zero_le _, Nat.zero_le _⟩ (fun a v h' e => mt_X11_number e) rfl rfl (by simp [rf_cat, cat_i, cat_l, cat_a]) dX11_cell_46 hw (fun t12 h13 hw => ?_)
  refine R_iastore hc dX11_cell_49 hw (fun h14 hw => ?_)
  refine R_aload_n (q := 0) (i := 0) (v := (some l0)) hc dX11_cell_50 rfl rfl ?_
  refine R_getR hc fl_11_26 dX11_cell_51 hw (fun t15 hw => ?_)
  refine R_iconst (v := (1 : Int32)) hc dX11_cell_54 kI_1 ?_
  refine R_aload_n (q := 0) (i := 0) (v := (some l0)) hc dX11_cell_55 rfl rfl ?_
  refine R_iconst (v := (1 : Int32)) hc dX11_cell_56 kI_1 ?_
  refine R_iconst (v := (4 : Int32)) hc dX11_cell_57 kI_4 ?_
  refine R_cVIi (As := [.int (1 : Int32), .int (4 : Int32)]) (rest := [.int (1 : Int32), rf x.w t15]) (r := (some l0)) (ci := 11) hc ml_11_250 mf_X11_number rfl (by decide) ⟨rfl, rfl⟩ ⟨le_b rfl, le_b rfl⟩ ⟨Nat.zero_le _, Nat.zero_le _⟩ (fun a v h' e => mt_X11_number e) rfl rfl (by simp [rf_cat, cat_i, cat_l, cat_a]) dX11_cell_58 hw (fun t17 h18 hw => ?_)
  refine R_iastore hc dX11_cell_61 hw (fun h19 hw => ?_)
  refine R_iconst (v := (0 : Int32)) hc dX11_cell_62 kI_0 ?_
  refine R_istore_n (i := 1) (v := (0 : Int32)) hc [(1, .int (0 : Int32)), (0, rf x.w (some l0))] dX11_cell_63 rfl (hnl 1 (le_b rfl)) rfl ?_
  refine R_sub hc [1, 0] rfl ?_
  refine R_loop (P := fun (s : (Int32 × HP)) => Rn x 0 0 64 [(0, rf x.w (some l0)), (1, .int s.1)] [] s.2) (fun h49 => Rn x 0 0 158 [(0, rf x.w (some l0))] [] h49) hw (fun r hw => ?_) (fun X hX s hw => ?_)
  · revert r hw
    intro h49 hw
    show Rn x 0 0 158 [(0, rf x.w (some l0))] [] h49
    refine R_aload_n (q := 0) (i := 0) (v := (some l0)) hc dX11_cell_158 rfl rfl ?_
    refine R_aload_n (q := 0) (i := 0) (v := (some l0)) hc dX11_cell_159 rfl rfl ?_
    refine R_getI hc fl_11_22 dX11_cell_160 hw (fun t50 hw => ?_)
    refine R_iconst (v := (-1 : Int32)) hc dX11_cell_163 kI_m1 ?_
    refine R_join (fun (s51 : Int32) => Rn x 0 0 172 [(0, rf x.w (some l0))] [.int s51, rf x.w (some l0)] h49) hw (fun r hw => ?_) (fun hw => ?_)
    · revert r hw
      intro s51 hw
      show Rn x 0 0 172 [(0, rf x.w (some l0))] [.int s51, rf x.w (some l0)] h49
      refine R_putI hc pl_11_100 rfl rfl dX11_cell_172 hw (fun h52 hw => ?_)
      refine R_aload_n (q := 0) (i := 0) (v := (some l0)) hc dX11_cell_175 rfl rfl ?_
      refine R_getI hc fl_11_100 dX11_cell_176 hw (fun t53 hw => ?_)
      refine R_if_le (tgt := 184) hc dX11_cell_179 (by decide) hw (fun hw => ?_) (fun hw => ?_)
      · refine R_iconst (v := (0 : Int32)) hc dX11_cell_184 kI_0 ?_
        refine R_istore_n (i := 1) (v := (0 : Int32)) hc [(1, .int (0 : Int32)), (0, rf x.w (some l0))] dX11_cell_185 rfl (hnl 1 (le_b rfl)) rfl ?_
        refine R_sub hc [1, 0] rfl ?_
        refine R_loop (P := fun (s : (Int32 × HP)) => Rn x 0 0 186 [(0, rf x.w (some l0)), (1, .int s.1)] [] s.2) (fun h58 => Rn x 0 0 210 [(0, rf x.w (some l0))] [] h58) hw (fun r hw => ?_) (fun X hX s hw => ?_)
        · revert r hw
          intro h58 hw
          show Rn x 0 0 210 [(0, rf x.w (some l0))] [] h58
          refine R_aload_n (q := 0) (i := 0) (v := (some l0)) hc dX11_cell_210 rfl rfl ?_
          refine R_iconst (v := (0 : Int32)) hc dX11_cell_211 kI_0 ?_
          refine R_putI hc pl_11_288 rfl rfl dX11_cell_212 hw (fun h59 hw => ?_)
          refine R_aload_n (q := 0) (i := 0) (v := (some l0)) hc dX11_cell_215 rfl rfl ?_
          refine R_cVI (As := []) (rest := []) (r := (some l0)) (ci := 11) hc ml_11_103 mf_X11_fingers rfl (by decide) ⟨rfl, rfl⟩ ⟨le_b rfl, le_b rfl⟩ ⟨Nat.zero_le _, Nat.zero_le _⟩ (fun a v e => mt_X11_fingers e) rfl rfl (Nat.zero_le _) dX11_cell_216 hw (fun t61 hw => ?_)
          exact R_ireturn hc hret rfl hQ hw dX11_cell_219
        · obtain ⟨l1_63, h64⟩ := s
          show Rn x 0 0 186 [(0, rf x.w (some l0)), (1, .int l1_63)] [] h64
          have hw : wpO (sX11_cell_L186 F l0 l1_63 h64) _ := hw
          unfold sX11_cell_L186 at hw
          refine R_iload_n (q := 1) (i := 1) (v := l1_63) hc dX11_cell_186 rfl rfl ?_
          refine R_bipush (v := (106 : Int32)) hc dX11_cell_187 kB_106 ?_
          refine R_icmp_ge (tgt := 210) hc dX11_cell_189 (by decide) hw (fun hw => ?_) (fun hw => ?_)
          · refine R_sub hc [0] rfl ?_
            exact (wpO_some hw :)
          · refine R_aload_n (q := 0) (i := 0) (v := (some l0)) hc dX11_cell_192 rfl rfl ?_
            refine R_getR hc fl_11_7 dX11_cell_193 hw (fun t54 hw => ?_)
            refine R_iload_n (q := 1) (i := 1) (v := l1_63) hc dX11_cell_196 rfl rfl ?_
            refine R_aload_n (q := 0) (i := 0) (v := (some l0)) hc dX11_cell_197 rfl rfl ?_
            refine R_getR hc fl_11_26 dX11_cell_198 hw (fun t55 hw => ?_)
            refine R_iload_n (q := 1) (i := 1) (v := l1_63) hc dX11_cell_201 rfl rfl ?_
            refine R_iaload hc dX11_cell_202 hw (fun t56 hw => ?_)
            refine R_iastore hc dX11_cell_203 hw (fun h57 hw => ?_)
            refine R_iinc (q := 1) (i := 1) (v := l1_63) hc [(1, .int (l1_63 + (1 : Int32))), (0, rf x.w (some l0))] dX11_cell_204 rfl (kC_1 _) (hnl 1 (le_b rfl)) rfl ?_
            refine R_goto (tgt := 186) hc dX11_cell_207 (by decide) ?_
            refine R_sub hc [1, 0] rfl ?_
            exact hX (l1_63 + (1 : Int32), h57) (wpO_some hw :)
      · refine R_iconst (v := (0 : Int32)) hc dX11_cell_182 kI_0 ?_
        exact R_ireturn hc hret rfl hQ hw dX11_cell_183
    · refine R_icmp_ne (tgt := 171) hc dX11_cell_164 (by decide) hw (fun hw => ?_) (fun hw => ?_)
      · refine R_iconst (v := (1 : Int32)) hc dX11_cell_171 kI_1 ?_
        refine R_sub hc [0] rfl ?_
        exact (wpO_some hw :)
      · refine R_iconst (v := (0 : Int32)) hc dX11_cell_167 kI_0 ?_
        refine R_goto (tgt := 172) hc dX11_cell_168 (by decide) ?_
        refine R_sub hc [0] rfl ?_
        exact (wpO_some hw :)
  · obtain ⟨l1_66, h67⟩ := s
    show Rn x 0 0 64 [(0, rf x.w (some l0)), (1, .int l1_66)] [] h67
    have hw : wpO (sX11_cell_L64 F l0 l1_66 h67) _ := hw
    unfold sX11_cell_L64 at hw
    refine R_aload_n (q := 0) (i := 0) (v := (some l0)) hc dX11_cell_64 rfl rfl ?_
    refine R_getI hc fl_11_22 dX11_cell_65 hw (fun t20 hw => ?_)
    refine R_iconst (v := (-1 : Int32)) hc dX11_cell_68 kI_m1 ?_
    refine R_icmp_ne (tgt := 158) hc dX11_cell_69 (by decide) hw (fun hw => ?_) (fun hw => ?_)
    · refine R_sub hc [0] rfl ?_
      exact (wpO_some hw :)
    · refine R_aload_n (q := 0) (i := 0) (v := (some l0)) hc dX11_cell_72 rfl rfl ?_
      refine R_cVIi (As := []) (rest := []) (r := (some l0)) (ci := 11) hc ml_11_232 mf_X11_here rfl (by decide) ⟨rfl, rfl⟩ ⟨le_b rfl, le_b rfl⟩ ⟨Nat.zero_le _, Nat.zero_le _⟩ (fun a v h' e => mt_X11_here e) rfl rfl (Nat.zero_le _) dX11_cell_73 hw (fun t22 h23 hw => ?_)
      refine R_aload_n (q := 0) (i := 0) (v := (some l0)) hc dX11_cell_76 rfl rfl ?_
      refine R_getI hc fl_11_229 dX11_cell_77 hw (fun t24 hw => ?_)
      refine R_icmp_ge (tgt := 158) hc dX11_cell_80 (by decide) hw (fun hw => ?_) (fun hw => ?_)
      · refine R_sub hc [0] rfl ?_
        exact (wpO_some hw :)
      · refine R_aload_n (q := 0) (i := 0) (v := (some l0)) hc dX11_cell_83 rfl rfl ?_
        refine R_getR hc fl_11_19 dX11_cell_84 hw (fun t25 hw => ?_)
        refine R_aload_n (q := 0) (i := 0) (v := (some l0)) hc dX11_cell_87 rfl rfl ?_
        refine R_getI hc fl_11_226 dX11_cell_88 hw (fun t26 hw => ?_)
        refine R_iaload hc dX11_cell_91 hw (fun t27 hw => ?_)
        refine R_bipush (v := (59 : Int32)) hc dX11_cell_92 kB_59 ?_
        refine R_join (fun (h28 : HP) => Rn x 0 0 118 [(0, rf x.w (some l0)), (1, .int l1_66)] [] h28) hw (fun r hw => ?_) (fun hw => ?_)
        · revert r hw
          intro h28 hw
          show Rn x 0 0 118 [(0, rf x.w (some l0)), (1, .int l1_66)] [] h28
          refine R_aload_n (q := 0) (i := 0) (v := (some l0)) hc dX11_cell_118 rfl rfl ?_
          refine R_getI hc fl_11_22 dX11_cell_119 hw (fun t34 hw => ?_)
          refine R_iconst (v := (-1 : Int32)) hc dX11_cell_122 kI_m1 ?_
          refine R_icmp_ne (tgt := 140) hc dX11_cell_123 (by decide) hw (fun hw => ?_) (fun hw => ?_)
          · refine R_aload_n (q := 0) (i := 0) (v := (some l0)) hc dX11_cell_140 rfl rfl ?_
            refine R_getI hc fl_11_22 dX11_cell_141 hw (fun t35 hw => ?_)
            refine R_iconst (v := (-1 : Int32)) hc dX11_cell_144 kI_m1 ?_
            refine R_icmp_ne (tgt := 152) hc dX11_cell_145 (by decide) hw (fun hw => ?_) (fun hw => ?_)
            · refine R_iinc (q := 1) (i := 1) (v := l1_66) hc [(1, .int (l1_66 + (1 : Int32))), (0, rf x.w (some l0))] dX11_cell_152 rfl (kC_1 _) (hnl 1 (le_b rfl)) rfl ?_
              refine R_goto (tgt := 64) hc dX11_cell_155 (by decide) ?_
              refine R_sub hc [1, 0] rfl ?_
              exact hX (l1_66 + (1 : Int32), h28) (wpO_some hw :)
            · refine R_aload_n (q := 0) (i := 0) (v := (some l0)) hc dX11_cell_148 rfl rfl ?_
              refine R_cVVi (As := []) (rest := []) (r := (some l0)) (ci := 11) hc ml_11_285 mf_X11_line rfl (by decide) ⟨rfl, rfl⟩ ⟨le_b rfl, le_b rfl⟩ ⟨Nat.zero_le _, Nat.zero_le _⟩ (fun a h' e => mt_X11_line e) rfl rfl (Nat.zero_le _) dX11_cell_149 hw (fun h37 hw => ?_)
              refine R_iinc (q := 1) (i := 1) (v := l1_66) hc [(1, .int (l1_66 + (1 : Int32))), (0, rf x.w (some l0))] dX11_cell_152 rfl (kC_1 _) (hnl 1 (le_b rfl)) rfl ?_
              refine R_goto (tgt := 64) hc dX11_cell_155 (by decide) ?_
              refine R_sub hc [1, 0] rfl ?_
              exact hX (l1_66 + (1 : Int32), h37) (wpO_some hw :)
          · refine R_iload_n (q := 1) (i := 1) (v := l1_66) hc dX11_cell_126 rfl rfl ?_
            refine R_bipush (v := (20 : Int32)) hc dX11_cell_127 kB_20 ?_
            refine R_icmp_ne (tgt := 140) hc dX11_cell_129 (by decide) hw (fun hw => ?_) (fun hw => ?_)
            · refine R_aload_n (q := 0) (i := 0) (v := (some l0)) hc dX11_cell_140 rfl rfl ?_
              refine R_getI hc fl_11_22 dX11_cell_141 hw (fun t38 hw => ?_)
              refine R_iconst (v := (-1 : Int32)) hc dX11_cell_144 kI_m1 ?_
              refine R_icmp_ne (tgt := 152) hc dX11_cell_145 (by decide) hw (fun hw => ?_) (fun hw => ?_)
              · refine R_iinc (q := 1) (i := 1) (v := l1_66) hc [(1, .int (l1_66 + (1 : Int32))), (0, rf x.w (some l0))] dX11_cell_152 rfl (kC_1 _) (hnl 1 (le_b rfl)) rfl ?_
                refine R_goto (tgt := 64) hc dX11_cell_155 (by decide) ?_
                refine R_sub hc [1, 0] rfl ?_
                exact hX (l1_66 + (1 : Int32), h28) (wpO_some hw :)
              · refine R_aload_n (q := 0) (i := 0) (v := (some l0)) hc dX11_cell_148 rfl rfl ?_
                refine R_cVVi (As := []) (rest := []) (r := (some l0)) (ci := 11) hc ml_11_285 mf_X11_line rfl (by decide) ⟨rfl, rfl⟩ ⟨le_b rfl, le_b rfl⟩ ⟨Nat.zero_le _, Nat.zero_le _⟩ (fun a h' e => mt_X11_line e) rfl rfl (Nat.zero_le _) dX11_cell_149 hw (fun h40 hw => ?_)
                refine R_iinc (q := 1) (i := 1) (v := l1_66) hc [(1, .int (l1_66 + (1 : Int32))), (0, rf x.w (some l0))] dX11_cell_152 rfl (kC_1 _) (hnl 1 (le_b rfl)) rfl ?_
                refine R_goto (tgt := 64) hc dX11_cell_155 (by decide) ?_
                refine R_sub hc [1, 0] rfl ?_
                exact hX (l1_66 + (1 : Int32), h40) (wpO_some hw :)
            · refine R_aload_n (q := 0) (i := 0) (v := (some l0)) hc dX11_cell_132 rfl rfl ?_
              refine R_aload_n (q := 0) (i := 0) (v := (some l0)) hc dX11_cell_133 rfl rfl ?_
              refine R_cVIi (As := []) (rest := [rf x.w (some l0)]) (r := (some l0)) (ci := 11) hc ml_11_232 mf_X11_here rfl (by decide) ⟨rfl, rfl⟩ ⟨le_b rfl, le_b rfl⟩ ⟨Nat.zero_le _, Nat.zero_le _⟩ (fun a v h' e => mt_X11_here e) rfl rfl (le_b rfl) dX11_cell_134 hw (fun t42 h43 hw => ?_)
              refine R_cVVi (As := [.int t42]) (rest := []) (r := (some l0)) (ci := 11) hc ml_11_247 mf_X11_wrong rfl (by decide) ⟨rfl, rfl⟩ ⟨le_b rfl, le_b rfl⟩ ⟨Nat.zero_le _, Nat.zero_le _⟩ (fun a h' e => mt_X11_wrong e) rfl rfl (Nat.zero_le _) dX11_cell_137 hw (fun h45 hw => ?_)
              refine R_aload_n (q := 0) (i := 0) (v := (some l0)) hc dX11_cell_140 rfl rfl ?_
              refine R_getI hc fl_11_22 dX11_cell_141 hw (fun t46 hw => ?_)
              refine R_iconst (v := (-1 : Int32)) hc dX11_cell_144 kI_m1 ?_
              refine R_icmp_ne (tgt := 152) hc dX11_cell_145 (by decide) hw (fun hw => ?_) (fun hw => ?_)
              · refine R_iinc (q := 1) (i := 1) (v := l1_66) hc [(1, .int (l1_66 + (1 : Int32))), (0, rf x.w (some l0))] dX11_cell_152 rfl (kC_1 _) (hnl 1 (le_b rfl)) rfl ?_
                refine R_goto (tgt := 64) hc dX11_cell_155 (by decide) ?_
                refine R_sub hc [1, 0] rfl ?_
                exact hX (l1_66 + (1 : Int32), h45) (wpO_some hw :)
              · refine R_aload_n (q := 0) (i := 0) (v := (some l0)) hc dX11_cell_148 rfl rfl ?_
                refine R_cVVi (As := []) (rest := []) (r := (some l0)) (ci := 11) hc ml_11_285 mf_X11_line rfl (by decide) ⟨rfl, rfl⟩ ⟨le_b rfl, le_b rfl⟩ ⟨Nat.zero_le _, Nat.zero_le _⟩ (fun a h' e => mt_X11_line e) rfl rfl (Nat.zero_le _) dX11_cell_149 hw (fun h48 hw => ?_)
                refine R_iinc (q := 1) (i := 1) (v := l1_66) hc [(1, .int (l1_66 + (1 : Int32))), (0, rf x.w (some l0))] dX11_cell_152 rfl (kC_1 _) (hnl 1 (le_b rfl)) rfl ?_
                refine R_goto (tgt := 64) hc dX11_cell_155 (by decide) ?_
                refine R_sub hc [1, 0] rfl ?_
                exact hX (l1_66 + (1 : Int32), h48) (wpO_some hw :)
        · refine R_icmp_eq (tgt := 108) hc dX11_cell_94 (by decide) hw (fun hw => ?_) (fun hw => ?_)
          · refine R_aload_n (q := 0) (i := 0) (v := (some l0)) hc dX11_cell_108 rfl rfl ?_
            refine R_dup hc dX11_cell_109 (rf_cat _ _) ?_
            refine R_getI hc fl_11_226 dX11_cell_110 hw (fun t29 hw => ?_)
            refine R_iconst (v := (1 : Int32)) hc dX11_cell_113 kI_1 ?_
            refine R_iadd hc dX11_cell_114 ?_
            refine R_putI hc pl_11_226 rfl rfl dX11_cell_115 hw (fun h30 hw => ?_)
            refine R_sub hc [0, 1] rfl ?_
            exact (wpO_some hw :)
          · refine R_aload_n (q := 0) (i := 0) (v := (some l0)) hc dX11_cell_97 rfl rfl ?_
            refine R_aload_n (q := 0) (i := 0) (v := (some l0)) hc dX11_cell_98 rfl rfl ?_
            refine R_getI hc fl_11_226 dX11_cell_99 hw (fun t31 hw => ?_)
            refine R_cVVi (As := [.int t31]) (rest := []) (r := (some l0)) (ci := 11) hc ml_11_247 mf_X11_wrong rfl (by decide) ⟨rfl, rfl⟩ ⟨le_b rfl, le_b rfl⟩ ⟨Nat.zero_le _, Nat.zero_le _⟩ (fun a h' e => mt_X11_wrong e) rfl rfl (Nat.zero_le _) dX11_cell_102 hw (fun h33 hw => ?_)
            refine R_goto (tgt := 118) hc dX11_cell_105 (by decide) ?_
            refine R_sub hc [0, 1] rfl ?_
            exact (wpO_some hw :)
theorem dX11_fault_0 : decode cX11_fault 0 = .ok (.aload_n 0, 1) := by decide +kernel
theorem dX11_fault_1 : decode cX11_fault 1 = .ok (.iconst 0, 1) := by decide +kernel
theorem dX11_fault_2 : decode cX11_fault 2 = .ok (.putfield 100, 3) := by decide +kernel
theorem dX11_fault_5 : decode cX11_fault 5 = .ok (.aload_n 0, 1) := by decide +kernel
theorem dX11_fault_6 : decode cX11_fault 6 = .ok (.getfield 22, 3) := by decide +kernel
theorem dX11_fault_9 : decode cX11_fault 9 = .ok (.ireturn, 1) := by decide +kernel
def sX11_fault (F : Nat) (l0 : Nat) (h : HP) : Option (Int32 × HP) :=
  (pI h 11 (some l0) 0 (0 : Int32)).bind fun h1 =>
  (gI h1 11 (some l0) 10).bind fun t2 =>
  some (t2, h1)
abbrev rm_X11_fault : Room := { frames := 0, cells := 0, slots := 0, locals := 0 }
set_option maxRecDepth 100000 in
set_option maxHeartbeats 4000000 in
theorem mt_X11_fault {w : WD} {l : Launch} {F : Nat} {l0 : Nat} {h : HP} {v : Int32} {h' : HP} (hs : sX11_fault F l0 h = some (v, h')) : MI w l yX11_fault cX11_fault 1 .int rm_X11_fault 0 0 [rf w (some l0)] h v h' := by
  refine of_body [(0, rf w (some l0))] (by decide) (by simp [lg_sl, rf_cat, cat_i, cat_l, cat_a]) (by simp [lv_args, rf_cat, cat_i, cat_l, cat_a]) ?_
  intro x hw_ hnL_ hl_ hc hret hnm hQ
  subst hw_; subst hl_
  have hnl : ∀ i, i < 1 → i < x.nL := fun i h => by rw [hnL_]; exact h
  have hw : wpO (sX11_fault F l0 h) (fun r => r = (v, h')) := ⟨_, hs, rfl⟩
  unfold sX11_fault at hw
  refine R_aload_n (q := 0) (i := 0) (v := (some l0)) hc dX11_fault_0 rfl rfl ?_
  refine R_iconst (v := (0 : Int32)) hc dX11_fault_1 kI_0 ?_
  refine R_putI hc pl_11_100 rfl rfl dX11_fault_2 hw (fun h1 hw => ?_)
  refine R_aload_n (q := 0) (i := 0) (v := (some l0)) hc dX11_fault_5 rfl rfl ?_
  refine R_getI hc fl_11_22 dX11_fault_6 hw (fun t2 hw => ?_)
  exact R_ireturn hc hret rfl hQ hw dX11_fault_9
theorem dX11_fingersOf_0 : decode cX11_fingersOf 0 = .ok (.iconst 0, 1) := by decide +kernel
theorem dX11_fingersOf_1 : decode cX11_fingersOf 1 = .ok (.istore_n 2, 1) := by decide +kernel
theorem dX11_fingersOf_2 : decode cX11_fingersOf 2 = .ok (.iconst 0, 1) := by decide +kernel
theorem dX11_fingersOf_3 : decode cX11_fingersOf 3 = .ok (.istore_n 3, 1) := by decide +kernel
theorem dX11_fingersOf_4 : decode cX11_fingersOf 4 = .ok (.iload_n 3, 1) := by decide +kernel
theorem dX11_fingersOf_5 : decode cX11_fingersOf 5 = .ok (.aload_n 0, 1) := by decide +kernel
theorem dX11_fingersOf_6 : decode cX11_fingersOf 6 = .ok (.invokevirtual 103, 3) := by decide +kernel
theorem dX11_fingersOf_9 : decode cX11_fingersOf 9 = .ok (.if_icmp .ge 32, 3) := by decide +kernel
theorem dX11_fingersOf_12 : decode cX11_fingersOf 12 = .ok (.iload_n 2, 1) := by decide +kernel
theorem dX11_fingersOf_13 : decode cX11_fingersOf 13 = .ok (.aload_n 0, 1) := by decide +kernel
theorem dX11_fingersOf_14 : decode cX11_fingersOf 14 = .ok (.getfield 7, 3) := by decide +kernel
theorem dX11_fingersOf_17 : decode cX11_fingersOf 17 = .ok (.bipush 73, 2) := by decide +kernel
theorem dX11_fingersOf_19 : decode cX11_fingersOf 19 = .ok (.iload_n 3, 1) := by decide +kernel
theorem dX11_fingersOf_20 : decode cX11_fingersOf 20 = .ok (.iadd, 1) := by decide +kernel
theorem dX11_fingersOf_21 : decode cX11_fingersOf 21 = .ok (.iaload, 1) := by decide +kernel
theorem dX11_fingersOf_22 : decode cX11_fingersOf 22 = .ok (.iload_n 1, 1) := by decide +kernel
theorem dX11_fingersOf_23 : decode cX11_fingersOf 23 = .ok (.if_icmp .ne 9, 3) := by decide +kernel
theorem dX11_fingersOf_26 : decode cX11_fingersOf 26 = .ok (.iconst 1, 1) := by decide +kernel
theorem dX11_fingersOf_27 : decode cX11_fingersOf 27 = .ok (.iload_n 3, 1) := by decide +kernel
theorem dX11_fingersOf_28 : decode cX11_fingersOf 28 = .ok (.ishl, 1) := by decide +kernel
theorem dX11_fingersOf_29 : decode cX11_fingersOf 29 = .ok (.goto 4, 3) := by decide +kernel
theorem dX11_fingersOf_32 : decode cX11_fingersOf 32 = .ok (.iconst 0, 1) := by decide +kernel
theorem dX11_fingersOf_33 : decode cX11_fingersOf 33 = .ok (.ior, 1) := by decide +kernel
theorem dX11_fingersOf_34 : decode cX11_fingersOf 34 = .ok (.istore_n 2, 1) := by decide +kernel
theorem dX11_fingersOf_35 : decode cX11_fingersOf 35 = .ok (.iinc 3 1, 3) := by decide +kernel
theorem dX11_fingersOf_38 : decode cX11_fingersOf 38 = .ok (.goto (-34), 3) := by decide +kernel
theorem dX11_fingersOf_41 : decode cX11_fingersOf 41 = .ok (.iload_n 2, 1) := by decide +kernel
theorem dX11_fingersOf_42 : decode cX11_fingersOf 42 = .ok (.ireturn, 1) := by decide +kernel
def sX11_fingersOf_L4 (F : Nat) (l0 : Nat) (l1 : Int32) (l2 : Int32) (l3 : Int32) (h : HP) : Option ((Int32 × Int32) ⊕ Int32) :=
  (dO h 11 (some l0)).bind fun a1 =>
  (sX11_fingers F a1 h).bind fun t2 =>
  if t2 ≤ l3 then
    some (.inr l2)
  else
    (gR h 11 (some l0) 1).bind fun t3 =>
    (aI h 13 t3 ((73 : Int32) + l3)).bind fun t4 =>
    if ¬ t4 = l1 then
      nmI (l2 ||| (0 : Int32)) fun l2_5 =>
      some (.inl (l2_5, l3 + (1 : Int32)))
    else
      nmI (l2 ||| (jshl (1 : Int32) l3)) fun l2_6 =>
      some (.inl (l2_6, l3 + (1 : Int32)))
def sX11_fingersOf (F : Nat) (l0 : Nat) (l1 : Int32) (h : HP) : Option Int32 :=
  (iter (fun s => sX11_fingersOf_L4 F l0 l1 s.1 s.2 h) F ((0 : Int32), (0 : Int32))).bind fun l2_7 =>
    some l2_7
abbrev rm_X11_fingersOf : Room := { frames := 1, cells := 0, slots := 0, locals := 20 }
set_option maxRecDepth 100000 in
set_option maxHeartbeats 4000000 in
theorem mt_X11_fingersOf {w : WD} {l : Launch} {F : Nat} {l0 : Nat} {l1 : Int32} {h : HP} {v : Int32} (hs : sX11_fingersOf F l0 l1 h = some v) : MI w l yX11_fingersOf cX11_fingersOf 4 .int rm_X11_fingersOf 0 0 [rf w (some l0), .int l1] h v h := by
  refine of_body [(0, rf w (some l0)), (1, .int l1)] (by decide) (by simp [lg_sl, rf_cat, cat_i, cat_l, cat_a]) (by simp [lv_args, rf_cat, cat_i, cat_l, cat_a]) ?_
  intro x hw_ hnL_ hl_ hc hret hnm hQ
  subst hw_; subst hl_
  have hnl : ∀ i, i < 4 → i < x.nL := fun i h => by rw [hnL_]; exact h
  have hw : wpO (sX11_fingersOf F l0 l1 h) (fun r => r = v) := ⟨_, hs, rfl⟩
  unfold sX11_fingersOf at hw
  refine R_iconst (v := (0 : Int32)) hc dX11_fingersOf_0 kI_0 ?_
  refine R_istore_n (i := 2) (v := (0 : Int32)) hc [(2, .int (0 : Int32)), (0, rf x.w (some l0)), (1, .int l1)] dX11_fingersOf_1 rfl (hnl 2 (le_b rfl)) rfl ?_
  refine R_iconst (v := (0 : Int32)) hc dX11_fingersOf_2 kI_0 ?_
  refine R_istore_n (i := 3) (v := (0 : Int32)) hc [(3, .int (0 : Int32)), (2, .int (0 : Int32)), (0, rf x.w (some l0)), (1, .int l1)] dX11_fingersOf_3 rfl (hnl 3 (le_b rfl)) rfl ?_
  refine R_sub hc [2, 3, 1, 0] rfl ?_
  refine R_loop (P := fun (s : (Int32 × Int32)) => Rn x 0 0 4 [(0, rf x.w (some l0)), (1, .int l1), (2, .int s.1), (3, .int s.2)] [] h) (fun l2_7 => Rn x 0 0 41 [(2, .int l2_7)] [] h) hw (fun r hw => ?_) (fun X hX s hw => ?_)
  · revert r hw
    intro l2_7 hw
    show Rn x 0 0 41 [(2, .int l2_7)] [] h
    refine R_iload_n (q := 0) (i := 2) (v := l2_7) hc dX11_fingersOf_41 rfl rfl ?_
    exact R_ireturnP hc hret rfl hQ hw dX11_fingersOf_42
  · obtain ⟨l2_9, l3_10⟩ := s
    show Rn x 0 0 4 [(0, rf x.w (some l0)), (1, .int l1), (2, .int l2_9), (3, .int l3_10)] [] h
    have hw : wpO (sX11_fingersOf_L4 F l0 l1 l2_9 l3_10 h) _ := hw
    unfold sX11_fingersOf_L4 at hw
    refine R_iload_n (q := 3) (i := 3) (v := l3_10) hc dX11_fingersOf_4 rfl rfl ?_
    refine R_aload_n (q := 0) (i := 0) (v := (some l0)) hc dX11_fingersOf_5 rfl rfl ?_
    refine R_cVI (As := []) (rest := [.int l3_10]) (r := (some l0)) (ci := 11) hc ml_11_103 mf_X11_fingers rfl (by decide) ⟨rfl, rfl⟩ ⟨le_b rfl, le_b rfl⟩ ⟨Nat.zero_le _, Nat.zero_le _⟩ (fun a v e => mt_X11_fingers e) rfl rfl (le_b rfl) dX11_fingersOf_6 hw (fun t2 hw => ?_)
    refine R_icmp_ge (tgt := 41) hc dX11_fingersOf_9 (by decide) hw (fun hw => ?_) (fun hw => ?_)
    · refine R_sub hc [2] rfl ?_
      exact (wpO_some hw :)
    · refine R_iload_n (q := 2) (i := 2) (v := l2_9) hc dX11_fingersOf_12 rfl rfl ?_
      refine R_aload_n (q := 0) (i := 0) (v := (some l0)) hc dX11_fingersOf_13 rfl rfl ?_
      refine R_getR hc fl_11_7 dX11_fingersOf_14 hw (fun t3 hw => ?_)
      refine R_bipush (v := (73 : Int32)) hc dX11_fingersOf_17 kB_73 ?_
      refine R_iload_n (q := 3) (i := 3) (v := l3_10) hc dX11_fingersOf_19 rfl rfl ?_
      refine R_iadd hc dX11_fingersOf_20 ?_
      refine R_iaload hc dX11_fingersOf_21 hw (fun t4 hw => ?_)
      refine R_iload_n (q := 1) (i := 1) (v := l1) hc dX11_fingersOf_22 rfl rfl ?_
      refine R_icmp_ne (tgt := 32) hc dX11_fingersOf_23 (by decide) hw (fun hw => ?_) (fun hw => ?_)
      · refine R_iconst (v := (0 : Int32)) hc dX11_fingersOf_32 kI_0 ?_
        refine R_ior hc dX11_fingersOf_33 ?_
        refine R_nmI hw (fun l2_5 hw => ?_)
        refine R_istore_n (i := 2) (v := l2_5) hc [(2, .int l2_5), (0, rf x.w (some l0)), (1, .int l1), (3, .int l3_10)] dX11_fingersOf_34 rfl (hnl 2 (le_b rfl)) rfl ?_
        refine R_iinc (q := 3) (i := 3) (v := l3_10) hc [(3, .int (l3_10 + (1 : Int32))), (2, .int l2_5), (0, rf x.w (some l0)), (1, .int l1)] dX11_fingersOf_35 rfl (kC_1 _) (hnl 3 (le_b rfl)) rfl ?_
        refine R_goto (tgt := 4) hc dX11_fingersOf_38 (by decide) ?_
        refine R_sub hc [2, 3, 1, 0] rfl ?_
        exact hX (l2_5, l3_10 + (1 : Int32)) (wpO_some hw :)
      · refine R_iconst (v := (1 : Int32)) hc dX11_fingersOf_26 kI_1 ?_
        refine R_iload_n (q := 3) (i := 3) (v := l3_10) hc dX11_fingersOf_27 rfl rfl ?_
        refine R_ishl hc dX11_fingersOf_28 ?_
        refine R_goto (tgt := 33) hc dX11_fingersOf_29 (by decide) ?_
        refine R_ior hc dX11_fingersOf_33 ?_
        refine R_nmI hw (fun l2_6 hw => ?_)
        refine R_istore_n (i := 2) (v := l2_6) hc [(2, .int l2_6), (0, rf x.w (some l0)), (1, .int l1), (3, .int l3_10)] dX11_fingersOf_34 rfl (hnl 2 (le_b rfl)) rfl ?_
        refine R_iinc (q := 3) (i := 3) (v := l3_10) hc [(3, .int (l3_10 + (1 : Int32))), (2, .int l2_6), (0, rf x.w (some l0)), (1, .int l1)] dX11_fingersOf_35 rfl (kC_1 _) (hnl 3 (le_b rfl)) rfl ?_
        refine R_goto (tgt := 4) hc dX11_fingersOf_38 (by decide) ?_
        refine R_sub hc [2, 3, 1, 0] rfl ?_
        exact hX (l2_6, l3_10 + (1 : Int32)) (wpO_some hw :)
theorem dX11_pair_0 : decode cX11_pair 0 = .ok (.aload_n 0, 1) := by decide +kernel
theorem dX11_pair_1 : decode cX11_pair 1 = .ok (.iload_n 1, 1) := by decide +kernel
theorem dX11_pair_2 : decode cX11_pair 2 = .ok (.iconst 0, 1) := by decide +kernel
theorem dX11_pair_3 : decode cX11_pair 3 = .ok (.aload_n 0, 1) := by decide +kernel
theorem dX11_pair_4 : decode cX11_pair 4 = .ok (.getfield 7, 3) := by decide +kernel
theorem dX11_pair_7 : decode cX11_pair 7 = .ok (.iconst 4, 1) := by decide +kernel
theorem dX11_pair_8 : decode cX11_pair 8 = .ok (.iaload, 1) := by decide +kernel
theorem dX11_pair_9 : decode cX11_pair 9 = .ok (.iconst 1, 1) := by decide +kernel
theorem dX11_pair_10 : decode cX11_pair 10 = .ok (.isub, 1) := by decide +kernel
theorem dX11_pair_11 : decode cX11_pair 11 = .ok (.invokestatic 107, 3) := by decide +kernel
theorem dX11_pair_14 : decode cX11_pair 14 = .ok (.ifCond .ne 7, 3) := by decide +kernel
theorem dX11_pair_17 : decode cX11_pair 17 = .ok (.iconst 1, 1) := by decide +kernel
theorem dX11_pair_18 : decode cX11_pair 18 = .ok (.goto 18, 3) := by decide +kernel
theorem dX11_pair_21 : decode cX11_pair 21 = .ok (.iload_n 2, 1) := by decide +kernel
theorem dX11_pair_22 : decode cX11_pair 22 = .ok (.iconst 0, 1) := by decide +kernel
theorem dX11_pair_23 : decode cX11_pair 23 = .ok (.bipush 6, 2) := by decide +kernel
theorem dX11_pair_25 : decode cX11_pair 25 = .ok (.invokestatic 107, 3) := by decide +kernel
theorem dX11_pair_28 : decode cX11_pair 28 = .ok (.ifCond .ne 7, 3) := by decide +kernel
theorem dX11_pair_31 : decode cX11_pair 31 = .ok (.iconst 2, 1) := by decide +kernel
theorem dX11_pair_32 : decode cX11_pair 32 = .ok (.goto 4, 3) := by decide +kernel
theorem dX11_pair_35 : decode cX11_pair 35 = .ok (.iconst 0, 1) := by decide +kernel
theorem dX11_pair_36 : decode cX11_pair 36 = .ok (.putfield 100, 3) := by decide +kernel
theorem dX11_pair_39 : decode cX11_pair 39 = .ok (.aload_n 0, 1) := by decide +kernel
theorem dX11_pair_40 : decode cX11_pair 40 = .ok (.getfield 100, 3) := by decide +kernel
theorem dX11_pair_43 : decode cX11_pair 43 = .ok (.ifCond .le 5, 3) := by decide +kernel
theorem dX11_pair_46 : decode cX11_pair 46 = .ok (.iconst 0, 1) := by decide +kernel
theorem dX11_pair_47 : decode cX11_pair 47 = .ok (.ireturn, 1) := by decide +kernel
theorem dX11_pair_48 : decode cX11_pair 48 = .ok (.iload_n 2, 1) := by decide +kernel
theorem dX11_pair_49 : decode cX11_pair 49 = .ok (.bipush 6, 2) := by decide +kernel
theorem dX11_pair_51 : decode cX11_pair 51 = .ok (.if_icmp .ne 11, 3) := by decide +kernel
theorem dX11_pair_54 : decode cX11_pair 54 = .ok (.aload_n 0, 1) := by decide +kernel
theorem dX11_pair_55 : decode cX11_pair 55 = .ok (.iload_n 1, 1) := by decide +kernel
theorem dX11_pair_56 : decode cX11_pair 56 = .ok (.invokevirtual 291, 3) := by decide +kernel
theorem dX11_pair_59 : decode cX11_pair 59 = .ok (.goto 16, 3) := by decide +kernel
theorem dX11_pair_62 : decode cX11_pair 62 = .ok (.aload_n 0, 1) := by decide +kernel
theorem dX11_pair_63 : decode cX11_pair 63 = .ok (.getfield 7, 3) := by decide +kernel
theorem dX11_pair_66 : decode cX11_pair 66 = .ok (.iconst 5, 1) := by decide +kernel
theorem dX11_pair_67 : decode cX11_pair 67 = .ok (.bipush 6, 2) := by decide +kernel
theorem dX11_pair_69 : decode cX11_pair 69 = .ok (.iload_n 1, 1) := by decide +kernel
theorem dX11_pair_70 : decode cX11_pair 70 = .ok (.imul, 1) := by decide +kernel
theorem dX11_pair_71 : decode cX11_pair 71 = .ok (.iadd, 1) := by decide +kernel
theorem dX11_pair_72 : decode cX11_pair 72 = .ok (.iload_n 2, 1) := by decide +kernel
theorem dX11_pair_73 : decode cX11_pair 73 = .ok (.iadd, 1) := by decide +kernel
theorem dX11_pair_74 : decode cX11_pair 74 = .ok (.iaload, 1) := by decide +kernel
theorem dX11_pair_75 : decode cX11_pair 75 = .ok (.ireturn, 1) := by decide +kernel
def sX11_pair (F : Nat) (l0 : Nat) (l1 : Int32) (l2 : Int32) (h : HP) : Option (Int32 × HP) :=
  (gR h 11 (some l0) 1).bind fun t1 =>
  (aI h 13 t1 (4 : Int32)).bind fun t2 =>
  (sX11_isIn F l1 (0 : Int32) (t2 - (1 : Int32)) h).bind fun t3 =>
  (if ¬ t3 = 0 then
      (sX11_isIn F l2 (0 : Int32) (6 : Int32) h).bind fun t5 =>
      if ¬ t5 = 0 then
        some (0 : Int32)
      else
        some (2 : Int32)
    else
      some (1 : Int32)).bind fun s4 =>
  (pI h 11 (some l0) 0 s4).bind fun h6 =>
  (gI h6 11 (some l0) 0).bind fun t7 =>
  if t7 ≤ 0 then
    if ¬ l2 = (6 : Int32) then
      (gR h6 11 (some l0) 1).bind fun t8 =>
      (aI h6 13 t8 (((5 : Int32) + ((6 : Int32) * l1)) + l2)).bind fun t9 =>
      some (t9, h6)
    else
      (dO h6 11 (some l0)).bind fun a10 =>
      (sX11_fingersOf F a10 l1 h6).bind fun t11 =>
      some (t11, h6)
  else
    some ((0 : Int32), h6)
abbrev rm_X11_pair : Room := { frames := 2, cells := 0, slots := 0, locals := 43 }
set_option maxRecDepth 100000 in
set_option maxHeartbeats 4000000 in
theorem mt_X11_pair {w : WD} {l : Launch} {F : Nat} {l0 : Nat} {l1 : Int32} {l2 : Int32} {h : HP} {v : Int32} {h' : HP} (hs : sX11_pair F l0 l1 l2 h = some (v, h')) : MI w l yX11_pair cX11_pair 3 .int rm_X11_pair 0 0 [rf w (some l0), .int l1, .int l2] h v h' := by
  refine of_body [(0, rf w (some l0)), (1, .int l1), (2, .int l2)] (by decide) (by simp [lg_sl, rf_cat, cat_i, cat_l, cat_a]) (by simp [lv_args, rf_cat, cat_i, cat_l, cat_a]) ?_
  intro x hw_ hnL_ hl_ hc hret hnm hQ
  subst hw_; subst hl_
  have hnl : ∀ i, i < 3 → i < x.nL := fun i h => by rw [hnL_]; exact h
  have hw : wpO (sX11_pair F l0 l1 l2 h) (fun r => r = (v, h')) := ⟨_, hs, rfl⟩
  unfold sX11_pair at hw
  refine R_aload_n (q := 0) (i := 0) (v := (some l0)) hc dX11_pair_0 rfl rfl ?_
  refine R_iload_n (q := 1) (i := 1) (v := l1) hc dX11_pair_1 rfl rfl ?_
  refine R_iconst (v := (0 : Int32)) hc dX11_pair_2 kI_0 ?_
  refine R_aload_n (q := 0) (i := 0) (v := (some l0)) hc dX11_pair_3 rfl rfl ?_
  refine R_getR hc fl_11_7 dX11_pair_4 hw (fun t1 hw => ?_)
  refine R_iconst (v := (4 : Int32)) hc dX11_pair_7 kI_4 ?_
  refine R_iaload hc dX11_pair_8 hw (fun t2 hw => ?_)
  refine R_iconst (v := (1 : Int32)) hc dX11_pair_9 kI_1 ?_
  refine R_isub hc dX11_pair_10 ?_
  refine R_cSI (As := [.int l1, .int (0 : Int32), .int (t2 - (1 : Int32))]) (rest := [rf x.w (some l0)]) hc ml_11_107 mf_X11_isIn ⟨rfl, rfl⟩ ⟨le_b rfl, le_b rfl⟩ ⟨Nat.zero_le _, Nat.zero_le _⟩ (fun v e => mt_X11_isIn e) rfl rfl (le_b rfl) dX11_pair_11 hw (fun t3 hw => ?_)
  refine R_join (fun (s4 : Int32) => Rn x 0 0 36 [(0, rf x.w (some l0)), (1, .int l1), (2, .int l2)] [.int s4, rf x.w (some l0)] h) hw (fun r hw => ?_) (fun hw => ?_)
  · revert r hw
    intro s4 hw
    show Rn x 0 0 36 [(0, rf x.w (some l0)), (1, .int l1), (2, .int l2)] [.int s4, rf x.w (some l0)] h
    refine R_putI hc pl_11_100 rfl rfl dX11_pair_36 hw (fun h6 hw => ?_)
    refine R_aload_n (q := 0) (i := 0) (v := (some l0)) hc dX11_pair_39 rfl rfl ?_
    refine R_getI hc fl_11_100 dX11_pair_40 hw (fun t7 hw => ?_)
    refine R_if_le (tgt := 48) hc dX11_pair_43 (by decide) hw (fun hw => ?_) (fun hw => ?_)
    · refine R_iload_n (q := 2) (i := 2) (v := l2) hc dX11_pair_48 rfl rfl ?_
      refine R_bipush (v := (6 : Int32)) hc dX11_pair_49 kB_6 ?_
      refine R_icmp_ne (tgt := 62) hc dX11_pair_51 (by decide) hw (fun hw => ?_) (fun hw => ?_)
      · refine R_aload_n (q := 0) (i := 0) (v := (some l0)) hc dX11_pair_62 rfl rfl ?_
        refine R_getR hc fl_11_7 dX11_pair_63 hw (fun t8 hw => ?_)
        refine R_iconst (v := (5 : Int32)) hc dX11_pair_66 kI_5 ?_
        refine R_bipush (v := (6 : Int32)) hc dX11_pair_67 kB_6 ?_
        refine R_iload_n (q := 1) (i := 1) (v := l1) hc dX11_pair_69 rfl rfl ?_
        refine R_imul hc dX11_pair_70 ?_
        refine R_iadd hc dX11_pair_71 ?_
        refine R_iload_n (q := 2) (i := 2) (v := l2) hc dX11_pair_72 rfl rfl ?_
        refine R_iadd hc dX11_pair_73 ?_
        refine R_iaload hc dX11_pair_74 hw (fun t9 hw => ?_)
        exact R_ireturn hc hret rfl hQ hw dX11_pair_75
      · refine R_aload_n (q := 0) (i := 0) (v := (some l0)) hc dX11_pair_54 rfl rfl ?_
        refine R_iload_n (q := 1) (i := 1) (v := l1) hc dX11_pair_55 rfl rfl ?_
        refine R_cVI (As := [.int l1]) (rest := []) (r := (some l0)) (ci := 11) hc ml_11_291 mf_X11_fingersOf rfl (by decide) ⟨rfl, rfl⟩ ⟨le_b rfl, le_b rfl⟩ ⟨Nat.zero_le _, Nat.zero_le _⟩ (fun a v e => mt_X11_fingersOf e) rfl rfl (Nat.zero_le _) dX11_pair_56 hw (fun t11 hw => ?_)
        refine R_goto (tgt := 75) hc dX11_pair_59 (by decide) ?_
        exact R_ireturn hc hret rfl hQ hw dX11_pair_75
    · refine R_iconst (v := (0 : Int32)) hc dX11_pair_46 kI_0 ?_
      exact R_ireturn hc hret rfl hQ hw dX11_pair_47
  · refine R_if_ne (tgt := 21) hc dX11_pair_14 (by decide) hw (fun hw => ?_) (fun hw => ?_)
    · refine R_iload_n (q := 2) (i := 2) (v := l2) hc dX11_pair_21 rfl rfl ?_
      refine R_iconst (v := (0 : Int32)) hc dX11_pair_22 kI_0 ?_
      refine R_bipush (v := (6 : Int32)) hc dX11_pair_23 kB_6 ?_
      refine R_cSI (As := [.int l2, .int (0 : Int32), .int (6 : Int32)]) (rest := [rf x.w (some l0)]) hc ml_11_107 mf_X11_isIn ⟨rfl, rfl⟩ ⟨le_b rfl, le_b rfl⟩ ⟨Nat.zero_le _, Nat.zero_le _⟩ (fun v e => mt_X11_isIn e) rfl rfl (le_b rfl) dX11_pair_25 hw (fun t5 hw => ?_)
      refine R_if_ne (tgt := 35) hc dX11_pair_28 (by decide) hw (fun hw => ?_) (fun hw => ?_)
      · refine R_iconst (v := (0 : Int32)) hc dX11_pair_35 kI_0 ?_
        refine R_sub hc [0, 1, 2] rfl ?_
        exact (wpO_some hw :)
      · refine R_iconst (v := (2 : Int32)) hc dX11_pair_31 kI_2 ?_
        refine R_goto (tgt := 36) hc dX11_pair_32 (by decide) ?_
        refine R_sub hc [0, 1, 2] rfl ?_
        exact (wpO_some hw :)
    · refine R_iconst (v := (1 : Int32)) hc dX11_pair_17 kI_1 ?_
      refine R_goto (tgt := 36) hc dX11_pair_18 (by decide) ?_
      refine R_sub hc [0, 1, 2] rfl ?_
      exact (wpO_some hw :)
theorem dX11_areLike_0 : decode cX11_areLike 0 = .ok (.iload_n 0, 1) := by decide +kernel
theorem dX11_areLike_1 : decode cX11_areLike 1 = .ok (.iload_n 2, 1) := by decide +kernel
theorem dX11_areLike_2 : decode cX11_areLike 2 = .ok (.if_icmp .ne 8, 3) := by decide +kernel
theorem dX11_areLike_5 : decode cX11_areLike 5 = .ok (.iload_n 1, 1) := by decide +kernel
theorem dX11_areLike_6 : decode cX11_areLike 6 = .ok (.iload_n 3, 1) := by decide +kernel
theorem dX11_areLike_7 : decode cX11_areLike 7 = .ok (.if_icmp .eq 13, 3) := by decide +kernel
theorem dX11_areLike_10 : decode cX11_areLike 10 = .ok (.iload_n 0, 1) := by decide +kernel
theorem dX11_areLike_11 : decode cX11_areLike 11 = .ok (.iload_n 3, 1) := by decide +kernel
theorem dX11_areLike_12 : decode cX11_areLike 12 = .ok (.if_icmp .ne 12, 3) := by decide +kernel
theorem dX11_areLike_15 : decode cX11_areLike 15 = .ok (.iload_n 1, 1) := by decide +kernel
theorem dX11_areLike_16 : decode cX11_areLike 16 = .ok (.iload_n 2, 1) := by decide +kernel
theorem dX11_areLike_17 : decode cX11_areLike 17 = .ok (.if_icmp .ne 7, 3) := by decide +kernel
theorem dX11_areLike_20 : decode cX11_areLike 20 = .ok (.iconst 1, 1) := by decide +kernel
theorem dX11_areLike_21 : decode cX11_areLike 21 = .ok (.goto 4, 3) := by decide +kernel
theorem dX11_areLike_24 : decode cX11_areLike 24 = .ok (.iconst 0, 1) := by decide +kernel
theorem dX11_areLike_25 : decode cX11_areLike 25 = .ok (.ireturn, 1) := by decide +kernel
def sX11_areLike (F : Nat) (l0 : Int32) (l1 : Int32) (l2 : Int32) (l3 : Int32) (h : HP) : Option Int32 :=
  if ¬ l0 = l2 then
    if ¬ l0 = l3 then
      some (0 : Int32)
    else
      if ¬ l1 = l2 then
        some (0 : Int32)
      else
        some (1 : Int32)
  else
    if l1 = l3 then
      some (1 : Int32)
    else
      if ¬ l0 = l3 then
        some (0 : Int32)
      else
        if ¬ l1 = l2 then
          some (0 : Int32)
        else
          some (1 : Int32)
abbrev rm_X11_areLike : Room := { frames := 0, cells := 0, slots := 0, locals := 0 }
set_option maxRecDepth 100000 in
set_option maxHeartbeats 4000000 in
theorem mt_X11_areLike {w : WD} {l : Launch} {F : Nat} {l0 : Int32} {l1 : Int32} {l2 : Int32} {l3 : Int32} {h : HP} {v : Int32} (hs : sX11_areLike F l0 l1 l2 l3 h = some v) : MI w l yX11_areLike cX11_areLike 4 .boolean rm_X11_areLike 0 0 [.int l0, .int l1, .int l2, .int l3] h v h := by
  refine of_body [(0, .int l0), (1, .int l1), (2, .int l2), (3, .int l3)] (by decide) (by simp [lg_sl, rf_cat, cat_i, cat_l, cat_a]) (by simp [lv_args, rf_cat, cat_i, cat_l, cat_a]) ?_
  intro x hw_ hnL_ hl_ hc hret hnm hQ
  subst hw_; subst hl_
  have hnl : ∀ i, i < 4 → i < x.nL := fun i h => by rw [hnL_]; exact h
  have hw : wpO (sX11_areLike F l0 l1 l2 l3 h) (fun r => r = v) := ⟨_, hs, rfl⟩
  unfold sX11_areLike at hw
  refine R_iload_n (q := 0) (i := 0) (v := l0) hc dX11_areLike_0 rfl rfl ?_
  refine R_iload_n (q := 2) (i := 2) (v := l2) hc dX11_areLike_1 rfl rfl ?_
  refine R_icmp_ne (tgt := 10) hc dX11_areLike_2 (by decide) hw (fun hw => ?_) (fun hw => ?_)
  · refine R_iload_n (q := 0) (i := 0) (v := l0) hc dX11_areLike_10 rfl rfl ?_
    refine R_iload_n (q := 3) (i := 3) (v := l3) hc dX11_areLike_11 rfl rfl ?_
    refine R_icmp_ne (tgt := 24) hc dX11_areLike_12 (by decide) hw (fun hw => ?_) (fun hw => ?_)
    · refine R_iconst (v := (0 : Int32)) hc dX11_areLike_24 kI_0 ?_
      exact R_ireturnP hc hret rfl hQ hw dX11_areLike_25
    · refine R_iload_n (q := 1) (i := 1) (v := l1) hc dX11_areLike_15 rfl rfl ?_
      refine R_iload_n (q := 2) (i := 2) (v := l2) hc dX11_areLike_16 rfl rfl ?_
      refine R_icmp_ne (tgt := 24) hc dX11_areLike_17 (by decide) hw (fun hw => ?_) (fun hw => ?_)
      · refine R_iconst (v := (0 : Int32)) hc dX11_areLike_24 kI_0 ?_
        exact R_ireturnP hc hret rfl hQ hw dX11_areLike_25
      · refine R_iconst (v := (1 : Int32)) hc dX11_areLike_20 kI_1 ?_
        refine R_goto (tgt := 25) hc dX11_areLike_21 (by decide) ?_
        exact R_ireturnP hc hret rfl hQ hw dX11_areLike_25
  · refine R_iload_n (q := 1) (i := 1) (v := l1) hc dX11_areLike_5 rfl rfl ?_
    refine R_iload_n (q := 3) (i := 3) (v := l3) hc dX11_areLike_6 rfl rfl ?_
    refine R_icmp_eq (tgt := 20) hc dX11_areLike_7 (by decide) hw (fun hw => ?_) (fun hw => ?_)
    · refine R_iconst (v := (1 : Int32)) hc dX11_areLike_20 kI_1 ?_
      refine R_goto (tgt := 25) hc dX11_areLike_21 (by decide) ?_
      exact R_ireturnP hc hret rfl hQ hw dX11_areLike_25
    · refine R_iload_n (q := 0) (i := 0) (v := l0) hc dX11_areLike_10 rfl rfl ?_
      refine R_iload_n (q := 3) (i := 3) (v := l3) hc dX11_areLike_11 rfl rfl ?_
      refine R_icmp_ne (tgt := 24) hc dX11_areLike_12 (by decide) hw (fun hw => ?_) (fun hw => ?_)
      · refine R_iconst (v := (0 : Int32)) hc dX11_areLike_24 kI_0 ?_
        exact R_ireturnP hc hret rfl hQ hw dX11_areLike_25
      · refine R_iload_n (q := 1) (i := 1) (v := l1) hc dX11_areLike_15 rfl rfl ?_
        refine R_iload_n (q := 2) (i := 2) (v := l2) hc dX11_areLike_16 rfl rfl ?_
        refine R_icmp_ne (tgt := 24) hc dX11_areLike_17 (by decide) hw (fun hw => ?_) (fun hw => ?_)
        · refine R_iconst (v := (0 : Int32)) hc dX11_areLike_24 kI_0 ?_
          exact R_ireturnP hc hret rfl hQ hw dX11_areLike_25
        · refine R_iconst (v := (1 : Int32)) hc dX11_areLike_20 kI_1 ?_
          refine R_goto (tgt := 25) hc dX11_areLike_21 (by decide) ?_
          exact R_ireturnP hc hret rfl hQ hw dX11_areLike_25
theorem dX11_isReadBack_0 : decode cX11_isReadBack 0 = .ok (.aload_n 0, 1) := by decide +kernel
theorem dX11_isReadBack_1 : decode cX11_isReadBack 1 = .ok (.iload_n 1, 1) := by decide +kernel
theorem dX11_isReadBack_2 : decode cX11_isReadBack 2 = .ok (.invokevirtual 156, 3) := by decide +kernel
theorem dX11_isReadBack_5 : decode cX11_isReadBack 5 = .ok (.istore_n 2, 1) := by decide +kernel
theorem dX11_isReadBack_6 : decode cX11_isReadBack 6 = .ok (.aload_n 0, 1) := by decide +kernel
theorem dX11_isReadBack_7 : decode cX11_isReadBack 7 = .ok (.getfield 63, 3) := by decide +kernel
theorem dX11_isReadBack_10 : decode cX11_isReadBack 10 = .ok (.iload_n 1, 1) := by decide +kernel
theorem dX11_isReadBack_11 : decode cX11_isReadBack 11 = .ok (.iaload, 1) := by decide +kernel
theorem dX11_isReadBack_12 : decode cX11_isReadBack 12 = .ok (.istore_n 3, 1) := by decide +kernel
theorem dX11_isReadBack_13 : decode cX11_isReadBack 13 = .ok (.aload_n 0, 1) := by decide +kernel
theorem dX11_isReadBack_14 : decode cX11_isReadBack 14 = .ok (.getfield 57, 3) := by decide +kernel
theorem dX11_isReadBack_17 : decode cX11_isReadBack 17 = .ok (.iload_n 3, 1) := by decide +kernel
theorem dX11_isReadBack_18 : decode cX11_isReadBack 18 = .ok (.iaload, 1) := by decide +kernel
theorem dX11_isReadBack_19 : decode cX11_isReadBack 19 = .ok (.aload_n 0, 1) := by decide +kernel
theorem dX11_isReadBack_20 : decode cX11_isReadBack 20 = .ok (.iload_n 2, 1) := by decide +kernel
theorem dX11_isReadBack_21 : decode cX11_isReadBack 21 = .ok (.iconst 0, 1) := by decide +kernel
theorem dX11_isReadBack_22 : decode cX11_isReadBack 22 = .ok (.invokevirtual 111, 3) := by decide +kernel
theorem dX11_isReadBack_25 : decode cX11_isReadBack 25 = .ok (.if_icmp .ne 75, 3) := by decide +kernel
theorem dX11_isReadBack_28 : decode cX11_isReadBack 28 = .ok (.aload_n 0, 1) := by decide +kernel
theorem dX11_isReadBack_29 : decode cX11_isReadBack 29 = .ok (.getfield 54, 3) := by decide +kernel
theorem dX11_isReadBack_32 : decode cX11_isReadBack 32 = .ok (.iload_n 3, 1) := by decide +kernel
theorem dX11_isReadBack_33 : decode cX11_isReadBack 33 = .ok (.iconst 1, 1) := by decide +kernel
theorem dX11_isReadBack_34 : decode cX11_isReadBack 34 = .ok (.isub, 1) := by decide +kernel
theorem dX11_isReadBack_35 : decode cX11_isReadBack 35 = .ok (.iaload, 1) := by decide +kernel
theorem dX11_isReadBack_36 : decode cX11_isReadBack 36 = .ok (.aload_n 0, 1) := by decide +kernel
theorem dX11_isReadBack_37 : decode cX11_isReadBack 37 = .ok (.getfield 54, 3) := by decide +kernel
theorem dX11_isReadBack_40 : decode cX11_isReadBack 40 = .ok (.iload_n 3, 1) := by decide +kernel
theorem dX11_isReadBack_41 : decode cX11_isReadBack 41 = .ok (.iconst 1, 1) := by decide +kernel
theorem dX11_isReadBack_42 : decode cX11_isReadBack 42 = .ok (.iadd, 1) := by decide +kernel
theorem dX11_isReadBack_43 : decode cX11_isReadBack 43 = .ok (.iaload, 1) := by decide +kernel
theorem dX11_isReadBack_44 : decode cX11_isReadBack 44 = .ok (.aload_n 0, 1) := by decide +kernel
theorem dX11_isReadBack_45 : decode cX11_isReadBack 45 = .ok (.iload_n 2, 1) := by decide +kernel
theorem dX11_isReadBack_46 : decode cX11_isReadBack 46 = .ok (.iconst 1, 1) := by decide +kernel
theorem dX11_isReadBack_47 : decode cX11_isReadBack 47 = .ok (.invokevirtual 111, 3) := by decide +kernel
theorem dX11_isReadBack_50 : decode cX11_isReadBack 50 = .ok (.aload_n 0, 1) := by decide +kernel
theorem dX11_isReadBack_51 : decode cX11_isReadBack 51 = .ok (.iload_n 2, 1) := by decide +kernel
theorem dX11_isReadBack_52 : decode cX11_isReadBack 52 = .ok (.iconst 2, 1) := by decide +kernel
theorem dX11_isReadBack_53 : decode cX11_isReadBack 53 = .ok (.invokevirtual 111, 3) := by decide +kernel
theorem dX11_isReadBack_56 : decode cX11_isReadBack 56 = .ok (.invokestatic 294, 3) := by decide +kernel
theorem dX11_isReadBack_59 : decode cX11_isReadBack 59 = .ok (.ifCond .eq 41, 3) := by decide +kernel
theorem dX11_isReadBack_62 : decode cX11_isReadBack 62 = .ok (.aload_n 0, 1) := by decide +kernel
theorem dX11_isReadBack_63 : decode cX11_isReadBack 63 = .ok (.getfield 60, 3) := by decide +kernel
theorem dX11_isReadBack_66 : decode cX11_isReadBack 66 = .ok (.iload_n 3, 1) := by decide +kernel
theorem dX11_isReadBack_67 : decode cX11_isReadBack 67 = .ok (.iconst 1, 1) := by decide +kernel
theorem dX11_isReadBack_68 : decode cX11_isReadBack 68 = .ok (.isub, 1) := by decide +kernel
theorem dX11_isReadBack_69 : decode cX11_isReadBack 69 = .ok (.iaload, 1) := by decide +kernel
theorem dX11_isReadBack_70 : decode cX11_isReadBack 70 = .ok (.aload_n 0, 1) := by decide +kernel
theorem dX11_isReadBack_71 : decode cX11_isReadBack 71 = .ok (.getfield 60, 3) := by decide +kernel
theorem dX11_isReadBack_74 : decode cX11_isReadBack 74 = .ok (.iload_n 3, 1) := by decide +kernel
theorem dX11_isReadBack_75 : decode cX11_isReadBack 75 = .ok (.iconst 1, 1) := by decide +kernel
theorem dX11_isReadBack_76 : decode cX11_isReadBack 76 = .ok (.iadd, 1) := by decide +kernel
theorem dX11_isReadBack_77 : decode cX11_isReadBack 77 = .ok (.iaload, 1) := by decide +kernel
theorem dX11_isReadBack_78 : decode cX11_isReadBack 78 = .ok (.aload_n 0, 1) := by decide +kernel
theorem dX11_isReadBack_79 : decode cX11_isReadBack 79 = .ok (.iload_n 2, 1) := by decide +kernel
theorem dX11_isReadBack_80 : decode cX11_isReadBack 80 = .ok (.iconst 3, 1) := by decide +kernel
theorem dX11_isReadBack_81 : decode cX11_isReadBack 81 = .ok (.invokevirtual 111, 3) := by decide +kernel
theorem dX11_isReadBack_84 : decode cX11_isReadBack 84 = .ok (.aload_n 0, 1) := by decide +kernel
theorem dX11_isReadBack_85 : decode cX11_isReadBack 85 = .ok (.iload_n 2, 1) := by decide +kernel
theorem dX11_isReadBack_86 : decode cX11_isReadBack 86 = .ok (.iconst 4, 1) := by decide +kernel
theorem dX11_isReadBack_87 : decode cX11_isReadBack 87 = .ok (.invokevirtual 111, 3) := by decide +kernel
theorem dX11_isReadBack_90 : decode cX11_isReadBack 90 = .ok (.invokestatic 294, 3) := by decide +kernel
theorem dX11_isReadBack_93 : decode cX11_isReadBack 93 = .ok (.ifCond .eq 7, 3) := by decide +kernel
theorem dX11_isReadBack_96 : decode cX11_isReadBack 96 = .ok (.iconst 1, 1) := by decide +kernel
theorem dX11_isReadBack_97 : decode cX11_isReadBack 97 = .ok (.goto 4, 3) := by decide +kernel
theorem dX11_isReadBack_100 : decode cX11_isReadBack 100 = .ok (.iconst 0, 1) := by decide +kernel
theorem dX11_isReadBack_101 : decode cX11_isReadBack 101 = .ok (.ireturn, 1) := by decide +kernel
def sX11_isReadBack (F : Nat) (l0 : Nat) (l1 : Int32) (h : HP) : Option Int32 :=
  (dO h 11 (some l0)).bind fun a1 =>
  (sX11_fingerAt F a1 l1 h).bind fun t2 =>
  (gR h 11 (some l0) 26).bind fun t3 =>
  (aI h 13 t3 l1).bind fun t4 =>
  (gR h 11 (some l0) 24).bind fun t5 =>
  (aI h 13 t5 t4).bind fun t6 =>
  (dO h 11 (some l0)).bind fun a7 =>
  (sX11_of F a7 t2 (0 : Int32) h).bind fun t8 =>
  if ¬ t6 = t8 then
    some (0 : Int32)
  else
    (gR h 11 (some l0) 23).bind fun t9 =>
    (aI h 13 t9 (t4 - (1 : Int32))).bind fun t10 =>
    (gR h 11 (some l0) 23).bind fun t11 =>
    (aI h 13 t11 (t4 + (1 : Int32))).bind fun t12 =>
    (dO h 11 (some l0)).bind fun a13 =>
    (sX11_of F a13 t2 (1 : Int32) h).bind fun t14 =>
    (dO h 11 (some l0)).bind fun a15 =>
    (sX11_of F a15 t2 (2 : Int32) h).bind fun t16 =>
    (sX11_areLike F t10 t12 t14 t16 h).bind fun t17 =>
    if t17 = 0 then
      some (0 : Int32)
    else
      (gR h 11 (some l0) 25).bind fun t18 =>
      (aI h 13 t18 (t4 - (1 : Int32))).bind fun t19 =>
      (gR h 11 (some l0) 25).bind fun t20 =>
      (aI h 13 t20 (t4 + (1 : Int32))).bind fun t21 =>
      (dO h 11 (some l0)).bind fun a22 =>
      (sX11_of F a22 t2 (3 : Int32) h).bind fun t23 =>
      (dO h 11 (some l0)).bind fun a24 =>
      (sX11_of F a24 t2 (4 : Int32) h).bind fun t25 =>
      (sX11_areLike F t19 t21 t23 t25 h).bind fun t26 =>
      if t26 = 0 then
        some (0 : Int32)
      else
        some (1 : Int32)
abbrev rm_X11_isReadBack : Room := { frames := 1, cells := 0, slots := 0, locals := 23 }
set_option maxRecDepth 100000 in
set_option maxHeartbeats 4000000 in
theorem mt_X11_isReadBack {w : WD} {l : Launch} {F : Nat} {l0 : Nat} {l1 : Int32} {h : HP} {v : Int32} (hs : sX11_isReadBack F l0 l1 h = some v) : MI w l yX11_isReadBack cX11_isReadBack 4 .boolean rm_X11_isReadBack 0 0 [rf w (some l0), .int l1] h v h := by
  refine of_body [(0, rf w (some l0)), (1, .int l1)] (by decide) (by simp [lg_sl, rf_cat, cat_i, cat_l, cat_a]) (by simp [lv_args, rf_cat, cat_i, cat_l, cat_a]) ?_
  intro x hw_ hnL_ hl_ hc hret hnm hQ
  subst hw_; subst hl_
  have hnl : ∀ i, i < 4 → i < x.nL := fun i h => by rw [hnL_]; exact h
  have hw : wpO (sX11_isReadBack F l0 l1 h) (fun r => r = v) := ⟨_, hs, rfl⟩
  unfold sX11_isReadBack at hw
  refine R_aload_n (q := 0) (i := 0) (v := (some l0)) hc dX11_isReadBack_0 rfl rfl ?_
  refine R_iload_n (q := 1) (i := 1) (v := l1) hc dX11_isReadBack_1 rfl rfl ?_
  refine R_cVI (As := [.int l1]) (rest := []) (r := (some l0)) (ci := 11) hc ml_11_156 mf_X11_fingerAt rfl (by decide) ⟨rfl, rfl⟩ ⟨le_b rfl, le_b rfl⟩ ⟨Nat.zero_le _, Nat.zero_le _⟩ (fun a v e => mt_X11_fingerAt e) rfl rfl (Nat.zero_le _) dX11_isReadBack_2 hw (fun t2 hw => ?_)
  refine R_istore_n (i := 2) (v := t2) hc [(2, .int t2), (0, rf x.w (some l0)), (1, .int l1)] dX11_isReadBack_5 rfl (hnl 2 (le_b rfl)) rfl ?_
  refine R_aload_n (q := 1) (i := 0) (v := (some l0)) hc dX11_isReadBack_6 rfl rfl ?_
  refine R_getR hc fl_11_63 dX11_isReadBack_7 hw (fun t3 hw => ?_)
  refine R_iload_n (q := 2) (i := 1) (v := l1) hc dX11_isReadBack_10 rfl rfl ?_
  refine R_iaload hc dX11_isReadBack_11 hw (fun t4 hw => ?_)
  refine R_istore_n (i := 3) (v := t4) hc [(3, .int t4), (2, .int t2), (0, rf x.w (some l0)), (1, .int l1)] dX11_isReadBack_12 rfl (hnl 3 (le_b rfl)) rfl ?_
  refine R_aload_n (q := 2) (i := 0) (v := (some l0)) hc dX11_isReadBack_13 rfl rfl ?_
  refine R_getR hc fl_11_57 dX11_isReadBack_14 hw (fun t5 hw => ?_)
  refine R_iload_n (q := 0) (i := 3) (v := t4) hc dX11_isReadBack_17 rfl rfl ?_
  refine R_iaload hc dX11_isReadBack_18 hw (fun t6 hw => ?_)
  refine R_aload_n (q := 2) (i := 0) (v := (some l0)) hc dX11_isReadBack_19 rfl rfl ?_
  refine R_iload_n (q := 1) (i := 2) (v := t2) hc dX11_isReadBack_20 rfl rfl ?_
  refine R_iconst (v := (0 : Int32)) hc dX11_isReadBack_21 kI_0 ?_
  refine R_cVI (As := [.int t2, .int (0 : Int32)]) (rest := [.int t6]) (r := (some l0)) (ci := 11) hc ml_11_111 mf_X11_of rfl (by decide) ⟨rfl, rfl⟩ ⟨le_b rfl, le_b rfl⟩ ⟨Nat.zero_le _, Nat.zero_le _⟩ (fun a v e => mt_X11_of e) rfl rfl (le_b rfl) dX11_isReadBack_22 hw (fun t8 hw => ?_)
  refine R_icmp_ne (tgt := 100) hc dX11_isReadBack_25 (by decide) hw (fun hw => ?_) (fun hw => ?_)
  · refine R_iconst (v := (0 : Int32)) hc dX11_isReadBack_100 kI_0 ?_
    exact R_ireturnP hc hret rfl hQ hw dX11_isReadBack_101
  · refine R_aload_n (q := 2) (i := 0) (v := (some l0)) hc dX11_isReadBack_28 rfl rfl ?_
    refine R_getR hc fl_11_54 dX11_isReadBack_29 hw (fun t9 hw => ?_)
    refine R_iload_n (q := 0) (i := 3) (v := t4) hc dX11_isReadBack_32 rfl rfl ?_
    refine R_iconst (v := (1 : Int32)) hc dX11_isReadBack_33 kI_1 ?_
    refine R_isub hc dX11_isReadBack_34 ?_
    refine R_iaload hc dX11_isReadBack_35 hw (fun t10 hw => ?_)
    refine R_aload_n (q := 2) (i := 0) (v := (some l0)) hc dX11_isReadBack_36 rfl rfl ?_
    refine R_getR hc fl_11_54 dX11_isReadBack_37 hw (fun t11 hw => ?_)
    refine R_iload_n (q := 0) (i := 3) (v := t4) hc dX11_isReadBack_40 rfl rfl ?_
    refine R_iconst (v := (1 : Int32)) hc dX11_isReadBack_41 kI_1 ?_
    refine R_iadd hc dX11_isReadBack_42 ?_
    refine R_iaload hc dX11_isReadBack_43 hw (fun t12 hw => ?_)
    refine R_aload_n (q := 2) (i := 0) (v := (some l0)) hc dX11_isReadBack_44 rfl rfl ?_
    refine R_iload_n (q := 1) (i := 2) (v := t2) hc dX11_isReadBack_45 rfl rfl ?_
    refine R_iconst (v := (1 : Int32)) hc dX11_isReadBack_46 kI_1 ?_
    refine R_cVI (As := [.int t2, .int (1 : Int32)]) (rest := [.int t12, .int t10]) (r := (some l0)) (ci := 11) hc ml_11_111 mf_X11_of rfl (by decide) ⟨rfl, rfl⟩ ⟨le_b rfl, le_b rfl⟩ ⟨Nat.zero_le _, Nat.zero_le _⟩ (fun a v e => mt_X11_of e) rfl rfl (le_b rfl) dX11_isReadBack_47 hw (fun t14 hw => ?_)
    refine R_aload_n (q := 2) (i := 0) (v := (some l0)) hc dX11_isReadBack_50 rfl rfl ?_
    refine R_iload_n (q := 1) (i := 2) (v := t2) hc dX11_isReadBack_51 rfl rfl ?_
    refine R_iconst (v := (2 : Int32)) hc dX11_isReadBack_52 kI_2 ?_
    refine R_cVI (As := [.int t2, .int (2 : Int32)]) (rest := [.int t14, .int t12, .int t10]) (r := (some l0)) (ci := 11) hc ml_11_111 mf_X11_of rfl (by decide) ⟨rfl, rfl⟩ ⟨le_b rfl, le_b rfl⟩ ⟨Nat.zero_le _, Nat.zero_le _⟩ (fun a v e => mt_X11_of e) rfl rfl (le_b rfl) dX11_isReadBack_53 hw (fun t16 hw => ?_)
    refine R_cSI (As := [.int t10, .int t12, .int t14, .int t16]) (rest := []) hc ml_11_294 mf_X11_areLike ⟨rfl, rfl⟩ ⟨le_b rfl, le_b rfl⟩ ⟨Nat.zero_le _, Nat.zero_le _⟩ (fun v e => mt_X11_areLike e) rfl rfl (Nat.zero_le _) dX11_isReadBack_56 hw (fun t17 hw => ?_)
    refine R_if_eq (tgt := 100) hc dX11_isReadBack_59 (by decide) hw (fun hw => ?_) (fun hw => ?_)
    · refine R_iconst (v := (0 : Int32)) hc dX11_isReadBack_100 kI_0 ?_
      exact R_ireturnP hc hret rfl hQ hw dX11_isReadBack_101
    · refine R_aload_n (q := 2) (i := 0) (v := (some l0)) hc dX11_isReadBack_62 rfl rfl ?_
      refine R_getR hc fl_11_60 dX11_isReadBack_63 hw (fun t18 hw => ?_)
      refine R_iload_n (q := 0) (i := 3) (v := t4) hc dX11_isReadBack_66 rfl rfl ?_
      refine R_iconst (v := (1 : Int32)) hc dX11_isReadBack_67 kI_1 ?_
      refine R_isub hc dX11_isReadBack_68 ?_
      refine R_iaload hc dX11_isReadBack_69 hw (fun t19 hw => ?_)
      refine R_aload_n (q := 2) (i := 0) (v := (some l0)) hc dX11_isReadBack_70 rfl rfl ?_
      refine R_getR hc fl_11_60 dX11_isReadBack_71 hw (fun t20 hw => ?_)
      refine R_iload_n (q := 0) (i := 3) (v := t4) hc dX11_isReadBack_74 rfl rfl ?_
      refine R_iconst (v := (1 : Int32)) hc dX11_isReadBack_75 kI_1 ?_
      refine R_iadd hc dX11_isReadBack_76 ?_
      refine R_iaload hc dX11_isReadBack_77 hw (fun t21 hw => ?_)
      refine R_aload_n (q := 2) (i := 0) (v := (some l0)) hc dX11_isReadBack_78 rfl rfl ?_
      refine R_iload_n (q := 1) (i := 2) (v := t2) hc dX11_isReadBack_79 rfl rfl ?_
      refine R_iconst (v := (3 : Int32)) hc dX11_isReadBack_80 kI_3 ?_
      refine R_cVI (As := [.int t2, .int (3 : Int32)]) (rest := [.int t21, .int t19]) (r := (some l0)) (ci := 11) hc ml_11_111 mf_X11_of rfl (by decide) ⟨rfl, rfl⟩ ⟨le_b rfl, le_b rfl⟩ ⟨Nat.zero_le _, Nat.zero_le _⟩ (fun a v e => mt_X11_of e) rfl rfl (le_b rfl) dX11_isReadBack_81 hw (fun t23 hw => ?_)
      refine R_aload_n (q := 2) (i := 0) (v := (some l0)) hc dX11_isReadBack_84 rfl rfl ?_
      refine R_iload_n (q := 1) (i := 2) (v := t2) hc dX11_isReadBack_85 rfl rfl ?_
      refine R_iconst (v := (4 : Int32)) hc dX11_isReadBack_86 kI_4 ?_
      refine R_cVI (As := [.int t2, .int (4 : Int32)]) (rest := [.int t23, .int t21, .int t19]) (r := (some l0)) (ci := 11) hc ml_11_111 mf_X11_of rfl (by decide) ⟨rfl, rfl⟩ ⟨le_b rfl, le_b rfl⟩ ⟨Nat.zero_le _, Nat.zero_le _⟩ (fun a v e => mt_X11_of e) rfl rfl (le_b rfl) dX11_isReadBack_87 hw (fun t25 hw => ?_)
      refine R_cSI (As := [.int t19, .int t21, .int t23, .int t25]) (rest := []) hc ml_11_294 mf_X11_areLike ⟨rfl, rfl⟩ ⟨le_b rfl, le_b rfl⟩ ⟨Nat.zero_le _, Nat.zero_le _⟩ (fun v e => mt_X11_areLike e) rfl rfl (Nat.zero_le _) dX11_isReadBack_90 hw (fun t26 hw => ?_)
      refine R_if_eq (tgt := 100) hc dX11_isReadBack_93 (by decide) hw (fun hw => ?_) (fun hw => ?_)
      · refine R_iconst (v := (0 : Int32)) hc dX11_isReadBack_100 kI_0 ?_
        exact R_ireturnP hc hret rfl hQ hw dX11_isReadBack_101
      · refine R_iconst (v := (1 : Int32)) hc dX11_isReadBack_96 kI_1 ?_
        refine R_goto (tgt := 101) hc dX11_isReadBack_97 (by decide) ?_
        exact R_ireturnP hc hret rfl hQ hw dX11_isReadBack_101
theorem dX11_at_0 : decode cX11_at 0 = .ok (.aload_n 0, 1) := by decide +kernel
theorem dX11_at_1 : decode cX11_at 1 = .ok (.aload_n 0, 1) := by decide +kernel
theorem dX11_at_2 : decode cX11_at 2 = .ok (.iload_n 1, 1) := by decide +kernel
theorem dX11_at_3 : decode cX11_at 3 = .ok (.invokevirtual 298, 3) := by decide +kernel
theorem dX11_at_6 : decode cX11_at 6 = .ok (.ifCond .ne 7, 3) := by decide +kernel
theorem dX11_at_9 : decode cX11_at 9 = .ok (.iconst 1, 1) := by decide +kernel
theorem dX11_at_10 : decode cX11_at 10 = .ok (.goto 17, 3) := by decide +kernel
theorem dX11_at_13 : decode cX11_at 13 = .ok (.iload_n 2, 1) := by decide +kernel
theorem dX11_at_14 : decode cX11_at 14 = .ok (.iconst 0, 1) := by decide +kernel
theorem dX11_at_15 : decode cX11_at 15 = .ok (.iconst 5, 1) := by decide +kernel
theorem dX11_at_16 : decode cX11_at 16 = .ok (.invokestatic 107, 3) := by decide +kernel
theorem dX11_at_19 : decode cX11_at 19 = .ok (.ifCond .ne 7, 3) := by decide +kernel
theorem dX11_at_22 : decode cX11_at 22 = .ok (.iconst 2, 1) := by decide +kernel
theorem dX11_at_23 : decode cX11_at 23 = .ok (.goto 4, 3) := by decide +kernel
theorem dX11_at_26 : decode cX11_at 26 = .ok (.iconst 0, 1) := by decide +kernel
theorem dX11_at_27 : decode cX11_at 27 = .ok (.putfield 100, 3) := by decide +kernel
theorem dX11_at_30 : decode cX11_at 30 = .ok (.aload_n 0, 1) := by decide +kernel
theorem dX11_at_31 : decode cX11_at 31 = .ok (.getfield 100, 3) := by decide +kernel
theorem dX11_at_34 : decode cX11_at 34 = .ok (.ifCond .le 5, 3) := by decide +kernel
theorem dX11_at_37 : decode cX11_at 37 = .ok (.iconst 0, 1) := by decide +kernel
theorem dX11_at_38 : decode cX11_at 38 = .ok (.ireturn, 1) := by decide +kernel
theorem dX11_at_39 : decode cX11_at 39 = .ok (.aload_n 0, 1) := by decide +kernel
theorem dX11_at_40 : decode cX11_at 40 = .ok (.invokevirtual 208, 3) := by decide +kernel
theorem dX11_at_43 : decode cX11_at 43 = .ok (.iload_n 2, 1) := by decide +kernel
theorem dX11_at_44 : decode cX11_at 44 = .ok (.tableswitch 93 0 4 #[36, 42, 56, 62, 69], 36) := by decide +kernel
theorem dX11_at_80 : decode cX11_at 80 = .ok (.aload_n 0, 1) := by decide +kernel
theorem dX11_at_81 : decode cX11_at 81 = .ok (.iload_n 1, 1) := by decide +kernel
theorem dX11_at_82 : decode cX11_at 82 = .ok (.invokevirtual 156, 3) := by decide +kernel
theorem dX11_at_85 : decode cX11_at 85 = .ok (.ireturn, 1) := by decide +kernel
theorem dX11_at_86 : decode cX11_at 86 = .ok (.aload_n 0, 1) := by decide +kernel
theorem dX11_at_87 : decode cX11_at 87 = .ok (.getfield 7, 3) := by decide +kernel
theorem dX11_at_90 : decode cX11_at 90 = .ok (.bipush 73, 2) := by decide +kernel
theorem dX11_at_92 : decode cX11_at 92 = .ok (.aload_n 0, 1) := by decide +kernel
theorem dX11_at_93 : decode cX11_at 93 = .ok (.iload_n 1, 1) := by decide +kernel
theorem dX11_at_94 : decode cX11_at 94 = .ok (.invokevirtual 156, 3) := by decide +kernel
theorem dX11_at_97 : decode cX11_at 97 = .ok (.iadd, 1) := by decide +kernel
theorem dX11_at_98 : decode cX11_at 98 = .ok (.iaload, 1) := by decide +kernel
theorem dX11_at_99 : decode cX11_at 99 = .ok (.ireturn, 1) := by decide +kernel
theorem dX11_at_100 : decode cX11_at 100 = .ok (.aload_n 0, 1) := by decide +kernel
theorem dX11_at_101 : decode cX11_at 101 = .ok (.iload_n 1, 1) := by decide +kernel
theorem dX11_at_102 : decode cX11_at 102 = .ok (.invokevirtual 160, 3) := by decide +kernel
theorem dX11_at_105 : decode cX11_at 105 = .ok (.ireturn, 1) := by decide +kernel
theorem dX11_at_106 : decode cX11_at 106 = .ok (.aload_n 0, 1) := by decide +kernel
theorem dX11_at_107 : decode cX11_at 107 = .ok (.getfield 63, 3) := by decide +kernel
theorem dX11_at_110 : decode cX11_at 110 = .ok (.iload_n 1, 1) := by decide +kernel
theorem dX11_at_111 : decode cX11_at 111 = .ok (.iaload, 1) := by decide +kernel
theorem dX11_at_112 : decode cX11_at 112 = .ok (.ireturn, 1) := by decide +kernel
theorem dX11_at_113 : decode cX11_at 113 = .ok (.iload_n 1, 1) := by decide +kernel
theorem dX11_at_114 : decode cX11_at 114 = .ok (.aload_n 0, 1) := by decide +kernel
theorem dX11_at_115 : decode cX11_at 115 = .ok (.invokevirtual 103, 3) := by decide +kernel
theorem dX11_at_118 : decode cX11_at 118 = .ok (.iconst 1, 1) := by decide +kernel
theorem dX11_at_119 : decode cX11_at 119 = .ok (.isub, 1) := by decide +kernel
theorem dX11_at_120 : decode cX11_at 120 = .ok (.if_icmp .ge 15, 3) := by decide +kernel
theorem dX11_at_123 : decode cX11_at 123 = .ok (.aload_n 0, 1) := by decide +kernel
theorem dX11_at_124 : decode cX11_at 124 = .ok (.iload_n 1, 1) := by decide +kernel
theorem dX11_at_125 : decode cX11_at 125 = .ok (.invokevirtual 163, 3) := by decide +kernel
theorem dX11_at_128 : decode cX11_at 128 = .ok (.ifCond .ne 7, 3) := by decide +kernel
theorem dX11_at_131 : decode cX11_at 131 = .ok (.iconst 1, 1) := by decide +kernel
theorem dX11_at_132 : decode cX11_at 132 = .ok (.goto 4, 3) := by decide +kernel
theorem dX11_at_135 : decode cX11_at 135 = .ok (.iconst 0, 1) := by decide +kernel
theorem dX11_at_136 : decode cX11_at 136 = .ok (.ireturn, 1) := by decide +kernel
theorem dX11_at_137 : decode cX11_at 137 = .ok (.aload_n 0, 1) := by decide +kernel
theorem dX11_at_138 : decode cX11_at 138 = .ok (.iload_n 1, 1) := by decide +kernel
theorem dX11_at_139 : decode cX11_at 139 = .ok (.invokevirtual 301, 3) := by decide +kernel
theorem dX11_at_142 : decode cX11_at 142 = .ok (.ifCond .eq 7, 3) := by decide +kernel
theorem dX11_at_145 : decode cX11_at 145 = .ok (.iconst 1, 1) := by decide +kernel
theorem dX11_at_146 : decode cX11_at 146 = .ok (.goto 4, 3) := by decide +kernel
theorem dX11_at_149 : decode cX11_at 149 = .ok (.iconst 0, 1) := by decide +kernel
theorem dX11_at_150 : decode cX11_at 150 = .ok (.ireturn, 1) := by decide +kernel
def sX11_at (F : Nat) (l0 : Nat) (l1 : Int32) (l2 : Int32) (h : HP) : Option (Int32 × HP) :=
  (dO h 11 (some l0)).bind fun a1 =>
  (sX11_isFinger F a1 l1 h).bind fun t2 =>
  (if ¬ t2 = 0 then
      (sX11_isIn F l2 (0 : Int32) (5 : Int32) h).bind fun t4 =>
      if ¬ t4 = 0 then
        some (0 : Int32)
      else
        some (2 : Int32)
    else
      some (1 : Int32)).bind fun s3 =>
  (pI h 11 (some l0) 0 s3).bind fun h5 =>
  (gI h5 11 (some l0) 0).bind fun t6 =>
  if t6 ≤ 0 then
    (dO h5 11 (some l0)).bind fun a7 =>
    (sX11_laysColumns F a7 h5).bind fun h8 =>
    if l2 = (0 : Int32) then
      (dO h8 11 (some l0)).bind fun a9 =>
      (sX11_fingerAt F a9 l1 h8).bind fun t10 =>
      some (t10, h8)
    else if l2 = (1 : Int32) then
      (gR h8 11 (some l0) 1).bind fun t11 =>
      (dO h8 11 (some l0)).bind fun a12 =>
      (sX11_fingerAt F a12 l1 h8).bind fun t13 =>
      (aI h8 13 t11 ((73 : Int32) + t13)).bind fun t14 =>
      some (t14, h8)
    else if l2 = (2 : Int32) then
      (dO h8 11 (some l0)).bind fun a15 =>
      (sX11_turnAt F a15 l1 h8).bind fun t16 =>
      some (t16, h8)
    else if l2 = (3 : Int32) then
      (gR h8 11 (some l0) 26).bind fun t17 =>
      (aI h8 13 t17 l1).bind fun t18 =>
      some (t18, h8)
    else if l2 = (4 : Int32) then
      (dO h8 11 (some l0)).bind fun a19 =>
      (sX11_fingers F a19 h8).bind fun t20 =>
      if (t20 - (1 : Int32)) ≤ l1 then
        some ((0 : Int32), h8)
      else
        (dO h8 11 (some l0)).bind fun a21 =>
        (sX11_lackBehind F a21 l1 h8).bind fun t22 =>
        if ¬ t22 = 0 then
          some ((0 : Int32), h8)
        else
          some ((1 : Int32), h8)
    else
      (dO h8 11 (some l0)).bind fun a23 =>
      (sX11_isReadBack F a23 l1 h8).bind fun t24 =>
      if t24 = 0 then
        some ((0 : Int32), h8)
      else
        some ((1 : Int32), h8)
  else
    some ((0 : Int32), h5)
abbrev rm_X11_at : Room := { frames := 6, cells := 0, slots := 0, locals := 141 }
set_option maxRecDepth 100000 in
set_option maxHeartbeats 4000000 in
theorem mt_X11_at {w : WD} {l : Launch} {F : Nat} {l0 : Nat} {l1 : Int32} {l2 : Int32} {h : HP} {v : Int32} {h' : HP} (hs : sX11_at F l0 l1 l2 h = some (v, h')) : MI w l yX11_at cX11_at 3 .int rm_X11_at 0 0 [rf w (some l0), .int l1, .int l2] h v h' := by
  refine of_body [(0, rf w (some l0)), (1, .int l1), (2, .int l2)] (by decide) (by simp [lg_sl, rf_cat, cat_i, cat_l, cat_a]) (by simp [lv_args, rf_cat, cat_i, cat_l, cat_a]) ?_
  intro x hw_ hnL_ hl_ hc hret hnm hQ
  subst hw_; subst hl_
  have hnl : ∀ i, i < 3 → i < x.nL := fun i h => by rw [hnL_]; exact h
  have hw : wpO (sX11_at F l0 l1 l2 h) (fun r => r = (v, h')) := ⟨_, hs, rfl⟩
  unfold sX11_at at hw
  refine R_aload_n (q := 0) (i := 0) (v := (some l0)) hc dX11_at_0 rfl rfl ?_
  refine R_aload_n (q := 0) (i := 0) (v := (some l0)) hc dX11_at_1 rfl rfl ?_
  refine R_iload_n (q := 1) (i := 1) (v := l1) hc dX11_at_2 rfl rfl ?_
  refine R_cVI (As := [.int l1]) (rest := [rf x.w (some l0)]) (r := (some l0)) (ci := 11) hc ml_11_298 mf_X11_isFinger rfl (by decide) ⟨rfl, rfl⟩ ⟨le_b rfl, le_b rfl⟩ ⟨Nat.zero_le _, Nat.zero_le _⟩ (fun a v e => mt_X11_isFinger e) rfl rfl (le_b rfl) dX11_at_3 hw (fun t2 hw => ?_)
  refine R_join (fun (s3 : Int32) => Rn x 0 0 27 [(0, rf x.w (some l0)), (1, .int l1), (2, .int l2)] [.int s3, rf x.w (some l0)] h) hw (fun r hw => ?_) (fun hw => ?_)
  · revert r hw
    intro s3 hw
    show Rn x 0 0 27 [(0, rf x.w (some l0)), (1, .int l1), (2, .int l2)] [.int s3, rf x.w (some l0)] h
    refine R_putI hc pl_11_100 rfl rfl dX11_at_27 hw (fun h5 hw => ?_)
    refine R_aload_n (q := 0) (i := 0) (v := (some l0)) hc dX11_at_30 rfl rfl ?_
    refine R_getI hc fl_11_100 dX11_at_31 hw (fun t6 hw => ?_)
    refine R_if_le (tgt := 39) hc dX11_at_34 (by decide) hw (fun hw => ?_) (fun hw => ?_)
    · refine R_aload_n (q := 0) (i := 0) (v := (some l0)) hc dX11_at_39 rfl rfl ?_
      refine R_cVVi (As := []) (rest := []) (r := (some l0)) (ci := 11) hc ml_11_208 mf_X11_laysColumns rfl (by decide) ⟨rfl, rfl⟩ ⟨le_b rfl, le_b rfl⟩ ⟨Nat.zero_le _, Nat.zero_le _⟩ (fun a h' e => mt_X11_laysColumns e) rfl rfl (Nat.zero_le _) dX11_at_40 hw (fun h8 hw => ?_)
      refine R_iload_n (q := 2) (i := 2) (v := l2) hc dX11_at_43 rfl rfl ?_
      by_cases hk0 : l2 = (0 : Int32)
      · rw [if_pos hk0] at hw
        refine R_tsI (tgt := 80) hc dX11_at_44 (k := 0) (by rw [hk0]; decide) (by decide) (by decide) rfl (by decide) ?_
        refine R_aload_n (q := 0) (i := 0) (v := (some l0)) hc dX11_at_80 rfl rfl ?_
        refine R_iload_n (q := 1) (i := 1) (v := l1) hc dX11_at_81 rfl rfl ?_
        refine R_cVI (As := [.int l1]) (rest := []) (r := (some l0)) (ci := 11) hc ml_11_156 mf_X11_fingerAt rfl (by decide) ⟨rfl, rfl⟩ ⟨le_b rfl, le_b rfl⟩ ⟨Nat.zero_le _, Nat.zero_le _⟩ (fun a v e => mt_X11_fingerAt e) rfl rfl (Nat.zero_le _) dX11_at_82 hw (fun t10 hw => ?_)
        exact R_ireturn hc hret rfl hQ hw dX11_at_85
      rw [if_neg hk0] at hw
      by_cases hk1 : l2 = (1 : Int32)
      · rw [if_pos hk1] at hw
        refine R_tsI (tgt := 86) hc dX11_at_44 (k := 1) (by rw [hk1]; decide) (by decide) (by decide) rfl (by decide) ?_
        refine R_aload_n (q := 0) (i := 0) (v := (some l0)) hc dX11_at_86 rfl rfl ?_
        refine R_getR hc fl_11_7 dX11_at_87 hw (fun t11 hw => ?_)
        refine R_bipush (v := (73 : Int32)) hc dX11_at_90 kB_73 ?_
        refine R_aload_n (q := 0) (i := 0) (v := (some l0)) hc dX11_at_92 rfl rfl ?_
        refine R_iload_n (q := 1) (i := 1) (v := l1) hc dX11_at_93 rfl rfl ?_
        refine R_cVI (As := [.int l1]) (rest := [.int (73 : Int32), rf x.w t11]) (r := (some l0)) (ci := 11) hc ml_11_156 mf_X11_fingerAt rfl (by decide) ⟨rfl, rfl⟩ ⟨le_b rfl, le_b rfl⟩ ⟨Nat.zero_le _, Nat.zero_le _⟩ (fun a v e => mt_X11_fingerAt e) rfl rfl (by simp [rf_cat, cat_i, cat_l, cat_a]) dX11_at_94 hw (fun t13 hw => ?_)
        refine R_iadd hc dX11_at_97 ?_
        refine R_iaload hc dX11_at_98 hw (fun t14 hw => ?_)
        exact R_ireturn hc hret rfl hQ hw dX11_at_99
      rw [if_neg hk1] at hw
      by_cases hk2 : l2 = (2 : Int32)
      · rw [if_pos hk2] at hw
        refine R_tsI (tgt := 100) hc dX11_at_44 (k := 2) (by rw [hk2]; decide) (by decide) (by decide) rfl (by decide) ?_
        refine R_aload_n (q := 0) (i := 0) (v := (some l0)) hc dX11_at_100 rfl rfl ?_
        refine R_iload_n (q := 1) (i := 1) (v := l1) hc dX11_at_101 rfl rfl ?_
        refine R_cVI (As := [.int l1]) (rest := []) (r := (some l0)) (ci := 11) hc ml_11_160 mf_X11_turnAt rfl (by decide) ⟨rfl, rfl⟩ ⟨le_b rfl, le_b rfl⟩ ⟨Nat.zero_le _, Nat.zero_le _⟩ (fun a v e => mt_X11_turnAt e) rfl rfl (Nat.zero_le _) dX11_at_102 hw (fun t16 hw => ?_)
        exact R_ireturn hc hret rfl hQ hw dX11_at_105
      rw [if_neg hk2] at hw
      by_cases hk3 : l2 = (3 : Int32)
      · rw [if_pos hk3] at hw
        refine R_tsI (tgt := 106) hc dX11_at_44 (k := 3) (by rw [hk3]; decide) (by decide) (by decide) rfl (by decide) ?_
        refine R_aload_n (q := 0) (i := 0) (v := (some l0)) hc dX11_at_106 rfl rfl ?_
        refine R_getR hc fl_11_63 dX11_at_107 hw (fun t17 hw => ?_)
        refine R_iload_n (q := 1) (i := 1) (v := l1) hc dX11_at_110 rfl rfl ?_
        refine R_iaload hc dX11_at_111 hw (fun t18 hw => ?_)
        exact R_ireturn hc hret rfl hQ hw dX11_at_112
      rw [if_neg hk3] at hw
      by_cases hk4 : l2 = (4 : Int32)
      · rw [if_pos hk4] at hw
        refine R_tsI (tgt := 113) hc dX11_at_44 (k := 4) (by rw [hk4]; decide) (by decide) (by decide) rfl (by decide) ?_
        refine R_iload_n (q := 1) (i := 1) (v := l1) hc dX11_at_113 rfl rfl ?_
        refine R_aload_n (q := 0) (i := 0) (v := (some l0)) hc dX11_at_114 rfl rfl ?_
        refine R_cVI (As := []) (rest := [.int l1]) (r := (some l0)) (ci := 11) hc ml_11_103 mf_X11_fingers rfl (by decide) ⟨rfl, rfl⟩ ⟨le_b rfl, le_b rfl⟩ ⟨Nat.zero_le _, Nat.zero_le _⟩ (fun a v e => mt_X11_fingers e) rfl rfl (le_b rfl) dX11_at_115 hw (fun t20 hw => ?_)
        refine R_iconst (v := (1 : Int32)) hc dX11_at_118 kI_1 ?_
        refine R_isub hc dX11_at_119 ?_
        refine R_icmp_ge (tgt := 135) hc dX11_at_120 (by decide) hw (fun hw => ?_) (fun hw => ?_)
        · refine R_iconst (v := (0 : Int32)) hc dX11_at_135 kI_0 ?_
          exact R_ireturn hc hret rfl hQ hw dX11_at_136
        · refine R_aload_n (q := 0) (i := 0) (v := (some l0)) hc dX11_at_123 rfl rfl ?_
          refine R_iload_n (q := 1) (i := 1) (v := l1) hc dX11_at_124 rfl rfl ?_
          refine R_cVI (As := [.int l1]) (rest := []) (r := (some l0)) (ci := 11) hc ml_11_163 mf_X11_lackBehind rfl (by decide) ⟨rfl, rfl⟩ ⟨le_b rfl, le_b rfl⟩ ⟨Nat.zero_le _, Nat.zero_le _⟩ (fun a v e => mt_X11_lackBehind e) rfl rfl (Nat.zero_le _) dX11_at_125 hw (fun t22 hw => ?_)
          refine R_if_ne (tgt := 135) hc dX11_at_128 (by decide) hw (fun hw => ?_) (fun hw => ?_)
          · refine R_iconst (v := (0 : Int32)) hc dX11_at_135 kI_0 ?_
            exact R_ireturn hc hret rfl hQ hw dX11_at_136
          · refine R_iconst (v := (1 : Int32)) hc dX11_at_131 kI_1 ?_
            refine R_goto (tgt := 136) hc dX11_at_132 (by decide) ?_
            exact R_ireturn hc hret rfl hQ hw dX11_at_136
      rw [if_neg hk4] at hw
      refine R_tsO (tgt := 137) hc dX11_at_44 (by have q0 := lv_neT hk0 (a := 0) (by decide); have q1 := lv_neT hk1 (a := 1) (by decide); have q2 := lv_neT hk2 (a := 2) (by decide); have q3 := lv_neT hk3 (a := 3) (by decide); have q4 := lv_neT hk4 (a := 4) (by decide); omega) (by decide) ?_
      refine R_aload_n (q := 0) (i := 0) (v := (some l0)) hc dX11_at_137 rfl rfl ?_
      refine R_iload_n (q := 1) (i := 1) (v := l1) hc dX11_at_138 rfl rfl ?_
      refine R_cVI (As := [.int l1]) (rest := []) (r := (some l0)) (ci := 11) hc ml_11_301 mf_X11_isReadBack rfl (by decide) ⟨rfl, rfl⟩ ⟨le_b rfl, le_b rfl⟩ ⟨Nat.zero_le _, Nat.zero_le _⟩ (fun a v e => mt_X11_isReadBack e) rfl rfl (Nat.zero_le _) dX11_at_139 hw (fun t24 hw => ?_)
      refine R_if_eq (tgt := 149) hc dX11_at_142 (by decide) hw (fun hw => ?_) (fun hw => ?_)
      · refine R_iconst (v := (0 : Int32)) hc dX11_at_149 kI_0 ?_
        exact R_ireturn hc hret rfl hQ hw dX11_at_150
      · refine R_iconst (v := (1 : Int32)) hc dX11_at_145 kI_1 ?_
        refine R_goto (tgt := 150) hc dX11_at_146 (by decide) ?_
        exact R_ireturn hc hret rfl hQ hw dX11_at_150
    · refine R_iconst (v := (0 : Int32)) hc dX11_at_37 kI_0 ?_
      exact R_ireturn hc hret rfl hQ hw dX11_at_38
  · refine R_if_ne (tgt := 13) hc dX11_at_6 (by decide) hw (fun hw => ?_) (fun hw => ?_)
    · refine R_iload_n (q := 2) (i := 2) (v := l2) hc dX11_at_13 rfl rfl ?_
      refine R_iconst (v := (0 : Int32)) hc dX11_at_14 kI_0 ?_
      refine R_iconst (v := (5 : Int32)) hc dX11_at_15 kI_5 ?_
      refine R_cSI (As := [.int l2, .int (0 : Int32), .int (5 : Int32)]) (rest := [rf x.w (some l0)]) hc ml_11_107 mf_X11_isIn ⟨rfl, rfl⟩ ⟨le_b rfl, le_b rfl⟩ ⟨Nat.zero_le _, Nat.zero_le _⟩ (fun v e => mt_X11_isIn e) rfl rfl (le_b rfl) dX11_at_16 hw (fun t4 hw => ?_)
      refine R_if_ne (tgt := 26) hc dX11_at_19 (by decide) hw (fun hw => ?_) (fun hw => ?_)
      · refine R_iconst (v := (0 : Int32)) hc dX11_at_26 kI_0 ?_
        refine R_sub hc [0, 1, 2] rfl ?_
        exact (wpO_some hw :)
      · refine R_iconst (v := (2 : Int32)) hc dX11_at_22 kI_2 ?_
        refine R_goto (tgt := 27) hc dX11_at_23 (by decide) ?_
        refine R_sub hc [0, 1, 2] rfl ?_
        exact (wpO_some hw :)
    · refine R_iconst (v := (1 : Int32)) hc dX11_at_9 kI_1 ?_
      refine R_goto (tgt := 27) hc dX11_at_10 (by decide) ?_
      refine R_sub hc [0, 1, 2] rfl ?_
      exact (wpO_some hw :)

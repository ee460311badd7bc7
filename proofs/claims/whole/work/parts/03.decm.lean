theorem dX12_init_0 : decode cX12_init 0 = .ok (.aload_n 0, 1) := by decide +kernel
theorem dX12_init_1 : decode cX12_init 1 = .ok (.invokespecial 1, 3) := by decide +kernel
theorem dX12_init_4 : decode cX12_init 4 = .ok (.aload_n 0, 1) := by decide +kernel
theorem dX12_init_5 : decode cX12_init 5 = .ok (.bipush 8, 2) := by decide +kernel
theorem dX12_init_7 : decode cX12_init 7 = .ok (.newarray .int, 2) := by decide +kernel
theorem dX12_init_9 : decode cX12_init 9 = .ok (.putfield 7, 3) := by decide +kernel
theorem dX12_init_12 : decode cX12_init 12 = .ok (.aload_n 0, 1) := by decide +kernel
theorem dX12_init_13 : decode cX12_init 13 = .ok (.bipush 8, 2) := by decide +kernel
theorem dX12_init_15 : decode cX12_init 15 = .ok (.newarray .int, 2) := by decide +kernel
theorem dX12_init_17 : decode cX12_init 17 = .ok (.putfield 13, 3) := by decide +kernel
theorem dX12_init_20 : decode cX12_init 20 = .ok (.aload_n 0, 1) := by decide +kernel
theorem dX12_init_21 : decode cX12_init 21 = .ok (.bipush 8, 2) := by decide +kernel
theorem dX12_init_23 : decode cX12_init 23 = .ok (.newarray .int, 2) := by decide +kernel
theorem dX12_init_25 : decode cX12_init 25 = .ok (.putfield 16, 3) := by decide +kernel
theorem dX12_init_28 : decode cX12_init 28 = .ok (.aload_n 0, 1) := by decide +kernel
theorem dX12_init_29 : decode cX12_init 29 = .ok (.bipush 8, 2) := by decide +kernel
theorem dX12_init_31 : decode cX12_init 31 = .ok (.newarray .int, 2) := by decide +kernel
theorem dX12_init_33 : decode cX12_init 33 = .ok (.putfield 19, 3) := by decide +kernel
theorem dX12_init_36 : decode cX12_init 36 = .ok (.aload_n 0, 1) := by decide +kernel
theorem dX12_init_37 : decode cX12_init 37 = .ok (.bipush 8, 2) := by decide +kernel
theorem dX12_init_39 : decode cX12_init 39 = .ok (.newarray .int, 2) := by decide +kernel
theorem dX12_init_41 : decode cX12_init 41 = .ok (.putfield 22, 3) := by decide +kernel
theorem dX12_init_44 : decode cX12_init 44 = .ok (.aload_n 0, 1) := by decide +kernel
theorem dX12_init_45 : decode cX12_init 45 = .ok (.bipush 10, 2) := by decide +kernel
theorem dX12_init_47 : decode cX12_init 47 = .ok (.newarray .int, 2) := by decide +kernel
theorem dX12_init_49 : decode cX12_init 49 = .ok (.putfield 25, 3) := by decide +kernel
theorem dX12_init_52 : decode cX12_init 52 = .ok (.aload_n 0, 1) := by decide +kernel
theorem dX12_init_53 : decode cX12_init 53 = .ok (.bipush 10, 2) := by decide +kernel
theorem dX12_init_55 : decode cX12_init 55 = .ok (.newarray .int, 2) := by decide +kernel
theorem dX12_init_57 : decode cX12_init 57 = .ok (.putfield 28, 3) := by decide +kernel
theorem dX12_init_60 : decode cX12_init 60 = .ok (.aload_n 0, 1) := by decide +kernel
theorem dX12_init_61 : decode cX12_init 61 = .ok (.bipush 10, 2) := by decide +kernel
theorem dX12_init_63 : decode cX12_init 63 = .ok (.newarray .int, 2) := by decide +kernel
theorem dX12_init_65 : decode cX12_init 65 = .ok (.putfield 31, 3) := by decide +kernel
theorem dX12_init_68 : decode cX12_init 68 = .ok (.aload_n 0, 1) := by decide +kernel
theorem dX12_init_69 : decode cX12_init 69 = .ok (.bipush 10, 2) := by decide +kernel
theorem dX12_init_71 : decode cX12_init 71 = .ok (.newarray .int, 2) := by decide +kernel
theorem dX12_init_73 : decode cX12_init 73 = .ok (.putfield 34, 3) := by decide +kernel
theorem dX12_init_76 : decode cX12_init 76 = .ok (.aload_n 0, 1) := by decide +kernel
theorem dX12_init_77 : decode cX12_init 77 = .ok (.iconst 4, 1) := by decide +kernel
theorem dX12_init_78 : decode cX12_init 78 = .ok (.newarray .int, 2) := by decide +kernel
theorem dX12_init_80 : decode cX12_init 80 = .ok (.putfield 37, 3) := by decide +kernel
theorem dX12_init_83 : decode cX12_init 83 = .ok (.aload_n 0, 1) := by decide +kernel
theorem dX12_init_84 : decode cX12_init 84 = .ok (.bipush 120, 2) := by decide +kernel
theorem dX12_init_86 : decode cX12_init 86 = .ok (.newarray .int, 2) := by decide +kernel
theorem dX12_init_88 : decode cX12_init 88 = .ok (.putfield 40, 3) := by decide +kernel
theorem dX12_init_91 : decode cX12_init 91 = .ok (.aload_n 0, 1) := by decide +kernel
theorem dX12_init_92 : decode cX12_init 92 = .ok (.sipush 160, 3) := by decide +kernel
theorem dX12_init_95 : decode cX12_init 95 = .ok (.newarray .int, 2) := by decide +kernel
theorem dX12_init_97 : decode cX12_init 97 = .ok (.putfield 43, 3) := by decide +kernel
theorem dX12_init_100 : decode cX12_init 100 = .ok (.aload_n 0, 1) := by decide +kernel
theorem dX12_init_101 : decode cX12_init 101 = .ok (.iconst 3, 1) := by decide +kernel
theorem dX12_init_102 : decode cX12_init 102 = .ok (.newarray .int, 2) := by decide +kernel
theorem dX12_init_104 : decode cX12_init 104 = .ok (.putfield 46, 3) := by decide +kernel
theorem dX12_init_107 : decode cX12_init 107 = .ok (.aload_n 0, 1) := by decide +kernel
theorem dX12_init_108 : decode cX12_init 108 = .ok (.sipush 192, 3) := by decide +kernel
theorem dX12_init_111 : decode cX12_init 111 = .ok (.newarray .int, 2) := by decide +kernel
theorem dX12_init_113 : decode cX12_init 113 = .ok (.putfield 49, 3) := by decide +kernel
theorem dX12_init_116 : decode cX12_init 116 = .ok (.aload_n 0, 1) := by decide +kernel
theorem dX12_init_117 : decode cX12_init 117 = .ok (.sipush 192, 3) := by decide +kernel
theorem dX12_init_120 : decode cX12_init 120 = .ok (.newarray .int, 2) := by decide +kernel
theorem dX12_init_122 : decode cX12_init 122 = .ok (.putfield 52, 3) := by decide +kernel
theorem dX12_init_125 : decode cX12_init 125 = .ok (.aload_n 0, 1) := by decide +kernel
theorem dX12_init_126 : decode cX12_init 126 = .ok (.sipush 192, 3) := by decide +kernel
theorem dX12_init_129 : decode cX12_init 129 = .ok (.newarray .int, 2) := by decide +kernel
theorem dX12_init_131 : decode cX12_init 131 = .ok (.putfield 55, 3) := by decide +kernel
theorem dX12_init_134 : decode cX12_init 134 = .ok (.aload_n 0, 1) := by decide +kernel
theorem dX12_init_135 : decode cX12_init 135 = .ok (.sipush 384, 3) := by decide +kernel
theorem dX12_init_138 : decode cX12_init 138 = .ok (.newarray .int, 2) := by decide +kernel
theorem dX12_init_140 : decode cX12_init 140 = .ok (.putfield 58, 3) := by decide +kernel
theorem dX12_init_143 : decode cX12_init 143 = .ok (.aload_n 0, 1) := by decide +kernel
theorem dX12_init_144 : decode cX12_init 144 = .ok (.sipush 128, 3) := by decide +kernel
theorem dX12_init_147 : decode cX12_init 147 = .ok (.newarray .int, 2) := by decide +kernel
theorem dX12_init_149 : decode cX12_init 149 = .ok (.putfield 61, 3) := by decide +kernel
theorem dX12_init_152 : decode cX12_init 152 = .ok (.aload_n 0, 1) := by decide +kernel
theorem dX12_init_153 : decode cX12_init 153 = .ok (.bipush 8, 2) := by decide +kernel
theorem dX12_init_155 : decode cX12_init 155 = .ok (.newarray .boolean, 2) := by decide +kernel
theorem dX12_init_157 : decode cX12_init 157 = .ok (.putfield 64, 3) := by decide +kernel
theorem dX12_init_160 : decode cX12_init 160 = .ok (.aload_n 0, 1) := by decide +kernel
theorem dX12_init_161 : decode cX12_init 161 = .ok (.bipush 7, 2) := by decide +kernel
theorem dX12_init_163 : decode cX12_init 163 = .ok (.newarray .int, 2) := by decide +kernel
theorem dX12_init_165 : decode cX12_init 165 = .ok (.putfield 68, 3) := by decide +kernel
theorem dX12_init_168 : decode cX12_init 168 = .ok (.aload_n 0, 1) := by decide +kernel
theorem dX12_init_169 : decode cX12_init 169 = .ok (.sipush 128, 3) := by decide +kernel
theorem dX12_init_172 : decode cX12_init 172 = .ok (.newarray .int, 2) := by decide +kernel
theorem dX12_init_174 : decode cX12_init 174 = .ok (.putfield 71, 3) := by decide +kernel
theorem dX12_init_177 : decode cX12_init 177 = .ok (.aload_n 0, 1) := by decide +kernel
theorem dX12_init_178 : decode cX12_init 178 = .ok (.bipush 31, 2) := by decide +kernel
theorem dX12_init_180 : decode cX12_init 180 = .ok (.newarray .long, 2) := by decide +kernel
theorem dX12_init_182 : decode cX12_init 182 = .ok (.putfield 74, 3) := by decide +kernel
theorem dX12_init_185 : decode cX12_init 185 = .ok (.aload_n 0, 1) := by decide +kernel
theorem dX12_init_186 : decode cX12_init 186 = .ok (.sipush 17289, 3) := by decide +kernel
theorem dX12_init_189 : decode cX12_init 189 = .ok (.newarray .int, 2) := by decide +kernel
theorem dX12_init_191 : decode cX12_init 191 = .ok (.putfield 78, 3) := by decide +kernel
theorem dX12_init_194 : decode cX12_init 194 = .ok (.aload_n 0, 1) := by decide +kernel
theorem dX12_init_195 : decode cX12_init 195 = .ok (.bipush 8, 2) := by decide +kernel
theorem dX12_init_197 : decode cX12_init 197 = .ok (.newarray .int, 2) := by decide +kernel
theorem dX12_init_199 : decode cX12_init 199 = .ok (.putfield 81, 3) := by decide +kernel
theorem dX12_init_202 : decode cX12_init 202 = .ok (.aload_n 0, 1) := by decide +kernel
theorem dX12_init_203 : decode cX12_init 203 = .ok (.sipush 1921, 3) := by decide +kernel
theorem dX12_init_206 : decode cX12_init 206 = .ok (.newarray .int, 2) := by decide +kernel
theorem dX12_init_208 : decode cX12_init 208 = .ok (.putfield 84, 3) := by decide +kernel
theorem dX12_init_211 : decode cX12_init 211 = .ok (.aload_n 0, 1) := by decide +kernel
theorem dX12_init_212 : decode cX12_init 212 = .ok (.bipush 8, 2) := by decide +kernel
theorem dX12_init_214 : decode cX12_init 214 = .ok (.newarray .int, 2) := by decide +kernel
theorem dX12_init_216 : decode cX12_init 216 = .ok (.putfield 87, 3) := by decide +kernel
theorem dX12_init_219 : decode cX12_init 219 = .ok (.aload_n 0, 1) := by decide +kernel
theorem dX12_init_220 : decode cX12_init 220 = .ok (.bipush 10, 2) := by decide +kernel
theorem dX12_init_222 : decode cX12_init 222 = .ok (.newarray .int, 2) := by decide +kernel
theorem dX12_init_224 : decode cX12_init 224 = .ok (.putfield 90, 3) := by decide +kernel
theorem dX12_init_227 : decode cX12_init 227 = .ok (.aload_n 0, 1) := by decide +kernel
theorem dX12_init_228 : decode cX12_init 228 = .ok (.iconst 3, 1) := by decide +kernel
theorem dX12_init_229 : decode cX12_init 229 = .ok (.newarray .int, 2) := by decide +kernel
theorem dX12_init_231 : decode cX12_init 231 = .ok (.putfield 93, 3) := by decide +kernel
theorem dX12_init_234 : decode cX12_init 234 = .ok (.aload_n 0, 1) := by decide +kernel
theorem dX12_init_235 : decode cX12_init 235 = .ok (.bipush 50, 2) := by decide +kernel
theorem dX12_init_237 : decode cX12_init 237 = .ok (.newarray .int, 2) := by decide +kernel
theorem dX12_init_239 : decode cX12_init 239 = .ok (.putfield 96, 3) := by decide +kernel
theorem dX12_init_242 : decode cX12_init 242 = .ok (.aload_n 0, 1) := by decide +kernel
theorem dX12_init_243 : decode cX12_init 243 = .ok (.bipush 24, 2) := by decide +kernel
theorem dX12_init_245 : decode cX12_init 245 = .ok (.newarray .int, 2) := by decide +kernel
theorem dX12_init_247 : decode cX12_init 247 = .ok (.putfield 99, 3) := by decide +kernel
theorem dX12_init_250 : decode cX12_init 250 = .ok (.aload_n 0, 1) := by decide +kernel
theorem dX12_init_251 : decode cX12_init 251 = .ok (.bipush 6, 2) := by decide +kernel
theorem dX12_init_253 : decode cX12_init 253 = .ok (.newarray .int, 2) := by decide +kernel
theorem dX12_init_255 : decode cX12_init 255 = .ok (.dup, 1) := by decide +kernel
theorem dX12_init_256 : decode cX12_init 256 = .ok (.iconst 0, 1) := by decide +kernel
theorem dX12_init_257 : decode cX12_init 257 = .ok (.iconst (-1), 1) := by decide +kernel
theorem dX12_init_258 : decode cX12_init 258 = .ok (.iastore, 1) := by decide +kernel
theorem dX12_init_259 : decode cX12_init 259 = .ok (.dup, 1) := by decide +kernel
theorem dX12_init_260 : decode cX12_init 260 = .ok (.iconst 1, 1) := by decide +kernel
theorem dX12_init_261 : decode cX12_init 261 = .ok (.iconst (-1), 1) := by decide +kernel
theorem dX12_init_262 : decode cX12_init 262 = .ok (.iastore, 1) := by decide +kernel
theorem dX12_init_263 : decode cX12_init 263 = .ok (.dup, 1) := by decide +kernel
theorem dX12_init_264 : decode cX12_init 264 = .ok (.iconst 2, 1) := by decide +kernel
theorem dX12_init_265 : decode cX12_init 265 = .ok (.iconst (-1), 1) := by decide +kernel
theorem dX12_init_266 : decode cX12_init 266 = .ok (.iastore, 1) := by decide +kernel
theorem dX12_init_267 : decode cX12_init 267 = .ok (.dup, 1) := by decide +kernel
theorem dX12_init_268 : decode cX12_init 268 = .ok (.iconst 3, 1) := by decide +kernel
theorem dX12_init_269 : decode cX12_init 269 = .ok (.iconst (-1), 1) := by decide +kernel
theorem dX12_init_270 : decode cX12_init 270 = .ok (.iastore, 1) := by decide +kernel
theorem dX12_init_271 : decode cX12_init 271 = .ok (.dup, 1) := by decide +kernel
theorem dX12_init_272 : decode cX12_init 272 = .ok (.iconst 4, 1) := by decide +kernel
theorem dX12_init_273 : decode cX12_init 273 = .ok (.iconst (-1), 1) := by decide +kernel
theorem dX12_init_274 : decode cX12_init 274 = .ok (.iastore, 1) := by decide +kernel
theorem dX12_init_275 : decode cX12_init 275 = .ok (.dup, 1) := by decide +kernel
theorem dX12_init_276 : decode cX12_init 276 = .ok (.iconst 5, 1) := by decide +kernel
theorem dX12_init_277 : decode cX12_init 277 = .ok (.iconst (-1), 1) := by decide +kernel
theorem dX12_init_278 : decode cX12_init 278 = .ok (.iastore, 1) := by decide +kernel
theorem dX12_init_279 : decode cX12_init 279 = .ok (.putfield 102, 3) := by decide +kernel
theorem dX12_init_282 : decode cX12_init 282 = .ok (.aload_n 0, 1) := by decide +kernel
theorem dX12_init_283 : decode cX12_init 283 = .ok (.bipush 6, 2) := by decide +kernel
theorem dX12_init_285 : decode cX12_init 285 = .ok (.newarray .int, 2) := by decide +kernel
theorem dX12_init_287 : decode cX12_init 287 = .ok (.putfield 105, 3) := by decide +kernel
theorem dX12_init_290 : decode cX12_init 290 = .ok (.aload_n 0, 1) := by decide +kernel
theorem dX12_init_291 : decode cX12_init 291 = .ok (.sipush 360, 3) := by decide +kernel
theorem dX12_init_294 : decode cX12_init 294 = .ok (.newarray .long, 2) := by decide +kernel
theorem dX12_init_296 : decode cX12_init 296 = .ok (.putfield 108, 3) := by decide +kernel
theorem dX12_init_299 : decode cX12_init 299 = .ok (.aload_n 0, 1) := by decide +kernel
theorem dX12_init_300 : decode cX12_init 300 = .ok (.bipush 60, 2) := by decide +kernel
theorem dX12_init_302 : decode cX12_init 302 = .ok (.newarray .long, 2) := by decide +kernel
theorem dX12_init_304 : decode cX12_init 304 = .ok (.putfield 111, 3) := by decide +kernel
theorem dX12_init_307 : decode cX12_init 307 = .ok (.return_, 1) := by decide +kernel
theorem dX12_in_0 : decode cX12_in 0 = .ok (.iload_n 0, 1) := by decide +kernel
theorem dX12_in_1 : decode cX12_in 1 = .ok (.iload_n 1, 1) := by decide +kernel
theorem dX12_in_2 : decode cX12_in 2 = .ok (.if_icmp .lt 12, 3) := by decide +kernel
theorem dX12_in_5 : decode cX12_in 5 = .ok (.iload_n 0, 1) := by decide +kernel
theorem dX12_in_6 : decode cX12_in 6 = .ok (.iload_n 2, 1) := by decide +kernel
theorem dX12_in_7 : decode cX12_in 7 = .ok (.if_icmp .gt 7, 3) := by decide +kernel
theorem dX12_in_10 : decode cX12_in 10 = .ok (.iconst 1, 1) := by decide +kernel
theorem dX12_in_11 : decode cX12_in 11 = .ok (.goto 4, 3) := by decide +kernel
theorem dX12_in_14 : decode cX12_in 14 = .ok (.iconst 0, 1) := by decide +kernel
theorem dX12_in_15 : decode cX12_in 15 = .ok (.ireturn, 1) := by decide +kernel
theorem dX12_within_0 : decode cX12_within 0 = .ok (.iload_n 0, 1) := by decide +kernel
theorem dX12_within_1 : decode cX12_within 1 = .ok (.iload_n 1, 1) := by decide +kernel
theorem dX12_within_2 : decode cX12_within 2 = .ok (.if_icmp .ge 7, 3) := by decide +kernel
theorem dX12_within_5 : decode cX12_within 5 = .ok (.iload_n 1, 1) := by decide +kernel
theorem dX12_within_6 : decode cX12_within 6 = .ok (.goto 13, 3) := by decide +kernel
theorem dX12_within_9 : decode cX12_within 9 = .ok (.iload_n 0, 1) := by decide +kernel
theorem dX12_within_10 : decode cX12_within 10 = .ok (.iload_n 2, 1) := by decide +kernel
theorem dX12_within_11 : decode cX12_within 11 = .ok (.if_icmp .le 7, 3) := by decide +kernel
theorem dX12_within_14 : decode cX12_within 14 = .ok (.iload_n 2, 1) := by decide +kernel
theorem dX12_within_15 : decode cX12_within 15 = .ok (.goto 4, 3) := by decide +kernel
theorem dX12_within_18 : decode cX12_within 18 = .ok (.iload_n 0, 1) := by decide +kernel
theorem dX12_within_19 : decode cX12_within 19 = .ok (.ireturn, 1) := by decide +kernel
set_option maxRecDepth 20000 in
theorem ggX12_isSort_X12_in : GoodIn wsX12_isSort wsX12_in := goodIn_r _ [5] rfl (by decide +kernel)
set_option maxRecDepth 20000 in
theorem gX12_isSort_X12_in : GoodIn wsX12_isSort (va_wsS RX12 118 yX12_in wsX12_in) := goodIn_app (goodIn_r _ [2, 3, 4] rfl (by decide +kernel)) ggX12_isSort_X12_in
theorem dX12_isSort_0 : decode cX12_isSort 0 = .ok (.iload_n 1, 1) := by decide +kernel
theorem dX12_isSort_1 : decode cX12_isSort 1 = .ok (.iconst 0, 1) := by decide +kernel
theorem dX12_isSort_2 : decode cX12_isSort 2 = .ok (.aload_n 0, 1) := by decide +kernel
theorem dX12_isSort_3 : decode cX12_isSort 3 = .ok (.getfield 114, 3) := by decide +kernel
theorem dX12_isSort_6 : decode cX12_isSort 6 = .ok (.iconst 1, 1) := by decide +kernel
theorem dX12_isSort_7 : decode cX12_isSort 7 = .ok (.isub, 1) := by decide +kernel
theorem dX12_isSort_8 : decode cX12_isSort 8 = .ok (.invokestatic 118, 3) := by decide +kernel
theorem dX12_isSort_11 : decode cX12_isSort 11 = .ok (.ireturn, 1) := by decide +kernel
set_option maxRecDepth 20000 in
theorem ggX12_isThing_X12_in : GoodIn wsX12_isThing wsX12_in := goodIn_r _ [5] rfl (by decide +kernel)
set_option maxRecDepth 20000 in
theorem gX12_isThing_X12_in : GoodIn wsX12_isThing (va_wsS RX12 118 yX12_in wsX12_in) := goodIn_app (goodIn_r _ [2, 3, 4] rfl (by decide +kernel)) ggX12_isThing_X12_in
theorem dX12_isThing_0 : decode cX12_isThing 0 = .ok (.iload_n 1, 1) := by decide +kernel
theorem dX12_isThing_1 : decode cX12_isThing 1 = .ok (.iconst 0, 1) := by decide +kernel
theorem dX12_isThing_2 : decode cX12_isThing 2 = .ok (.aload_n 0, 1) := by decide +kernel
theorem dX12_isThing_3 : decode cX12_isThing 3 = .ok (.getfield 122, 3) := by decide +kernel
theorem dX12_isThing_6 : decode cX12_isThing 6 = .ok (.iconst 1, 1) := by decide +kernel
theorem dX12_isThing_7 : decode cX12_isThing 7 = .ok (.isub, 1) := by decide +kernel
theorem dX12_isThing_8 : decode cX12_isThing 8 = .ok (.invokestatic 118, 3) := by decide +kernel
theorem dX12_isThing_11 : decode cX12_isThing 11 = .ok (.ireturn, 1) := by decide +kernel
set_option maxRecDepth 20000 in
theorem ggX12_isLand_X12_in : GoodIn wsX12_isLand wsX12_in := goodIn_r _ [4] rfl (by decide +kernel)
set_option maxRecDepth 20000 in
theorem gX12_isLand_X12_in : GoodIn wsX12_isLand (va_wsS RX12 118 yX12_in wsX12_in) := goodIn_app (goodIn_r _ [1, 2, 3] rfl (by decide +kernel)) ggX12_isLand_X12_in
theorem dX12_isLand_0 : decode cX12_isLand 0 = .ok (.iload_n 0, 1) := by decide +kernel
theorem dX12_isLand_1 : decode cX12_isLand 1 = .ok (.iconst 0, 1) := by decide +kernel
theorem dX12_isLand_2 : decode cX12_isLand 2 = .ok (.iconst 3, 1) := by decide +kernel
theorem dX12_isLand_3 : decode cX12_isLand 3 = .ok (.invokestatic 118, 3) := by decide +kernel
theorem dX12_isLand_6 : decode cX12_isLand 6 = .ok (.ireturn, 1) := by decide +kernel
set_option maxRecDepth 20000 in
theorem ggX12_isSoSort_X12_isLand : GoodIn wsX12_isSoSort wsX12_isLand := goodIn_r _ [4, 5, 6, 3, 7] rfl (by decide +kernel)
set_option maxRecDepth 20000 in
theorem gX12_isSoSort_X12_isLand : GoodIn wsX12_isSoSort (va_wsS RX12 125 yX12_isLand wsX12_isLand) := goodIn_app (goodIn_r _ [1, 2, 3] rfl (by decide +kernel)) ggX12_isSoSort_X12_isLand
set_option maxRecDepth 20000 in
theorem ggX12_isSoSort_X12_in : GoodIn wsX12_isSoSort wsX12_in := goodIn_r _ [7] rfl (by decide +kernel)
set_option maxRecDepth 20000 in
theorem gX12_isSoSort_X12_in : GoodIn wsX12_isSoSort (va_wsS RX12 118 yX12_in wsX12_in) := goodIn_app (goodIn_r _ [5, 6, 3] rfl (by decide +kernel)) ggX12_isSoSort_X12_in
theorem dX12_isSoSort_0 : decode cX12_isSoSort 0 = .ok (.iload_n 1, 1) := by decide +kernel
theorem dX12_isSoSort_1 : decode cX12_isSoSort 1 = .ok (.invokestatic 125, 3) := by decide +kernel
theorem dX12_isSoSort_4 : decode cX12_isSoSort 4 = .ok (.ifCond .eq 38, 3) := by decide +kernel
theorem dX12_isSoSort_7 : decode cX12_isSoSort 7 = .ok (.iload_n 2, 1) := by decide +kernel
theorem dX12_isSoSort_8 : decode cX12_isSoSort 8 = .ok (.iconst 1, 1) := by decide +kernel
theorem dX12_isSoSort_9 : decode cX12_isSoSort 9 = .ok (.bipush 40, 2) := by decide +kernel
theorem dX12_isSoSort_11 : decode cX12_isSoSort 11 = .ok (.invokestatic 118, 3) := by decide +kernel
theorem dX12_isSoSort_14 : decode cX12_isSoSort 14 = .ok (.ifCond .eq 28, 3) := by decide +kernel
theorem dX12_isSoSort_17 : decode cX12_isSoSort 17 = .ok (.iload_n 3, 1) := by decide +kernel
theorem dX12_isSoSort_18 : decode cX12_isSoSort 18 = .ok (.iconst 0, 1) := by decide +kernel
theorem dX12_isSoSort_19 : decode cX12_isSoSort 19 = .ok (.bipush 99, 2) := by decide +kernel
theorem dX12_isSoSort_21 : decode cX12_isSoSort 21 = .ok (.invokestatic 118, 3) := by decide +kernel
theorem dX12_isSoSort_24 : decode cX12_isSoSort 24 = .ok (.ifCond .eq 18, 3) := by decide +kernel
theorem dX12_isSoSort_27 : decode cX12_isSoSort 27 = .ok (.iload 4, 2) := by decide +kernel
theorem dX12_isSoSort_29 : decode cX12_isSoSort 29 = .ok (.iconst 0, 1) := by decide +kernel
theorem dX12_isSoSort_30 : decode cX12_isSoSort 30 = .ok (.bipush 99, 2) := by decide +kernel
theorem dX12_isSoSort_32 : decode cX12_isSoSort 32 = .ok (.invokestatic 118, 3) := by decide +kernel
theorem dX12_isSoSort_35 : decode cX12_isSoSort 35 = .ok (.ifCond .eq 7, 3) := by decide +kernel
theorem dX12_isSoSort_38 : decode cX12_isSoSort 38 = .ok (.iconst 1, 1) := by decide +kernel
theorem dX12_isSoSort_39 : decode cX12_isSoSort 39 = .ok (.goto 4, 3) := by decide +kernel
theorem dX12_isSoSort_42 : decode cX12_isSoSort 42 = .ok (.iconst 0, 1) := by decide +kernel
theorem dX12_isSoSort_43 : decode cX12_isSoSort 43 = .ok (.ireturn, 1) := by decide +kernel
theorem dX12_comes_0 : decode cX12_comes 0 = .ok (.aload_n 0, 1) := by decide +kernel
theorem dX12_comes_1 : decode cX12_comes 1 = .ok (.getfield 7, 3) := by decide +kernel
theorem dX12_comes_4 : decode cX12_comes 4 = .ok (.aload_n 0, 1) := by decide +kernel
theorem dX12_comes_5 : decode cX12_comes 5 = .ok (.getfield 114, 3) := by decide +kernel
theorem dX12_comes_8 : decode cX12_comes 8 = .ok (.iload_n 1, 1) := by decide +kernel
theorem dX12_comes_9 : decode cX12_comes 9 = .ok (.iastore, 1) := by decide +kernel
theorem dX12_comes_10 : decode cX12_comes 10 = .ok (.aload_n 0, 1) := by decide +kernel
theorem dX12_comes_11 : decode cX12_comes 11 = .ok (.getfield 13, 3) := by decide +kernel
theorem dX12_comes_14 : decode cX12_comes 14 = .ok (.aload_n 0, 1) := by decide +kernel
theorem dX12_comes_15 : decode cX12_comes 15 = .ok (.getfield 114, 3) := by decide +kernel
theorem dX12_comes_18 : decode cX12_comes 18 = .ok (.iload_n 2, 1) := by decide +kernel
theorem dX12_comes_19 : decode cX12_comes 19 = .ok (.iastore, 1) := by decide +kernel
theorem dX12_comes_20 : decode cX12_comes 20 = .ok (.aload_n 0, 1) := by decide +kernel
theorem dX12_comes_21 : decode cX12_comes 21 = .ok (.getfield 16, 3) := by decide +kernel
theorem dX12_comes_24 : decode cX12_comes 24 = .ok (.aload_n 0, 1) := by decide +kernel
theorem dX12_comes_25 : decode cX12_comes 25 = .ok (.getfield 114, 3) := by decide +kernel
theorem dX12_comes_28 : decode cX12_comes 28 = .ok (.iload_n 3, 1) := by decide +kernel
theorem dX12_comes_29 : decode cX12_comes 29 = .ok (.iastore, 1) := by decide +kernel
theorem dX12_comes_30 : decode cX12_comes 30 = .ok (.aload_n 0, 1) := by decide +kernel
theorem dX12_comes_31 : decode cX12_comes 31 = .ok (.getfield 19, 3) := by decide +kernel
theorem dX12_comes_34 : decode cX12_comes 34 = .ok (.aload_n 0, 1) := by decide +kernel
theorem dX12_comes_35 : decode cX12_comes 35 = .ok (.getfield 114, 3) := by decide +kernel
theorem dX12_comes_38 : decode cX12_comes 38 = .ok (.iload 4, 2) := by decide +kernel
theorem dX12_comes_40 : decode cX12_comes 40 = .ok (.iastore, 1) := by decide +kernel
theorem dX12_comes_41 : decode cX12_comes 41 = .ok (.aload_n 0, 1) := by decide +kernel
theorem dX12_comes_42 : decode cX12_comes 42 = .ok (.getfield 22, 3) := by decide +kernel
theorem dX12_comes_45 : decode cX12_comes 45 = .ok (.aload_n 0, 1) := by decide +kernel
theorem dX12_comes_46 : decode cX12_comes 46 = .ok (.getfield 114, 3) := by decide +kernel
theorem dX12_comes_49 : decode cX12_comes 49 = .ok (.iconst 0, 1) := by decide +kernel
theorem dX12_comes_50 : decode cX12_comes 50 = .ok (.iastore, 1) := by decide +kernel
theorem dX12_comes_51 : decode cX12_comes 51 = .ok (.aload_n 0, 1) := by decide +kernel
theorem dX12_comes_52 : decode cX12_comes 52 = .ok (.dup, 1) := by decide +kernel
theorem dX12_comes_53 : decode cX12_comes 53 = .ok (.getfield 114, 3) := by decide +kernel
theorem dX12_comes_56 : decode cX12_comes 56 = .ok (.iconst 1, 1) := by decide +kernel
theorem dX12_comes_57 : decode cX12_comes 57 = .ok (.iadd, 1) := by decide +kernel
theorem dX12_comes_58 : decode cX12_comes 58 = .ok (.putfield 114, 3) := by decide +kernel
theorem dX12_comes_61 : decode cX12_comes 61 = .ok (.return_, 1) := by decide +kernel
set_option maxRecDepth 20000 in
theorem ggX12_sort_X12_isSoSort : GoodIn wsX12_sort wsX12_isSoSort := goodIn_r _ [6, 7, 8, 5, 9, 10, 11, 12] rfl (by decide +kernel)
set_option maxRecDepth 20000 in
theorem gX12_sort_X12_isSoSort : GoodIn wsX12_sort (wsV RX12 129 RX12 yX12_isSoSort wsX12_isSoSort) := goodIn_app (goodIn_r _ [2, 3, 4, 5] rfl (by decide +kernel)) ggX12_sort_X12_isSoSort
set_option maxRecDepth 20000 in
theorem ggX12_sort_X12_comes : GoodIn wsX12_sort wsX12_comes := goodIn_r _ [16, 17, 1, 18, 19, 20, 21, 22, 23, 24, 25, 26, 27, 28, 29, 30, 31, 32, 33, 34, 35, 36, 37, 38, 39, 40, 41, 42, 43, 44, 45, 46, 47, 48, 49, 50, 51, 52, 53, 54, 55, 56, 57, 58, 59, 60, 61, 62, 63, 64, 65, 66, 67, 68, 69, 70, 71, 72, 73, 74, 75, 76, 77, 78] rfl (by decide +kernel)
set_option maxRecDepth 20000 in
theorem gX12_sort_X12_comes : GoodIn wsX12_sort (wsV RX12 133 RX12 yX12_comes wsX12_comes) := goodIn_app (goodIn_r _ [13, 14, 15, 5] rfl (by decide +kernel)) ggX12_sort_X12_comes
theorem dX12_sort_0 : decode cX12_sort 0 = .ok (.iload_n 1, 1) := by decide +kernel
theorem dX12_sort_1 : decode cX12_sort 1 = .ok (.ifCond .lt 30, 3) := by decide +kernel
theorem dX12_sort_4 : decode cX12_sort 4 = .ok (.iload_n 2, 1) := by decide +kernel
theorem dX12_sort_5 : decode cX12_sort 5 = .ok (.ifCond .lt 26, 3) := by decide +kernel
theorem dX12_sort_8 : decode cX12_sort 8 = .ok (.aload_n 0, 1) := by decide +kernel
theorem dX12_sort_9 : decode cX12_sort 9 = .ok (.iload_n 1, 1) := by decide +kernel
theorem dX12_sort_10 : decode cX12_sort 10 = .ok (.bipush 100, 2) := by decide +kernel
theorem dX12_sort_12 : decode cX12_sort 12 = .ok (.idiv, 1) := by decide +kernel
theorem dX12_sort_13 : decode cX12_sort 13 = .ok (.iload_n 1, 1) := by decide +kernel
theorem dX12_sort_14 : decode cX12_sort 14 = .ok (.bipush 100, 2) := by decide +kernel
theorem dX12_sort_16 : decode cX12_sort 16 = .ok (.irem, 1) := by decide +kernel
theorem dX12_sort_17 : decode cX12_sort 17 = .ok (.iload_n 2, 1) := by decide +kernel
theorem dX12_sort_18 : decode cX12_sort 18 = .ok (.bipush 100, 2) := by decide +kernel
theorem dX12_sort_20 : decode cX12_sort 20 = .ok (.idiv, 1) := by decide +kernel
theorem dX12_sort_21 : decode cX12_sort 21 = .ok (.iload_n 2, 1) := by decide +kernel
theorem dX12_sort_22 : decode cX12_sort 22 = .ok (.bipush 100, 2) := by decide +kernel
theorem dX12_sort_24 : decode cX12_sort 24 = .ok (.irem, 1) := by decide +kernel
theorem dX12_sort_25 : decode cX12_sort 25 = .ok (.invokevirtual 129, 3) := by decide +kernel
theorem dX12_sort_28 : decode cX12_sort 28 = .ok (.ifCond .ne 5, 3) := by decide +kernel
theorem dX12_sort_31 : decode cX12_sort 31 = .ok (.iconst (-1), 1) := by decide +kernel
theorem dX12_sort_32 : decode cX12_sort 32 = .ok (.ireturn, 1) := by decide +kernel
theorem dX12_sort_33 : decode cX12_sort 33 = .ok (.aload_n 0, 1) := by decide +kernel
theorem dX12_sort_34 : decode cX12_sort 34 = .ok (.getfield 114, 3) := by decide +kernel
theorem dX12_sort_37 : decode cX12_sort 37 = .ok (.bipush 8, 2) := by decide +kernel
theorem dX12_sort_39 : decode cX12_sort 39 = .ok (.if_icmp .ne 6, 3) := by decide +kernel
theorem dX12_sort_42 : decode cX12_sort 42 = .ok (.bipush (-3), 2) := by decide +kernel
theorem dX12_sort_44 : decode cX12_sort 44 = .ok (.ireturn, 1) := by decide +kernel
theorem dX12_sort_45 : decode cX12_sort 45 = .ok (.aload_n 0, 1) := by decide +kernel
theorem dX12_sort_46 : decode cX12_sort 46 = .ok (.iload_n 1, 1) := by decide +kernel
theorem dX12_sort_47 : decode cX12_sort 47 = .ok (.bipush 100, 2) := by decide +kernel
theorem dX12_sort_49 : decode cX12_sort 49 = .ok (.idiv, 1) := by decide +kernel
theorem dX12_sort_50 : decode cX12_sort 50 = .ok (.iload_n 1, 1) := by decide +kernel
theorem dX12_sort_51 : decode cX12_sort 51 = .ok (.bipush 100, 2) := by decide +kernel
theorem dX12_sort_53 : decode cX12_sort 53 = .ok (.irem, 1) := by decide +kernel
theorem dX12_sort_54 : decode cX12_sort 54 = .ok (.iload_n 2, 1) := by decide +kernel
theorem dX12_sort_55 : decode cX12_sort 55 = .ok (.bipush 100, 2) := by decide +kernel
theorem dX12_sort_57 : decode cX12_sort 57 = .ok (.idiv, 1) := by decide +kernel
theorem dX12_sort_58 : decode cX12_sort 58 = .ok (.iload_n 2, 1) := by decide +kernel
theorem dX12_sort_59 : decode cX12_sort 59 = .ok (.bipush 100, 2) := by decide +kernel
theorem dX12_sort_61 : decode cX12_sort 61 = .ok (.irem, 1) := by decide +kernel
theorem dX12_sort_62 : decode cX12_sort 62 = .ok (.invokevirtual 133, 3) := by decide +kernel
theorem dX12_sort_65 : decode cX12_sort 65 = .ok (.aload_n 0, 1) := by decide +kernel
theorem dX12_sort_66 : decode cX12_sort 66 = .ok (.getfield 114, 3) := by decide +kernel
theorem dX12_sort_69 : decode cX12_sort 69 = .ok (.iconst 1, 1) := by decide +kernel
theorem dX12_sort_70 : decode cX12_sort 70 = .ok (.isub, 1) := by decide +kernel
theorem dX12_sort_71 : decode cX12_sort 71 = .ok (.ireturn, 1) := by decide +kernel
set_option maxRecDepth 20000 in
theorem ggX12_sorts_X12_isShelf : GoodIn wsX12_sorts wsX12_isShelf := goodIn_r _ [9, 10, 11, 8, 12] rfl (by decide +kernel)
set_option maxRecDepth 20000 in
theorem gX12_sorts_X12_isShelf : GoodIn wsX12_sorts (va_wsS RX12 137 yX12_isShelf wsX12_isShelf) := goodIn_app (goodIn_r _ [6, 7, 8] rfl (by decide +kernel)) ggX12_sorts_X12_isShelf
set_option maxRecDepth 20000 in
theorem ggX12_sorts_X12_in : GoodIn wsX12_sorts wsX12_in := goodIn_r _ [12] rfl (by decide +kernel)
set_option maxRecDepth 20000 in
theorem gX12_sorts_X12_in : GoodIn wsX12_sorts (va_wsS RX12 118 yX12_in wsX12_in) := goodIn_app (goodIn_r _ [10, 11, 8] rfl (by decide +kernel)) ggX12_sorts_X12_in
set_option maxRecDepth 20000 in
theorem ggX12_sorts_X12_isSoSort : GoodIn wsX12_sorts wsX12_isSoSort := goodIn_r _ [16, 17, 18, 8, 19, 10, 11, 12] rfl (by decide +kernel)
set_option maxRecDepth 20000 in
theorem gX12_sorts_X12_isSoSort : GoodIn wsX12_sorts (wsV RX12 129 RX12 yX12_isSoSort wsX12_isSoSort) := goodIn_app (goodIn_r _ [13, 14, 15, 8] rfl (by decide +kernel)) ggX12_sorts_X12_isSoSort
set_option maxRecDepth 20000 in
theorem ggX12_sorts_X12_comes : GoodIn wsX12_sorts wsX12_comes := goodIn_r _ [23, 24, 2, 25, 26, 27, 28, 29, 30, 31, 32, 33, 34, 35, 36, 37, 38, 39, 40, 41, 42, 43, 44, 45, 46, 47, 48, 49, 50, 51, 52, 53, 54, 55, 56, 57, 58, 59, 60, 61, 62, 63, 64, 65, 66, 67, 68, 69, 70, 71, 72, 73, 74, 75, 76, 77, 78, 79, 80, 81, 82, 83, 84, 85] rfl (by decide +kernel)
set_option maxRecDepth 20000 in
theorem gX12_sorts_X12_comes : GoodIn wsX12_sorts (wsV RX12 133 RX12 yX12_comes wsX12_comes) := goodIn_app (goodIn_r _ [20, 21, 22, 8] rfl (by decide +kernel)) ggX12_sorts_X12_comes
theorem dX12_sorts_0 : decode cX12_sorts 0 = .ok (.iload_n 1, 1) := by decide +kernel
theorem dX12_sorts_1 : decode cX12_sorts 1 = .ok (.invokestatic 137, 3) := by decide +kernel
theorem dX12_sorts_4 : decode cX12_sorts 4 = .ok (.ifCond .eq 13, 3) := by decide +kernel
theorem dX12_sorts_7 : decode cX12_sorts 7 = .ok (.iload_n 3, 1) := by decide +kernel
theorem dX12_sorts_8 : decode cX12_sorts 8 = .ok (.iconst 1, 1) := by decide +kernel
theorem dX12_sorts_9 : decode cX12_sorts 9 = .ok (.bipush 8, 2) := by decide +kernel
theorem dX12_sorts_11 : decode cX12_sorts 11 = .ok (.invokestatic 118, 3) := by decide +kernel
theorem dX12_sorts_14 : decode cX12_sorts 14 = .ok (.ifCond .ne 5, 3) := by decide +kernel
theorem dX12_sorts_17 : decode cX12_sorts 17 = .ok (.iconst (-1), 1) := by decide +kernel
theorem dX12_sorts_18 : decode cX12_sorts 18 = .ok (.ireturn, 1) := by decide +kernel
theorem dX12_sorts_19 : decode cX12_sorts 19 = .ok (.aload_n 0, 1) := by decide +kernel
theorem dX12_sorts_20 : decode cX12_sorts 20 = .ok (.getfield 102, 3) := by decide +kernel
theorem dX12_sorts_23 : decode cX12_sorts 23 = .ok (.iload_n 1, 1) := by decide +kernel
theorem dX12_sorts_24 : decode cX12_sorts 24 = .ok (.iaload, 1) := by decide +kernel
theorem dX12_sorts_25 : decode cX12_sorts 25 = .ok (.ifCond .le 6, 3) := by decide +kernel
theorem dX12_sorts_28 : decode cX12_sorts 28 = .ok (.bipush (-12), 2) := by decide +kernel
theorem dX12_sorts_30 : decode cX12_sorts 30 = .ok (.ireturn, 1) := by decide +kernel
theorem dX12_sorts_31 : decode cX12_sorts 31 = .ok (.iconst 0, 1) := by decide +kernel
theorem dX12_sorts_32 : decode cX12_sorts 32 = .ok (.istore 4, 2) := by decide +kernel
theorem dX12_sorts_34 : decode cX12_sorts 34 = .ok (.iload 4, 2) := by decide +kernel
theorem dX12_sorts_36 : decode cX12_sorts 36 = .ok (.iload_n 3, 1) := by decide +kernel
theorem dX12_sorts_37 : decode cX12_sorts 37 = .ok (.if_icmp .ge 145, 3) := by decide +kernel
theorem dX12_sorts_40 : decode cX12_sorts 40 = .ok (.aload_n 0, 1) := by decide +kernel
theorem dX12_sorts_41 : decode cX12_sorts 41 = .ok (.getfield 114, 3) := by decide +kernel
theorem dX12_sorts_44 : decode cX12_sorts 44 = .ok (.bipush 8, 2) := by decide +kernel
theorem dX12_sorts_46 : decode cX12_sorts 46 = .ok (.if_icmp .ge 136, 3) := by decide +kernel
theorem dX12_sorts_49 : decode cX12_sorts 49 = .ok (.aload_n 0, 1) := by decide +kernel
theorem dX12_sorts_50 : decode cX12_sorts 50 = .ok (.getfield 102, 3) := by decide +kernel
theorem dX12_sorts_53 : decode cX12_sorts 53 = .ok (.iload_n 1, 1) := by decide +kernel
theorem dX12_sorts_54 : decode cX12_sorts 54 = .ok (.iaload, 1) := by decide +kernel
theorem dX12_sorts_55 : decode cX12_sorts 55 = .ok (.ifCond .ne 127, 3) := by decide +kernel
theorem dX12_sorts_58 : decode cX12_sorts 58 = .ok (.iload_n 2, 1) := by decide +kernel
theorem dX12_sorts_59 : decode cX12_sorts 59 = .ok (.ifCond .lt 123, 3) := by decide +kernel
theorem dX12_sorts_62 : decode cX12_sorts 62 = .ok (.iload_n 2, 1) := by decide +kernel
theorem dX12_sorts_63 : decode cX12_sorts 63 = .ok (.i2l, 1) := by decide +kernel
theorem dX12_sorts_64 : decode cX12_sorts 64 = .ok (.ldc2_w 140, 3) := by decide +kernel
theorem dX12_sorts_67 : decode cX12_sorts 67 = .ok (.iload 4, 2) := by decide +kernel
theorem dX12_sorts_69 : decode cX12_sorts 69 = .ok (.i2l, 1) := by decide +kernel
theorem dX12_sorts_70 : decode cX12_sorts 70 = .ok (.lmul, 1) := by decide +kernel
theorem dX12_sorts_71 : decode cX12_sorts 71 = .ok (.ladd, 1) := by decide +kernel
theorem dX12_sorts_72 : decode cX12_sorts 72 = .ok (.ldc2_w 140, 3) := by decide +kernel
theorem dX12_sorts_75 : decode cX12_sorts 75 = .ok (.ladd, 1) := by decide +kernel
theorem dX12_sorts_76 : decode cX12_sorts 76 = .ok (.aload_n 0, 1) := by decide +kernel
theorem dX12_sorts_77 : decode cX12_sorts 77 = .ok (.getfield 105, 3) := by decide +kernel
theorem dX12_sorts_80 : decode cX12_sorts 80 = .ok (.iload_n 1, 1) := by decide +kernel
theorem dX12_sorts_81 : decode cX12_sorts 81 = .ok (.iaload, 1) := by decide +kernel
theorem dX12_sorts_82 : decode cX12_sorts 82 = .ok (.i2l, 1) := by decide +kernel
theorem dX12_sorts_83 : decode cX12_sorts 83 = .ok (.lcmp, 1) := by decide +kernel
theorem dX12_sorts_84 : decode cX12_sorts 84 = .ok (.ifCond .gt 98, 3) := by decide +kernel
theorem dX12_sorts_87 : decode cX12_sorts 87 = .ok (.bipush 60, 2) := by decide +kernel
theorem dX12_sorts_89 : decode cX12_sorts 89 = .ok (.iload_n 1, 1) := by decide +kernel
theorem dX12_sorts_90 : decode cX12_sorts 90 = .ok (.imul, 1) := by decide +kernel
theorem dX12_sorts_91 : decode cX12_sorts 91 = .ok (.iload_n 2, 1) := by decide +kernel
theorem dX12_sorts_92 : decode cX12_sorts 92 = .ok (.iadd, 1) := by decide +kernel
theorem dX12_sorts_93 : decode cX12_sorts 93 = .ok (.iconst 4, 1) := by decide +kernel
theorem dX12_sorts_94 : decode cX12_sorts 94 = .ok (.iload 4, 2) := by decide +kernel
theorem dX12_sorts_96 : decode cX12_sorts 96 = .ok (.imul, 1) := by decide +kernel
theorem dX12_sorts_97 : decode cX12_sorts 97 = .ok (.iadd, 1) := by decide +kernel
theorem dX12_sorts_98 : decode cX12_sorts 98 = .ok (.istore 5, 2) := by decide +kernel
theorem dX12_sorts_100 : decode cX12_sorts 100 = .ok (.aload_n 0, 1) := by decide +kernel
theorem dX12_sorts_101 : decode cX12_sorts 101 = .ok (.getfield 108, 3) := by decide +kernel
theorem dX12_sorts_104 : decode cX12_sorts 104 = .ok (.iload 5, 2) := by decide +kernel
theorem dX12_sorts_106 : decode cX12_sorts 106 = .ok (.laload, 1) := by decide +kernel
theorem dX12_sorts_107 : decode cX12_sorts 107 = .ok (.l2i, 1) := by decide +kernel
theorem dX12_sorts_108 : decode cX12_sorts 108 = .ok (.istore 6, 2) := by decide +kernel
theorem dX12_sorts_110 : decode cX12_sorts 110 = .ok (.aload_n 0, 1) := by decide +kernel
theorem dX12_sorts_111 : decode cX12_sorts 111 = .ok (.getfield 108, 3) := by decide +kernel
theorem dX12_sorts_114 : decode cX12_sorts 114 = .ok (.iload 5, 2) := by decide +kernel
theorem dX12_sorts_116 : decode cX12_sorts 116 = .ok (.iconst 1, 1) := by decide +kernel
theorem dX12_sorts_117 : decode cX12_sorts 117 = .ok (.iadd, 1) := by decide +kernel
theorem dX12_sorts_118 : decode cX12_sorts 118 = .ok (.laload, 1) := by decide +kernel
theorem dX12_sorts_119 : decode cX12_sorts 119 = .ok (.l2i, 1) := by decide +kernel
theorem dX12_sorts_120 : decode cX12_sorts 120 = .ok (.istore 7, 2) := by decide +kernel
theorem dX12_sorts_122 : decode cX12_sorts 122 = .ok (.aload_n 0, 1) := by decide +kernel
theorem dX12_sorts_123 : decode cX12_sorts 123 = .ok (.getfield 108, 3) := by decide +kernel
theorem dX12_sorts_126 : decode cX12_sorts 126 = .ok (.iload 5, 2) := by decide +kernel
theorem dX12_sorts_128 : decode cX12_sorts 128 = .ok (.iconst 2, 1) := by decide +kernel
theorem dX12_sorts_129 : decode cX12_sorts 129 = .ok (.iadd, 1) := by decide +kernel
theorem dX12_sorts_130 : decode cX12_sorts 130 = .ok (.laload, 1) := by decide +kernel
theorem dX12_sorts_131 : decode cX12_sorts 131 = .ok (.l2i, 1) := by decide +kernel
theorem dX12_sorts_132 : decode cX12_sorts 132 = .ok (.istore 8, 2) := by decide +kernel
theorem dX12_sorts_134 : decode cX12_sorts 134 = .ok (.aload_n 0, 1) := by decide +kernel
theorem dX12_sorts_135 : decode cX12_sorts 135 = .ok (.getfield 108, 3) := by decide +kernel
theorem dX12_sorts_138 : decode cX12_sorts 138 = .ok (.iload 5, 2) := by decide +kernel
theorem dX12_sorts_140 : decode cX12_sorts 140 = .ok (.iconst 3, 1) := by decide +kernel
theorem dX12_sorts_141 : decode cX12_sorts 141 = .ok (.iadd, 1) := by decide +kernel
theorem dX12_sorts_142 : decode cX12_sorts 142 = .ok (.laload, 1) := by decide +kernel
theorem dX12_sorts_143 : decode cX12_sorts 143 = .ok (.l2i, 1) := by decide +kernel
theorem dX12_sorts_144 : decode cX12_sorts 144 = .ok (.istore 9, 2) := by decide +kernel
theorem dX12_sorts_146 : decode cX12_sorts 146 = .ok (.aload_n 0, 1) := by decide +kernel
theorem dX12_sorts_147 : decode cX12_sorts 147 = .ok (.iload 6, 2) := by decide +kernel
theorem dX12_sorts_149 : decode cX12_sorts 149 = .ok (.iload 7, 2) := by decide +kernel
theorem dX12_sorts_151 : decode cX12_sorts 151 = .ok (.iload 8, 2) := by decide +kernel
theorem dX12_sorts_153 : decode cX12_sorts 153 = .ok (.iload 9, 2) := by decide +kernel
theorem dX12_sorts_155 : decode cX12_sorts 155 = .ok (.invokevirtual 129, 3) := by decide +kernel
theorem dX12_sorts_158 : decode cX12_sorts 158 = .ok (.ifCond .ne 6, 3) := by decide +kernel
theorem dX12_sorts_161 : decode cX12_sorts 161 = .ok (.iload 4, 2) := by decide +kernel
theorem dX12_sorts_163 : decode cX12_sorts 163 = .ok (.ireturn, 1) := by decide +kernel
theorem dX12_sorts_164 : decode cX12_sorts 164 = .ok (.aload_n 0, 1) := by decide +kernel
theorem dX12_sorts_165 : decode cX12_sorts 165 = .ok (.iload 6, 2) := by decide +kernel
theorem dX12_sorts_167 : decode cX12_sorts 167 = .ok (.iload 7, 2) := by decide +kernel
theorem dX12_sorts_169 : decode cX12_sorts 169 = .ok (.iload 8, 2) := by decide +kernel
theorem dX12_sorts_171 : decode cX12_sorts 171 = .ok (.iload 9, 2) := by decide +kernel
theorem dX12_sorts_173 : decode cX12_sorts 173 = .ok (.invokevirtual 133, 3) := by decide +kernel
theorem dX12_sorts_176 : decode cX12_sorts 176 = .ok (.iinc 4 1, 3) := by decide +kernel
theorem dX12_sorts_179 : decode cX12_sorts 179 = .ok (.goto (-145), 3) := by decide +kernel
theorem dX12_sorts_182 : decode cX12_sorts 182 = .ok (.iload 4, 2) := by decide +kernel
theorem dX12_sorts_184 : decode cX12_sorts 184 = .ok (.ireturn, 1) := by decide +kernel
set_option maxRecDepth 20000 in
theorem ggX12_purse_X12_isSort : GoodIn wsX12_purse wsX12_isSort := goodIn_r _ [6, 7, 8, 9, 5, 10, 11, 12, 13, 14, 15, 16, 17, 18, 19, 20, 21, 22, 23, 24, 25, 26, 27, 28, 29, 30, 31, 32, 33, 34, 35, 36, 37, 38, 39, 40, 41, 42, 43, 44, 45, 46, 47, 48, 49, 50, 51, 52, 53, 54, 55, 56, 57, 58, 59, 60, 61, 62, 63, 64, 65, 66, 67] rfl (by decide +kernel)
set_option maxRecDepth 20000 in
theorem gX12_purse_X12_isSort : GoodIn wsX12_purse (wsV RX12 142 RX12 yX12_isSort wsX12_isSort) := goodIn_app (goodIn_r _ [2, 3, 4, 5] rfl (by decide +kernel)) ggX12_purse_X12_isSort
set_option maxRecDepth 20000 in
theorem ggX12_purse_X12_in : GoodIn wsX12_purse wsX12_in := goodIn_r _ [10] rfl (by decide +kernel)
set_option maxRecDepth 20000 in
theorem gX12_purse_X12_in : GoodIn wsX12_purse (va_wsS RX12 118 yX12_in wsX12_in) := goodIn_app (goodIn_r _ [8, 9, 5] rfl (by decide +kernel)) ggX12_purse_X12_in
theorem dX12_purse_0 : decode cX12_purse 0 = .ok (.aload_n 0, 1) := by decide +kernel
theorem dX12_purse_1 : decode cX12_purse 1 = .ok (.iload_n 1, 1) := by decide +kernel
theorem dX12_purse_2 : decode cX12_purse 2 = .ok (.invokevirtual 142, 3) := by decide +kernel
theorem dX12_purse_5 : decode cX12_purse 5 = .ok (.ifCond .eq 13, 3) := by decide +kernel
theorem dX12_purse_8 : decode cX12_purse 8 = .ok (.iload_n 2, 1) := by decide +kernel
theorem dX12_purse_9 : decode cX12_purse 9 = .ok (.iconst 0, 1) := by decide +kernel
theorem dX12_purse_10 : decode cX12_purse 10 = .ok (.bipush 6, 2) := by decide +kernel
theorem dX12_purse_12 : decode cX12_purse 12 = .ok (.invokestatic 118, 3) := by decide +kernel
theorem dX12_purse_15 : decode cX12_purse 15 = .ok (.ifCond .ne 5, 3) := by decide +kernel
theorem dX12_purse_18 : decode cX12_purse 18 = .ok (.iconst (-1), 1) := by decide +kernel
theorem dX12_purse_19 : decode cX12_purse 19 = .ok (.ireturn, 1) := by decide +kernel
theorem dX12_purse_20 : decode cX12_purse 20 = .ok (.aload_n 0, 1) := by decide +kernel
theorem dX12_purse_21 : decode cX12_purse 21 = .ok (.getfield 22, 3) := by decide +kernel
theorem dX12_purse_24 : decode cX12_purse 24 = .ok (.iload_n 1, 1) := by decide +kernel
theorem dX12_purse_25 : decode cX12_purse 25 = .ok (.iaload, 1) := by decide +kernel
theorem dX12_purse_26 : decode cX12_purse 26 = .ok (.istore_n 3, 1) := by decide +kernel
theorem dX12_purse_27 : decode cX12_purse 27 = .ok (.aload_n 0, 1) := by decide +kernel
theorem dX12_purse_28 : decode cX12_purse 28 = .ok (.getfield 22, 3) := by decide +kernel
theorem dX12_purse_31 : decode cX12_purse 31 = .ok (.iload_n 1, 1) := by decide +kernel
theorem dX12_purse_32 : decode cX12_purse 32 = .ok (.iload_n 2, 1) := by decide +kernel
theorem dX12_purse_33 : decode cX12_purse 33 = .ok (.iastore, 1) := by decide +kernel
theorem dX12_purse_34 : decode cX12_purse 34 = .ok (.iload_n 3, 1) := by decide +kernel
theorem dX12_purse_35 : decode cX12_purse 35 = .ok (.ireturn, 1) := by decide +kernel
set_option maxRecDepth 20000 in
theorem ggX12_thing_X12_isLand : GoodIn wsX12_thing wsX12_isLand := goodIn_r _ [9, 10, 11, 8, 12] rfl (by decide +kernel)
set_option maxRecDepth 20000 in
theorem gX12_thing_X12_isLand : GoodIn wsX12_thing (va_wsS RX12 125 yX12_isLand wsX12_isLand) := goodIn_app (goodIn_r _ [6, 7, 8] rfl (by decide +kernel)) ggX12_thing_X12_isLand
set_option maxRecDepth 20000 in
theorem ggX12_thing_X12_in : GoodIn wsX12_thing wsX12_in := goodIn_r _ [12] rfl (by decide +kernel)
set_option maxRecDepth 20000 in
theorem gX12_thing_X12_in : GoodIn wsX12_thing (va_wsS RX12 118 yX12_in wsX12_in) := goodIn_app (goodIn_r _ [10, 11, 8] rfl (by decide +kernel)) ggX12_thing_X12_in
theorem dX12_thing_0 : decode cX12_thing 0 = .ok (.iload_n 1, 1) := by decide +kernel
theorem dX12_thing_1 : decode cX12_thing 1 = .ok (.ifCond .lt 44, 3) := by decide +kernel
theorem dX12_thing_4 : decode cX12_thing 4 = .ok (.iload_n 1, 1) := by decide +kernel
theorem dX12_thing_5 : decode cX12_thing 5 = .ok (.sipush 1000, 3) := by decide +kernel
theorem dX12_thing_8 : decode cX12_thing 8 = .ok (.idiv, 1) := by decide +kernel
theorem dX12_thing_9 : decode cX12_thing 9 = .ok (.invokestatic 125, 3) := by decide +kernel
theorem dX12_thing_12 : decode cX12_thing 12 = .ok (.ifCond .eq 33, 3) := by decide +kernel
theorem dX12_thing_15 : decode cX12_thing 15 = .ok (.iload_n 1, 1) := by decide +kernel
theorem dX12_thing_16 : decode cX12_thing 16 = .ok (.sipush 1000, 3) := by decide +kernel
theorem dX12_thing_19 : decode cX12_thing 19 = .ok (.irem, 1) := by decide +kernel
theorem dX12_thing_20 : decode cX12_thing 20 = .ok (.iconst 1, 1) := by decide +kernel
theorem dX12_thing_21 : decode cX12_thing 21 = .ok (.sipush 200, 3) := by decide +kernel
theorem dX12_thing_24 : decode cX12_thing 24 = .ok (.invokestatic 118, 3) := by decide +kernel
theorem dX12_thing_27 : decode cX12_thing 27 = .ok (.ifCond .eq 18, 3) := by decide +kernel
theorem dX12_thing_30 : decode cX12_thing 30 = .ok (.iload_n 2, 1) := by decide +kernel
theorem dX12_thing_31 : decode cX12_thing 31 = .ok (.iconst 0, 1) := by decide +kernel
theorem dX12_thing_32 : decode cX12_thing 32 = .ok (.sipush 999, 3) := by decide +kernel
theorem dX12_thing_35 : decode cX12_thing 35 = .ok (.invokestatic 118, 3) := by decide +kernel
theorem dX12_thing_38 : decode cX12_thing 38 = .ok (.ifCond .eq 7, 3) := by decide +kernel
theorem dX12_thing_41 : decode cX12_thing 41 = .ok (.iconst 1, 1) := by decide +kernel
theorem dX12_thing_42 : decode cX12_thing 42 = .ok (.goto 4, 3) := by decide +kernel
theorem dX12_thing_45 : decode cX12_thing 45 = .ok (.iconst 0, 1) := by decide +kernel
theorem dX12_thing_46 : decode cX12_thing 46 = .ok (.istore_n 3, 1) := by decide +kernel
theorem dX12_thing_47 : decode cX12_thing 47 = .ok (.iload_n 3, 1) := by decide +kernel
theorem dX12_thing_48 : decode cX12_thing 48 = .ok (.ifCond .ne 5, 3) := by decide +kernel
theorem dX12_thing_51 : decode cX12_thing 51 = .ok (.iconst (-1), 1) := by decide +kernel
theorem dX12_thing_52 : decode cX12_thing 52 = .ok (.ireturn, 1) := by decide +kernel
theorem dX12_thing_53 : decode cX12_thing 53 = .ok (.aload_n 0, 1) := by decide +kernel
theorem dX12_thing_54 : decode cX12_thing 54 = .ok (.getfield 122, 3) := by decide +kernel
theorem dX12_thing_57 : decode cX12_thing 57 = .ok (.bipush 10, 2) := by decide +kernel
theorem dX12_thing_59 : decode cX12_thing 59 = .ok (.if_icmp .ne 6, 3) := by decide +kernel
theorem dX12_thing_62 : decode cX12_thing 62 = .ok (.bipush (-3), 2) := by decide +kernel
theorem dX12_thing_64 : decode cX12_thing 64 = .ok (.ireturn, 1) := by decide +kernel
theorem dX12_thing_65 : decode cX12_thing 65 = .ok (.aload_n 0, 1) := by decide +kernel
theorem dX12_thing_66 : decode cX12_thing 66 = .ok (.getfield 25, 3) := by decide +kernel
theorem dX12_thing_69 : decode cX12_thing 69 = .ok (.aload_n 0, 1) := by decide +kernel
theorem dX12_thing_70 : decode cX12_thing 70 = .ok (.getfield 122, 3) := by decide +kernel
theorem dX12_thing_73 : decode cX12_thing 73 = .ok (.iload_n 1, 1) := by decide +kernel
theorem dX12_thing_74 : decode cX12_thing 74 = .ok (.sipush 1000, 3) := by decide +kernel
theorem dX12_thing_77 : decode cX12_thing 77 = .ok (.idiv, 1) := by decide +kernel
theorem dX12_thing_78 : decode cX12_thing 78 = .ok (.iastore, 1) := by decide +kernel
theorem dX12_thing_79 : decode cX12_thing 79 = .ok (.aload_n 0, 1) := by decide +kernel
theorem dX12_thing_80 : decode cX12_thing 80 = .ok (.getfield 28, 3) := by decide +kernel
theorem dX12_thing_83 : decode cX12_thing 83 = .ok (.aload_n 0, 1) := by decide +kernel
theorem dX12_thing_84 : decode cX12_thing 84 = .ok (.getfield 122, 3) := by decide +kernel
theorem dX12_thing_87 : decode cX12_thing 87 = .ok (.iload_n 1, 1) := by decide +kernel
theorem dX12_thing_88 : decode cX12_thing 88 = .ok (.sipush 1000, 3) := by decide +kernel
theorem dX12_thing_91 : decode cX12_thing 91 = .ok (.irem, 1) := by decide +kernel
theorem dX12_thing_92 : decode cX12_thing 92 = .ok (.iastore, 1) := by decide +kernel
theorem dX12_thing_93 : decode cX12_thing 93 = .ok (.aload_n 0, 1) := by decide +kernel
theorem dX12_thing_94 : decode cX12_thing 94 = .ok (.getfield 31, 3) := by decide +kernel
theorem dX12_thing_97 : decode cX12_thing 97 = .ok (.aload_n 0, 1) := by decide +kernel
theorem dX12_thing_98 : decode cX12_thing 98 = .ok (.getfield 122, 3) := by decide +kernel
theorem dX12_thing_101 : decode cX12_thing 101 = .ok (.iload_n 2, 1) := by decide +kernel
theorem dX12_thing_102 : decode cX12_thing 102 = .ok (.bipush 10, 2) := by decide +kernel
theorem dX12_thing_104 : decode cX12_thing 104 = .ok (.idiv, 1) := by decide +kernel
theorem dX12_thing_105 : decode cX12_thing 105 = .ok (.iastore, 1) := by decide +kernel
theorem dX12_thing_106 : decode cX12_thing 106 = .ok (.aload_n 0, 1) := by decide +kernel
theorem dX12_thing_107 : decode cX12_thing 107 = .ok (.getfield 34, 3) := by decide +kernel
theorem dX12_thing_110 : decode cX12_thing 110 = .ok (.aload_n 0, 1) := by decide +kernel
theorem dX12_thing_111 : decode cX12_thing 111 = .ok (.getfield 122, 3) := by decide +kernel
theorem dX12_thing_114 : decode cX12_thing 114 = .ok (.iload_n 2, 1) := by decide +kernel
theorem dX12_thing_115 : decode cX12_thing 115 = .ok (.bipush 10, 2) := by decide +kernel
theorem dX12_thing_117 : decode cX12_thing 117 = .ok (.irem, 1) := by decide +kernel
theorem dX12_thing_118 : decode cX12_thing 118 = .ok (.iastore, 1) := by decide +kernel
theorem dX12_thing_119 : decode cX12_thing 119 = .ok (.aload_n 0, 1) := by decide +kernel
theorem dX12_thing_120 : decode cX12_thing 120 = .ok (.dup, 1) := by decide +kernel
theorem dX12_thing_121 : decode cX12_thing 121 = .ok (.getfield 122, 3) := by decide +kernel
theorem dX12_thing_124 : decode cX12_thing 124 = .ok (.iconst 1, 1) := by decide +kernel
theorem dX12_thing_125 : decode cX12_thing 125 = .ok (.iadd, 1) := by decide +kernel
theorem dX12_thing_126 : decode cX12_thing 126 = .ok (.putfield 122, 3) := by decide +kernel
theorem dX12_thing_129 : decode cX12_thing 129 = .ok (.aload_n 0, 1) := by decide +kernel
theorem dX12_thing_130 : decode cX12_thing 130 = .ok (.getfield 122, 3) := by decide +kernel
theorem dX12_thing_133 : decode cX12_thing 133 = .ok (.iconst 1, 1) := by decide +kernel
theorem dX12_thing_134 : decode cX12_thing 134 = .ok (.isub, 1) := by decide +kernel
theorem dX12_thing_135 : decode cX12_thing 135 = .ok (.ireturn, 1) := by decide +kernel
set_option maxRecDepth 20000 in
theorem ggX12_rule_X12_isLand : GoodIn wsX12_rule wsX12_isLand := goodIn_r _ [5, 6, 7, 4, 8] rfl (by decide +kernel)
set_option maxRecDepth 20000 in
theorem gX12_rule_X12_isLand : GoodIn wsX12_rule (va_wsS RX12 125 yX12_isLand wsX12_isLand) := goodIn_app (goodIn_r _ [2, 3, 4] rfl (by decide +kernel)) ggX12_rule_X12_isLand
set_option maxRecDepth 20000 in
theorem ggX12_rule_X12_in : GoodIn wsX12_rule wsX12_in := goodIn_r _ [8] rfl (by decide +kernel)
set_option maxRecDepth 20000 in
theorem gX12_rule_X12_in : GoodIn wsX12_rule (va_wsS RX12 118 yX12_in wsX12_in) := goodIn_app (goodIn_r _ [6, 7, 4] rfl (by decide +kernel)) ggX12_rule_X12_in
theorem dX12_rule_0 : decode cX12_rule 0 = .ok (.iload_n 1, 1) := by decide +kernel
theorem dX12_rule_1 : decode cX12_rule 1 = .ok (.invokestatic 125, 3) := by decide +kernel
theorem dX12_rule_4 : decode cX12_rule 4 = .ok (.ifCond .eq 12, 3) := by decide +kernel
theorem dX12_rule_7 : decode cX12_rule 7 = .ok (.iload_n 2, 1) := by decide +kernel
theorem dX12_rule_8 : decode cX12_rule 8 = .ok (.iconst 0, 1) := by decide +kernel
theorem dX12_rule_9 : decode cX12_rule 9 = .ok (.iconst 2, 1) := by decide +kernel
theorem dX12_rule_10 : decode cX12_rule 10 = .ok (.invokestatic 118, 3) := by decide +kernel
theorem dX12_rule_13 : decode cX12_rule 13 = .ok (.ifCond .ne 5, 3) := by decide +kernel
theorem dX12_rule_16 : decode cX12_rule 16 = .ok (.iconst (-1), 1) := by decide +kernel
theorem dX12_rule_17 : decode cX12_rule 17 = .ok (.ireturn, 1) := by decide +kernel
theorem dX12_rule_18 : decode cX12_rule 18 = .ok (.aload_n 0, 1) := by decide +kernel
theorem dX12_rule_19 : decode cX12_rule 19 = .ok (.getfield 37, 3) := by decide +kernel
theorem dX12_rule_22 : decode cX12_rule 22 = .ok (.iload_n 1, 1) := by decide +kernel
theorem dX12_rule_23 : decode cX12_rule 23 = .ok (.iaload, 1) := by decide +kernel
theorem dX12_rule_24 : decode cX12_rule 24 = .ok (.istore_n 3, 1) := by decide +kernel
theorem dX12_rule_25 : decode cX12_rule 25 = .ok (.aload_n 0, 1) := by decide +kernel
theorem dX12_rule_26 : decode cX12_rule 26 = .ok (.getfield 37, 3) := by decide +kernel
theorem dX12_rule_29 : decode cX12_rule 29 = .ok (.iload_n 1, 1) := by decide +kernel
theorem dX12_rule_30 : decode cX12_rule 30 = .ok (.iload_n 2, 1) := by decide +kernel
theorem dX12_rule_31 : decode cX12_rule 31 = .ok (.iastore, 1) := by decide +kernel
theorem dX12_rule_32 : decode cX12_rule 32 = .ok (.iload_n 3, 1) := by decide +kernel
theorem dX12_rule_33 : decode cX12_rule 33 = .ok (.ireturn, 1) := by decide +kernel
set_option maxRecDepth 20000 in
theorem ggX12_window_X12_in : GoodIn wsX12_window wsX12_in := goodIn_r _ [6] rfl (by decide +kernel)
set_option maxRecDepth 20000 in
theorem gX12_window_X12_in : GoodIn wsX12_window (va_wsS RX12 118 yX12_in wsX12_in) := goodIn_app (goodIn_r _ [3, 4, 5] rfl (by decide +kernel)) ggX12_window_X12_in
theorem dX12_window_0 : decode cX12_window 0 = .ok (.iload_n 1, 1) := by decide +kernel
theorem dX12_window_1 : decode cX12_window 1 = .ok (.iconst 0, 1) := by decide +kernel
theorem dX12_window_2 : decode cX12_window 2 = .ok (.iconst 1, 1) := by decide +kernel
theorem dX12_window_3 : decode cX12_window 3 = .ok (.invokestatic 118, 3) := by decide +kernel
theorem dX12_window_6 : decode cX12_window 6 = .ok (.ifCond .eq 13, 3) := by decide +kernel
theorem dX12_window_9 : decode cX12_window 9 = .ok (.iload_n 2, 1) := by decide +kernel
theorem dX12_window_10 : decode cX12_window 10 = .ok (.iconst 0, 1) := by decide +kernel
theorem dX12_window_11 : decode cX12_window 11 = .ok (.bipush 99, 2) := by decide +kernel
theorem dX12_window_13 : decode cX12_window 13 = .ok (.invokestatic 118, 3) := by decide +kernel
theorem dX12_window_16 : decode cX12_window 16 = .ok (.ifCond .ne 5, 3) := by decide +kernel
theorem dX12_window_19 : decode cX12_window 19 = .ok (.iconst (-1), 1) := by decide +kernel
theorem dX12_window_20 : decode cX12_window 20 = .ok (.ireturn, 1) := by decide +kernel
theorem dX12_window_21 : decode cX12_window 21 = .ok (.iload_n 1, 1) := by decide +kernel
theorem dX12_window_22 : decode cX12_window 22 = .ok (.ifCond .ne 10, 3) := by decide +kernel
theorem dX12_window_25 : decode cX12_window 25 = .ok (.aload_n 0, 1) := by decide +kernel
theorem dX12_window_26 : decode cX12_window 26 = .ok (.getfield 145, 3) := by decide +kernel
theorem dX12_window_29 : decode cX12_window 29 = .ok (.goto 7, 3) := by decide +kernel
theorem dX12_window_32 : decode cX12_window 32 = .ok (.aload_n 0, 1) := by decide +kernel
theorem dX12_window_33 : decode cX12_window 33 = .ok (.getfield 148, 3) := by decide +kernel
theorem dX12_window_36 : decode cX12_window 36 = .ok (.istore_n 3, 1) := by decide +kernel
theorem dX12_window_37 : decode cX12_window 37 = .ok (.aload_n 0, 1) := by decide +kernel
theorem dX12_window_38 : decode cX12_window 38 = .ok (.iload_n 1, 1) := by decide +kernel
theorem dX12_window_39 : decode cX12_window 39 = .ok (.ifCond .ne 7, 3) := by decide +kernel
theorem dX12_window_42 : decode cX12_window 42 = .ok (.iload_n 2, 1) := by decide +kernel
theorem dX12_window_43 : decode cX12_window 43 = .ok (.goto 7, 3) := by decide +kernel
theorem dX12_window_46 : decode cX12_window 46 = .ok (.aload_n 0, 1) := by decide +kernel
theorem dX12_window_47 : decode cX12_window 47 = .ok (.getfield 145, 3) := by decide +kernel
theorem dX12_window_50 : decode cX12_window 50 = .ok (.putfield 145, 3) := by decide +kernel
theorem dX12_window_53 : decode cX12_window 53 = .ok (.aload_n 0, 1) := by decide +kernel
theorem dX12_window_54 : decode cX12_window 54 = .ok (.iload_n 1, 1) := by decide +kernel
theorem dX12_window_55 : decode cX12_window 55 = .ok (.iconst 1, 1) := by decide +kernel
theorem dX12_window_56 : decode cX12_window 56 = .ok (.if_icmp .ne 7, 3) := by decide +kernel
theorem dX12_window_59 : decode cX12_window 59 = .ok (.iload_n 2, 1) := by decide +kernel
theorem dX12_window_60 : decode cX12_window 60 = .ok (.goto 7, 3) := by decide +kernel
theorem dX12_window_63 : decode cX12_window 63 = .ok (.aload_n 0, 1) := by decide +kernel
theorem dX12_window_64 : decode cX12_window 64 = .ok (.getfield 148, 3) := by decide +kernel
theorem dX12_window_67 : decode cX12_window 67 = .ok (.putfield 148, 3) := by decide +kernel
theorem dX12_window_70 : decode cX12_window 70 = .ok (.iload_n 3, 1) := by decide +kernel
theorem dX12_window_71 : decode cX12_window 71 = .ok (.ireturn, 1) := by decide +kernel
theorem dX12_held_0 : decode cX12_held 0 = .ok (.iload_n 2, 1) := by decide +kernel
theorem dX12_held_1 : decode cX12_held 1 = .ok (.tableswitch 59 0 3 #[31, 38, 45, 52], 31) := by decide +kernel
theorem dX12_held_32 : decode cX12_held 32 = .ok (.aload_n 0, 1) := by decide +kernel
theorem dX12_held_33 : decode cX12_held 33 = .ok (.getfield 13, 3) := by decide +kernel
theorem dX12_held_36 : decode cX12_held 36 = .ok (.iload_n 1, 1) := by decide +kernel
theorem dX12_held_37 : decode cX12_held 37 = .ok (.iaload, 1) := by decide +kernel
theorem dX12_held_38 : decode cX12_held 38 = .ok (.ireturn, 1) := by decide +kernel
theorem dX12_held_39 : decode cX12_held 39 = .ok (.aload_n 0, 1) := by decide +kernel
theorem dX12_held_40 : decode cX12_held 40 = .ok (.getfield 16, 3) := by decide +kernel
theorem dX12_held_43 : decode cX12_held 43 = .ok (.iload_n 1, 1) := by decide +kernel
theorem dX12_held_44 : decode cX12_held 44 = .ok (.iaload, 1) := by decide +kernel
theorem dX12_held_45 : decode cX12_held 45 = .ok (.ireturn, 1) := by decide +kernel
theorem dX12_held_46 : decode cX12_held 46 = .ok (.aload_n 0, 1) := by decide +kernel
theorem dX12_held_47 : decode cX12_held 47 = .ok (.getfield 19, 3) := by decide +kernel
theorem dX12_held_50 : decode cX12_held 50 = .ok (.iload_n 1, 1) := by decide +kernel
theorem dX12_held_51 : decode cX12_held 51 = .ok (.iaload, 1) := by decide +kernel
theorem dX12_held_52 : decode cX12_held 52 = .ok (.ireturn, 1) := by decide +kernel
theorem dX12_held_53 : decode cX12_held 53 = .ok (.aload_n 0, 1) := by decide +kernel
theorem dX12_held_54 : decode cX12_held 54 = .ok (.getfield 28, 3) := by decide +kernel
theorem dX12_held_57 : decode cX12_held 57 = .ok (.iload_n 1, 1) := by decide +kernel
theorem dX12_held_58 : decode cX12_held 58 = .ok (.iaload, 1) := by decide +kernel
theorem dX12_held_59 : decode cX12_held 59 = .ok (.ireturn, 1) := by decide +kernel
theorem dX12_held_60 : decode cX12_held 60 = .ok (.aload_n 0, 1) := by decide +kernel
theorem dX12_held_61 : decode cX12_held 61 = .ok (.getfield 31, 3) := by decide +kernel
theorem dX12_held_64 : decode cX12_held 64 = .ok (.iload_n 1, 1) := by decide +kernel
theorem dX12_held_65 : decode cX12_held 65 = .ok (.iaload, 1) := by decide +kernel
theorem dX12_held_66 : decode cX12_held 66 = .ok (.ireturn, 1) := by decide +kernel
theorem dX12_becomes_0 : decode cX12_becomes 0 = .ok (.iload_n 2, 1) := by decide +kernel
theorem dX12_becomes_1 : decode cX12_becomes 1 = .ok (.tableswitch 71 0 3 #[31, 41, 51, 61], 31) := by decide +kernel
theorem dX12_becomes_32 : decode cX12_becomes 32 = .ok (.aload_n 0, 1) := by decide +kernel
theorem dX12_becomes_33 : decode cX12_becomes 33 = .ok (.getfield 13, 3) := by decide +kernel
theorem dX12_becomes_36 : decode cX12_becomes 36 = .ok (.iload_n 1, 1) := by decide +kernel
theorem dX12_becomes_37 : decode cX12_becomes 37 = .ok (.iload_n 3, 1) := by decide +kernel
theorem dX12_becomes_38 : decode cX12_becomes 38 = .ok (.iastore, 1) := by decide +kernel
theorem dX12_becomes_39 : decode cX12_becomes 39 = .ok (.goto 40, 3) := by decide +kernel
theorem dX12_becomes_42 : decode cX12_becomes 42 = .ok (.aload_n 0, 1) := by decide +kernel
theorem dX12_becomes_43 : decode cX12_becomes 43 = .ok (.getfield 16, 3) := by decide +kernel
theorem dX12_becomes_46 : decode cX12_becomes 46 = .ok (.iload_n 1, 1) := by decide +kernel
theorem dX12_becomes_47 : decode cX12_becomes 47 = .ok (.iload_n 3, 1) := by decide +kernel
theorem dX12_becomes_48 : decode cX12_becomes 48 = .ok (.iastore, 1) := by decide +kernel
theorem dX12_becomes_49 : decode cX12_becomes 49 = .ok (.goto 30, 3) := by decide +kernel
theorem dX12_becomes_52 : decode cX12_becomes 52 = .ok (.aload_n 0, 1) := by decide +kernel
theorem dX12_becomes_53 : decode cX12_becomes 53 = .ok (.getfield 19, 3) := by decide +kernel
theorem dX12_becomes_56 : decode cX12_becomes 56 = .ok (.iload_n 1, 1) := by decide +kernel
theorem dX12_becomes_57 : decode cX12_becomes 57 = .ok (.iload_n 3, 1) := by decide +kernel
theorem dX12_becomes_58 : decode cX12_becomes 58 = .ok (.iastore, 1) := by decide +kernel
theorem dX12_becomes_59 : decode cX12_becomes 59 = .ok (.goto 20, 3) := by decide +kernel
theorem dX12_becomes_62 : decode cX12_becomes 62 = .ok (.aload_n 0, 1) := by decide +kernel
theorem dX12_becomes_63 : decode cX12_becomes 63 = .ok (.getfield 28, 3) := by decide +kernel
theorem dX12_becomes_66 : decode cX12_becomes 66 = .ok (.iload_n 1, 1) := by decide +kernel
theorem dX12_becomes_67 : decode cX12_becomes 67 = .ok (.iload_n 3, 1) := by decide +kernel
theorem dX12_becomes_68 : decode cX12_becomes 68 = .ok (.iastore, 1) := by decide +kernel
theorem dX12_becomes_69 : decode cX12_becomes 69 = .ok (.goto 10, 3) := by decide +kernel
theorem dX12_becomes_72 : decode cX12_becomes 72 = .ok (.aload_n 0, 1) := by decide +kernel
theorem dX12_becomes_73 : decode cX12_becomes 73 = .ok (.getfield 31, 3) := by decide +kernel
theorem dX12_becomes_76 : decode cX12_becomes 76 = .ok (.iload_n 1, 1) := by decide +kernel
theorem dX12_becomes_77 : decode cX12_becomes 77 = .ok (.iload_n 3, 1) := by decide +kernel
theorem dX12_becomes_78 : decode cX12_becomes 78 = .ok (.iastore, 1) := by decide +kernel
theorem dX12_becomes_79 : decode cX12_becomes 79 = .ok (.return_, 1) := by decide +kernel
set_option maxRecDepth 20000 in
theorem ggX12_mend_X12_in : GoodIn wsX12_mend wsX12_in := goodIn_r _ [7] rfl (by decide +kernel)
set_option maxRecDepth 20000 in
theorem gX12_mend_X12_in : GoodIn wsX12_mend (va_wsS RX12 118 yX12_in wsX12_in) := goodIn_app (goodIn_r _ [4, 5, 6] rfl (by decide +kernel)) ggX12_mend_X12_in
set_option maxRecDepth 20000 in
theorem ggX12_mend_X12_isSort : GoodIn wsX12_mend wsX12_isSort := goodIn_r _ [11, 12, 4, 5, 6, 7, 31, 32, 33, 34, 35, 36, 37, 38, 39, 40, 41, 42, 43, 44, 45, 46, 47, 48, 49, 50, 51, 52, 53, 54, 55, 56, 57, 58, 59, 60, 61, 62, 63, 64, 65, 66, 67, 68, 69, 70, 71, 72, 73, 74, 75, 76, 77, 78, 79, 80, 81, 82, 83, 84, 85, 86, 87] rfl (by decide +kernel)
set_option maxRecDepth 20000 in
theorem gX12_mend_X12_isSort : GoodIn wsX12_mend (wsV RX12 142 RX12 yX12_isSort wsX12_isSort) := goodIn_app (goodIn_r _ [8, 9, 10, 6] rfl (by decide +kernel)) ggX12_mend_X12_isSort
set_option maxRecDepth 20000 in
theorem ggX12_mend_X12_isThing : GoodIn wsX12_mend wsX12_isThing := goodIn_r _ [16, 17, 4, 5, 6, 7, 31, 32, 33, 34, 35, 36, 37, 38, 39, 40, 41, 42, 43, 44, 45, 46, 47, 48, 49, 50, 51, 52, 53, 54, 55, 56, 57, 58, 59, 60, 61, 62, 63, 64, 65, 66, 67, 68, 69, 70, 71, 72, 73, 74, 75, 76, 77, 78, 79, 80, 81, 82, 83, 84, 85, 86, 87] rfl (by decide +kernel)
set_option maxRecDepth 20000 in
theorem gX12_mend_X12_isThing : GoodIn wsX12_mend (wsV RX12 151 RX12 yX12_isThing wsX12_isThing) := goodIn_app (goodIn_r _ [13, 14, 15, 6] rfl (by decide +kernel)) ggX12_mend_X12_isThing
set_option maxRecDepth 20000 in
theorem ggX12_mend_X12_held : GoodIn wsX12_mend wsX12_held := goodIn_r _ [21, 22, 23, 24, 25, 26, 31, 32, 33, 34, 35, 36, 37, 38, 39, 40, 41, 42, 43, 44, 45, 46, 47, 48, 49, 50, 51, 52, 53, 54, 55, 56, 57, 58, 59, 60, 61, 62, 63, 64, 65, 66, 67, 68, 69, 70, 71, 72, 73, 74, 75, 76, 77, 78, 79, 80, 81, 82, 83, 84, 85, 86, 87] rfl (by decide +kernel)
set_option maxRecDepth 20000 in
theorem gX12_mend_X12_held : GoodIn wsX12_mend (wsV RX12 154 RX12 yX12_held wsX12_held) := goodIn_app (goodIn_r _ [18, 19, 20, 6] rfl (by decide +kernel)) ggX12_mend_X12_held
set_option maxRecDepth 20000 in
theorem ggX12_mend_X12_becomes : GoodIn wsX12_mend wsX12_becomes := goodIn_r _ [30, 22, 23, 24, 25, 26, 31, 32, 33, 34, 35, 36, 37, 38, 39, 40, 41, 42, 43, 44, 45, 46, 47, 48, 49, 50, 51, 52, 53, 54, 55, 56, 57, 58, 59, 60, 61, 62, 63, 64, 65, 66, 67, 68, 69, 70, 71, 72, 73, 74, 75, 76, 77, 78, 79, 80, 81, 82, 83, 84, 85, 86, 87] rfl (by decide +kernel)
set_option maxRecDepth 20000 in
theorem gX12_mend_X12_becomes : GoodIn wsX12_mend (wsV RX12 164 RX12 yX12_becomes wsX12_becomes) := goodIn_app (goodIn_r _ [27, 28, 29, 6] rfl (by decide +kernel)) ggX12_mend_X12_becomes
theorem dX12_mend_0 : decode cX12_mend 0 = .ok (.iload_n 2, 1) := by decide +kernel
theorem dX12_mend_1 : decode cX12_mend 1 = .ok (.iconst 0, 1) := by decide +kernel
theorem dX12_mend_2 : decode cX12_mend 2 = .ok (.iconst 4, 1) := by decide +kernel
theorem dX12_mend_3 : decode cX12_mend 3 = .ok (.invokestatic 118, 3) := by decide +kernel
theorem dX12_mend_6 : decode cX12_mend 6 = .ok (.ifCond .eq 27, 3) := by decide +kernel
theorem dX12_mend_9 : decode cX12_mend 9 = .ok (.iload_n 2, 1) := by decide +kernel
theorem dX12_mend_10 : decode cX12_mend 10 = .ok (.iconst 3, 1) := by decide +kernel
theorem dX12_mend_11 : decode cX12_mend 11 = .ok (.if_icmp .ge 14, 3) := by decide +kernel
theorem dX12_mend_14 : decode cX12_mend 14 = .ok (.aload_n 0, 1) := by decide +kernel
theorem dX12_mend_15 : decode cX12_mend 15 = .ok (.iload_n 1, 1) := by decide +kernel
theorem dX12_mend_16 : decode cX12_mend 16 = .ok (.invokevirtual 142, 3) := by decide +kernel
theorem dX12_mend_19 : decode cX12_mend 19 = .ok (.ifCond .ne 16, 3) := by decide +kernel
theorem dX12_mend_22 : decode cX12_mend 22 = .ok (.goto 11, 3) := by decide +kernel
theorem dX12_mend_25 : decode cX12_mend 25 = .ok (.aload_n 0, 1) := by decide +kernel
theorem dX12_mend_26 : decode cX12_mend 26 = .ok (.iload_n 1, 1) := by decide +kernel
theorem dX12_mend_27 : decode cX12_mend 27 = .ok (.invokevirtual 151, 3) := by decide +kernel
theorem dX12_mend_30 : decode cX12_mend 30 = .ok (.ifCond .ne 5, 3) := by decide +kernel
theorem dX12_mend_33 : decode cX12_mend 33 = .ok (.iconst (-1), 1) := by decide +kernel
theorem dX12_mend_34 : decode cX12_mend 34 = .ok (.ireturn, 1) := by decide +kernel
theorem dX12_mend_35 : decode cX12_mend 35 = .ok (.iload_n 2, 1) := by decide +kernel
theorem dX12_mend_36 : decode cX12_mend 36 = .ok (.ifCond .eq 8, 3) := by decide +kernel
theorem dX12_mend_39 : decode cX12_mend 39 = .ok (.iload_n 2, 1) := by decide +kernel
theorem dX12_mend_40 : decode cX12_mend 40 = .ok (.iconst 3, 1) := by decide +kernel
theorem dX12_mend_41 : decode cX12_mend 41 = .ok (.if_icmp .ne 7, 3) := by decide +kernel
theorem dX12_mend_44 : decode cX12_mend 44 = .ok (.iconst 1, 1) := by decide +kernel
theorem dX12_mend_45 : decode cX12_mend 45 = .ok (.goto 4, 3) := by decide +kernel
theorem dX12_mend_48 : decode cX12_mend 48 = .ok (.iconst 0, 1) := by decide +kernel
theorem dX12_mend_49 : decode cX12_mend 49 = .ok (.istore 4, 2) := by decide +kernel
theorem dX12_mend_51 : decode cX12_mend 51 = .ok (.iload_n 2, 1) := by decide +kernel
theorem dX12_mend_52 : decode cX12_mend 52 = .ok (.ifCond .ne 8, 3) := by decide +kernel
theorem dX12_mend_55 : decode cX12_mend 55 = .ok (.bipush 40, 2) := by decide +kernel
theorem dX12_mend_57 : decode cX12_mend 57 = .ok (.goto 16, 3) := by decide +kernel
theorem dX12_mend_60 : decode cX12_mend 60 = .ok (.iload_n 2, 1) := by decide +kernel
theorem dX12_mend_61 : decode cX12_mend 61 = .ok (.iconst 3, 1) := by decide +kernel
theorem dX12_mend_62 : decode cX12_mend 62 = .ok (.if_icmp .ne 9, 3) := by decide +kernel
theorem dX12_mend_65 : decode cX12_mend 65 = .ok (.sipush 200, 3) := by decide +kernel
theorem dX12_mend_68 : decode cX12_mend 68 = .ok (.goto 5, 3) := by decide +kernel
theorem dX12_mend_71 : decode cX12_mend 71 = .ok (.bipush 99, 2) := by decide +kernel
theorem dX12_mend_73 : decode cX12_mend 73 = .ok (.istore 5, 2) := by decide +kernel
theorem dX12_mend_75 : decode cX12_mend 75 = .ok (.iload_n 3, 1) := by decide +kernel
theorem dX12_mend_76 : decode cX12_mend 76 = .ok (.iload 4, 2) := by decide +kernel
theorem dX12_mend_78 : decode cX12_mend 78 = .ok (.iload 5, 2) := by decide +kernel
theorem dX12_mend_80 : decode cX12_mend 80 = .ok (.invokestatic 118, 3) := by decide +kernel
theorem dX12_mend_83 : decode cX12_mend 83 = .ok (.ifCond .ne 5, 3) := by decide +kernel
theorem dX12_mend_86 : decode cX12_mend 86 = .ok (.iconst (-1), 1) := by decide +kernel
theorem dX12_mend_87 : decode cX12_mend 87 = .ok (.ireturn, 1) := by decide +kernel
theorem dX12_mend_88 : decode cX12_mend 88 = .ok (.aload_n 0, 1) := by decide +kernel
theorem dX12_mend_89 : decode cX12_mend 89 = .ok (.iload_n 1, 1) := by decide +kernel
theorem dX12_mend_90 : decode cX12_mend 90 = .ok (.iload_n 2, 1) := by decide +kernel
theorem dX12_mend_91 : decode cX12_mend 91 = .ok (.invokevirtual 154, 3) := by decide +kernel
theorem dX12_mend_94 : decode cX12_mend 94 = .ok (.iload_n 3, 1) := by decide +kernel
theorem dX12_mend_95 : decode cX12_mend 95 = .ok (.if_icmp .ne 5, 3) := by decide +kernel
theorem dX12_mend_98 : decode cX12_mend 98 = .ok (.iload_n 3, 1) := by decide +kernel
theorem dX12_mend_99 : decode cX12_mend 99 = .ok (.ireturn, 1) := by decide +kernel
theorem dX12_mend_100 : decode cX12_mend 100 = .ok (.aload_n 0, 1) := by decide +kernel
theorem dX12_mend_101 : decode cX12_mend 101 = .ok (.getfield 158, 3) := by decide +kernel
theorem dX12_mend_104 : decode cX12_mend 104 = .ok (.bipush 40, 2) := by decide +kernel
theorem dX12_mend_106 : decode cX12_mend 106 = .ok (.if_icmp .ne 46, 3) := by decide +kernel
theorem dX12_mend_109 : decode cX12_mend 109 = .ok (.iconst 4, 1) := by decide +kernel
theorem dX12_mend_110 : decode cX12_mend 110 = .ok (.istore 6, 2) := by decide +kernel
theorem dX12_mend_112 : decode cX12_mend 112 = .ok (.iload 6, 2) := by decide +kernel
theorem dX12_mend_114 : decode cX12_mend 114 = .ok (.sipush 160, 3) := by decide +kernel
theorem dX12_mend_117 : decode cX12_mend 117 = .ok (.if_icmp .ge 25, 3) := by decide +kernel
theorem dX12_mend_120 : decode cX12_mend 120 = .ok (.aload_n 0, 1) := by decide +kernel
theorem dX12_mend_121 : decode cX12_mend 121 = .ok (.getfield 43, 3) := by decide +kernel
theorem dX12_mend_124 : decode cX12_mend 124 = .ok (.iload 6, 2) := by decide +kernel
theorem dX12_mend_126 : decode cX12_mend 126 = .ok (.iconst 4, 1) := by decide +kernel
theorem dX12_mend_127 : decode cX12_mend 127 = .ok (.isub, 1) := by decide +kernel
theorem dX12_mend_128 : decode cX12_mend 128 = .ok (.aload_n 0, 1) := by decide +kernel
theorem dX12_mend_129 : decode cX12_mend 129 = .ok (.getfield 43, 3) := by decide +kernel
theorem dX12_mend_132 : decode cX12_mend 132 = .ok (.iload 6, 2) := by decide +kernel
theorem dX12_mend_134 : decode cX12_mend 134 = .ok (.iaload, 1) := by decide +kernel
theorem dX12_mend_135 : decode cX12_mend 135 = .ok (.iastore, 1) := by decide +kernel
theorem dX12_mend_136 : decode cX12_mend 136 = .ok (.iinc 6 1, 3) := by decide +kernel
theorem dX12_mend_139 : decode cX12_mend 139 = .ok (.goto (-27), 3) := by decide +kernel
theorem dX12_mend_142 : decode cX12_mend 142 = .ok (.aload_n 0, 1) := by decide +kernel
theorem dX12_mend_143 : decode cX12_mend 143 = .ok (.dup, 1) := by decide +kernel
theorem dX12_mend_144 : decode cX12_mend 144 = .ok (.getfield 158, 3) := by decide +kernel
theorem dX12_mend_147 : decode cX12_mend 147 = .ok (.iconst 1, 1) := by decide +kernel
theorem dX12_mend_148 : decode cX12_mend 148 = .ok (.isub, 1) := by decide +kernel
theorem dX12_mend_149 : decode cX12_mend 149 = .ok (.putfield 158, 3) := by decide +kernel
theorem dX12_mend_152 : decode cX12_mend 152 = .ok (.aload_n 0, 1) := by decide +kernel
theorem dX12_mend_153 : decode cX12_mend 153 = .ok (.iload_n 1, 1) := by decide +kernel
theorem dX12_mend_154 : decode cX12_mend 154 = .ok (.iload_n 2, 1) := by decide +kernel
theorem dX12_mend_155 : decode cX12_mend 155 = .ok (.invokevirtual 154, 3) := by decide +kernel
theorem dX12_mend_158 : decode cX12_mend 158 = .ok (.istore 6, 2) := by decide +kernel
theorem dX12_mend_160 : decode cX12_mend 160 = .ok (.aload_n 0, 1) := by decide +kernel
theorem dX12_mend_161 : decode cX12_mend 161 = .ok (.getfield 43, 3) := by decide +kernel
theorem dX12_mend_164 : decode cX12_mend 164 = .ok (.iconst 4, 1) := by decide +kernel
theorem dX12_mend_165 : decode cX12_mend 165 = .ok (.aload_n 0, 1) := by decide +kernel
theorem dX12_mend_166 : decode cX12_mend 166 = .ok (.getfield 158, 3) := by decide +kernel
theorem dX12_mend_169 : decode cX12_mend 169 = .ok (.imul, 1) := by decide +kernel
theorem dX12_mend_170 : decode cX12_mend 170 = .ok (.iload_n 1, 1) := by decide +kernel
theorem dX12_mend_171 : decode cX12_mend 171 = .ok (.iastore, 1) := by decide +kernel
theorem dX12_mend_172 : decode cX12_mend 172 = .ok (.aload_n 0, 1) := by decide +kernel
theorem dX12_mend_173 : decode cX12_mend 173 = .ok (.getfield 43, 3) := by decide +kernel
theorem dX12_mend_176 : decode cX12_mend 176 = .ok (.iconst 4, 1) := by decide +kernel
theorem dX12_mend_177 : decode cX12_mend 177 = .ok (.aload_n 0, 1) := by decide +kernel
theorem dX12_mend_178 : decode cX12_mend 178 = .ok (.getfield 158, 3) := by decide +kernel
theorem dX12_mend_181 : decode cX12_mend 181 = .ok (.imul, 1) := by decide +kernel
theorem dX12_mend_182 : decode cX12_mend 182 = .ok (.iconst 1, 1) := by decide +kernel
theorem dX12_mend_183 : decode cX12_mend 183 = .ok (.iadd, 1) := by decide +kernel
theorem dX12_mend_184 : decode cX12_mend 184 = .ok (.iload_n 2, 1) := by decide +kernel
theorem dX12_mend_185 : decode cX12_mend 185 = .ok (.iastore, 1) := by decide +kernel
theorem dX12_mend_186 : decode cX12_mend 186 = .ok (.aload_n 0, 1) := by decide +kernel
theorem dX12_mend_187 : decode cX12_mend 187 = .ok (.getfield 43, 3) := by decide +kernel
theorem dX12_mend_190 : decode cX12_mend 190 = .ok (.iconst 4, 1) := by decide +kernel
theorem dX12_mend_191 : decode cX12_mend 191 = .ok (.aload_n 0, 1) := by decide +kernel
theorem dX12_mend_192 : decode cX12_mend 192 = .ok (.getfield 158, 3) := by decide +kernel
theorem dX12_mend_195 : decode cX12_mend 195 = .ok (.imul, 1) := by decide +kernel
theorem dX12_mend_196 : decode cX12_mend 196 = .ok (.iconst 2, 1) := by decide +kernel
theorem dX12_mend_197 : decode cX12_mend 197 = .ok (.iadd, 1) := by decide +kernel
theorem dX12_mend_198 : decode cX12_mend 198 = .ok (.iload 6, 2) := by decide +kernel
theorem dX12_mend_200 : decode cX12_mend 200 = .ok (.iastore, 1) := by decide +kernel
theorem dX12_mend_201 : decode cX12_mend 201 = .ok (.aload_n 0, 1) := by decide +kernel
theorem dX12_mend_202 : decode cX12_mend 202 = .ok (.getfield 43, 3) := by decide +kernel
theorem dX12_mend_205 : decode cX12_mend 205 = .ok (.iconst 4, 1) := by decide +kernel
theorem dX12_mend_206 : decode cX12_mend 206 = .ok (.aload_n 0, 1) := by decide +kernel
theorem dX12_mend_207 : decode cX12_mend 207 = .ok (.getfield 158, 3) := by decide +kernel
theorem dX12_mend_210 : decode cX12_mend 210 = .ok (.imul, 1) := by decide +kernel
theorem dX12_mend_211 : decode cX12_mend 211 = .ok (.iconst 3, 1) := by decide +kernel
theorem dX12_mend_212 : decode cX12_mend 212 = .ok (.iadd, 1) := by decide +kernel
theorem dX12_mend_213 : decode cX12_mend 213 = .ok (.iload_n 3, 1) := by decide +kernel
theorem dX12_mend_214 : decode cX12_mend 214 = .ok (.iastore, 1) := by decide +kernel
theorem dX12_mend_215 : decode cX12_mend 215 = .ok (.aload_n 0, 1) := by decide +kernel
theorem dX12_mend_216 : decode cX12_mend 216 = .ok (.dup, 1) := by decide +kernel
theorem dX12_mend_217 : decode cX12_mend 217 = .ok (.getfield 158, 3) := by decide +kernel
theorem dX12_mend_220 : decode cX12_mend 220 = .ok (.iconst 1, 1) := by decide +kernel
theorem dX12_mend_221 : decode cX12_mend 221 = .ok (.iadd, 1) := by decide +kernel
theorem dX12_mend_222 : decode cX12_mend 222 = .ok (.putfield 158, 3) := by decide +kernel
theorem dX12_mend_225 : decode cX12_mend 225 = .ok (.aload_n 0, 1) := by decide +kernel
theorem dX12_mend_226 : decode cX12_mend 226 = .ok (.iconst 0, 1) := by decide +kernel
theorem dX12_mend_227 : decode cX12_mend 227 = .ok (.putfield 161, 3) := by decide +kernel
theorem dX12_mend_230 : decode cX12_mend 230 = .ok (.aload_n 0, 1) := by decide +kernel
theorem dX12_mend_231 : decode cX12_mend 231 = .ok (.iload_n 1, 1) := by decide +kernel
theorem dX12_mend_232 : decode cX12_mend 232 = .ok (.iload_n 2, 1) := by decide +kernel
theorem dX12_mend_233 : decode cX12_mend 233 = .ok (.iload_n 3, 1) := by decide +kernel
theorem dX12_mend_234 : decode cX12_mend 234 = .ok (.invokevirtual 164, 3) := by decide +kernel
theorem dX12_mend_237 : decode cX12_mend 237 = .ok (.iload 6, 2) := by decide +kernel
theorem dX12_mend_239 : decode cX12_mend 239 = .ok (.ireturn, 1) := by decide +kernel
set_option maxRecDepth 20000 in
theorem ggX12_undo_X12_becomes : GoodIn wsX12_undo wsX12_becomes := goodIn_r _ [8, 9, 10, 11, 12, 13, 14, 15, 16, 17, 18, 19, 20, 21, 22, 23, 24, 25, 26, 27, 28, 29, 30, 31, 32, 33, 34, 35, 36, 37, 38, 39, 40, 41, 42, 43, 44, 45, 46, 47, 48, 49, 50, 51, 52, 53, 54, 55, 56, 57, 58, 59, 60, 61, 62, 63, 64, 65, 66, 67, 68, 69, 70] rfl (by decide +kernel)
set_option maxRecDepth 20000 in
theorem gX12_undo_X12_becomes : GoodIn wsX12_undo (wsV RX12 164 RX12 yX12_becomes wsX12_becomes) := goodIn_app (goodIn_r _ [4, 5, 6, 7] rfl (by decide +kernel)) ggX12_undo_X12_becomes
theorem dX12_undo_0 : decode cX12_undo 0 = .ok (.aload_n 0, 1) := by decide +kernel
theorem dX12_undo_1 : decode cX12_undo 1 = .ok (.getfield 158, 3) := by decide +kernel
theorem dX12_undo_4 : decode cX12_undo 4 = .ok (.ifCond .ne 6, 3) := by decide +kernel
theorem dX12_undo_7 : decode cX12_undo 7 = .ok (.bipush (-5), 2) := by decide +kernel
theorem dX12_undo_9 : decode cX12_undo 9 = .ok (.ireturn, 1) := by decide +kernel
theorem dX12_undo_10 : decode cX12_undo 10 = .ok (.aload_n 0, 1) := by decide +kernel
theorem dX12_undo_11 : decode cX12_undo 11 = .ok (.dup, 1) := by decide +kernel
theorem dX12_undo_12 : decode cX12_undo 12 = .ok (.getfield 158, 3) := by decide +kernel
theorem dX12_undo_15 : decode cX12_undo 15 = .ok (.iconst 1, 1) := by decide +kernel
theorem dX12_undo_16 : decode cX12_undo 16 = .ok (.isub, 1) := by decide +kernel
theorem dX12_undo_17 : decode cX12_undo 17 = .ok (.putfield 158, 3) := by decide +kernel
theorem dX12_undo_20 : decode cX12_undo 20 = .ok (.aload_n 0, 1) := by decide +kernel
theorem dX12_undo_21 : decode cX12_undo 21 = .ok (.dup, 1) := by decide +kernel
theorem dX12_undo_22 : decode cX12_undo 22 = .ok (.getfield 161, 3) := by decide +kernel
theorem dX12_undo_25 : decode cX12_undo 25 = .ok (.iconst 1, 1) := by decide +kernel
theorem dX12_undo_26 : decode cX12_undo 26 = .ok (.iadd, 1) := by decide +kernel
theorem dX12_undo_27 : decode cX12_undo 27 = .ok (.putfield 161, 3) := by decide +kernel
theorem dX12_undo_30 : decode cX12_undo 30 = .ok (.aload_n 0, 1) := by decide +kernel
theorem dX12_undo_31 : decode cX12_undo 31 = .ok (.aload_n 0, 1) := by decide +kernel
theorem dX12_undo_32 : decode cX12_undo 32 = .ok (.getfield 43, 3) := by decide +kernel
theorem dX12_undo_35 : decode cX12_undo 35 = .ok (.iconst 4, 1) := by decide +kernel
theorem dX12_undo_36 : decode cX12_undo 36 = .ok (.aload_n 0, 1) := by decide +kernel
theorem dX12_undo_37 : decode cX12_undo 37 = .ok (.getfield 158, 3) := by decide +kernel
theorem dX12_undo_40 : decode cX12_undo 40 = .ok (.imul, 1) := by decide +kernel
theorem dX12_undo_41 : decode cX12_undo 41 = .ok (.iaload, 1) := by decide +kernel
theorem dX12_undo_42 : decode cX12_undo 42 = .ok (.aload_n 0, 1) := by decide +kernel
theorem dX12_undo_43 : decode cX12_undo 43 = .ok (.getfield 43, 3) := by decide +kernel
theorem dX12_undo_46 : decode cX12_undo 46 = .ok (.iconst 4, 1) := by decide +kernel
theorem dX12_undo_47 : decode cX12_undo 47 = .ok (.aload_n 0, 1) := by decide +kernel
theorem dX12_undo_48 : decode cX12_undo 48 = .ok (.getfield 158, 3) := by decide +kernel
theorem dX12_undo_51 : decode cX12_undo 51 = .ok (.imul, 1) := by decide +kernel
theorem dX12_undo_52 : decode cX12_undo 52 = .ok (.iconst 1, 1) := by decide +kernel
theorem dX12_undo_53 : decode cX12_undo 53 = .ok (.iadd, 1) := by decide +kernel
theorem dX12_undo_54 : decode cX12_undo 54 = .ok (.iaload, 1) := by decide +kernel
theorem dX12_undo_55 : decode cX12_undo 55 = .ok (.aload_n 0, 1) := by decide +kernel
theorem dX12_undo_56 : decode cX12_undo 56 = .ok (.getfield 43, 3) := by decide +kernel
theorem dX12_undo_59 : decode cX12_undo 59 = .ok (.iconst 4, 1) := by decide +kernel
theorem dX12_undo_60 : decode cX12_undo 60 = .ok (.aload_n 0, 1) := by decide +kernel
theorem dX12_undo_61 : decode cX12_undo 61 = .ok (.getfield 158, 3) := by decide +kernel
theorem dX12_undo_64 : decode cX12_undo 64 = .ok (.imul, 1) := by decide +kernel
theorem dX12_undo_65 : decode cX12_undo 65 = .ok (.iconst 2, 1) := by decide +kernel
theorem dX12_undo_66 : decode cX12_undo 66 = .ok (.iadd, 1) := by decide +kernel
theorem dX12_undo_67 : decode cX12_undo 67 = .ok (.iaload, 1) := by decide +kernel
theorem dX12_undo_68 : decode cX12_undo 68 = .ok (.invokevirtual 164, 3) := by decide +kernel
theorem dX12_undo_71 : decode cX12_undo 71 = .ok (.aload_n 0, 1) := by decide +kernel
theorem dX12_undo_72 : decode cX12_undo 72 = .ok (.getfield 158, 3) := by decide +kernel
theorem dX12_undo_75 : decode cX12_undo 75 = .ok (.ireturn, 1) := by decide +kernel
set_option maxRecDepth 20000 in
theorem ggX12_redo_X12_becomes : GoodIn wsX12_redo wsX12_becomes := goodIn_r _ [8, 9, 10, 11, 12, 13, 14, 15, 16, 17, 18, 19, 20, 21, 22, 23, 24, 25, 26, 27, 28, 29, 30, 31, 32, 33, 34, 35, 36, 37, 38, 39, 40, 41, 42, 43, 44, 45, 46, 47, 48, 49, 50, 51, 52, 53, 54, 55, 56, 57, 58, 59, 60, 61, 62, 63, 64, 65, 66, 67, 68, 69, 70] rfl (by decide +kernel)
set_option maxRecDepth 20000 in
theorem gX12_redo_X12_becomes : GoodIn wsX12_redo (wsV RX12 164 RX12 yX12_becomes wsX12_becomes) := goodIn_app (goodIn_r _ [4, 5, 6, 7] rfl (by decide +kernel)) ggX12_redo_X12_becomes
theorem dX12_redo_0 : decode cX12_redo 0 = .ok (.aload_n 0, 1) := by decide +kernel
theorem dX12_redo_1 : decode cX12_redo 1 = .ok (.getfield 161, 3) := by decide +kernel
theorem dX12_redo_4 : decode cX12_redo 4 = .ok (.ifCond .ne 6, 3) := by decide +kernel
theorem dX12_redo_7 : decode cX12_redo 7 = .ok (.bipush (-5), 2) := by decide +kernel
theorem dX12_redo_9 : decode cX12_redo 9 = .ok (.ireturn, 1) := by decide +kernel
theorem dX12_redo_10 : decode cX12_redo 10 = .ok (.aload_n 0, 1) := by decide +kernel
theorem dX12_redo_11 : decode cX12_redo 11 = .ok (.aload_n 0, 1) := by decide +kernel
theorem dX12_redo_12 : decode cX12_redo 12 = .ok (.getfield 43, 3) := by decide +kernel
theorem dX12_redo_15 : decode cX12_redo 15 = .ok (.iconst 4, 1) := by decide +kernel
theorem dX12_redo_16 : decode cX12_redo 16 = .ok (.aload_n 0, 1) := by decide +kernel
theorem dX12_redo_17 : decode cX12_redo 17 = .ok (.getfield 158, 3) := by decide +kernel
theorem dX12_redo_20 : decode cX12_redo 20 = .ok (.imul, 1) := by decide +kernel
theorem dX12_redo_21 : decode cX12_redo 21 = .ok (.iaload, 1) := by decide +kernel
theorem dX12_redo_22 : decode cX12_redo 22 = .ok (.aload_n 0, 1) := by decide +kernel
theorem dX12_redo_23 : decode cX12_redo 23 = .ok (.getfield 43, 3) := by decide +kernel
theorem dX12_redo_26 : decode cX12_redo 26 = .ok (.iconst 4, 1) := by decide +kernel
theorem dX12_redo_27 : decode cX12_redo 27 = .ok (.aload_n 0, 1) := by decide +kernel
theorem dX12_redo_28 : decode cX12_redo 28 = .ok (.getfield 158, 3) := by decide +kernel
theorem dX12_redo_31 : decode cX12_redo 31 = .ok (.imul, 1) := by decide +kernel
theorem dX12_redo_32 : decode cX12_redo 32 = .ok (.iconst 1, 1) := by decide +kernel
theorem dX12_redo_33 : decode cX12_redo 33 = .ok (.iadd, 1) := by decide +kernel
theorem dX12_redo_34 : decode cX12_redo 34 = .ok (.iaload, 1) := by decide +kernel
theorem dX12_redo_35 : decode cX12_redo 35 = .ok (.aload_n 0, 1) := by decide +kernel
theorem dX12_redo_36 : decode cX12_redo 36 = .ok (.getfield 43, 3) := by decide +kernel
theorem dX12_redo_39 : decode cX12_redo 39 = .ok (.iconst 4, 1) := by decide +kernel
theorem dX12_redo_40 : decode cX12_redo 40 = .ok (.aload_n 0, 1) := by decide +kernel
theorem dX12_redo_41 : decode cX12_redo 41 = .ok (.getfield 158, 3) := by decide +kernel
theorem dX12_redo_44 : decode cX12_redo 44 = .ok (.imul, 1) := by decide +kernel
theorem dX12_redo_45 : decode cX12_redo 45 = .ok (.iconst 3, 1) := by decide +kernel
theorem dX12_redo_46 : decode cX12_redo 46 = .ok (.iadd, 1) := by decide +kernel
theorem dX12_redo_47 : decode cX12_redo 47 = .ok (.iaload, 1) := by decide +kernel
theorem dX12_redo_48 : decode cX12_redo 48 = .ok (.invokevirtual 164, 3) := by decide +kernel
theorem dX12_redo_51 : decode cX12_redo 51 = .ok (.aload_n 0, 1) := by decide +kernel
theorem dX12_redo_52 : decode cX12_redo 52 = .ok (.dup, 1) := by decide +kernel
theorem dX12_redo_53 : decode cX12_redo 53 = .ok (.getfield 158, 3) := by decide +kernel
theorem dX12_redo_56 : decode cX12_redo 56 = .ok (.iconst 1, 1) := by decide +kernel
theorem dX12_redo_57 : decode cX12_redo 57 = .ok (.iadd, 1) := by decide +kernel
theorem dX12_redo_58 : decode cX12_redo 58 = .ok (.putfield 158, 3) := by decide +kernel
theorem dX12_redo_61 : decode cX12_redo 61 = .ok (.aload_n 0, 1) := by decide +kernel
theorem dX12_redo_62 : decode cX12_redo 62 = .ok (.dup, 1) := by decide +kernel
theorem dX12_redo_63 : decode cX12_redo 63 = .ok (.getfield 161, 3) := by decide +kernel
theorem dX12_redo_66 : decode cX12_redo 66 = .ok (.iconst 1, 1) := by decide +kernel
theorem dX12_redo_67 : decode cX12_redo 67 = .ok (.isub, 1) := by decide +kernel
theorem dX12_redo_68 : decode cX12_redo 68 = .ok (.putfield 161, 3) := by decide +kernel
theorem dX12_redo_71 : decode cX12_redo 71 = .ok (.aload_n 0, 1) := by decide +kernel
theorem dX12_redo_72 : decode cX12_redo 72 = .ok (.getfield 161, 3) := by decide +kernel
theorem dX12_redo_75 : decode cX12_redo 75 = .ok (.ireturn, 1) := by decide +kernel
theorem dX12_purseOf_0 : decode cX12_purseOf 0 = .ok (.iconst 0, 1) := by decide +kernel
theorem dX12_purseOf_1 : decode cX12_purseOf 1 = .ok (.istore_n 2, 1) := by decide +kernel
theorem dX12_purseOf_2 : decode cX12_purseOf 2 = .ok (.iconst 0, 1) := by decide +kernel
theorem dX12_purseOf_3 : decode cX12_purseOf 3 = .ok (.istore_n 3, 1) := by decide +kernel
theorem dX12_purseOf_4 : decode cX12_purseOf 4 = .ok (.iload_n 3, 1) := by decide +kernel
theorem dX12_purseOf_5 : decode cX12_purseOf 5 = .ok (.aload_n 0, 1) := by decide +kernel
theorem dX12_purseOf_6 : decode cX12_purseOf 6 = .ok (.getfield 114, 3) := by decide +kernel
theorem dX12_purseOf_9 : decode cX12_purseOf 9 = .ok (.if_icmp .ge 39, 3) := by decide +kernel
theorem dX12_purseOf_12 : decode cX12_purseOf 12 = .ok (.iload_n 2, 1) := by decide +kernel
theorem dX12_purseOf_13 : decode cX12_purseOf 13 = .ok (.aload_n 0, 1) := by decide +kernel
theorem dX12_purseOf_14 : decode cX12_purseOf 14 = .ok (.getfield 7, 3) := by decide +kernel
theorem dX12_purseOf_17 : decode cX12_purseOf 17 = .ok (.iload_n 3, 1) := by decide +kernel
theorem dX12_purseOf_18 : decode cX12_purseOf 18 = .ok (.iaload, 1) := by decide +kernel
theorem dX12_purseOf_19 : decode cX12_purseOf 19 = .ok (.iload_n 1, 1) := by decide +kernel
theorem dX12_purseOf_20 : decode cX12_purseOf 20 = .ok (.if_icmp .ne 19, 3) := by decide +kernel
theorem dX12_purseOf_23 : decode cX12_purseOf 23 = .ok (.aload_n 0, 1) := by decide +kernel
theorem dX12_purseOf_24 : decode cX12_purseOf 24 = .ok (.getfield 22, 3) := by decide +kernel
theorem dX12_purseOf_27 : decode cX12_purseOf 27 = .ok (.iload_n 3, 1) := by decide +kernel
theorem dX12_purseOf_28 : decode cX12_purseOf 28 = .ok (.iaload, 1) := by decide +kernel
theorem dX12_purseOf_29 : decode cX12_purseOf 29 = .ok (.aload_n 0, 1) := by decide +kernel
theorem dX12_purseOf_30 : decode cX12_purseOf 30 = .ok (.getfield 13, 3) := by decide +kernel
theorem dX12_purseOf_33 : decode cX12_purseOf 33 = .ok (.iload_n 3, 1) := by decide +kernel
theorem dX12_purseOf_34 : decode cX12_purseOf 34 = .ok (.iaload, 1) := by decide +kernel
theorem dX12_purseOf_35 : decode cX12_purseOf 35 = .ok (.imul, 1) := by decide +kernel
theorem dX12_purseOf_36 : decode cX12_purseOf 36 = .ok (.goto 4, 3) := by decide +kernel
theorem dX12_purseOf_39 : decode cX12_purseOf 39 = .ok (.iconst 0, 1) := by decide +kernel
theorem dX12_purseOf_40 : decode cX12_purseOf 40 = .ok (.iadd, 1) := by decide +kernel
theorem dX12_purseOf_41 : decode cX12_purseOf 41 = .ok (.istore_n 2, 1) := by decide +kernel
theorem dX12_purseOf_42 : decode cX12_purseOf 42 = .ok (.iinc 3 1, 3) := by decide +kernel
theorem dX12_purseOf_45 : decode cX12_purseOf 45 = .ok (.goto (-41), 3) := by decide +kernel
theorem dX12_purseOf_48 : decode cX12_purseOf 48 = .ok (.iload_n 2, 1) := by decide +kernel
theorem dX12_purseOf_49 : decode cX12_purseOf 49 = .ok (.ireturn, 1) := by decide +kernel
set_option maxRecDepth 20000 in
theorem ggX12_of_X12_in : GoodIn wsX12_of wsX12_in := goodIn_r _ [11] rfl (by decide +kernel)
set_option maxRecDepth 20000 in
theorem gX12_of_X12_in : GoodIn wsX12_of (va_wsS RX12 118 yX12_in wsX12_in) := goodIn_app (goodIn_r _ [8, 9, 10] rfl (by decide +kernel)) ggX12_of_X12_in
set_option maxRecDepth 20000 in
theorem ggX12_of_X12_isSort : GoodIn wsX12_of wsX12_isSort := goodIn_r _ [15, 16, 8, 9, 10, 11, 36, 37, 38, 39, 40, 41, 42, 43, 44, 45, 46, 47, 48, 49, 50, 51, 52, 53, 54, 55, 56, 57, 58, 59, 60, 61, 62, 63, 64, 65, 66, 67, 68, 69, 70, 71, 72, 73, 74, 75, 76, 77, 78, 79, 80, 81, 82, 83, 84, 85, 86, 87, 88, 89, 90, 91, 92] rfl (by decide +kernel)
set_option maxRecDepth 20000 in
theorem gX12_of_X12_isSort : GoodIn wsX12_of (wsV RX12 142 RX12 yX12_isSort wsX12_isSort) := goodIn_app (goodIn_r _ [12, 13, 14, 10] rfl (by decide +kernel)) ggX12_of_X12_isSort
set_option maxRecDepth 20000 in
theorem ggX12_of_X12_held : GoodIn wsX12_of wsX12_held := goodIn_r _ [20, 21, 22, 23, 4, 5, 36, 37, 38, 39, 40, 41, 42, 43, 44, 45, 46, 47, 48, 49, 50, 51, 52, 53, 54, 55, 56, 57, 58, 59, 60, 61, 62, 63, 64, 65, 66, 67, 68, 69, 70, 71, 72, 73, 74, 75, 76, 77, 78, 79, 80, 81, 82, 83, 84, 85, 86, 87, 88, 89, 90, 91, 92] rfl (by decide +kernel)
set_option maxRecDepth 20000 in
theorem gX12_of_X12_held : GoodIn wsX12_of (wsV RX12 154 RX12 yX12_held wsX12_held) := goodIn_app (goodIn_r _ [17, 18, 19, 10] rfl (by decide +kernel)) ggX12_of_X12_held
set_option maxRecDepth 20000 in
theorem ggX12_of_X12_isThing : GoodIn wsX12_of wsX12_isThing := goodIn_r _ [27, 28, 8, 9, 10, 11, 36, 37, 38, 39, 40, 41, 42, 43, 44, 45, 46, 47, 48, 49, 50, 51, 52, 53, 54, 55, 56, 57, 58, 59, 60, 61, 62, 63, 64, 65, 66, 67, 68, 69, 70, 71, 72, 73, 74, 75, 76, 77, 78, 79, 80, 81, 82, 83, 84, 85, 86, 87, 88, 89, 90, 91, 92] rfl (by decide +kernel)
set_option maxRecDepth 20000 in
theorem gX12_of_X12_isThing : GoodIn wsX12_of (wsV RX12 151 RX12 yX12_isThing wsX12_isThing) := goodIn_app (goodIn_r _ [24, 25, 26, 10] rfl (by decide +kernel)) ggX12_of_X12_isThing
set_option maxRecDepth 20000 in
theorem ggX12_of_X12_isLand : GoodIn wsX12_of wsX12_isLand := goodIn_r _ [31, 8, 9, 10, 11] rfl (by decide +kernel)
set_option maxRecDepth 20000 in
theorem gX12_of_X12_isLand : GoodIn wsX12_of (va_wsS RX12 125 yX12_isLand wsX12_isLand) := goodIn_app (goodIn_r _ [29, 30, 10] rfl (by decide +kernel)) ggX12_of_X12_isLand
set_option maxRecDepth 20000 in
theorem ggX12_of_X12_purseOf : GoodIn wsX12_of wsX12_purseOf := goodIn_r _ [35, 16, 1, 2, 21, 36, 37, 38, 39, 40, 41, 42, 43, 44, 45, 46, 47, 48, 49, 50, 51, 52, 53, 54, 55, 56, 57, 58, 59, 60, 61, 62, 63, 64, 65, 66, 67, 68, 69, 70, 71, 72, 73, 74, 75, 76, 77, 78, 79, 80, 81, 82, 83, 84, 85, 86, 87, 88, 89, 90, 91, 92] rfl (by decide +kernel)
set_option maxRecDepth 20000 in
theorem gX12_of_X12_purseOf : GoodIn wsX12_of (wsV RX12 168 RX12 yX12_purseOf wsX12_purseOf) := goodIn_app (goodIn_r _ [32, 33, 34, 10] rfl (by decide +kernel)) ggX12_of_X12_purseOf
theorem dX12_of_0 : decode cX12_of 0 = .ok (.iload_n 2, 1) := by decide +kernel
theorem dX12_of_1 : decode cX12_of 1 = .ok (.iconst 0, 1) := by decide +kernel
theorem dX12_of_2 : decode cX12_of 2 = .ok (.iconst 4, 1) := by decide +kernel
theorem dX12_of_3 : decode cX12_of 3 = .ok (.invokestatic 118, 3) := by decide +kernel
theorem dX12_of_6 : decode cX12_of 6 = .ok (.ifCond .eq 51, 3) := by decide +kernel
theorem dX12_of_9 : decode cX12_of 9 = .ok (.aload_n 0, 1) := by decide +kernel
theorem dX12_of_10 : decode cX12_of 10 = .ok (.iload_n 1, 1) := by decide +kernel
theorem dX12_of_11 : decode cX12_of 11 = .ok (.invokevirtual 142, 3) := by decide +kernel
theorem dX12_of_14 : decode cX12_of 14 = .ok (.ifCond .ne 7, 3) := by decide +kernel
theorem dX12_of_17 : decode cX12_of 17 = .ok (.iconst (-1), 1) := by decide +kernel
theorem dX12_of_18 : decode cX12_of 18 = .ok (.goto 38, 3) := by decide +kernel
theorem dX12_of_21 : decode cX12_of 21 = .ok (.iload_n 2, 1) := by decide +kernel
theorem dX12_of_22 : decode cX12_of 22 = .ok (.ifCond .ne 12, 3) := by decide +kernel
theorem dX12_of_25 : decode cX12_of 25 = .ok (.aload_n 0, 1) := by decide +kernel
theorem dX12_of_26 : decode cX12_of 26 = .ok (.getfield 7, 3) := by decide +kernel
theorem dX12_of_29 : decode cX12_of 29 = .ok (.iload_n 1, 1) := by decide +kernel
theorem dX12_of_30 : decode cX12_of 30 = .ok (.iaload, 1) := by decide +kernel
theorem dX12_of_31 : decode cX12_of 31 = .ok (.goto 25, 3) := by decide +kernel
theorem dX12_of_34 : decode cX12_of 34 = .ok (.iload_n 2, 1) := by decide +kernel
theorem dX12_of_35 : decode cX12_of 35 = .ok (.iconst 4, 1) := by decide +kernel
theorem dX12_of_36 : decode cX12_of 36 = .ok (.if_icmp .ne 12, 3) := by decide +kernel
theorem dX12_of_39 : decode cX12_of 39 = .ok (.aload_n 0, 1) := by decide +kernel
theorem dX12_of_40 : decode cX12_of 40 = .ok (.getfield 22, 3) := by decide +kernel
theorem dX12_of_43 : decode cX12_of 43 = .ok (.iload_n 1, 1) := by decide +kernel
theorem dX12_of_44 : decode cX12_of 44 = .ok (.iaload, 1) := by decide +kernel
theorem dX12_of_45 : decode cX12_of 45 = .ok (.goto 11, 3) := by decide +kernel
theorem dX12_of_48 : decode cX12_of 48 = .ok (.aload_n 0, 1) := by decide +kernel
theorem dX12_of_49 : decode cX12_of 49 = .ok (.iload_n 1, 1) := by decide +kernel
theorem dX12_of_50 : decode cX12_of 50 = .ok (.iload_n 2, 1) := by decide +kernel
theorem dX12_of_51 : decode cX12_of 51 = .ok (.iconst 1, 1) := by decide +kernel
theorem dX12_of_52 : decode cX12_of 52 = .ok (.isub, 1) := by decide +kernel
theorem dX12_of_53 : decode cX12_of 53 = .ok (.invokevirtual 154, 3) := by decide +kernel
theorem dX12_of_56 : decode cX12_of 56 = .ok (.ireturn, 1) := by decide +kernel
theorem dX12_of_57 : decode cX12_of 57 = .ok (.iload_n 2, 1) := by decide +kernel
theorem dX12_of_58 : decode cX12_of 58 = .ok (.bipush 10, 2) := by decide +kernel
theorem dX12_of_60 : decode cX12_of 60 = .ok (.bipush 13, 2) := by decide +kernel
theorem dX12_of_62 : decode cX12_of 62 = .ok (.invokestatic 118, 3) := by decide +kernel
theorem dX12_of_65 : decode cX12_of 65 = .ok (.ifCond .eq 67, 3) := by decide +kernel
theorem dX12_of_68 : decode cX12_of 68 = .ok (.aload_n 0, 1) := by decide +kernel
theorem dX12_of_69 : decode cX12_of 69 = .ok (.iload_n 1, 1) := by decide +kernel
theorem dX12_of_70 : decode cX12_of 70 = .ok (.invokevirtual 151, 3) := by decide +kernel
theorem dX12_of_73 : decode cX12_of 73 = .ok (.ifCond .ne 7, 3) := by decide +kernel
theorem dX12_of_76 : decode cX12_of 76 = .ok (.iconst (-1), 1) := by decide +kernel
theorem dX12_of_77 : decode cX12_of 77 = .ok (.goto 54, 3) := by decide +kernel
theorem dX12_of_80 : decode cX12_of 80 = .ok (.iload_n 2, 1) := by decide +kernel
theorem dX12_of_81 : decode cX12_of 81 = .ok (.bipush 10, 2) := by decide +kernel
theorem dX12_of_83 : decode cX12_of 83 = .ok (.if_icmp .ne 12, 3) := by decide +kernel
theorem dX12_of_86 : decode cX12_of 86 = .ok (.aload_n 0, 1) := by decide +kernel
theorem dX12_of_87 : decode cX12_of 87 = .ok (.getfield 25, 3) := by decide +kernel
theorem dX12_of_90 : decode cX12_of 90 = .ok (.iload_n 1, 1) := by decide +kernel
theorem dX12_of_91 : decode cX12_of 91 = .ok (.iaload, 1) := by decide +kernel
theorem dX12_of_92 : decode cX12_of 92 = .ok (.goto 39, 3) := by decide +kernel
theorem dX12_of_95 : decode cX12_of 95 = .ok (.iload_n 2, 1) := by decide +kernel
theorem dX12_of_96 : decode cX12_of 96 = .ok (.bipush 11, 2) := by decide +kernel
theorem dX12_of_98 : decode cX12_of 98 = .ok (.if_icmp .ne 12, 3) := by decide +kernel
theorem dX12_of_101 : decode cX12_of 101 = .ok (.aload_n 0, 1) := by decide +kernel
theorem dX12_of_102 : decode cX12_of 102 = .ok (.getfield 28, 3) := by decide +kernel
theorem dX12_of_105 : decode cX12_of 105 = .ok (.iload_n 1, 1) := by decide +kernel
theorem dX12_of_106 : decode cX12_of 106 = .ok (.iaload, 1) := by decide +kernel
theorem dX12_of_107 : decode cX12_of 107 = .ok (.goto 24, 3) := by decide +kernel
theorem dX12_of_110 : decode cX12_of 110 = .ok (.iload_n 2, 1) := by decide +kernel
theorem dX12_of_111 : decode cX12_of 111 = .ok (.bipush 12, 2) := by decide +kernel
theorem dX12_of_113 : decode cX12_of 113 = .ok (.if_icmp .ne 12, 3) := by decide +kernel
theorem dX12_of_116 : decode cX12_of 116 = .ok (.aload_n 0, 1) := by decide +kernel
theorem dX12_of_117 : decode cX12_of 117 = .ok (.getfield 31, 3) := by decide +kernel
theorem dX12_of_120 : decode cX12_of 120 = .ok (.iload_n 1, 1) := by decide +kernel
theorem dX12_of_121 : decode cX12_of 121 = .ok (.iaload, 1) := by decide +kernel
theorem dX12_of_122 : decode cX12_of 122 = .ok (.goto 9, 3) := by decide +kernel
theorem dX12_of_125 : decode cX12_of 125 = .ok (.aload_n 0, 1) := by decide +kernel
theorem dX12_of_126 : decode cX12_of 126 = .ok (.getfield 34, 3) := by decide +kernel
theorem dX12_of_129 : decode cX12_of 129 = .ok (.iload_n 1, 1) := by decide +kernel
theorem dX12_of_130 : decode cX12_of 130 = .ok (.iaload, 1) := by decide +kernel
theorem dX12_of_131 : decode cX12_of 131 = .ok (.ireturn, 1) := by decide +kernel
theorem dX12_of_132 : decode cX12_of 132 = .ok (.iload_n 2, 1) := by decide +kernel
theorem dX12_of_133 : decode cX12_of 133 = .ok (.bipush 20, 2) := by decide +kernel
theorem dX12_of_135 : decode cX12_of 135 = .ok (.bipush 21, 2) := by decide +kernel
theorem dX12_of_137 : decode cX12_of 137 = .ok (.invokestatic 118, 3) := by decide +kernel
theorem dX12_of_140 : decode cX12_of 140 = .ok (.ifCond .eq 10, 3) := by decide +kernel
theorem dX12_of_143 : decode cX12_of 143 = .ok (.iload_n 1, 1) := by decide +kernel
theorem dX12_of_144 : decode cX12_of 144 = .ok (.invokestatic 125, 3) := by decide +kernel
theorem dX12_of_147 : decode cX12_of 147 = .ok (.ifCond .ne 7, 3) := by decide +kernel
theorem dX12_of_150 : decode cX12_of 150 = .ok (.iconst (-1), 1) := by decide +kernel
theorem dX12_of_151 : decode cX12_of 151 = .ok (.goto 23, 3) := by decide +kernel
theorem dX12_of_154 : decode cX12_of 154 = .ok (.iload_n 2, 1) := by decide +kernel
theorem dX12_of_155 : decode cX12_of 155 = .ok (.bipush 20, 2) := by decide +kernel
theorem dX12_of_157 : decode cX12_of 157 = .ok (.if_icmp .ne 12, 3) := by decide +kernel
theorem dX12_of_160 : decode cX12_of 160 = .ok (.aload_n 0, 1) := by decide +kernel
theorem dX12_of_161 : decode cX12_of 161 = .ok (.getfield 37, 3) := by decide +kernel
theorem dX12_of_164 : decode cX12_of 164 = .ok (.iload_n 1, 1) := by decide +kernel
theorem dX12_of_165 : decode cX12_of 165 = .ok (.iaload, 1) := by decide +kernel
theorem dX12_of_166 : decode cX12_of 166 = .ok (.goto 8, 3) := by decide +kernel
theorem dX12_of_169 : decode cX12_of 169 = .ok (.aload_n 0, 1) := by decide +kernel
theorem dX12_of_170 : decode cX12_of 170 = .ok (.iload_n 1, 1) := by decide +kernel
theorem dX12_of_171 : decode cX12_of 171 = .ok (.invokevirtual 168, 3) := by decide +kernel
theorem dX12_of_174 : decode cX12_of 174 = .ok (.ireturn, 1) := by decide +kernel
set_option maxRecDepth 20000 in
theorem ggX12_feed_X12_in : GoodIn wsX12_feed wsX12_in := goodIn_r _ [6] rfl (by decide +kernel)
set_option maxRecDepth 20000 in
theorem gX12_feed_X12_in : GoodIn wsX12_feed (va_wsS RX12 118 yX12_in wsX12_in) := goodIn_app (goodIn_r _ [3, 4, 5] rfl (by decide +kernel)) ggX12_feed_X12_in
theorem dX12_feed_0 : decode cX12_feed 0 = .ok (.iload_n 1, 1) := by decide +kernel
theorem dX12_feed_1 : decode cX12_feed 1 = .ok (.iconst 0, 1) := by decide +kernel
theorem dX12_feed_2 : decode cX12_feed 2 = .ok (.sipush 255, 3) := by decide +kernel
theorem dX12_feed_5 : decode cX12_feed 5 = .ok (.invokestatic 118, 3) := by decide +kernel
theorem dX12_feed_8 : decode cX12_feed 8 = .ok (.ifCond .ne 5, 3) := by decide +kernel
theorem dX12_feed_11 : decode cX12_feed 11 = .ok (.iconst (-1), 1) := by decide +kernel
theorem dX12_feed_12 : decode cX12_feed 12 = .ok (.ireturn, 1) := by decide +kernel
theorem dX12_feed_13 : decode cX12_feed 13 = .ok (.aload_n 0, 1) := by decide +kernel
theorem dX12_feed_14 : decode cX12_feed 14 = .ok (.getfield 172, 3) := by decide +kernel
theorem dX12_feed_17 : decode cX12_feed 17 = .ok (.bipush 120, 2) := by decide +kernel
theorem dX12_feed_19 : decode cX12_feed 19 = .ok (.if_icmp .ne 6, 3) := by decide +kernel
theorem dX12_feed_22 : decode cX12_feed 22 = .ok (.bipush (-3), 2) := by decide +kernel
theorem dX12_feed_24 : decode cX12_feed 24 = .ok (.ireturn, 1) := by decide +kernel
theorem dX12_feed_25 : decode cX12_feed 25 = .ok (.aload_n 0, 1) := by decide +kernel
theorem dX12_feed_26 : decode cX12_feed 26 = .ok (.getfield 40, 3) := by decide +kernel
theorem dX12_feed_29 : decode cX12_feed 29 = .ok (.aload_n 0, 1) := by decide +kernel
theorem dX12_feed_30 : decode cX12_feed 30 = .ok (.getfield 172, 3) := by decide +kernel
theorem dX12_feed_33 : decode cX12_feed 33 = .ok (.iload_n 1, 1) := by decide +kernel
theorem dX12_feed_34 : decode cX12_feed 34 = .ok (.iastore, 1) := by decide +kernel
theorem dX12_feed_35 : decode cX12_feed 35 = .ok (.aload_n 0, 1) := by decide +kernel
theorem dX12_feed_36 : decode cX12_feed 36 = .ok (.dup, 1) := by decide +kernel
theorem dX12_feed_37 : decode cX12_feed 37 = .ok (.getfield 172, 3) := by decide +kernel
theorem dX12_feed_40 : decode cX12_feed 40 = .ok (.iconst 1, 1) := by decide +kernel
theorem dX12_feed_41 : decode cX12_feed 41 = .ok (.iadd, 1) := by decide +kernel
theorem dX12_feed_42 : decode cX12_feed 42 = .ok (.putfield 172, 3) := by decide +kernel
theorem dX12_feed_45 : decode cX12_feed 45 = .ok (.aload_n 0, 1) := by decide +kernel
theorem dX12_feed_46 : decode cX12_feed 46 = .ok (.getfield 172, 3) := by decide +kernel
theorem dX12_feed_49 : decode cX12_feed 49 = .ok (.ireturn, 1) := by decide +kernel
theorem dX12_sign_0 : decode cX12_sign 0 = .ok (.aload_n 0, 1) := by decide +kernel
theorem dX12_sign_1 : decode cX12_sign 1 = .ok (.getfield 175, 3) := by decide +kernel
theorem dX12_sign_4 : decode cX12_sign 4 = .ok (.aload_n 0, 1) := by decide +kernel
theorem dX12_sign_5 : decode cX12_sign 5 = .ok (.getfield 172, 3) := by decide +kernel
theorem dX12_sign_8 : decode cX12_sign 8 = .ok (.if_icmp .ge 15, 3) := by decide +kernel
theorem dX12_sign_11 : decode cX12_sign 11 = .ok (.aload_n 0, 1) := by decide +kernel
theorem dX12_sign_12 : decode cX12_sign 12 = .ok (.getfield 40, 3) := by decide +kernel
theorem dX12_sign_15 : decode cX12_sign 15 = .ok (.aload_n 0, 1) := by decide +kernel
theorem dX12_sign_16 : decode cX12_sign 16 = .ok (.getfield 175, 3) := by decide +kernel
theorem dX12_sign_19 : decode cX12_sign 19 = .ok (.iaload, 1) := by decide +kernel
theorem dX12_sign_20 : decode cX12_sign 20 = .ok (.goto 4, 3) := by decide +kernel
theorem dX12_sign_23 : decode cX12_sign 23 = .ok (.iconst (-1), 1) := by decide +kernel
theorem dX12_sign_24 : decode cX12_sign 24 = .ok (.ireturn, 1) := by decide +kernel
theorem dX12_code_0 : decode cX12_code 0 = .ok (.aload_n 0, 1) := by decide +kernel
theorem dX12_code_1 : decode cX12_code 1 = .ok (.getfield 58, 3) := by decide +kernel
theorem dX12_code_4 : decode cX12_code 4 = .ok (.sipush 256, 3) := by decide +kernel
theorem dX12_code_7 : decode cX12_code 7 = .ok (.aload_n 0, 1) := by decide +kernel
theorem dX12_code_8 : decode cX12_code 8 = .ok (.getfield 178, 3) := by decide +kernel
theorem dX12_code_11 : decode cX12_code 11 = .ok (.iadd, 1) := by decide +kernel
theorem dX12_code_12 : decode cX12_code 12 = .ok (.iload_n 1, 1) := by decide +kernel
theorem dX12_code_13 : decode cX12_code 13 = .ok (.iastore, 1) := by decide +kernel
theorem dX12_code_14 : decode cX12_code 14 = .ok (.aload_n 0, 1) := by decide +kernel
theorem dX12_code_15 : decode cX12_code 15 = .ok (.dup, 1) := by decide +kernel
theorem dX12_code_16 : decode cX12_code 16 = .ok (.getfield 178, 3) := by decide +kernel
theorem dX12_code_19 : decode cX12_code 19 = .ok (.iconst 1, 1) := by decide +kernel
theorem dX12_code_20 : decode cX12_code 20 = .ok (.iadd, 1) := by decide +kernel
theorem dX12_code_21 : decode cX12_code 21 = .ok (.putfield 178, 3) := by decide +kernel
theorem dX12_code_24 : decode cX12_code 24 = .ok (.return_, 1) := by decide +kernel
theorem dX12_nameOf_0 : decode cX12_nameOf 0 = .ok (.iload_n 0, 1) := by decide +kernel
theorem dX12_nameOf_1 : decode cX12_nameOf 1 = .ok (.bipush 97, 2) := by decide +kernel
theorem dX12_nameOf_3 : decode cX12_nameOf 3 = .ok (.if_icmp .ne 7, 3) := by decide +kernel
theorem dX12_nameOf_6 : decode cX12_nameOf 6 = .ok (.iconst 0, 1) := by decide +kernel
theorem dX12_nameOf_7 : decode cX12_nameOf 7 = .ok (.goto 65, 3) := by decide +kernel
theorem dX12_nameOf_10 : decode cX12_nameOf 10 = .ok (.iload_n 0, 1) := by decide +kernel
theorem dX12_nameOf_11 : decode cX12_nameOf 11 = .ok (.bipush 98, 2) := by decide +kernel
theorem dX12_nameOf_13 : decode cX12_nameOf 13 = .ok (.if_icmp .ne 7, 3) := by decide +kernel
theorem dX12_nameOf_16 : decode cX12_nameOf 16 = .ok (.iconst 1, 1) := by decide +kernel
theorem dX12_nameOf_17 : decode cX12_nameOf 17 = .ok (.goto 55, 3) := by decide +kernel
theorem dX12_nameOf_20 : decode cX12_nameOf 20 = .ok (.iload_n 0, 1) := by decide +kernel
theorem dX12_nameOf_21 : decode cX12_nameOf 21 = .ok (.bipush 100, 2) := by decide +kernel
theorem dX12_nameOf_23 : decode cX12_nameOf 23 = .ok (.if_icmp .ne 7, 3) := by decide +kernel
theorem dX12_nameOf_26 : decode cX12_nameOf 26 = .ok (.iconst 2, 1) := by decide +kernel
theorem dX12_nameOf_27 : decode cX12_nameOf 27 = .ok (.goto 45, 3) := by decide +kernel
theorem dX12_nameOf_30 : decode cX12_nameOf 30 = .ok (.iload_n 0, 1) := by decide +kernel
theorem dX12_nameOf_31 : decode cX12_nameOf 31 = .ok (.bipush 119, 2) := by decide +kernel
theorem dX12_nameOf_33 : decode cX12_nameOf 33 = .ok (.if_icmp .ne 7, 3) := by decide +kernel
theorem dX12_nameOf_36 : decode cX12_nameOf 36 = .ok (.iconst 3, 1) := by decide +kernel
theorem dX12_nameOf_37 : decode cX12_nameOf 37 = .ok (.goto 35, 3) := by decide +kernel
theorem dX12_nameOf_40 : decode cX12_nameOf 40 = .ok (.iload_n 0, 1) := by decide +kernel
theorem dX12_nameOf_41 : decode cX12_nameOf 41 = .ok (.bipush 108, 2) := by decide +kernel
theorem dX12_nameOf_43 : decode cX12_nameOf 43 = .ok (.if_icmp .ne 7, 3) := by decide +kernel
theorem dX12_nameOf_46 : decode cX12_nameOf 46 = .ok (.iconst 4, 1) := by decide +kernel
theorem dX12_nameOf_47 : decode cX12_nameOf 47 = .ok (.goto 25, 3) := by decide +kernel
theorem dX12_nameOf_50 : decode cX12_nameOf 50 = .ok (.iload_n 0, 1) := by decide +kernel
theorem dX12_nameOf_51 : decode cX12_nameOf 51 = .ok (.bipush 115, 2) := by decide +kernel
theorem dX12_nameOf_53 : decode cX12_nameOf 53 = .ok (.if_icmp .ne 7, 3) := by decide +kernel
theorem dX12_nameOf_56 : decode cX12_nameOf 56 = .ok (.iconst 5, 1) := by decide +kernel
theorem dX12_nameOf_57 : decode cX12_nameOf 57 = .ok (.goto 15, 3) := by decide +kernel
theorem dX12_nameOf_60 : decode cX12_nameOf 60 = .ok (.iload_n 0, 1) := by decide +kernel
theorem dX12_nameOf_61 : decode cX12_nameOf 61 = .ok (.bipush 121, 2) := by decide +kernel
theorem dX12_nameOf_63 : decode cX12_nameOf 63 = .ok (.if_icmp .ne 8, 3) := by decide +kernel
theorem dX12_nameOf_66 : decode cX12_nameOf 66 = .ok (.bipush 6, 2) := by decide +kernel
theorem dX12_nameOf_68 : decode cX12_nameOf 68 = .ok (.goto 4, 3) := by decide +kernel
theorem dX12_nameOf_71 : decode cX12_nameOf 71 = .ok (.iconst (-1), 1) := by decide +kernel
theorem dX12_nameOf_72 : decode cX12_nameOf 72 = .ok (.ireturn, 1) := by decide +kernel
theorem dX12_opOf_0 : decode cX12_opOf 0 = .ok (.iload_n 0, 1) := by decide +kernel
theorem dX12_opOf_1 : decode cX12_opOf 1 = .ok (.bipush 124, 2) := by decide +kernel
theorem dX12_opOf_3 : decode cX12_opOf 3 = .ok (.if_icmp .ne 7, 3) := by decide +kernel
theorem dX12_opOf_6 : decode cX12_opOf 6 = .ok (.iconst 1, 1) := by decide +kernel
theorem dX12_opOf_7 : decode cX12_opOf 7 = .ok (.goto 99, 3) := by decide +kernel
theorem dX12_opOf_10 : decode cX12_opOf 10 = .ok (.iload_n 0, 1) := by decide +kernel
theorem dX12_opOf_11 : decode cX12_opOf 11 = .ok (.bipush 38, 2) := by decide +kernel
theorem dX12_opOf_13 : decode cX12_opOf 13 = .ok (.if_icmp .ne 7, 3) := by decide +kernel
theorem dX12_opOf_16 : decode cX12_opOf 16 = .ok (.iconst 2, 1) := by decide +kernel
theorem dX12_opOf_17 : decode cX12_opOf 17 = .ok (.goto 89, 3) := by decide +kernel
theorem dX12_opOf_20 : decode cX12_opOf 20 = .ok (.iload_n 0, 1) := by decide +kernel
theorem dX12_opOf_21 : decode cX12_opOf 21 = .ok (.bipush 60, 2) := by decide +kernel
theorem dX12_opOf_23 : decode cX12_opOf 23 = .ok (.if_icmp .ne 7, 3) := by decide +kernel
theorem dX12_opOf_26 : decode cX12_opOf 26 = .ok (.iconst 3, 1) := by decide +kernel
theorem dX12_opOf_27 : decode cX12_opOf 27 = .ok (.goto 79, 3) := by decide +kernel
theorem dX12_opOf_30 : decode cX12_opOf 30 = .ok (.iload_n 0, 1) := by decide +kernel
theorem dX12_opOf_31 : decode cX12_opOf 31 = .ok (.bipush 61, 2) := by decide +kernel
theorem dX12_opOf_33 : decode cX12_opOf 33 = .ok (.if_icmp .ne 7, 3) := by decide +kernel
theorem dX12_opOf_36 : decode cX12_opOf 36 = .ok (.iconst 4, 1) := by decide +kernel
theorem dX12_opOf_37 : decode cX12_opOf 37 = .ok (.goto 69, 3) := by decide +kernel
theorem dX12_opOf_40 : decode cX12_opOf 40 = .ok (.iload_n 0, 1) := by decide +kernel
theorem dX12_opOf_41 : decode cX12_opOf 41 = .ok (.bipush 62, 2) := by decide +kernel
theorem dX12_opOf_43 : decode cX12_opOf 43 = .ok (.if_icmp .ne 7, 3) := by decide +kernel
theorem dX12_opOf_46 : decode cX12_opOf 46 = .ok (.iconst 5, 1) := by decide +kernel
theorem dX12_opOf_47 : decode cX12_opOf 47 = .ok (.goto 59, 3) := by decide +kernel
theorem dX12_opOf_50 : decode cX12_opOf 50 = .ok (.iload_n 0, 1) := by decide +kernel
theorem dX12_opOf_51 : decode cX12_opOf 51 = .ok (.bipush 43, 2) := by decide +kernel
theorem dX12_opOf_53 : decode cX12_opOf 53 = .ok (.if_icmp .ne 8, 3) := by decide +kernel
theorem dX12_opOf_56 : decode cX12_opOf 56 = .ok (.bipush 6, 2) := by decide +kernel
theorem dX12_opOf_58 : decode cX12_opOf 58 = .ok (.goto 48, 3) := by decide +kernel
theorem dX12_opOf_61 : decode cX12_opOf 61 = .ok (.iload_n 0, 1) := by decide +kernel
theorem dX12_opOf_62 : decode cX12_opOf 62 = .ok (.bipush 45, 2) := by decide +kernel
theorem dX12_opOf_64 : decode cX12_opOf 64 = .ok (.if_icmp .ne 8, 3) := by decide +kernel
theorem dX12_opOf_67 : decode cX12_opOf 67 = .ok (.bipush 7, 2) := by decide +kernel
theorem dX12_opOf_69 : decode cX12_opOf 69 = .ok (.goto 37, 3) := by decide +kernel
theorem dX12_opOf_72 : decode cX12_opOf 72 = .ok (.iload_n 0, 1) := by decide +kernel
theorem dX12_opOf_73 : decode cX12_opOf 73 = .ok (.bipush 42, 2) := by decide +kernel
theorem dX12_opOf_75 : decode cX12_opOf 75 = .ok (.if_icmp .ne 8, 3) := by decide +kernel
theorem dX12_opOf_78 : decode cX12_opOf 78 = .ok (.bipush 8, 2) := by decide +kernel
theorem dX12_opOf_80 : decode cX12_opOf 80 = .ok (.goto 26, 3) := by decide +kernel
theorem dX12_opOf_83 : decode cX12_opOf 83 = .ok (.iload_n 0, 1) := by decide +kernel
theorem dX12_opOf_84 : decode cX12_opOf 84 = .ok (.bipush 47, 2) := by decide +kernel
theorem dX12_opOf_86 : decode cX12_opOf 86 = .ok (.if_icmp .ne 8, 3) := by decide +kernel
theorem dX12_opOf_89 : decode cX12_opOf 89 = .ok (.bipush 9, 2) := by decide +kernel
theorem dX12_opOf_91 : decode cX12_opOf 91 = .ok (.goto 15, 3) := by decide +kernel
theorem dX12_opOf_94 : decode cX12_opOf 94 = .ok (.iload_n 0, 1) := by decide +kernel
theorem dX12_opOf_95 : decode cX12_opOf 95 = .ok (.bipush 37, 2) := by decide +kernel
theorem dX12_opOf_97 : decode cX12_opOf 97 = .ok (.if_icmp .ne 8, 3) := by decide +kernel
theorem dX12_opOf_100 : decode cX12_opOf 100 = .ok (.bipush 10, 2) := by decide +kernel
theorem dX12_opOf_102 : decode cX12_opOf 102 = .ok (.goto 4, 3) := by decide +kernel
theorem dX12_opOf_105 : decode cX12_opOf 105 = .ok (.iconst 0, 1) := by decide +kernel
theorem dX12_opOf_106 : decode cX12_opOf 106 = .ok (.ireturn, 1) := by decide +kernel
theorem dX12_binds_0 : decode cX12_binds 0 = .ok (.iload_n 0, 1) := by decide +kernel
theorem dX12_binds_1 : decode cX12_binds 1 = .ok (.iconst 2, 1) := by decide +kernel
theorem dX12_binds_2 : decode cX12_binds 2 = .ok (.if_icmp .gt 7, 3) := by decide +kernel
theorem dX12_binds_5 : decode cX12_binds 5 = .ok (.iload_n 0, 1) := by decide +kernel
theorem dX12_binds_6 : decode cX12_binds 6 = .ok (.goto 34, 3) := by decide +kernel
theorem dX12_binds_9 : decode cX12_binds 9 = .ok (.iload_n 0, 1) := by decide +kernel
theorem dX12_binds_10 : decode cX12_binds 10 = .ok (.iconst 5, 1) := by decide +kernel
theorem dX12_binds_11 : decode cX12_binds 11 = .ok (.if_icmp .gt 7, 3) := by decide +kernel
theorem dX12_binds_14 : decode cX12_binds 14 = .ok (.iconst 3, 1) := by decide +kernel
theorem dX12_binds_15 : decode cX12_binds 15 = .ok (.goto 25, 3) := by decide +kernel
theorem dX12_binds_18 : decode cX12_binds 18 = .ok (.iload_n 0, 1) := by decide +kernel
theorem dX12_binds_19 : decode cX12_binds 19 = .ok (.bipush 7, 2) := by decide +kernel
theorem dX12_binds_21 : decode cX12_binds 21 = .ok (.if_icmp .gt 7, 3) := by decide +kernel
theorem dX12_binds_24 : decode cX12_binds 24 = .ok (.iconst 4, 1) := by decide +kernel
theorem dX12_binds_25 : decode cX12_binds 25 = .ok (.goto 15, 3) := by decide +kernel
theorem dX12_binds_28 : decode cX12_binds 28 = .ok (.iload_n 0, 1) := by decide +kernel
theorem dX12_binds_29 : decode cX12_binds 29 = .ok (.bipush 10, 2) := by decide +kernel
theorem dX12_binds_31 : decode cX12_binds 31 = .ok (.if_icmp .gt 7, 3) := by decide +kernel
theorem dX12_binds_34 : decode cX12_binds 34 = .ok (.iconst 5, 1) := by decide +kernel
theorem dX12_binds_35 : decode cX12_binds 35 = .ok (.goto 5, 3) := by decide +kernel
theorem dX12_binds_38 : decode cX12_binds 38 = .ok (.bipush 6, 2) := by decide +kernel
theorem dX12_binds_40 : decode cX12_binds 40 = .ok (.ireturn, 1) := by decide +kernel
set_option maxRecDepth 20000 in
theorem ggX12_unwinds_X12_binds : GoodIn wsX12_unwinds wsX12_binds := goodIn_r _ [7] rfl (by decide +kernel)
set_option maxRecDepth 20000 in
theorem gX12_unwinds_X12_binds : GoodIn wsX12_unwinds (va_wsS RX12 184 yX12_binds wsX12_binds) := goodIn_app (goodIn_r _ [4, 5, 6] rfl (by decide +kernel)) ggX12_unwinds_X12_binds
set_option maxRecDepth 20000 in
theorem ggX12_unwinds_X12_code : GoodIn wsX12_unwinds wsX12_code := goodIn_r _ [11, 12, 13, 14, 15, 16, 17, 18, 19, 20, 21, 22, 23, 24, 25, 26, 27, 28, 29, 30, 31, 32, 33, 34, 35, 36, 37, 38, 39, 40, 41, 42, 43, 44, 45, 46, 47, 48, 49, 50, 51, 52, 53, 54, 55, 56, 57, 58, 59, 60, 61, 62, 63, 64, 65, 66, 67, 68, 69, 70] rfl (by decide +kernel)
set_option maxRecDepth 20000 in
theorem gX12_unwinds_X12_code : GoodIn wsX12_unwinds (wsV RX12 190 RX12 yX12_code wsX12_code) := goodIn_app (goodIn_r _ [8, 9, 10, 6] rfl (by decide +kernel)) ggX12_unwinds_X12_code
theorem dX12_unwinds_0 : decode cX12_unwinds 0 = .ok (.aload_n 0, 1) := by decide +kernel
theorem dX12_unwinds_1 : decode cX12_unwinds 1 = .ok (.getfield 181, 3) := by decide +kernel
theorem dX12_unwinds_4 : decode cX12_unwinds 4 = .ok (.ifCond .le 93, 3) := by decide +kernel
theorem dX12_unwinds_7 : decode cX12_unwinds 7 = .ok (.aload_n 0, 1) := by decide +kernel
theorem dX12_unwinds_8 : decode cX12_unwinds 8 = .ok (.getfield 61, 3) := by decide +kernel
theorem dX12_unwinds_11 : decode cX12_unwinds 11 = .ok (.aload_n 0, 1) := by decide +kernel
theorem dX12_unwinds_12 : decode cX12_unwinds 12 = .ok (.getfield 181, 3) := by decide +kernel
theorem dX12_unwinds_15 : decode cX12_unwinds 15 = .ok (.iconst 1, 1) := by decide +kernel
theorem dX12_unwinds_16 : decode cX12_unwinds 16 = .ok (.isub, 1) := by decide +kernel
theorem dX12_unwinds_17 : decode cX12_unwinds 17 = .ok (.iaload, 1) := by decide +kernel
theorem dX12_unwinds_18 : decode cX12_unwinds 18 = .ok (.ifCond .eq 79, 3) := by decide +kernel
theorem dX12_unwinds_21 : decode cX12_unwinds 21 = .ok (.aload_n 0, 1) := by decide +kernel
theorem dX12_unwinds_22 : decode cX12_unwinds 22 = .ok (.getfield 61, 3) := by decide +kernel
theorem dX12_unwinds_25 : decode cX12_unwinds 25 = .ok (.aload_n 0, 1) := by decide +kernel
theorem dX12_unwinds_26 : decode cX12_unwinds 26 = .ok (.getfield 181, 3) := by decide +kernel
theorem dX12_unwinds_29 : decode cX12_unwinds 29 = .ok (.iconst 1, 1) := by decide +kernel
theorem dX12_unwinds_30 : decode cX12_unwinds 30 = .ok (.isub, 1) := by decide +kernel
theorem dX12_unwinds_31 : decode cX12_unwinds 31 = .ok (.iaload, 1) := by decide +kernel
theorem dX12_unwinds_32 : decode cX12_unwinds 32 = .ok (.invokestatic 184, 3) := by decide +kernel
theorem dX12_unwinds_35 : decode cX12_unwinds 35 = .ok (.iload_n 1, 1) := by decide +kernel
theorem dX12_unwinds_36 : decode cX12_unwinds 36 = .ok (.if_icmp .lt 61, 3) := by decide +kernel
theorem dX12_unwinds_39 : decode cX12_unwinds 39 = .ok (.aload_n 0, 1) := by decide +kernel
theorem dX12_unwinds_40 : decode cX12_unwinds 40 = .ok (.dup, 1) := by decide +kernel
theorem dX12_unwinds_41 : decode cX12_unwinds 41 = .ok (.getfield 187, 3) := by decide +kernel
theorem dX12_unwinds_44 : decode cX12_unwinds 44 = .ok (.aload_n 0, 1) := by decide +kernel
theorem dX12_unwinds_45 : decode cX12_unwinds 45 = .ok (.getfield 61, 3) := by decide +kernel
theorem dX12_unwinds_48 : decode cX12_unwinds 48 = .ok (.aload_n 0, 1) := by decide +kernel
theorem dX12_unwinds_49 : decode cX12_unwinds 49 = .ok (.getfield 181, 3) := by decide +kernel
theorem dX12_unwinds_52 : decode cX12_unwinds 52 = .ok (.iconst 1, 1) := by decide +kernel
theorem dX12_unwinds_53 : decode cX12_unwinds 53 = .ok (.isub, 1) := by decide +kernel
theorem dX12_unwinds_54 : decode cX12_unwinds 54 = .ok (.iaload, 1) := by decide +kernel
theorem dX12_unwinds_55 : decode cX12_unwinds 55 = .ok (.bipush 10, 2) := by decide +kernel
theorem dX12_unwinds_57 : decode cX12_unwinds 57 = .ok (.if_icmp .le 7, 3) := by decide +kernel
theorem dX12_unwinds_60 : decode cX12_unwinds 60 = .ok (.iconst 1, 1) := by decide +kernel
theorem dX12_unwinds_61 : decode cX12_unwinds 61 = .ok (.goto 4, 3) := by decide +kernel
theorem dX12_unwinds_64 : decode cX12_unwinds 64 = .ok (.iconst 0, 1) := by decide +kernel
theorem dX12_unwinds_65 : decode cX12_unwinds 65 = .ok (.isub, 1) := by decide +kernel
theorem dX12_unwinds_66 : decode cX12_unwinds 66 = .ok (.putfield 187, 3) := by decide +kernel
theorem dX12_unwinds_69 : decode cX12_unwinds 69 = .ok (.aload_n 0, 1) := by decide +kernel
theorem dX12_unwinds_70 : decode cX12_unwinds 70 = .ok (.aload_n 0, 1) := by decide +kernel
theorem dX12_unwinds_71 : decode cX12_unwinds 71 = .ok (.getfield 61, 3) := by decide +kernel
theorem dX12_unwinds_74 : decode cX12_unwinds 74 = .ok (.aload_n 0, 1) := by decide +kernel
theorem dX12_unwinds_75 : decode cX12_unwinds 75 = .ok (.getfield 181, 3) := by decide +kernel
theorem dX12_unwinds_78 : decode cX12_unwinds 78 = .ok (.iconst 1, 1) := by decide +kernel
theorem dX12_unwinds_79 : decode cX12_unwinds 79 = .ok (.isub, 1) := by decide +kernel
theorem dX12_unwinds_80 : decode cX12_unwinds 80 = .ok (.iaload, 1) := by decide +kernel
theorem dX12_unwinds_81 : decode cX12_unwinds 81 = .ok (.invokevirtual 190, 3) := by decide +kernel
theorem dX12_unwinds_84 : decode cX12_unwinds 84 = .ok (.aload_n 0, 1) := by decide +kernel
theorem dX12_unwinds_85 : decode cX12_unwinds 85 = .ok (.dup, 1) := by decide +kernel
theorem dX12_unwinds_86 : decode cX12_unwinds 86 = .ok (.getfield 181, 3) := by decide +kernel
theorem dX12_unwinds_89 : decode cX12_unwinds 89 = .ok (.iconst 1, 1) := by decide +kernel
theorem dX12_unwinds_90 : decode cX12_unwinds 90 = .ok (.isub, 1) := by decide +kernel
theorem dX12_unwinds_91 : decode cX12_unwinds 91 = .ok (.putfield 181, 3) := by decide +kernel
theorem dX12_unwinds_94 : decode cX12_unwinds 94 = .ok (.goto (-94), 3) := by decide +kernel
theorem dX12_unwinds_97 : decode cX12_unwinds 97 = .ok (.return_, 1) := by decide +kernel
theorem dX12_opens_0 : decode cX12_opens 0 = .ok (.aload_n 0, 1) := by decide +kernel
theorem dX12_opens_1 : decode cX12_opens 1 = .ok (.getfield 187, 3) := by decide +kernel
theorem dX12_opens_4 : decode cX12_opens 4 = .ok (.bipush 6, 2) := by decide +kernel
theorem dX12_opens_6 : decode cX12_opens 6 = .ok (.if_icmp .ne 5, 3) := by decide +kernel
theorem dX12_opens_9 : decode cX12_opens 9 = .ok (.iconst 0, 1) := by decide +kernel
theorem dX12_opens_10 : decode cX12_opens 10 = .ok (.ireturn, 1) := by decide +kernel
theorem dX12_opens_11 : decode cX12_opens 11 = .ok (.aload_n 0, 1) := by decide +kernel
theorem dX12_opens_12 : decode cX12_opens 12 = .ok (.dup, 1) := by decide +kernel
theorem dX12_opens_13 : decode cX12_opens 13 = .ok (.getfield 187, 3) := by decide +kernel
theorem dX12_opens_16 : decode cX12_opens 16 = .ok (.iconst 1, 1) := by decide +kernel
theorem dX12_opens_17 : decode cX12_opens 17 = .ok (.iadd, 1) := by decide +kernel
theorem dX12_opens_18 : decode cX12_opens 18 = .ok (.putfield 187, 3) := by decide +kernel
theorem dX12_opens_21 : decode cX12_opens 21 = .ok (.aload_n 0, 1) := by decide +kernel
theorem dX12_opens_22 : decode cX12_opens 22 = .ok (.getfield 61, 3) := by decide +kernel
theorem dX12_opens_25 : decode cX12_opens 25 = .ok (.aload_n 0, 1) := by decide +kernel
theorem dX12_opens_26 : decode cX12_opens 26 = .ok (.getfield 181, 3) := by decide +kernel
theorem dX12_opens_29 : decode cX12_opens 29 = .ok (.iload_n 1, 1) := by decide +kernel
theorem dX12_opens_30 : decode cX12_opens 30 = .ok (.iastore, 1) := by decide +kernel
theorem dX12_opens_31 : decode cX12_opens 31 = .ok (.aload_n 0, 1) := by decide +kernel
theorem dX12_opens_32 : decode cX12_opens 32 = .ok (.dup, 1) := by decide +kernel
theorem dX12_opens_33 : decode cX12_opens 33 = .ok (.getfield 181, 3) := by decide +kernel
theorem dX12_opens_36 : decode cX12_opens 36 = .ok (.iconst 1, 1) := by decide +kernel
theorem dX12_opens_37 : decode cX12_opens 37 = .ok (.iadd, 1) := by decide +kernel
theorem dX12_opens_38 : decode cX12_opens 38 = .ok (.putfield 181, 3) := by decide +kernel
theorem dX12_opens_41 : decode cX12_opens 41 = .ok (.iload_n 1, 1) := by decide +kernel
theorem dX12_opens_42 : decode cX12_opens 42 = .ok (.ifCond .ne 23, 3) := by decide +kernel
theorem dX12_opens_45 : decode cX12_opens 45 = .ok (.aload_n 0, 1) := by decide +kernel
theorem dX12_opens_46 : decode cX12_opens 46 = .ok (.dup, 1) := by decide +kernel
theorem dX12_opens_47 : decode cX12_opens 47 = .ok (.getfield 194, 3) := by decide +kernel
theorem dX12_opens_50 : decode cX12_opens 50 = .ok (.iconst 1, 1) := by decide +kernel
theorem dX12_opens_51 : decode cX12_opens 51 = .ok (.iadd, 1) := by decide +kernel
theorem dX12_opens_52 : decode cX12_opens 52 = .ok (.putfield 194, 3) := by decide +kernel
theorem dX12_opens_55 : decode cX12_opens 55 = .ok (.aload_n 0, 1) := by decide +kernel
theorem dX12_opens_56 : decode cX12_opens 56 = .ok (.getfield 64, 3) := by decide +kernel
theorem dX12_opens_59 : decode cX12_opens 59 = .ok (.aload_n 0, 1) := by decide +kernel
theorem dX12_opens_60 : decode cX12_opens 60 = .ok (.getfield 194, 3) := by decide +kernel
theorem dX12_opens_63 : decode cX12_opens 63 = .ok (.iconst 0, 1) := by decide +kernel
theorem dX12_opens_64 : decode cX12_opens 64 = .ok (.bastore, 1) := by decide +kernel
theorem dX12_opens_65 : decode cX12_opens 65 = .ok (.aload_n 0, 1) := by decide +kernel
theorem dX12_opens_66 : decode cX12_opens 66 = .ok (.dup, 1) := by decide +kernel
theorem dX12_opens_67 : decode cX12_opens 67 = .ok (.getfield 175, 3) := by decide +kernel
theorem dX12_opens_70 : decode cX12_opens 70 = .ok (.iconst 1, 1) := by decide +kernel
theorem dX12_opens_71 : decode cX12_opens 71 = .ok (.iadd, 1) := by decide +kernel
theorem dX12_opens_72 : decode cX12_opens 72 = .ok (.putfield 175, 3) := by decide +kernel
theorem dX12_opens_75 : decode cX12_opens 75 = .ok (.iconst 1, 1) := by decide +kernel
theorem dX12_opens_76 : decode cX12_opens 76 = .ok (.ireturn, 1) := by decide +kernel
set_option maxRecDepth 20000 in
theorem ggX12_oneRead_X12_sign : GoodIn wsX12_oneRead wsX12_sign := goodIn_r _ [6, 1, 7, 8, 21, 22, 23, 24, 25, 26, 27, 28, 29, 30, 31, 32, 33, 34, 35, 36, 37, 38, 39, 40, 41, 42, 43, 44, 45, 46, 47, 48, 49, 50, 51, 52, 53, 54, 55, 56, 57, 58, 59, 60, 61, 62, 63, 64, 65, 66, 67, 68, 69, 70, 71, 72, 73, 74, 75, 76, 77] rfl (by decide +kernel)
set_option maxRecDepth 20000 in
theorem gX12_oneRead_X12_sign : GoodIn wsX12_oneRead (wsV RX12 197 RX12 yX12_sign wsX12_sign) := goodIn_app (goodIn_r _ [2, 3, 4, 5] rfl (by decide +kernel)) ggX12_oneRead_X12_sign
set_option maxRecDepth 20000 in
theorem ggX12_oneRead_X12_nameOf : GoodIn wsX12_oneRead wsX12_nameOf := goodIn_r _ [11] rfl (by decide +kernel)
set_option maxRecDepth 20000 in
theorem gX12_oneRead_X12_nameOf : GoodIn wsX12_oneRead (va_wsS RX12 201 yX12_nameOf wsX12_nameOf) := goodIn_app (goodIn_r _ [9, 10, 5] rfl (by decide +kernel)) ggX12_oneRead_X12_nameOf
set_option maxRecDepth 20000 in
theorem ggX12_oneRead_X12_code : GoodIn wsX12_oneRead wsX12_code := goodIn_r _ [15, 16, 17, 21, 22, 23, 24, 25, 26, 27, 28, 29, 30, 31, 32, 33, 34, 35, 36, 37, 38, 39, 40, 41, 42, 43, 44, 45, 46, 47, 48, 49, 50, 51, 52, 53, 54, 55, 56, 57, 58, 59, 60, 61, 62, 63, 64, 65, 66, 67, 68, 69, 70, 71, 72, 73, 74, 75, 76, 77] rfl (by decide +kernel)
set_option maxRecDepth 20000 in
theorem gX12_oneRead_X12_code : GoodIn wsX12_oneRead (wsV RX12 190 RX12 yX12_code wsX12_code) := goodIn_app (goodIn_r _ [12, 13, 14, 5] rfl (by decide +kernel)) ggX12_oneRead_X12_code
set_option maxRecDepth 20000 in
theorem ggX12_oneRead_X12_in : GoodIn wsX12_oneRead wsX12_in := goodIn_r _ [20] rfl (by decide +kernel)
set_option maxRecDepth 20000 in
theorem gX12_oneRead_X12_in : GoodIn wsX12_oneRead (va_wsS RX12 118 yX12_in wsX12_in) := goodIn_app (goodIn_r _ [18, 19, 5] rfl (by decide +kernel)) ggX12_oneRead_X12_in
theorem dX12_oneRead_0 : decode cX12_oneRead 0 = .ok (.aload_n 0, 1) := by decide +kernel
theorem dX12_oneRead_1 : decode cX12_oneRead 1 = .ok (.invokevirtual 197, 3) := by decide +kernel
theorem dX12_oneRead_4 : decode cX12_oneRead 4 = .ok (.invokestatic 201, 3) := by decide +kernel
theorem dX12_oneRead_7 : decode cX12_oneRead 7 = .ok (.istore_n 1, 1) := by decide +kernel
theorem dX12_oneRead_8 : decode cX12_oneRead 8 = .ok (.iload_n 1, 1) := by decide +kernel
theorem dX12_oneRead_9 : decode cX12_oneRead 9 = .ok (.ifCond .lt 23, 3) := by decide +kernel
theorem dX12_oneRead_12 : decode cX12_oneRead 12 = .ok (.aload_n 0, 1) := by decide +kernel
theorem dX12_oneRead_13 : decode cX12_oneRead 13 = .ok (.bipush 100, 2) := by decide +kernel
theorem dX12_oneRead_15 : decode cX12_oneRead 15 = .ok (.iload_n 1, 1) := by decide +kernel
theorem dX12_oneRead_16 : decode cX12_oneRead 16 = .ok (.iadd, 1) := by decide +kernel
theorem dX12_oneRead_17 : decode cX12_oneRead 17 = .ok (.invokevirtual 190, 3) := by decide +kernel
theorem dX12_oneRead_20 : decode cX12_oneRead 20 = .ok (.aload_n 0, 1) := by decide +kernel
theorem dX12_oneRead_21 : decode cX12_oneRead 21 = .ok (.dup, 1) := by decide +kernel
theorem dX12_oneRead_22 : decode cX12_oneRead 22 = .ok (.getfield 175, 3) := by decide +kernel
theorem dX12_oneRead_25 : decode cX12_oneRead 25 = .ok (.iconst 1, 1) := by decide +kernel
theorem dX12_oneRead_26 : decode cX12_oneRead 26 = .ok (.iadd, 1) := by decide +kernel
theorem dX12_oneRead_27 : decode cX12_oneRead 27 = .ok (.putfield 175, 3) := by decide +kernel
theorem dX12_oneRead_30 : decode cX12_oneRead 30 = .ok (.iconst 1, 1) := by decide +kernel
theorem dX12_oneRead_31 : decode cX12_oneRead 31 = .ok (.ireturn, 1) := by decide +kernel
theorem dX12_oneRead_32 : decode cX12_oneRead 32 = .ok (.aload_n 0, 1) := by decide +kernel
theorem dX12_oneRead_33 : decode cX12_oneRead 33 = .ok (.invokevirtual 197, 3) := by decide +kernel
theorem dX12_oneRead_36 : decode cX12_oneRead 36 = .ok (.bipush 48, 2) := by decide +kernel
theorem dX12_oneRead_38 : decode cX12_oneRead 38 = .ok (.bipush 57, 2) := by decide +kernel
theorem dX12_oneRead_40 : decode cX12_oneRead 40 = .ok (.invokestatic 118, 3) := by decide +kernel
theorem dX12_oneRead_43 : decode cX12_oneRead 43 = .ok (.ifCond .ne 5, 3) := by decide +kernel
theorem dX12_oneRead_46 : decode cX12_oneRead 46 = .ok (.iconst 0, 1) := by decide +kernel
theorem dX12_oneRead_47 : decode cX12_oneRead 47 = .ok (.ireturn, 1) := by decide +kernel
theorem dX12_oneRead_48 : decode cX12_oneRead 48 = .ok (.iconst 0, 1) := by decide +kernel
theorem dX12_oneRead_49 : decode cX12_oneRead 49 = .ok (.istore_n 2, 1) := by decide +kernel
theorem dX12_oneRead_50 : decode cX12_oneRead 50 = .ok (.iconst 0, 1) := by decide +kernel
theorem dX12_oneRead_51 : decode cX12_oneRead 51 = .ok (.istore_n 3, 1) := by decide +kernel
theorem dX12_oneRead_52 : decode cX12_oneRead 52 = .ok (.iload_n 3, 1) := by decide +kernel
theorem dX12_oneRead_53 : decode cX12_oneRead 53 = .ok (.iconst 4, 1) := by decide +kernel
theorem dX12_oneRead_54 : decode cX12_oneRead 54 = .ok (.if_icmp .ge 46, 3) := by decide +kernel
theorem dX12_oneRead_57 : decode cX12_oneRead 57 = .ok (.aload_n 0, 1) := by decide +kernel
theorem dX12_oneRead_58 : decode cX12_oneRead 58 = .ok (.invokevirtual 197, 3) := by decide +kernel
theorem dX12_oneRead_61 : decode cX12_oneRead 61 = .ok (.bipush 48, 2) := by decide +kernel
theorem dX12_oneRead_63 : decode cX12_oneRead 63 = .ok (.bipush 57, 2) := by decide +kernel
theorem dX12_oneRead_65 : decode cX12_oneRead 65 = .ok (.invokestatic 118, 3) := by decide +kernel
theorem dX12_oneRead_68 : decode cX12_oneRead 68 = .ok (.ifCond .eq 32, 3) := by decide +kernel
theorem dX12_oneRead_71 : decode cX12_oneRead 71 = .ok (.bipush 10, 2) := by decide +kernel
theorem dX12_oneRead_73 : decode cX12_oneRead 73 = .ok (.iload_n 2, 1) := by decide +kernel
theorem dX12_oneRead_74 : decode cX12_oneRead 74 = .ok (.imul, 1) := by decide +kernel
theorem dX12_oneRead_75 : decode cX12_oneRead 75 = .ok (.aload_n 0, 1) := by decide +kernel
theorem dX12_oneRead_76 : decode cX12_oneRead 76 = .ok (.invokevirtual 197, 3) := by decide +kernel
theorem dX12_oneRead_79 : decode cX12_oneRead 79 = .ok (.iadd, 1) := by decide +kernel
theorem dX12_oneRead_80 : decode cX12_oneRead 80 = .ok (.bipush 48, 2) := by decide +kernel
theorem dX12_oneRead_82 : decode cX12_oneRead 82 = .ok (.isub, 1) := by decide +kernel
theorem dX12_oneRead_83 : decode cX12_oneRead 83 = .ok (.istore_n 2, 1) := by decide +kernel
theorem dX12_oneRead_84 : decode cX12_oneRead 84 = .ok (.aload_n 0, 1) := by decide +kernel
theorem dX12_oneRead_85 : decode cX12_oneRead 85 = .ok (.dup, 1) := by decide +kernel
theorem dX12_oneRead_86 : decode cX12_oneRead 86 = .ok (.getfield 175, 3) := by decide +kernel
theorem dX12_oneRead_89 : decode cX12_oneRead 89 = .ok (.iconst 1, 1) := by decide +kernel
theorem dX12_oneRead_90 : decode cX12_oneRead 90 = .ok (.iadd, 1) := by decide +kernel
theorem dX12_oneRead_91 : decode cX12_oneRead 91 = .ok (.putfield 175, 3) := by decide +kernel
theorem dX12_oneRead_94 : decode cX12_oneRead 94 = .ok (.iinc 3 1, 3) := by decide +kernel
theorem dX12_oneRead_97 : decode cX12_oneRead 97 = .ok (.goto (-45), 3) := by decide +kernel
theorem dX12_oneRead_100 : decode cX12_oneRead 100 = .ok (.aload_n 0, 1) := by decide +kernel
theorem dX12_oneRead_101 : decode cX12_oneRead 101 = .ok (.sipush 1000, 3) := by decide +kernel
theorem dX12_oneRead_104 : decode cX12_oneRead 104 = .ok (.iload_n 2, 1) := by decide +kernel
theorem dX12_oneRead_105 : decode cX12_oneRead 105 = .ok (.iadd, 1) := by decide +kernel
theorem dX12_oneRead_106 : decode cX12_oneRead 106 = .ok (.invokevirtual 190, 3) := by decide +kernel
theorem dX12_oneRead_109 : decode cX12_oneRead 109 = .ok (.iconst 1, 1) := by decide +kernel
theorem dX12_oneRead_110 : decode cX12_oneRead 110 = .ok (.ireturn, 1) := by decide +kernel
set_option maxRecDepth 20000 in
theorem ggX12_goesOn_X12_binds : GoodIn wsX12_goesOn wsX12_binds := goodIn_r _ [9] rfl (by decide +kernel)
set_option maxRecDepth 20000 in
theorem gX12_goesOn_X12_binds : GoodIn wsX12_goesOn (va_wsS RX12 184 yX12_binds wsX12_binds) := goodIn_app (goodIn_r _ [6, 7, 8] rfl (by decide +kernel)) ggX12_goesOn_X12_binds
set_option maxRecDepth 20000 in
theorem ggX12_goesOn_X12_unwinds : GoodIn wsX12_goesOn wsX12_unwinds := goodIn_r _ [13, 4, 3, 14, 6, 7, 8, 9, 15, 16, 17, 18, 19, 20, 21, 22, 23, 24, 25, 26, 27, 28, 29, 30, 31, 32, 33, 34, 35, 36, 37, 38, 39, 40, 41, 42, 43, 44, 45, 46, 47, 48, 49, 50, 51, 52, 53, 54, 55, 56, 57, 58, 59, 60, 61, 62, 63, 64, 65, 66, 67, 68, 69, 70, 71, 72, 73, 74, 75, 76, 77] rfl (by decide +kernel)
set_option maxRecDepth 20000 in
theorem gX12_goesOn_X12_unwinds : GoodIn wsX12_goesOn (wsV RX12 204 RX12 yX12_unwinds wsX12_unwinds) := goodIn_app (goodIn_r _ [10, 11, 12, 8] rfl (by decide +kernel)) ggX12_goesOn_X12_unwinds
theorem dX12_goesOn_0 : decode cX12_goesOn 0 = .ok (.iload_n 1, 1) := by decide +kernel
theorem dX12_goesOn_1 : decode cX12_goesOn 1 = .ok (.invokestatic 184, 3) := by decide +kernel
theorem dX12_goesOn_4 : decode cX12_goesOn 4 = .ok (.iconst 3, 1) := by decide +kernel
theorem dX12_goesOn_5 : decode cX12_goesOn 5 = .ok (.if_icmp .ne 30, 3) := by decide +kernel
theorem dX12_goesOn_8 : decode cX12_goesOn 8 = .ok (.aload_n 0, 1) := by decide +kernel
theorem dX12_goesOn_9 : decode cX12_goesOn 9 = .ok (.getfield 64, 3) := by decide +kernel
theorem dX12_goesOn_12 : decode cX12_goesOn 12 = .ok (.aload_n 0, 1) := by decide +kernel
theorem dX12_goesOn_13 : decode cX12_goesOn 13 = .ok (.getfield 194, 3) := by decide +kernel
theorem dX12_goesOn_16 : decode cX12_goesOn 16 = .ok (.baload, 1) := by decide +kernel
theorem dX12_goesOn_17 : decode cX12_goesOn 17 = .ok (.ifCond .eq 5, 3) := by decide +kernel
theorem dX12_goesOn_20 : decode cX12_goesOn 20 = .ok (.iconst 0, 1) := by decide +kernel
theorem dX12_goesOn_21 : decode cX12_goesOn 21 = .ok (.ireturn, 1) := by decide +kernel
theorem dX12_goesOn_22 : decode cX12_goesOn 22 = .ok (.aload_n 0, 1) := by decide +kernel
theorem dX12_goesOn_23 : decode cX12_goesOn 23 = .ok (.getfield 64, 3) := by decide +kernel
theorem dX12_goesOn_26 : decode cX12_goesOn 26 = .ok (.aload_n 0, 1) := by decide +kernel
theorem dX12_goesOn_27 : decode cX12_goesOn 27 = .ok (.getfield 194, 3) := by decide +kernel
theorem dX12_goesOn_30 : decode cX12_goesOn 30 = .ok (.iconst 1, 1) := by decide +kernel
theorem dX12_goesOn_31 : decode cX12_goesOn 31 = .ok (.bastore, 1) := by decide +kernel
theorem dX12_goesOn_32 : decode cX12_goesOn 32 = .ok (.goto 18, 3) := by decide +kernel
theorem dX12_goesOn_35 : decode cX12_goesOn 35 = .ok (.iload_n 1, 1) := by decide +kernel
theorem dX12_goesOn_36 : decode cX12_goesOn 36 = .ok (.iconst 2, 1) := by decide +kernel
theorem dX12_goesOn_37 : decode cX12_goesOn 37 = .ok (.if_icmp .gt 13, 3) := by decide +kernel
theorem dX12_goesOn_40 : decode cX12_goesOn 40 = .ok (.aload_n 0, 1) := by decide +kernel
theorem dX12_goesOn_41 : decode cX12_goesOn 41 = .ok (.getfield 64, 3) := by decide +kernel
theorem dX12_goesOn_44 : decode cX12_goesOn 44 = .ok (.aload_n 0, 1) := by decide +kernel
theorem dX12_goesOn_45 : decode cX12_goesOn 45 = .ok (.getfield 194, 3) := by decide +kernel
theorem dX12_goesOn_48 : decode cX12_goesOn 48 = .ok (.iconst 0, 1) := by decide +kernel
theorem dX12_goesOn_49 : decode cX12_goesOn 49 = .ok (.bastore, 1) := by decide +kernel
theorem dX12_goesOn_50 : decode cX12_goesOn 50 = .ok (.aload_n 0, 1) := by decide +kernel
theorem dX12_goesOn_51 : decode cX12_goesOn 51 = .ok (.iload_n 1, 1) := by decide +kernel
theorem dX12_goesOn_52 : decode cX12_goesOn 52 = .ok (.invokestatic 184, 3) := by decide +kernel
theorem dX12_goesOn_55 : decode cX12_goesOn 55 = .ok (.invokevirtual 204, 3) := by decide +kernel
theorem dX12_goesOn_58 : decode cX12_goesOn 58 = .ok (.aload_n 0, 1) := by decide +kernel
theorem dX12_goesOn_59 : decode cX12_goesOn 59 = .ok (.getfield 61, 3) := by decide +kernel
theorem dX12_goesOn_62 : decode cX12_goesOn 62 = .ok (.aload_n 0, 1) := by decide +kernel
theorem dX12_goesOn_63 : decode cX12_goesOn 63 = .ok (.getfield 181, 3) := by decide +kernel
theorem dX12_goesOn_66 : decode cX12_goesOn 66 = .ok (.iload_n 1, 1) := by decide +kernel
theorem dX12_goesOn_67 : decode cX12_goesOn 67 = .ok (.iastore, 1) := by decide +kernel
theorem dX12_goesOn_68 : decode cX12_goesOn 68 = .ok (.aload_n 0, 1) := by decide +kernel
theorem dX12_goesOn_69 : decode cX12_goesOn 69 = .ok (.dup, 1) := by decide +kernel
theorem dX12_goesOn_70 : decode cX12_goesOn 70 = .ok (.getfield 181, 3) := by decide +kernel
theorem dX12_goesOn_73 : decode cX12_goesOn 73 = .ok (.iconst 1, 1) := by decide +kernel
theorem dX12_goesOn_74 : decode cX12_goesOn 74 = .ok (.iadd, 1) := by decide +kernel
theorem dX12_goesOn_75 : decode cX12_goesOn 75 = .ok (.putfield 181, 3) := by decide +kernel
theorem dX12_goesOn_78 : decode cX12_goesOn 78 = .ok (.aload_n 0, 1) := by decide +kernel
theorem dX12_goesOn_79 : decode cX12_goesOn 79 = .ok (.dup, 1) := by decide +kernel
theorem dX12_goesOn_80 : decode cX12_goesOn 80 = .ok (.getfield 175, 3) := by decide +kernel
theorem dX12_goesOn_83 : decode cX12_goesOn 83 = .ok (.iconst 1, 1) := by decide +kernel
theorem dX12_goesOn_84 : decode cX12_goesOn 84 = .ok (.iadd, 1) := by decide +kernel
theorem dX12_goesOn_85 : decode cX12_goesOn 85 = .ok (.putfield 175, 3) := by decide +kernel
theorem dX12_goesOn_88 : decode cX12_goesOn 88 = .ok (.iconst 1, 1) := by decide +kernel
theorem dX12_goesOn_89 : decode cX12_goesOn 89 = .ok (.ireturn, 1) := by decide +kernel
set_option maxRecDepth 20000 in
theorem ggX12_eRead_X12_sign : GoodIn wsX12_eRead wsX12_sign := goodIn_r _ [10, 5, 11, 12, 48, 49, 50, 51, 52, 53, 54, 55, 56, 57, 58, 59, 60, 61, 62, 63, 64, 65, 66, 67, 68, 69, 70, 71, 72, 73, 74, 75, 76, 77, 78, 79, 80, 81, 82, 83, 84, 85, 86, 87, 88, 89, 90, 91, 92, 93, 94, 95, 96, 97, 98, 99, 100, 101, 102, 103, 104] rfl (by decide +kernel)
set_option maxRecDepth 20000 in
theorem gX12_eRead_X12_sign : GoodIn wsX12_eRead (wsV RX12 197 RX12 yX12_sign wsX12_sign) := goodIn_app (goodIn_r _ [6, 7, 8, 9] rfl (by decide +kernel)) ggX12_eRead_X12_sign
set_option maxRecDepth 20000 in
theorem ggX12_eRead_X12_opens : GoodIn wsX12_eRead wsX12_opens := goodIn_r _ [16, 2, 17, 1, 3, 4, 5, 48, 49, 50, 51, 52, 53, 54, 55, 56, 57, 58, 59, 60, 61, 62, 63, 64, 65, 66, 67, 68, 69, 70, 71, 72, 73, 74, 75, 76, 77, 78, 79, 80, 81, 82, 83, 84, 85, 86, 87, 88, 89, 90, 91, 92, 93, 94, 95, 96, 97, 98, 99, 100, 101, 102, 103, 104] rfl (by decide +kernel)
set_option maxRecDepth 20000 in
theorem gX12_eRead_X12_opens : GoodIn wsX12_eRead (wsV RX12 207 RX12 yX12_opens wsX12_opens) := goodIn_app (goodIn_r _ [13, 14, 15, 9] rfl (by decide +kernel)) ggX12_eRead_X12_opens
set_option maxRecDepth 20000 in
theorem ggX12_eRead_X12_oneRead : GoodIn wsX12_eRead wsX12_oneRead := goodIn_r _ [21, 5, 6, 7, 8, 9, 10, 11, 12, 22, 23, 24, 25, 26, 27, 28, 29, 30, 31, 32, 33, 48, 49, 50, 51, 52, 53, 54, 55, 56, 57, 58, 59, 60, 61, 62, 63, 64, 65, 66, 67, 68, 69, 70, 71, 72, 73, 74, 75, 76, 77, 78, 79, 80, 81, 82, 83, 84, 85, 86, 87, 88, 89, 90, 91, 92, 93, 94, 95, 96, 97, 98, 99, 100, 101, 102, 103, 104] rfl (by decide +kernel)
set_option maxRecDepth 20000 in
theorem gX12_eRead_X12_oneRead : GoodIn wsX12_eRead (wsV RX12 210 RX12 yX12_oneRead wsX12_oneRead) := goodIn_app (goodIn_r _ [18, 19, 20, 9] rfl (by decide +kernel)) ggX12_eRead_X12_oneRead
set_option maxRecDepth 20000 in
theorem ggX12_eRead_X12_unwinds : GoodIn wsX12_eRead wsX12_unwinds := goodIn_r _ [37, 1, 17, 2, 38, 39, 9, 40, 25, 26, 27, 28, 29, 30, 48, 49, 50, 51, 52, 53, 54, 55, 56, 57, 58, 59, 60, 61, 62, 63, 64, 65, 66, 67, 68, 69, 70, 71, 72, 73, 74, 75, 76, 77, 78, 79, 80, 81, 82, 83, 84, 85, 86, 87, 88, 89, 90, 91, 92, 93, 94, 95, 96, 97, 98, 99, 100, 101, 102, 103, 104] rfl (by decide +kernel)
set_option maxRecDepth 20000 in
theorem gX12_eRead_X12_unwinds : GoodIn wsX12_eRead (wsV RX12 204 RX12 yX12_unwinds wsX12_unwinds) := goodIn_app (goodIn_r _ [34, 35, 36, 9] rfl (by decide +kernel)) ggX12_eRead_X12_unwinds
set_option maxRecDepth 20000 in
theorem ggX12_eRead_X12_opOf : GoodIn wsX12_eRead wsX12_opOf := goodIn_r _ [43] rfl (by decide +kernel)
set_option maxRecDepth 20000 in
theorem gX12_eRead_X12_opOf : GoodIn wsX12_eRead (va_wsS RX12 214 yX12_opOf wsX12_opOf) := goodIn_app (goodIn_r _ [41, 42, 9] rfl (by decide +kernel)) ggX12_eRead_X12_opOf
set_option maxRecDepth 20000 in
theorem ggX12_eRead_X12_goesOn : GoodIn wsX12_eRead wsX12_goesOn := goodIn_r _ [47, 4, 3, 17, 1, 5, 38, 39, 9, 40, 34, 35, 36, 37, 2, 25, 26, 27, 28, 29, 30, 48, 49, 50, 51, 52, 53, 54, 55, 56, 57, 58, 59, 60, 61, 62, 63, 64, 65, 66, 67, 68, 69, 70, 71, 72, 73, 74, 75, 76, 77, 78, 79, 80, 81, 82, 83, 84, 85, 86, 87, 88, 89, 90, 91, 92, 93, 94, 95, 96, 97, 98, 99, 100, 101, 102, 103, 104] rfl (by decide +kernel)
set_option maxRecDepth 20000 in
theorem gX12_eRead_X12_goesOn : GoodIn wsX12_eRead (wsV RX12 217 RX12 yX12_goesOn wsX12_goesOn) := goodIn_app (goodIn_r _ [44, 45, 46, 9] rfl (by decide +kernel)) ggX12_eRead_X12_goesOn
theorem dX12_eRead_0 : decode cX12_eRead 0 = .ok (.aload_n 0, 1) := by decide +kernel
theorem dX12_eRead_1 : decode cX12_eRead 1 = .ok (.iconst 0, 1) := by decide +kernel
theorem dX12_eRead_2 : decode cX12_eRead 2 = .ok (.putfield 181, 3) := by decide +kernel
theorem dX12_eRead_5 : decode cX12_eRead 5 = .ok (.aload_n 0, 1) := by decide +kernel
theorem dX12_eRead_6 : decode cX12_eRead 6 = .ok (.iconst 0, 1) := by decide +kernel
theorem dX12_eRead_7 : decode cX12_eRead 7 = .ok (.putfield 187, 3) := by decide +kernel
theorem dX12_eRead_10 : decode cX12_eRead 10 = .ok (.aload_n 0, 1) := by decide +kernel
theorem dX12_eRead_11 : decode cX12_eRead 11 = .ok (.iconst 0, 1) := by decide +kernel
theorem dX12_eRead_12 : decode cX12_eRead 12 = .ok (.putfield 194, 3) := by decide +kernel
theorem dX12_eRead_15 : decode cX12_eRead 15 = .ok (.aload_n 0, 1) := by decide +kernel
theorem dX12_eRead_16 : decode cX12_eRead 16 = .ok (.getfield 64, 3) := by decide +kernel
theorem dX12_eRead_19 : decode cX12_eRead 19 = .ok (.iconst 0, 1) := by decide +kernel
theorem dX12_eRead_20 : decode cX12_eRead 20 = .ok (.iconst 0, 1) := by decide +kernel
theorem dX12_eRead_21 : decode cX12_eRead 21 = .ok (.bastore, 1) := by decide +kernel
theorem dX12_eRead_22 : decode cX12_eRead 22 = .ok (.iconst 1, 1) := by decide +kernel
theorem dX12_eRead_23 : decode cX12_eRead 23 = .ok (.istore_n 1, 1) := by decide +kernel
theorem dX12_eRead_24 : decode cX12_eRead 24 = .ok (.aload_n 0, 1) := by decide +kernel
theorem dX12_eRead_25 : decode cX12_eRead 25 = .ok (.invokevirtual 197, 3) := by decide +kernel
theorem dX12_eRead_28 : decode cX12_eRead 28 = .ok (.istore_n 2, 1) := by decide +kernel
theorem dX12_eRead_29 : decode cX12_eRead 29 = .ok (.iload_n 1, 1) := by decide +kernel
theorem dX12_eRead_30 : decode cX12_eRead 30 = .ok (.ifCond .eq 88, 3) := by decide +kernel
theorem dX12_eRead_33 : decode cX12_eRead 33 = .ok (.iload_n 2, 1) := by decide +kernel
theorem dX12_eRead_34 : decode cX12_eRead 34 = .ok (.bipush 40, 2) := by decide +kernel
theorem dX12_eRead_36 : decode cX12_eRead 36 = .ok (.if_icmp .eq 15, 3) := by decide +kernel
theorem dX12_eRead_39 : decode cX12_eRead 39 = .ok (.iload_n 2, 1) := by decide +kernel
theorem dX12_eRead_40 : decode cX12_eRead 40 = .ok (.bipush 33, 2) := by decide +kernel
theorem dX12_eRead_42 : decode cX12_eRead 42 = .ok (.if_icmp .eq 9, 3) := by decide +kernel
theorem dX12_eRead_45 : decode cX12_eRead 45 = .ok (.iload_n 2, 1) := by decide +kernel
theorem dX12_eRead_46 : decode cX12_eRead 46 = .ok (.bipush 45, 2) := by decide +kernel
theorem dX12_eRead_48 : decode cX12_eRead 48 = .ok (.if_icmp .ne 7, 3) := by decide +kernel
theorem dX12_eRead_51 : decode cX12_eRead 51 = .ok (.iconst 1, 1) := by decide +kernel
theorem dX12_eRead_52 : decode cX12_eRead 52 = .ok (.goto 4, 3) := by decide +kernel
theorem dX12_eRead_55 : decode cX12_eRead 55 = .ok (.iconst 0, 1) := by decide +kernel
theorem dX12_eRead_56 : decode cX12_eRead 56 = .ok (.istore_n 3, 1) := by decide +kernel
theorem dX12_eRead_57 : decode cX12_eRead 57 = .ok (.iload_n 3, 1) := by decide +kernel
theorem dX12_eRead_58 : decode cX12_eRead 58 = .ok (.ifCond .eq 36, 3) := by decide +kernel
theorem dX12_eRead_61 : decode cX12_eRead 61 = .ok (.aload_n 0, 1) := by decide +kernel
theorem dX12_eRead_62 : decode cX12_eRead 62 = .ok (.iload_n 2, 1) := by decide +kernel
theorem dX12_eRead_63 : decode cX12_eRead 63 = .ok (.bipush 40, 2) := by decide +kernel
theorem dX12_eRead_65 : decode cX12_eRead 65 = .ok (.if_icmp .ne 7, 3) := by decide +kernel
theorem dX12_eRead_68 : decode cX12_eRead 68 = .ok (.iconst 0, 1) := by decide +kernel
theorem dX12_eRead_69 : decode cX12_eRead 69 = .ok (.goto 16, 3) := by decide +kernel
theorem dX12_eRead_72 : decode cX12_eRead 72 = .ok (.iload_n 2, 1) := by decide +kernel
theorem dX12_eRead_73 : decode cX12_eRead 73 = .ok (.bipush 33, 2) := by decide +kernel
theorem dX12_eRead_75 : decode cX12_eRead 75 = .ok (.if_icmp .ne 8, 3) := by decide +kernel
theorem dX12_eRead_78 : decode cX12_eRead 78 = .ok (.bipush 11, 2) := by decide +kernel
theorem dX12_eRead_80 : decode cX12_eRead 80 = .ok (.goto 5, 3) := by decide +kernel
theorem dX12_eRead_83 : decode cX12_eRead 83 = .ok (.bipush 12, 2) := by decide +kernel
theorem dX12_eRead_85 : decode cX12_eRead 85 = .ok (.invokevirtual 207, 3) := by decide +kernel
theorem dX12_eRead_88 : decode cX12_eRead 88 = .ok (.ifCond .ne 15, 3) := by decide +kernel
theorem dX12_eRead_91 : decode cX12_eRead 91 = .ok (.goto 10, 3) := by decide +kernel
theorem dX12_eRead_94 : decode cX12_eRead 94 = .ok (.aload_n 0, 1) := by decide +kernel
theorem dX12_eRead_95 : decode cX12_eRead 95 = .ok (.invokevirtual 210, 3) := by decide +kernel
theorem dX12_eRead_98 : decode cX12_eRead 98 = .ok (.ifCond .ne 5, 3) := by decide +kernel
theorem dX12_eRead_101 : decode cX12_eRead 101 = .ok (.iconst 0, 1) := by decide +kernel
theorem dX12_eRead_102 : decode cX12_eRead 102 = .ok (.ireturn, 1) := by decide +kernel
theorem dX12_eRead_103 : decode cX12_eRead 103 = .ok (.iload_n 3, 1) := by decide +kernel
theorem dX12_eRead_104 : decode cX12_eRead 104 = .ok (.istore_n 1, 1) := by decide +kernel
theorem dX12_eRead_105 : decode cX12_eRead 105 = .ok (.iload_n 1, 1) := by decide +kernel
theorem dX12_eRead_106 : decode cX12_eRead 106 = .ok (.ifCond .ne 9, 3) := by decide +kernel
theorem dX12_eRead_109 : decode cX12_eRead 109 = .ok (.aload_n 0, 1) := by decide +kernel
theorem dX12_eRead_110 : decode cX12_eRead 110 = .ok (.bipush 6, 2) := by decide +kernel
theorem dX12_eRead_112 : decode cX12_eRead 112 = .ok (.invokevirtual 204, 3) := by decide +kernel
theorem dX12_eRead_115 : decode cX12_eRead 115 = .ok (.goto 113, 3) := by decide +kernel
theorem dX12_eRead_118 : decode cX12_eRead 118 = .ok (.iload_n 2, 1) := by decide +kernel
theorem dX12_eRead_119 : decode cX12_eRead 119 = .ok (.invokestatic 214, 3) := by decide +kernel
theorem dX12_eRead_122 : decode cX12_eRead 122 = .ok (.ifCond .le 21, 3) := by decide +kernel
theorem dX12_eRead_125 : decode cX12_eRead 125 = .ok (.aload_n 0, 1) := by decide +kernel
theorem dX12_eRead_126 : decode cX12_eRead 126 = .ok (.iload_n 2, 1) := by decide +kernel
theorem dX12_eRead_127 : decode cX12_eRead 127 = .ok (.invokestatic 214, 3) := by decide +kernel
theorem dX12_eRead_130 : decode cX12_eRead 130 = .ok (.invokevirtual 217, 3) := by decide +kernel
theorem dX12_eRead_133 : decode cX12_eRead 133 = .ok (.ifCond .ne 5, 3) := by decide +kernel
theorem dX12_eRead_136 : decode cX12_eRead 136 = .ok (.iconst 0, 1) := by decide +kernel
theorem dX12_eRead_137 : decode cX12_eRead 137 = .ok (.ireturn, 1) := by decide +kernel
theorem dX12_eRead_138 : decode cX12_eRead 138 = .ok (.iconst 1, 1) := by decide +kernel
theorem dX12_eRead_139 : decode cX12_eRead 139 = .ok (.istore_n 1, 1) := by decide +kernel
theorem dX12_eRead_140 : decode cX12_eRead 140 = .ok (.goto 88, 3) := by decide +kernel
theorem dX12_eRead_143 : decode cX12_eRead 143 = .ok (.iload_n 2, 1) := by decide +kernel
theorem dX12_eRead_144 : decode cX12_eRead 144 = .ok (.bipush 41, 2) := by decide +kernel
theorem dX12_eRead_146 : decode cX12_eRead 146 = .ok (.if_icmp .ne 64, 3) := by decide +kernel
theorem dX12_eRead_149 : decode cX12_eRead 149 = .ok (.aload_n 0, 1) := by decide +kernel
theorem dX12_eRead_150 : decode cX12_eRead 150 = .ok (.getfield 194, 3) := by decide +kernel
theorem dX12_eRead_153 : decode cX12_eRead 153 = .ok (.ifCond .le 57, 3) := by decide +kernel
theorem dX12_eRead_156 : decode cX12_eRead 156 = .ok (.aload_n 0, 1) := by decide +kernel
theorem dX12_eRead_157 : decode cX12_eRead 157 = .ok (.iconst 1, 1) := by decide +kernel
theorem dX12_eRead_158 : decode cX12_eRead 158 = .ok (.invokevirtual 204, 3) := by decide +kernel
theorem dX12_eRead_161 : decode cX12_eRead 161 = .ok (.aload_n 0, 1) := by decide +kernel
theorem dX12_eRead_162 : decode cX12_eRead 162 = .ok (.dup, 1) := by decide +kernel
theorem dX12_eRead_163 : decode cX12_eRead 163 = .ok (.getfield 181, 3) := by decide +kernel
theorem dX12_eRead_166 : decode cX12_eRead 166 = .ok (.iconst 1, 1) := by decide +kernel
theorem dX12_eRead_167 : decode cX12_eRead 167 = .ok (.isub, 1) := by decide +kernel
theorem dX12_eRead_168 : decode cX12_eRead 168 = .ok (.putfield 181, 3) := by decide +kernel
theorem dX12_eRead_171 : decode cX12_eRead 171 = .ok (.aload_n 0, 1) := by decide +kernel
theorem dX12_eRead_172 : decode cX12_eRead 172 = .ok (.dup, 1) := by decide +kernel
theorem dX12_eRead_173 : decode cX12_eRead 173 = .ok (.getfield 187, 3) := by decide +kernel
theorem dX12_eRead_176 : decode cX12_eRead 176 = .ok (.iconst 1, 1) := by decide +kernel
theorem dX12_eRead_177 : decode cX12_eRead 177 = .ok (.isub, 1) := by decide +kernel
theorem dX12_eRead_178 : decode cX12_eRead 178 = .ok (.putfield 187, 3) := by decide +kernel
theorem dX12_eRead_181 : decode cX12_eRead 181 = .ok (.aload_n 0, 1) := by decide +kernel
theorem dX12_eRead_182 : decode cX12_eRead 182 = .ok (.dup, 1) := by decide +kernel
theorem dX12_eRead_183 : decode cX12_eRead 183 = .ok (.getfield 194, 3) := by decide +kernel
theorem dX12_eRead_186 : decode cX12_eRead 186 = .ok (.iconst 1, 1) := by decide +kernel
theorem dX12_eRead_187 : decode cX12_eRead 187 = .ok (.isub, 1) := by decide +kernel
theorem dX12_eRead_188 : decode cX12_eRead 188 = .ok (.putfield 194, 3) := by decide +kernel
theorem dX12_eRead_191 : decode cX12_eRead 191 = .ok (.aload_n 0, 1) := by decide +kernel
theorem dX12_eRead_192 : decode cX12_eRead 192 = .ok (.dup, 1) := by decide +kernel
theorem dX12_eRead_193 : decode cX12_eRead 193 = .ok (.getfield 175, 3) := by decide +kernel
theorem dX12_eRead_196 : decode cX12_eRead 196 = .ok (.iconst 1, 1) := by decide +kernel
theorem dX12_eRead_197 : decode cX12_eRead 197 = .ok (.iadd, 1) := by decide +kernel
theorem dX12_eRead_198 : decode cX12_eRead 198 = .ok (.putfield 175, 3) := by decide +kernel
theorem dX12_eRead_201 : decode cX12_eRead 201 = .ok (.aload_n 0, 1) := by decide +kernel
theorem dX12_eRead_202 : decode cX12_eRead 202 = .ok (.bipush 6, 2) := by decide +kernel
theorem dX12_eRead_204 : decode cX12_eRead 204 = .ok (.invokevirtual 204, 3) := by decide +kernel
theorem dX12_eRead_207 : decode cX12_eRead 207 = .ok (.goto 21, 3) := by decide +kernel
theorem dX12_eRead_210 : decode cX12_eRead 210 = .ok (.aload_n 0, 1) := by decide +kernel
theorem dX12_eRead_211 : decode cX12_eRead 211 = .ok (.iconst 1, 1) := by decide +kernel
theorem dX12_eRead_212 : decode cX12_eRead 212 = .ok (.invokevirtual 204, 3) := by decide +kernel
theorem dX12_eRead_215 : decode cX12_eRead 215 = .ok (.aload_n 0, 1) := by decide +kernel
theorem dX12_eRead_216 : decode cX12_eRead 216 = .ok (.getfield 194, 3) := by decide +kernel
theorem dX12_eRead_219 : decode cX12_eRead 219 = .ok (.ifCond .ne 7, 3) := by decide +kernel
theorem dX12_eRead_222 : decode cX12_eRead 222 = .ok (.iconst 1, 1) := by decide +kernel
theorem dX12_eRead_223 : decode cX12_eRead 223 = .ok (.goto 4, 3) := by decide +kernel
theorem dX12_eRead_226 : decode cX12_eRead 226 = .ok (.iconst 0, 1) := by decide +kernel
theorem dX12_eRead_227 : decode cX12_eRead 227 = .ok (.ireturn, 1) := by decide +kernel
theorem dX12_eRead_228 : decode cX12_eRead 228 = .ok (.goto (-204), 3) := by decide +kernel
set_option maxRecDepth 20000 in
theorem ggX12_lineRead_X12_eRead : GoodIn wsX12_lineRead wsX12_eRead := goodIn_r _ [11, 12, 13, 14, 15, 5, 16, 17, 18, 10, 19, 20, 21, 22, 23, 24, 25, 26, 27, 28, 29, 30, 31, 32, 33, 34, 35, 36, 37, 38, 3, 39, 40, 41, 42, 43, 44, 45, 46, 47, 48, 49, 50, 51, 52, 53, 54, 55, 56, 57, 58, 59, 60, 61, 62, 63, 64, 65, 66, 67, 68, 69, 70, 71, 72, 73, 74, 75, 76, 77, 78, 79, 80, 81, 82, 83, 84, 85, 86, 87, 88, 89, 90, 91, 92, 93, 94, 95, 96, 97, 98, 99, 100, 101, 102, 103, 104, 105, 106, 107, 108, 109, 110, 111, 112] rfl (by decide +kernel)
set_option maxRecDepth 20000 in
theorem gX12_lineRead_X12_eRead : GoodIn wsX12_lineRead (wsV RX12 220 RX12 yX12_eRead wsX12_eRead) := goodIn_app (goodIn_r _ [7, 8, 9, 10] rfl (by decide +kernel)) ggX12_lineRead_X12_eRead
set_option maxRecDepth 20000 in
theorem ggX12_lineRead_X12_sign : GoodIn wsX12_lineRead wsX12_sign := goodIn_r _ [19, 5, 20, 21, 56, 57, 58, 59, 60, 61, 62, 63, 64, 65, 66, 67, 68, 69, 70, 71, 72, 73, 74, 75, 76, 77, 78, 79, 80, 81, 82, 83, 84, 85, 86, 87, 88, 89, 90, 91, 92, 93, 94, 95, 96, 97, 98, 99, 100, 101, 102, 103, 104, 105, 106, 107, 108, 109, 110, 111, 112] rfl (by decide +kernel)
set_option maxRecDepth 20000 in
theorem gX12_lineRead_X12_sign : GoodIn wsX12_lineRead (wsV RX12 197 RX12 yX12_sign wsX12_sign) := goodIn_app (goodIn_r _ [16, 17, 18, 10] rfl (by decide +kernel)) ggX12_lineRead_X12_sign
theorem dX12_lineRead_0 : decode cX12_lineRead 0 = .ok (.sipush 128, 3) := by decide +kernel
theorem dX12_lineRead_3 : decode cX12_lineRead 3 = .ok (.aload_n 0, 1) := by decide +kernel
theorem dX12_lineRead_4 : decode cX12_lineRead 4 = .ok (.getfield 46, 3) := by decide +kernel
theorem dX12_lineRead_7 : decode cX12_lineRead 7 = .ok (.iconst 2, 1) := by decide +kernel
theorem dX12_lineRead_8 : decode cX12_lineRead 8 = .ok (.iaload, 1) := by decide +kernel
theorem dX12_lineRead_9 : decode cX12_lineRead 9 = .ok (.iadd, 1) := by decide +kernel
theorem dX12_lineRead_10 : decode cX12_lineRead 10 = .ok (.istore_n 1, 1) := by decide +kernel
theorem dX12_lineRead_11 : decode cX12_lineRead 11 = .ok (.aload_n 0, 1) := by decide +kernel
theorem dX12_lineRead_12 : decode cX12_lineRead 12 = .ok (.getfield 49, 3) := by decide +kernel
theorem dX12_lineRead_15 : decode cX12_lineRead 15 = .ok (.iload_n 1, 1) := by decide +kernel
theorem dX12_lineRead_16 : decode cX12_lineRead 16 = .ok (.aload_n 0, 1) := by decide +kernel
theorem dX12_lineRead_17 : decode cX12_lineRead 17 = .ok (.getfield 178, 3) := by decide +kernel
theorem dX12_lineRead_20 : decode cX12_lineRead 20 = .ok (.iastore, 1) := by decide +kernel
theorem dX12_lineRead_21 : decode cX12_lineRead 21 = .ok (.aload_n 0, 1) := by decide +kernel
theorem dX12_lineRead_22 : decode cX12_lineRead 22 = .ok (.getfield 52, 3) := by decide +kernel
theorem dX12_lineRead_25 : decode cX12_lineRead 25 = .ok (.iload_n 1, 1) := by decide +kernel
theorem dX12_lineRead_26 : decode cX12_lineRead 26 = .ok (.aload_n 0, 1) := by decide +kernel
theorem dX12_lineRead_27 : decode cX12_lineRead 27 = .ok (.getfield 178, 3) := by decide +kernel
theorem dX12_lineRead_30 : decode cX12_lineRead 30 = .ok (.iastore, 1) := by decide +kernel
theorem dX12_lineRead_31 : decode cX12_lineRead 31 = .ok (.aload_n 0, 1) := by decide +kernel
theorem dX12_lineRead_32 : decode cX12_lineRead 32 = .ok (.invokevirtual 220, 3) := by decide +kernel
theorem dX12_lineRead_35 : decode cX12_lineRead 35 = .ok (.ifCond .ne 5, 3) := by decide +kernel
theorem dX12_lineRead_38 : decode cX12_lineRead 38 = .ok (.iconst 0, 1) := by decide +kernel
theorem dX12_lineRead_39 : decode cX12_lineRead 39 = .ok (.ireturn, 1) := by decide +kernel
theorem dX12_lineRead_40 : decode cX12_lineRead 40 = .ok (.aload_n 0, 1) := by decide +kernel
theorem dX12_lineRead_41 : decode cX12_lineRead 41 = .ok (.invokevirtual 197, 3) := by decide +kernel
theorem dX12_lineRead_44 : decode cX12_lineRead 44 = .ok (.bipush 63, 2) := by decide +kernel
theorem dX12_lineRead_46 : decode cX12_lineRead 46 = .ok (.if_icmp .ne 32, 3) := by decide +kernel
theorem dX12_lineRead_49 : decode cX12_lineRead 49 = .ok (.aload_n 0, 1) := by decide +kernel
theorem dX12_lineRead_50 : decode cX12_lineRead 50 = .ok (.dup, 1) := by decide +kernel
theorem dX12_lineRead_51 : decode cX12_lineRead 51 = .ok (.getfield 175, 3) := by decide +kernel
theorem dX12_lineRead_54 : decode cX12_lineRead 54 = .ok (.iconst 1, 1) := by decide +kernel
theorem dX12_lineRead_55 : decode cX12_lineRead 55 = .ok (.iadd, 1) := by decide +kernel
theorem dX12_lineRead_56 : decode cX12_lineRead 56 = .ok (.putfield 175, 3) := by decide +kernel
theorem dX12_lineRead_59 : decode cX12_lineRead 59 = .ok (.aload_n 0, 1) := by decide +kernel
theorem dX12_lineRead_60 : decode cX12_lineRead 60 = .ok (.getfield 52, 3) := by decide +kernel
theorem dX12_lineRead_63 : decode cX12_lineRead 63 = .ok (.iload_n 1, 1) := by decide +kernel
theorem dX12_lineRead_64 : decode cX12_lineRead 64 = .ok (.aload_n 0, 1) := by decide +kernel
theorem dX12_lineRead_65 : decode cX12_lineRead 65 = .ok (.getfield 178, 3) := by decide +kernel
theorem dX12_lineRead_68 : decode cX12_lineRead 68 = .ok (.iastore, 1) := by decide +kernel
theorem dX12_lineRead_69 : decode cX12_lineRead 69 = .ok (.aload_n 0, 1) := by decide +kernel
theorem dX12_lineRead_70 : decode cX12_lineRead 70 = .ok (.invokevirtual 220, 3) := by decide +kernel
theorem dX12_lineRead_73 : decode cX12_lineRead 73 = .ok (.ifCond .ne 5, 3) := by decide +kernel
theorem dX12_lineRead_76 : decode cX12_lineRead 76 = .ok (.iconst 0, 1) := by decide +kernel
theorem dX12_lineRead_77 : decode cX12_lineRead 77 = .ok (.ireturn, 1) := by decide +kernel
theorem dX12_lineRead_78 : decode cX12_lineRead 78 = .ok (.aload_n 0, 1) := by decide +kernel
theorem dX12_lineRead_79 : decode cX12_lineRead 79 = .ok (.getfield 55, 3) := by decide +kernel
theorem dX12_lineRead_82 : decode cX12_lineRead 82 = .ok (.iload_n 1, 1) := by decide +kernel
theorem dX12_lineRead_83 : decode cX12_lineRead 83 = .ok (.aload_n 0, 1) := by decide +kernel
theorem dX12_lineRead_84 : decode cX12_lineRead 84 = .ok (.getfield 178, 3) := by decide +kernel
theorem dX12_lineRead_87 : decode cX12_lineRead 87 = .ok (.iastore, 1) := by decide +kernel
theorem dX12_lineRead_88 : decode cX12_lineRead 88 = .ok (.aload_n 0, 1) := by decide +kernel
theorem dX12_lineRead_89 : decode cX12_lineRead 89 = .ok (.getfield 46, 3) := by decide +kernel
theorem dX12_lineRead_92 : decode cX12_lineRead 92 = .ok (.iconst 2, 1) := by decide +kernel
theorem dX12_lineRead_93 : decode cX12_lineRead 93 = .ok (.dup2, 1) := by decide +kernel
theorem dX12_lineRead_94 : decode cX12_lineRead 94 = .ok (.iaload, 1) := by decide +kernel
theorem dX12_lineRead_95 : decode cX12_lineRead 95 = .ok (.iconst 1, 1) := by decide +kernel
theorem dX12_lineRead_96 : decode cX12_lineRead 96 = .ok (.iadd, 1) := by decide +kernel
theorem dX12_lineRead_97 : decode cX12_lineRead 97 = .ok (.iastore, 1) := by decide +kernel
theorem dX12_lineRead_98 : decode cX12_lineRead 98 = .ok (.iconst 1, 1) := by decide +kernel
theorem dX12_lineRead_99 : decode cX12_lineRead 99 = .ok (.ireturn, 1) := by decide +kernel
set_option maxRecDepth 20000 in
theorem ggX12_textRead_X12_lineRead : GoodIn wsX12_textRead wsX12_lineRead := goodIn_r _ [9, 3, 10, 2, 11, 1, 12, 13, 14, 15, 8, 16, 17, 18, 19, 20, 21, 22, 23, 24, 4, 25, 26, 27, 28, 29, 30, 31, 32, 33, 34, 35, 36, 37, 38, 39, 40, 41, 42, 43, 44, 45, 46, 47, 48, 49, 50, 51, 52, 53, 54, 55, 56, 57, 58, 59, 60, 61, 62, 63, 64, 65, 66, 67, 68, 69, 70, 71, 72, 73, 74, 75, 76, 77, 78, 79, 80, 81, 82, 83, 84, 85, 86, 87, 88, 89, 90, 91, 92, 93, 94, 95, 96, 97, 98, 99, 100, 101, 102, 103, 104, 105, 106, 107, 108, 109, 110, 111, 112, 113, 114, 115, 116] rfl (by decide +kernel)
set_option maxRecDepth 20000 in
theorem gX12_textRead_X12_lineRead : GoodIn wsX12_textRead (wsV RX12 223 RX12 yX12_lineRead wsX12_lineRead) := goodIn_app (goodIn_r _ [5, 6, 7, 8] rfl (by decide +kernel)) ggX12_textRead_X12_lineRead
set_option maxRecDepth 20000 in
theorem ggX12_textRead_X12_sign : GoodIn wsX12_textRead wsX12_sign := goodIn_r _ [24, 1, 4, 25, 60, 61, 62, 63, 64, 65, 66, 67, 68, 69, 70, 71, 72, 73, 74, 75, 76, 77, 78, 79, 80, 81, 82, 83, 84, 85, 86, 87, 88, 89, 90, 91, 92, 93, 94, 95, 96, 97, 98, 99, 100, 101, 102, 103, 104, 105, 106, 107, 108, 109, 110, 111, 112, 113, 114, 115, 116] rfl (by decide +kernel)
set_option maxRecDepth 20000 in
theorem gX12_textRead_X12_sign : GoodIn wsX12_textRead (wsV RX12 197 RX12 yX12_sign wsX12_sign) := goodIn_app (goodIn_r _ [21, 22, 23, 8] rfl (by decide +kernel)) ggX12_textRead_X12_sign
theorem dX12_textRead_0 : decode cX12_textRead 0 = .ok (.aload_n 0, 1) := by decide +kernel
theorem dX12_textRead_1 : decode cX12_textRead 1 = .ok (.iconst 0, 1) := by decide +kernel
theorem dX12_textRead_2 : decode cX12_textRead 2 = .ok (.putfield 175, 3) := by decide +kernel
theorem dX12_textRead_5 : decode cX12_textRead 5 = .ok (.aload_n 0, 1) := by decide +kernel
theorem dX12_textRead_6 : decode cX12_textRead 6 = .ok (.iconst 0, 1) := by decide +kernel
theorem dX12_textRead_7 : decode cX12_textRead 7 = .ok (.putfield 178, 3) := by decide +kernel
theorem dX12_textRead_10 : decode cX12_textRead 10 = .ok (.aload_n 0, 1) := by decide +kernel
theorem dX12_textRead_11 : decode cX12_textRead 11 = .ok (.getfield 46, 3) := by decide +kernel
theorem dX12_textRead_14 : decode cX12_textRead 14 = .ok (.iconst 2, 1) := by decide +kernel
theorem dX12_textRead_15 : decode cX12_textRead 15 = .ok (.iconst 0, 1) := by decide +kernel
theorem dX12_textRead_16 : decode cX12_textRead 16 = .ok (.iastore, 1) := by decide +kernel
theorem dX12_textRead_17 : decode cX12_textRead 17 = .ok (.aload_n 0, 1) := by decide +kernel
theorem dX12_textRead_18 : decode cX12_textRead 18 = .ok (.invokevirtual 223, 3) := by decide +kernel
theorem dX12_textRead_21 : decode cX12_textRead 21 = .ok (.ifCond .ne 8, 3) := by decide +kernel
theorem dX12_textRead_24 : decode cX12_textRead 24 = .ok (.aload_n 0, 1) := by decide +kernel
theorem dX12_textRead_25 : decode cX12_textRead 25 = .ok (.getfield 175, 3) := by decide +kernel
theorem dX12_textRead_28 : decode cX12_textRead 28 = .ok (.ireturn, 1) := by decide +kernel
theorem dX12_textRead_29 : decode cX12_textRead 29 = .ok (.aload_n 0, 1) := by decide +kernel
theorem dX12_textRead_30 : decode cX12_textRead 30 = .ok (.getfield 175, 3) := by decide +kernel
theorem dX12_textRead_33 : decode cX12_textRead 33 = .ok (.aload_n 0, 1) := by decide +kernel
theorem dX12_textRead_34 : decode cX12_textRead 34 = .ok (.getfield 172, 3) := by decide +kernel
theorem dX12_textRead_37 : decode cX12_textRead 37 = .ok (.if_icmp .ne 5, 3) := by decide +kernel
theorem dX12_textRead_40 : decode cX12_textRead 40 = .ok (.iconst (-1), 1) := by decide +kernel
theorem dX12_textRead_41 : decode cX12_textRead 41 = .ok (.ireturn, 1) := by decide +kernel
theorem dX12_textRead_42 : decode cX12_textRead 42 = .ok (.aload_n 0, 1) := by decide +kernel
theorem dX12_textRead_43 : decode cX12_textRead 43 = .ok (.invokevirtual 197, 3) := by decide +kernel
theorem dX12_textRead_46 : decode cX12_textRead 46 = .ok (.bipush 59, 2) := by decide +kernel
theorem dX12_textRead_48 : decode cX12_textRead 48 = .ok (.if_icmp .eq 8, 3) := by decide +kernel
theorem dX12_textRead_51 : decode cX12_textRead 51 = .ok (.aload_n 0, 1) := by decide +kernel
theorem dX12_textRead_52 : decode cX12_textRead 52 = .ok (.getfield 175, 3) := by decide +kernel
theorem dX12_textRead_55 : decode cX12_textRead 55 = .ok (.ireturn, 1) := by decide +kernel
theorem dX12_textRead_56 : decode cX12_textRead 56 = .ok (.aload_n 0, 1) := by decide +kernel
theorem dX12_textRead_57 : decode cX12_textRead 57 = .ok (.dup, 1) := by decide +kernel
theorem dX12_textRead_58 : decode cX12_textRead 58 = .ok (.getfield 175, 3) := by decide +kernel
theorem dX12_textRead_61 : decode cX12_textRead 61 = .ok (.iconst 1, 1) := by decide +kernel
theorem dX12_textRead_62 : decode cX12_textRead 62 = .ok (.iadd, 1) := by decide +kernel
theorem dX12_textRead_63 : decode cX12_textRead 63 = .ok (.putfield 175, 3) := by decide +kernel
theorem dX12_textRead_66 : decode cX12_textRead 66 = .ok (.goto (-49), 3) := by decide +kernel
set_option maxRecDepth 20000 in
theorem ggX12_law_X12_in : GoodIn wsX12_law wsX12_in := goodIn_r _ [10] rfl (by decide +kernel)
set_option maxRecDepth 20000 in
theorem gX12_law_X12_in : GoodIn wsX12_law (va_wsS RX12 118 yX12_in wsX12_in) := goodIn_app (goodIn_r _ [7, 8, 9] rfl (by decide +kernel)) ggX12_law_X12_in
set_option maxRecDepth 20000 in
theorem ggX12_law_X12_textRead : GoodIn wsX12_law wsX12_textRead := goodIn_r _ [14, 15, 16, 2, 1, 17, 18, 19, 9, 20, 3, 4, 5, 21, 22, 23, 24, 25, 26, 27, 28, 29, 30, 31, 32, 33, 34, 35, 36, 37, 38, 39, 40, 41, 42, 43, 44, 45, 46, 47, 48, 49, 6, 7, 8, 10, 50, 51, 52, 53, 54, 55, 56, 57, 58, 59, 60, 61, 62, 63, 64, 65, 66, 67, 68, 69, 70, 71, 72, 73, 74, 75, 76, 77, 78, 79, 80, 81, 82, 83, 84, 85, 86, 87, 88, 89, 90, 91, 92, 93, 94, 95, 96, 97, 98, 99, 100, 101, 102, 103, 104, 105, 106, 107, 108, 109, 110, 111, 112, 113, 114, 115, 116, 117, 118, 119, 120] rfl (by decide +kernel)
set_option maxRecDepth 20000 in
theorem gX12_law_X12_textRead : GoodIn wsX12_law (wsV RX12 226 RX12 yX12_textRead wsX12_textRead) := goodIn_app (goodIn_r _ [11, 12, 13, 9] rfl (by decide +kernel)) ggX12_law_X12_textRead
theorem dX12_law_0 : decode cX12_law 0 = .ok (.iload_n 1, 1) := by decide +kernel
theorem dX12_law_1 : decode cX12_law 1 = .ok (.iconst 0, 1) := by decide +kernel
theorem dX12_law_2 : decode cX12_law 2 = .ok (.iconst 1, 1) := by decide +kernel
theorem dX12_law_3 : decode cX12_law 3 = .ok (.invokestatic 118, 3) := by decide +kernel
theorem dX12_law_6 : decode cX12_law 6 = .ok (.ifCond .ne 5, 3) := by decide +kernel
theorem dX12_law_9 : decode cX12_law 9 = .ok (.iconst (-1), 1) := by decide +kernel
theorem dX12_law_10 : decode cX12_law 10 = .ok (.ireturn, 1) := by decide +kernel
theorem dX12_law_11 : decode cX12_law 11 = .ok (.aload_n 0, 1) := by decide +kernel
theorem dX12_law_12 : decode cX12_law 12 = .ok (.invokevirtual 226, 3) := by decide +kernel
theorem dX12_law_15 : decode cX12_law 15 = .ok (.istore_n 2, 1) := by decide +kernel
theorem dX12_law_16 : decode cX12_law 16 = .ok (.aload_n 0, 1) := by decide +kernel
theorem dX12_law_17 : decode cX12_law 17 = .ok (.iconst 0, 1) := by decide +kernel
theorem dX12_law_18 : decode cX12_law 18 = .ok (.putfield 172, 3) := by decide +kernel
theorem dX12_law_21 : decode cX12_law 21 = .ok (.iload_n 2, 1) := by decide +kernel
theorem dX12_law_22 : decode cX12_law 22 = .ok (.ifCond .lt 8, 3) := by decide +kernel
theorem dX12_law_25 : decode cX12_law 25 = .ok (.bipush (-100), 2) := by decide +kernel
theorem dX12_law_27 : decode cX12_law 27 = .ok (.iload_n 2, 1) := by decide +kernel
theorem dX12_law_28 : decode cX12_law 28 = .ok (.isub, 1) := by decide +kernel
theorem dX12_law_29 : decode cX12_law 29 = .ok (.ireturn, 1) := by decide +kernel
theorem dX12_law_30 : decode cX12_law 30 = .ok (.aload_n 0, 1) := by decide +kernel
theorem dX12_law_31 : decode cX12_law 31 = .ok (.getfield 46, 3) := by decide +kernel
theorem dX12_law_34 : decode cX12_law 34 = .ok (.iload_n 1, 1) := by decide +kernel
theorem dX12_law_35 : decode cX12_law 35 = .ok (.aload_n 0, 1) := by decide +kernel
theorem dX12_law_36 : decode cX12_law 36 = .ok (.getfield 46, 3) := by decide +kernel
theorem dX12_law_39 : decode cX12_law 39 = .ok (.iconst 2, 1) := by decide +kernel
theorem dX12_law_40 : decode cX12_law 40 = .ok (.iaload, 1) := by decide +kernel
theorem dX12_law_41 : decode cX12_law 41 = .ok (.iastore, 1) := by decide +kernel
theorem dX12_law_42 : decode cX12_law 42 = .ok (.iconst 0, 1) := by decide +kernel
theorem dX12_law_43 : decode cX12_law 43 = .ok (.istore_n 3, 1) := by decide +kernel
theorem dX12_law_44 : decode cX12_law 44 = .ok (.iload_n 3, 1) := by decide +kernel
theorem dX12_law_45 : decode cX12_law 45 = .ok (.bipush 64, 2) := by decide +kernel
theorem dX12_law_47 : decode cX12_law 47 = .ok (.if_icmp .ge 72, 3) := by decide +kernel
theorem dX12_law_50 : decode cX12_law 50 = .ok (.aload_n 0, 1) := by decide +kernel
theorem dX12_law_51 : decode cX12_law 51 = .ok (.getfield 49, 3) := by decide +kernel
theorem dX12_law_54 : decode cX12_law 54 = .ok (.bipush 64, 2) := by decide +kernel
theorem dX12_law_56 : decode cX12_law 56 = .ok (.iload_n 1, 1) := by decide +kernel
theorem dX12_law_57 : decode cX12_law 57 = .ok (.imul, 1) := by decide +kernel
theorem dX12_law_58 : decode cX12_law 58 = .ok (.iload_n 3, 1) := by decide +kernel
theorem dX12_law_59 : decode cX12_law 59 = .ok (.iadd, 1) := by decide +kernel
theorem dX12_law_60 : decode cX12_law 60 = .ok (.aload_n 0, 1) := by decide +kernel
theorem dX12_law_61 : decode cX12_law 61 = .ok (.getfield 49, 3) := by decide +kernel
theorem dX12_law_64 : decode cX12_law 64 = .ok (.sipush 128, 3) := by decide +kernel
theorem dX12_law_67 : decode cX12_law 67 = .ok (.iload_n 3, 1) := by decide +kernel
theorem dX12_law_68 : decode cX12_law 68 = .ok (.iadd, 1) := by decide +kernel
theorem dX12_law_69 : decode cX12_law 69 = .ok (.iaload, 1) := by decide +kernel
theorem dX12_law_70 : decode cX12_law 70 = .ok (.iastore, 1) := by decide +kernel
theorem dX12_law_71 : decode cX12_law 71 = .ok (.aload_n 0, 1) := by decide +kernel
theorem dX12_law_72 : decode cX12_law 72 = .ok (.getfield 52, 3) := by decide +kernel
theorem dX12_law_75 : decode cX12_law 75 = .ok (.bipush 64, 2) := by decide +kernel
theorem dX12_law_77 : decode cX12_law 77 = .ok (.iload_n 1, 1) := by decide +kernel
theorem dX12_law_78 : decode cX12_law 78 = .ok (.imul, 1) := by decide +kernel
theorem dX12_law_79 : decode cX12_law 79 = .ok (.iload_n 3, 1) := by decide +kernel
theorem dX12_law_80 : decode cX12_law 80 = .ok (.iadd, 1) := by decide +kernel
theorem dX12_law_81 : decode cX12_law 81 = .ok (.aload_n 0, 1) := by decide +kernel
theorem dX12_law_82 : decode cX12_law 82 = .ok (.getfield 52, 3) := by decide +kernel
theorem dX12_law_85 : decode cX12_law 85 = .ok (.sipush 128, 3) := by decide +kernel
theorem dX12_law_88 : decode cX12_law 88 = .ok (.iload_n 3, 1) := by decide +kernel
theorem dX12_law_89 : decode cX12_law 89 = .ok (.iadd, 1) := by decide +kernel
theorem dX12_law_90 : decode cX12_law 90 = .ok (.iaload, 1) := by decide +kernel
theorem dX12_law_91 : decode cX12_law 91 = .ok (.iastore, 1) := by decide +kernel
theorem dX12_law_92 : decode cX12_law 92 = .ok (.aload_n 0, 1) := by decide +kernel
theorem dX12_law_93 : decode cX12_law 93 = .ok (.getfield 55, 3) := by decide +kernel
theorem dX12_law_96 : decode cX12_law 96 = .ok (.bipush 64, 2) := by decide +kernel
theorem dX12_law_98 : decode cX12_law 98 = .ok (.iload_n 1, 1) := by decide +kernel
theorem dX12_law_99 : decode cX12_law 99 = .ok (.imul, 1) := by decide +kernel
theorem dX12_law_100 : decode cX12_law 100 = .ok (.iload_n 3, 1) := by decide +kernel
theorem dX12_law_101 : decode cX12_law 101 = .ok (.iadd, 1) := by decide +kernel
theorem dX12_law_102 : decode cX12_law 102 = .ok (.aload_n 0, 1) := by decide +kernel
theorem dX12_law_103 : decode cX12_law 103 = .ok (.getfield 55, 3) := by decide +kernel
theorem dX12_law_106 : decode cX12_law 106 = .ok (.sipush 128, 3) := by decide +kernel
theorem dX12_law_109 : decode cX12_law 109 = .ok (.iload_n 3, 1) := by decide +kernel
theorem dX12_law_110 : decode cX12_law 110 = .ok (.iadd, 1) := by decide +kernel
theorem dX12_law_111 : decode cX12_law 111 = .ok (.iaload, 1) := by decide +kernel
theorem dX12_law_112 : decode cX12_law 112 = .ok (.iastore, 1) := by decide +kernel
theorem dX12_law_113 : decode cX12_law 113 = .ok (.iinc 3 1, 3) := by decide +kernel
theorem dX12_law_116 : decode cX12_law 116 = .ok (.goto (-72), 3) := by decide +kernel
theorem dX12_law_119 : decode cX12_law 119 = .ok (.iconst 0, 1) := by decide +kernel
theorem dX12_law_120 : decode cX12_law 120 = .ok (.istore_n 3, 1) := by decide +kernel
theorem dX12_law_121 : decode cX12_law 121 = .ok (.iload_n 3, 1) := by decide +kernel
theorem dX12_law_122 : decode cX12_law 122 = .ok (.sipush 128, 3) := by decide +kernel
theorem dX12_law_125 : decode cX12_law 125 = .ok (.if_icmp .ge 31, 3) := by decide +kernel
theorem dX12_law_128 : decode cX12_law 128 = .ok (.aload_n 0, 1) := by decide +kernel
theorem dX12_law_129 : decode cX12_law 129 = .ok (.getfield 58, 3) := by decide +kernel
theorem dX12_law_132 : decode cX12_law 132 = .ok (.sipush 128, 3) := by decide +kernel
theorem dX12_law_135 : decode cX12_law 135 = .ok (.iload_n 1, 1) := by decide +kernel
theorem dX12_law_136 : decode cX12_law 136 = .ok (.imul, 1) := by decide +kernel
theorem dX12_law_137 : decode cX12_law 137 = .ok (.iload_n 3, 1) := by decide +kernel
theorem dX12_law_138 : decode cX12_law 138 = .ok (.iadd, 1) := by decide +kernel
theorem dX12_law_139 : decode cX12_law 139 = .ok (.aload_n 0, 1) := by decide +kernel
theorem dX12_law_140 : decode cX12_law 140 = .ok (.getfield 58, 3) := by decide +kernel
theorem dX12_law_143 : decode cX12_law 143 = .ok (.sipush 256, 3) := by decide +kernel
theorem dX12_law_146 : decode cX12_law 146 = .ok (.iload_n 3, 1) := by decide +kernel
theorem dX12_law_147 : decode cX12_law 147 = .ok (.iadd, 1) := by decide +kernel
theorem dX12_law_148 : decode cX12_law 148 = .ok (.iaload, 1) := by decide +kernel
theorem dX12_law_149 : decode cX12_law 149 = .ok (.iastore, 1) := by decide +kernel
theorem dX12_law_150 : decode cX12_law 150 = .ok (.iinc 3 1, 3) := by decide +kernel
theorem dX12_law_153 : decode cX12_law 153 = .ok (.goto (-32), 3) := by decide +kernel
theorem dX12_law_156 : decode cX12_law 156 = .ok (.iconst 1, 1) := by decide +kernel
theorem dX12_law_157 : decode cX12_law 157 = .ok (.ireturn, 1) := by decide +kernel
theorem dX12_two_0 : decode cX12_two 0 = .ok (.iload_n 0, 1) := by decide +kernel
theorem dX12_two_1 : decode cX12_two 1 = .ok (.tableswitch 136 1 9 #[51, 65, 79, 90, 101, 112, 116, 120, 124], 51) := by decide +kernel
theorem dX12_two_52 : decode cX12_two 52 = .ok (.iload_n 1, 1) := by decide +kernel
theorem dX12_two_53 : decode cX12_two 53 = .ok (.ifCond .ne 7, 3) := by decide +kernel
theorem dX12_two_56 : decode cX12_two 56 = .ok (.iload_n 2, 1) := by decide +kernel
theorem dX12_two_57 : decode cX12_two 57 = .ok (.ifCond .eq 7, 3) := by decide +kernel
theorem dX12_two_60 : decode cX12_two 60 = .ok (.iconst 1, 1) := by decide +kernel
theorem dX12_two_61 : decode cX12_two 61 = .ok (.goto 4, 3) := by decide +kernel
theorem dX12_two_64 : decode cX12_two 64 = .ok (.iconst 0, 1) := by decide +kernel
theorem dX12_two_65 : decode cX12_two 65 = .ok (.ireturn, 1) := by decide +kernel
theorem dX12_two_66 : decode cX12_two 66 = .ok (.iload_n 1, 1) := by decide +kernel
theorem dX12_two_67 : decode cX12_two 67 = .ok (.ifCond .eq 11, 3) := by decide +kernel
theorem dX12_two_70 : decode cX12_two 70 = .ok (.iload_n 2, 1) := by decide +kernel
theorem dX12_two_71 : decode cX12_two 71 = .ok (.ifCond .eq 7, 3) := by decide +kernel
theorem dX12_two_74 : decode cX12_two 74 = .ok (.iconst 1, 1) := by decide +kernel
theorem dX12_two_75 : decode cX12_two 75 = .ok (.goto 4, 3) := by decide +kernel
theorem dX12_two_78 : decode cX12_two 78 = .ok (.iconst 0, 1) := by decide +kernel
theorem dX12_two_79 : decode cX12_two 79 = .ok (.ireturn, 1) := by decide +kernel
theorem dX12_two_80 : decode cX12_two 80 = .ok (.iload_n 1, 1) := by decide +kernel
theorem dX12_two_81 : decode cX12_two 81 = .ok (.iload_n 2, 1) := by decide +kernel
theorem dX12_two_82 : decode cX12_two 82 = .ok (.if_icmp .ge 7, 3) := by decide +kernel
theorem dX12_two_85 : decode cX12_two 85 = .ok (.iconst 1, 1) := by decide +kernel
theorem dX12_two_86 : decode cX12_two 86 = .ok (.goto 4, 3) := by decide +kernel
theorem dX12_two_89 : decode cX12_two 89 = .ok (.iconst 0, 1) := by decide +kernel
theorem dX12_two_90 : decode cX12_two 90 = .ok (.ireturn, 1) := by decide +kernel
theorem dX12_two_91 : decode cX12_two 91 = .ok (.iload_n 1, 1) := by decide +kernel
theorem dX12_two_92 : decode cX12_two 92 = .ok (.iload_n 2, 1) := by decide +kernel
theorem dX12_two_93 : decode cX12_two 93 = .ok (.if_icmp .ne 7, 3) := by decide +kernel
theorem dX12_two_96 : decode cX12_two 96 = .ok (.iconst 1, 1) := by decide +kernel
theorem dX12_two_97 : decode cX12_two 97 = .ok (.goto 4, 3) := by decide +kernel
theorem dX12_two_100 : decode cX12_two 100 = .ok (.iconst 0, 1) := by decide +kernel
theorem dX12_two_101 : decode cX12_two 101 = .ok (.ireturn, 1) := by decide +kernel
theorem dX12_two_102 : decode cX12_two 102 = .ok (.iload_n 1, 1) := by decide +kernel
theorem dX12_two_103 : decode cX12_two 103 = .ok (.iload_n 2, 1) := by decide +kernel
theorem dX12_two_104 : decode cX12_two 104 = .ok (.if_icmp .le 7, 3) := by decide +kernel
theorem dX12_two_107 : decode cX12_two 107 = .ok (.iconst 1, 1) := by decide +kernel
theorem dX12_two_108 : decode cX12_two 108 = .ok (.goto 4, 3) := by decide +kernel
theorem dX12_two_111 : decode cX12_two 111 = .ok (.iconst 0, 1) := by decide +kernel
theorem dX12_two_112 : decode cX12_two 112 = .ok (.ireturn, 1) := by decide +kernel
theorem dX12_two_113 : decode cX12_two 113 = .ok (.iload_n 1, 1) := by decide +kernel
theorem dX12_two_114 : decode cX12_two 114 = .ok (.iload_n 2, 1) := by decide +kernel
theorem dX12_two_115 : decode cX12_two 115 = .ok (.iadd, 1) := by decide +kernel
theorem dX12_two_116 : decode cX12_two 116 = .ok (.ireturn, 1) := by decide +kernel
theorem dX12_two_117 : decode cX12_two 117 = .ok (.iload_n 1, 1) := by decide +kernel
theorem dX12_two_118 : decode cX12_two 118 = .ok (.iload_n 2, 1) := by decide +kernel
theorem dX12_two_119 : decode cX12_two 119 = .ok (.isub, 1) := by decide +kernel
theorem dX12_two_120 : decode cX12_two 120 = .ok (.ireturn, 1) := by decide +kernel
theorem dX12_two_121 : decode cX12_two 121 = .ok (.iload_n 1, 1) := by decide +kernel
theorem dX12_two_122 : decode cX12_two 122 = .ok (.iload_n 2, 1) := by decide +kernel
theorem dX12_two_123 : decode cX12_two 123 = .ok (.imul, 1) := by decide +kernel
theorem dX12_two_124 : decode cX12_two 124 = .ok (.ireturn, 1) := by decide +kernel
theorem dX12_two_125 : decode cX12_two 125 = .ok (.iload_n 2, 1) := by decide +kernel
theorem dX12_two_126 : decode cX12_two 126 = .ok (.ifCond .ne 7, 3) := by decide +kernel
theorem dX12_two_129 : decode cX12_two 129 = .ok (.iconst 0, 1) := by decide +kernel
theorem dX12_two_130 : decode cX12_two 130 = .ok (.goto 6, 3) := by decide +kernel
theorem dX12_two_133 : decode cX12_two 133 = .ok (.iload_n 1, 1) := by decide +kernel
theorem dX12_two_134 : decode cX12_two 134 = .ok (.iload_n 2, 1) := by decide +kernel
theorem dX12_two_135 : decode cX12_two 135 = .ok (.idiv, 1) := by decide +kernel
theorem dX12_two_136 : decode cX12_two 136 = .ok (.ireturn, 1) := by decide +kernel
theorem dX12_two_137 : decode cX12_two 137 = .ok (.iload_n 2, 1) := by decide +kernel
theorem dX12_two_138 : decode cX12_two 138 = .ok (.ifCond .ne 7, 3) := by decide +kernel
theorem dX12_two_141 : decode cX12_two 141 = .ok (.iconst 0, 1) := by decide +kernel
theorem dX12_two_142 : decode cX12_two 142 = .ok (.goto 6, 3) := by decide +kernel
theorem dX12_two_145 : decode cX12_two 145 = .ok (.iload_n 1, 1) := by decide +kernel
theorem dX12_two_146 : decode cX12_two 146 = .ok (.iload_n 2, 1) := by decide +kernel
theorem dX12_two_147 : decode cX12_two 147 = .ok (.irem, 1) := by decide +kernel
theorem dX12_two_148 : decode cX12_two 148 = .ok (.ireturn, 1) := by decide +kernel
set_option maxRecDepth 20000 in
theorem ggX12_valueOf_X12_two : GoodIn wsX12_valueOf wsX12_two := goodIn_r _ [7] rfl (by decide +kernel)
set_option maxRecDepth 20000 in
theorem gX12_valueOf_X12_two : GoodIn wsX12_valueOf (va_wsS RX12 229 yX12_two wsX12_two) := goodIn_app (goodIn_r _ [4, 5, 6] rfl (by decide +kernel)) ggX12_valueOf_X12_two
theorem dX12_valueOf_0 : decode cX12_valueOf 0 = .ok (.iconst 0, 1) := by decide +kernel
theorem dX12_valueOf_1 : decode cX12_valueOf 1 = .ok (.istore 4, 2) := by decide +kernel
theorem dX12_valueOf_3 : decode cX12_valueOf 3 = .ok (.iload_n 2, 1) := by decide +kernel
theorem dX12_valueOf_4 : decode cX12_valueOf 4 = .ok (.istore 5, 2) := by decide +kernel
theorem dX12_valueOf_6 : decode cX12_valueOf 6 = .ok (.iload 5, 2) := by decide +kernel
theorem dX12_valueOf_8 : decode cX12_valueOf 8 = .ok (.iload_n 3, 1) := by decide +kernel
theorem dX12_valueOf_9 : decode cX12_valueOf 9 = .ok (.if_icmp .ge 160, 3) := by decide +kernel
theorem dX12_valueOf_12 : decode cX12_valueOf 12 = .ok (.aload_n 0, 1) := by decide +kernel
theorem dX12_valueOf_13 : decode cX12_valueOf 13 = .ok (.getfield 58, 3) := by decide +kernel
theorem dX12_valueOf_16 : decode cX12_valueOf 16 = .ok (.sipush 128, 3) := by decide +kernel
theorem dX12_valueOf_19 : decode cX12_valueOf 19 = .ok (.iload_n 1, 1) := by decide +kernel
theorem dX12_valueOf_20 : decode cX12_valueOf 20 = .ok (.imul, 1) := by decide +kernel
theorem dX12_valueOf_21 : decode cX12_valueOf 21 = .ok (.iload 5, 2) := by decide +kernel
theorem dX12_valueOf_23 : decode cX12_valueOf 23 = .ok (.iadd, 1) := by decide +kernel
theorem dX12_valueOf_24 : decode cX12_valueOf 24 = .ok (.iaload, 1) := by decide +kernel
theorem dX12_valueOf_25 : decode cX12_valueOf 25 = .ok (.istore 6, 2) := by decide +kernel
theorem dX12_valueOf_27 : decode cX12_valueOf 27 = .ok (.iload 6, 2) := by decide +kernel
theorem dX12_valueOf_29 : decode cX12_valueOf 29 = .ok (.bipush 100, 2) := by decide +kernel
theorem dX12_valueOf_31 : decode cX12_valueOf 31 = .ok (.if_icmp .lt 43, 3) := by decide +kernel
theorem dX12_valueOf_34 : decode cX12_valueOf 34 = .ok (.aload_n 0, 1) := by decide +kernel
theorem dX12_valueOf_35 : decode cX12_valueOf 35 = .ok (.getfield 71, 3) := by decide +kernel
theorem dX12_valueOf_38 : decode cX12_valueOf 38 = .ok (.iload 4, 2) := by decide +kernel
theorem dX12_valueOf_40 : decode cX12_valueOf 40 = .ok (.iload 6, 2) := by decide +kernel
theorem dX12_valueOf_42 : decode cX12_valueOf 42 = .ok (.sipush 1000, 3) := by decide +kernel
theorem dX12_valueOf_45 : decode cX12_valueOf 45 = .ok (.if_icmp .lt 12, 3) := by decide +kernel
theorem dX12_valueOf_48 : decode cX12_valueOf 48 = .ok (.iload 6, 2) := by decide +kernel
theorem dX12_valueOf_50 : decode cX12_valueOf 50 = .ok (.sipush 1000, 3) := by decide +kernel
theorem dX12_valueOf_53 : decode cX12_valueOf 53 = .ok (.isub, 1) := by decide +kernel
theorem dX12_valueOf_54 : decode cX12_valueOf 54 = .ok (.goto 13, 3) := by decide +kernel
theorem dX12_valueOf_57 : decode cX12_valueOf 57 = .ok (.aload_n 0, 1) := by decide +kernel
theorem dX12_valueOf_58 : decode cX12_valueOf 58 = .ok (.getfield 68, 3) := by decide +kernel
theorem dX12_valueOf_61 : decode cX12_valueOf 61 = .ok (.iload 6, 2) := by decide +kernel
theorem dX12_valueOf_63 : decode cX12_valueOf 63 = .ok (.bipush 100, 2) := by decide +kernel
theorem dX12_valueOf_65 : decode cX12_valueOf 65 = .ok (.isub, 1) := by decide +kernel
theorem dX12_valueOf_66 : decode cX12_valueOf 66 = .ok (.iaload, 1) := by decide +kernel
theorem dX12_valueOf_67 : decode cX12_valueOf 67 = .ok (.iastore, 1) := by decide +kernel
theorem dX12_valueOf_68 : decode cX12_valueOf 68 = .ok (.iinc 4 1, 3) := by decide +kernel
theorem dX12_valueOf_71 : decode cX12_valueOf 71 = .ok (.goto 92, 3) := by decide +kernel
theorem dX12_valueOf_74 : decode cX12_valueOf 74 = .ok (.iload 6, 2) := by decide +kernel
theorem dX12_valueOf_76 : decode cX12_valueOf 76 = .ok (.bipush 10, 2) := by decide +kernel
theorem dX12_valueOf_78 : decode cX12_valueOf 78 = .ok (.if_icmp .le 52, 3) := by decide +kernel
theorem dX12_valueOf_81 : decode cX12_valueOf 81 = .ok (.aload_n 0, 1) := by decide +kernel
theorem dX12_valueOf_82 : decode cX12_valueOf 82 = .ok (.getfield 71, 3) := by decide +kernel
theorem dX12_valueOf_85 : decode cX12_valueOf 85 = .ok (.iload 4, 2) := by decide +kernel
theorem dX12_valueOf_87 : decode cX12_valueOf 87 = .ok (.iconst 1, 1) := by decide +kernel
theorem dX12_valueOf_88 : decode cX12_valueOf 88 = .ok (.isub, 1) := by decide +kernel
theorem dX12_valueOf_89 : decode cX12_valueOf 89 = .ok (.iload 6, 2) := by decide +kernel
theorem dX12_valueOf_91 : decode cX12_valueOf 91 = .ok (.bipush 12, 2) := by decide +kernel
theorem dX12_valueOf_93 : decode cX12_valueOf 93 = .ok (.if_icmp .ne 16, 3) := by decide +kernel
theorem dX12_valueOf_96 : decode cX12_valueOf 96 = .ok (.aload_n 0, 1) := by decide +kernel
theorem dX12_valueOf_97 : decode cX12_valueOf 97 = .ok (.getfield 71, 3) := by decide +kernel
theorem dX12_valueOf_100 : decode cX12_valueOf 100 = .ok (.iload 4, 2) := by decide +kernel
theorem dX12_valueOf_102 : decode cX12_valueOf 102 = .ok (.iconst 1, 1) := by decide +kernel
theorem dX12_valueOf_103 : decode cX12_valueOf 103 = .ok (.isub, 1) := by decide +kernel
theorem dX12_valueOf_104 : decode cX12_valueOf 104 = .ok (.iaload, 1) := by decide +kernel
theorem dX12_valueOf_105 : decode cX12_valueOf 105 = .ok (.ineg, 1) := by decide +kernel
theorem dX12_valueOf_106 : decode cX12_valueOf 106 = .ok (.goto 20, 3) := by decide +kernel
theorem dX12_valueOf_109 : decode cX12_valueOf 109 = .ok (.aload_n 0, 1) := by decide +kernel
theorem dX12_valueOf_110 : decode cX12_valueOf 110 = .ok (.getfield 71, 3) := by decide +kernel
theorem dX12_valueOf_113 : decode cX12_valueOf 113 = .ok (.iload 4, 2) := by decide +kernel
theorem dX12_valueOf_115 : decode cX12_valueOf 115 = .ok (.iconst 1, 1) := by decide +kernel
theorem dX12_valueOf_116 : decode cX12_valueOf 116 = .ok (.isub, 1) := by decide +kernel
theorem dX12_valueOf_117 : decode cX12_valueOf 117 = .ok (.iaload, 1) := by decide +kernel
theorem dX12_valueOf_118 : decode cX12_valueOf 118 = .ok (.ifCond .ne 7, 3) := by decide +kernel
theorem dX12_valueOf_121 : decode cX12_valueOf 121 = .ok (.iconst 1, 1) := by decide +kernel
theorem dX12_valueOf_122 : decode cX12_valueOf 122 = .ok (.goto 4, 3) := by decide +kernel
theorem dX12_valueOf_125 : decode cX12_valueOf 125 = .ok (.iconst 0, 1) := by decide +kernel
theorem dX12_valueOf_126 : decode cX12_valueOf 126 = .ok (.iastore, 1) := by decide +kernel
theorem dX12_valueOf_127 : decode cX12_valueOf 127 = .ok (.goto 36, 3) := by decide +kernel
theorem dX12_valueOf_130 : decode cX12_valueOf 130 = .ok (.iinc 4 (-1), 3) := by decide +kernel
theorem dX12_valueOf_133 : decode cX12_valueOf 133 = .ok (.aload_n 0, 1) := by decide +kernel
theorem dX12_valueOf_134 : decode cX12_valueOf 134 = .ok (.getfield 71, 3) := by decide +kernel
theorem dX12_valueOf_137 : decode cX12_valueOf 137 = .ok (.iload 4, 2) := by decide +kernel
theorem dX12_valueOf_139 : decode cX12_valueOf 139 = .ok (.iconst 1, 1) := by decide +kernel
theorem dX12_valueOf_140 : decode cX12_valueOf 140 = .ok (.isub, 1) := by decide +kernel
theorem dX12_valueOf_141 : decode cX12_valueOf 141 = .ok (.iload 6, 2) := by decide +kernel
theorem dX12_valueOf_143 : decode cX12_valueOf 143 = .ok (.aload_n 0, 1) := by decide +kernel
theorem dX12_valueOf_144 : decode cX12_valueOf 144 = .ok (.getfield 71, 3) := by decide +kernel
theorem dX12_valueOf_147 : decode cX12_valueOf 147 = .ok (.iload 4, 2) := by decide +kernel
theorem dX12_valueOf_149 : decode cX12_valueOf 149 = .ok (.iconst 1, 1) := by decide +kernel
theorem dX12_valueOf_150 : decode cX12_valueOf 150 = .ok (.isub, 1) := by decide +kernel
theorem dX12_valueOf_151 : decode cX12_valueOf 151 = .ok (.iaload, 1) := by decide +kernel
theorem dX12_valueOf_152 : decode cX12_valueOf 152 = .ok (.aload_n 0, 1) := by decide +kernel
theorem dX12_valueOf_153 : decode cX12_valueOf 153 = .ok (.getfield 71, 3) := by decide +kernel
theorem dX12_valueOf_156 : decode cX12_valueOf 156 = .ok (.iload 4, 2) := by decide +kernel
theorem dX12_valueOf_158 : decode cX12_valueOf 158 = .ok (.iaload, 1) := by decide +kernel
theorem dX12_valueOf_159 : decode cX12_valueOf 159 = .ok (.invokestatic 229, 3) := by decide +kernel
theorem dX12_valueOf_162 : decode cX12_valueOf 162 = .ok (.iastore, 1) := by decide +kernel
theorem dX12_valueOf_163 : decode cX12_valueOf 163 = .ok (.iinc 5 1, 3) := by decide +kernel
theorem dX12_valueOf_166 : decode cX12_valueOf 166 = .ok (.goto (-160), 3) := by decide +kernel
theorem dX12_valueOf_169 : decode cX12_valueOf 169 = .ok (.aload_n 0, 1) := by decide +kernel
theorem dX12_valueOf_170 : decode cX12_valueOf 170 = .ok (.getfield 71, 3) := by decide +kernel
theorem dX12_valueOf_173 : decode cX12_valueOf 173 = .ok (.iconst 0, 1) := by decide +kernel
theorem dX12_valueOf_174 : decode cX12_valueOf 174 = .ok (.iaload, 1) := by decide +kernel
theorem dX12_valueOf_175 : decode cX12_valueOf 175 = .ok (.ireturn, 1) := by decide +kernel
set_option maxRecDepth 20000 in
theorem ggX12_told_X12_valueOf : GoodIn wsX12_told wsX12_valueOf := goodIn_r _ [9, 10, 11, 12, 13, 14, 8, 15, 16, 17, 18, 19, 20, 21, 22, 23, 24, 25, 26, 27, 28, 29, 30, 31, 32, 33, 34, 35, 36, 37, 38, 39, 40, 41, 42, 43, 44, 45, 46, 47, 48, 49, 50, 51, 52, 53, 54, 55, 56, 57, 58, 59, 60, 61, 62, 63, 64, 65, 66, 67, 68, 69, 70, 71, 72] rfl (by decide +kernel)
set_option maxRecDepth 20000 in
theorem gX12_told_X12_valueOf : GoodIn wsX12_told (wsV RX12 233 RX12 yX12_valueOf wsX12_valueOf) := goodIn_app (goodIn_r _ [5, 6, 7, 8] rfl (by decide +kernel)) ggX12_told_X12_valueOf
theorem dX12_told_0 : decode cX12_told 0 = .ok (.bipush 64, 2) := by decide +kernel
theorem dX12_told_2 : decode cX12_told 2 = .ok (.iload_n 1, 1) := by decide +kernel
theorem dX12_told_3 : decode cX12_told 3 = .ok (.imul, 1) := by decide +kernel
theorem dX12_told_4 : decode cX12_told 4 = .ok (.istore_n 2, 1) := by decide +kernel
theorem dX12_told_5 : decode cX12_told 5 = .ok (.iload_n 2, 1) := by decide +kernel
theorem dX12_told_6 : decode cX12_told 6 = .ok (.bipush 64, 2) := by decide +kernel
theorem dX12_told_8 : decode cX12_told 8 = .ok (.iload_n 1, 1) := by decide +kernel
theorem dX12_told_9 : decode cX12_told 9 = .ok (.imul, 1) := by decide +kernel
theorem dX12_told_10 : decode cX12_told 10 = .ok (.aload_n 0, 1) := by decide +kernel
theorem dX12_told_11 : decode cX12_told 11 = .ok (.getfield 46, 3) := by decide +kernel
theorem dX12_told_14 : decode cX12_told 14 = .ok (.iload_n 1, 1) := by decide +kernel
theorem dX12_told_15 : decode cX12_told 15 = .ok (.iaload, 1) := by decide +kernel
theorem dX12_told_16 : decode cX12_told 16 = .ok (.iadd, 1) := by decide +kernel
theorem dX12_told_17 : decode cX12_told 17 = .ok (.if_icmp .ge 72, 3) := by decide +kernel
theorem dX12_told_20 : decode cX12_told 20 = .ok (.aload_n 0, 1) := by decide +kernel
theorem dX12_told_21 : decode cX12_told 21 = .ok (.getfield 52, 3) := by decide +kernel
theorem dX12_told_24 : decode cX12_told 24 = .ok (.iload_n 2, 1) := by decide +kernel
theorem dX12_told_25 : decode cX12_told 25 = .ok (.iaload, 1) := by decide +kernel
theorem dX12_told_26 : decode cX12_told 26 = .ok (.aload_n 0, 1) := by decide +kernel
theorem dX12_told_27 : decode cX12_told 27 = .ok (.getfield 49, 3) := by decide +kernel
theorem dX12_told_30 : decode cX12_told 30 = .ok (.iload_n 2, 1) := by decide +kernel
theorem dX12_told_31 : decode cX12_told 31 = .ok (.iaload, 1) := by decide +kernel
theorem dX12_told_32 : decode cX12_told 32 = .ok (.if_icmp .ne 7, 3) := by decide +kernel
theorem dX12_told_35 : decode cX12_told 35 = .ok (.iconst 1, 1) := by decide +kernel
theorem dX12_told_36 : decode cX12_told 36 = .ok (.goto 4, 3) := by decide +kernel
theorem dX12_told_39 : decode cX12_told 39 = .ok (.iconst 0, 1) := by decide +kernel
theorem dX12_told_40 : decode cX12_told 40 = .ok (.istore_n 3, 1) := by decide +kernel
theorem dX12_told_41 : decode cX12_told 41 = .ok (.iload_n 3, 1) := by decide +kernel
theorem dX12_told_42 : decode cX12_told 42 = .ok (.ifCond .ne 23, 3) := by decide +kernel
theorem dX12_told_45 : decode cX12_told 45 = .ok (.aload_n 0, 1) := by decide +kernel
theorem dX12_told_46 : decode cX12_told 46 = .ok (.iload_n 1, 1) := by decide +kernel
theorem dX12_told_47 : decode cX12_told 47 = .ok (.aload_n 0, 1) := by decide +kernel
theorem dX12_told_48 : decode cX12_told 48 = .ok (.getfield 49, 3) := by decide +kernel
theorem dX12_told_51 : decode cX12_told 51 = .ok (.iload_n 2, 1) := by decide +kernel
theorem dX12_told_52 : decode cX12_told 52 = .ok (.iaload, 1) := by decide +kernel
theorem dX12_told_53 : decode cX12_told 53 = .ok (.aload_n 0, 1) := by decide +kernel
theorem dX12_told_54 : decode cX12_told 54 = .ok (.getfield 52, 3) := by decide +kernel
theorem dX12_told_57 : decode cX12_told 57 = .ok (.iload_n 2, 1) := by decide +kernel
theorem dX12_told_58 : decode cX12_told 58 = .ok (.iaload, 1) := by decide +kernel
theorem dX12_told_59 : decode cX12_told 59 = .ok (.invokevirtual 233, 3) := by decide +kernel
theorem dX12_told_62 : decode cX12_told 62 = .ok (.ifCond .eq 21, 3) := by decide +kernel
theorem dX12_told_65 : decode cX12_told 65 = .ok (.aload_n 0, 1) := by decide +kernel
theorem dX12_told_66 : decode cX12_told 66 = .ok (.iload_n 1, 1) := by decide +kernel
theorem dX12_told_67 : decode cX12_told 67 = .ok (.aload_n 0, 1) := by decide +kernel
theorem dX12_told_68 : decode cX12_told 68 = .ok (.getfield 52, 3) := by decide +kernel
theorem dX12_told_71 : decode cX12_told 71 = .ok (.iload_n 2, 1) := by decide +kernel
theorem dX12_told_72 : decode cX12_told 72 = .ok (.iaload, 1) := by decide +kernel
theorem dX12_told_73 : decode cX12_told 73 = .ok (.aload_n 0, 1) := by decide +kernel
theorem dX12_told_74 : decode cX12_told 74 = .ok (.getfield 55, 3) := by decide +kernel
theorem dX12_told_77 : decode cX12_told 77 = .ok (.iload_n 2, 1) := by decide +kernel
theorem dX12_told_78 : decode cX12_told 78 = .ok (.iaload, 1) := by decide +kernel
theorem dX12_told_79 : decode cX12_told 79 = .ok (.invokevirtual 233, 3) := by decide +kernel
theorem dX12_told_82 : decode cX12_told 82 = .ok (.ireturn, 1) := by decide +kernel
theorem dX12_told_83 : decode cX12_told 83 = .ok (.iinc 2 1, 3) := by decide +kernel
theorem dX12_told_86 : decode cX12_told 86 = .ok (.goto (-81), 3) := by decide +kernel
theorem dX12_told_89 : decode cX12_told 89 = .ok (.iconst 0, 1) := by decide +kernel
theorem dX12_told_90 : decode cX12_told 90 = .ok (.ireturn, 1) := by decide +kernel
theorem dX12_names_0 : decode cX12_names 0 = .ok (.aload_n 0, 1) := by decide +kernel
theorem dX12_names_1 : decode cX12_names 1 = .ok (.getfield 68, 3) := by decide +kernel
theorem dX12_names_4 : decode cX12_names 4 = .ok (.iconst 0, 1) := by decide +kernel
theorem dX12_names_5 : decode cX12_names 5 = .ok (.iload_n 1, 1) := by decide +kernel
theorem dX12_names_6 : decode cX12_names 6 = .ok (.iastore, 1) := by decide +kernel
theorem dX12_names_7 : decode cX12_names 7 = .ok (.aload_n 0, 1) := by decide +kernel
theorem dX12_names_8 : decode cX12_names 8 = .ok (.getfield 68, 3) := by decide +kernel
theorem dX12_names_11 : decode cX12_names 11 = .ok (.iconst 1, 1) := by decide +kernel
theorem dX12_names_12 : decode cX12_names 12 = .ok (.iload_n 2, 1) := by decide +kernel
theorem dX12_names_13 : decode cX12_names 13 = .ok (.iastore, 1) := by decide +kernel
theorem dX12_names_14 : decode cX12_names 14 = .ok (.aload_n 0, 1) := by decide +kernel
theorem dX12_names_15 : decode cX12_names 15 = .ok (.getfield 68, 3) := by decide +kernel
theorem dX12_names_18 : decode cX12_names 18 = .ok (.iconst 2, 1) := by decide +kernel
theorem dX12_names_19 : decode cX12_names 19 = .ok (.iload_n 3, 1) := by decide +kernel
theorem dX12_names_20 : decode cX12_names 20 = .ok (.iastore, 1) := by decide +kernel
theorem dX12_names_21 : decode cX12_names 21 = .ok (.aload_n 0, 1) := by decide +kernel
theorem dX12_names_22 : decode cX12_names 22 = .ok (.getfield 68, 3) := by decide +kernel
theorem dX12_names_25 : decode cX12_names 25 = .ok (.iconst 3, 1) := by decide +kernel
theorem dX12_names_26 : decode cX12_names 26 = .ok (.iload 4, 2) := by decide +kernel
theorem dX12_names_28 : decode cX12_names 28 = .ok (.iastore, 1) := by decide +kernel
theorem dX12_names_29 : decode cX12_names 29 = .ok (.aload_n 0, 1) := by decide +kernel
theorem dX12_names_30 : decode cX12_names 30 = .ok (.getfield 68, 3) := by decide +kernel
theorem dX12_names_33 : decode cX12_names 33 = .ok (.iconst 4, 1) := by decide +kernel
theorem dX12_names_34 : decode cX12_names 34 = .ok (.iload 5, 2) := by decide +kernel
theorem dX12_names_36 : decode cX12_names 36 = .ok (.iastore, 1) := by decide +kernel
theorem dX12_names_37 : decode cX12_names 37 = .ok (.aload_n 0, 1) := by decide +kernel
theorem dX12_names_38 : decode cX12_names 38 = .ok (.getfield 68, 3) := by decide +kernel
theorem dX12_names_41 : decode cX12_names 41 = .ok (.iconst 5, 1) := by decide +kernel
theorem dX12_names_42 : decode cX12_names 42 = .ok (.iload 6, 2) := by decide +kernel
theorem dX12_names_44 : decode cX12_names 44 = .ok (.iastore, 1) := by decide +kernel
theorem dX12_names_45 : decode cX12_names 45 = .ok (.aload_n 0, 1) := by decide +kernel
theorem dX12_names_46 : decode cX12_names 46 = .ok (.getfield 68, 3) := by decide +kernel
theorem dX12_names_49 : decode cX12_names 49 = .ok (.bipush 6, 2) := by decide +kernel
theorem dX12_names_51 : decode cX12_names 51 = .ok (.iload 7, 2) := by decide +kernel
theorem dX12_names_53 : decode cX12_names 53 = .ok (.iastore, 1) := by decide +kernel
theorem dX12_names_54 : decode cX12_names 54 = .ok (.return_, 1) := by decide +kernel
set_option maxRecDepth 20000 in
theorem ggX12_rateOf_X12_names : GoodIn wsX12_rateOf wsX12_names := goodIn_r _ [6, 7, 27, 28, 29, 30, 31, 32, 33, 34, 35, 36, 37, 38, 39, 40, 41, 42, 43, 44, 45, 46, 47, 48, 49, 50, 51, 52, 53, 54, 55, 56, 57, 58, 59, 60, 61, 62, 63, 64, 65, 66, 67, 68, 69, 70, 71, 72, 73, 74, 75, 76, 77, 78, 79, 80, 81, 82, 83] rfl (by decide +kernel)
set_option maxRecDepth 20000 in
theorem gX12_rateOf_X12_names : GoodIn wsX12_rateOf (wsV RX12 236 RX12 yX12_names wsX12_names) := goodIn_app (goodIn_r _ [2, 3, 4, 5] rfl (by decide +kernel)) ggX12_rateOf_X12_names
set_option maxRecDepth 20000 in
theorem ggX12_rateOf_X12_told : GoodIn wsX12_rateOf wsX12_told := goodIn_r _ [11, 1, 12, 13, 14, 15, 16, 17, 5, 18, 19, 20, 7, 21, 22, 23, 27, 28, 29, 30, 31, 32, 33, 34, 35, 36, 37, 38, 39, 40, 41, 42, 43, 44, 45, 46, 47, 48, 49, 50, 51, 52, 53, 54, 55, 56, 57, 58, 59, 60, 61, 62, 63, 64, 65, 66, 67, 68, 69, 70, 71, 72, 73, 74, 75, 76, 77, 78, 79, 80, 81, 82, 83] rfl (by decide +kernel)
set_option maxRecDepth 20000 in
theorem gX12_rateOf_X12_told : GoodIn wsX12_rateOf (wsV RX12 240 RX12 yX12_told wsX12_told) := goodIn_app (goodIn_r _ [8, 9, 10, 5] rfl (by decide +kernel)) ggX12_rateOf_X12_told
set_option maxRecDepth 20000 in
theorem ggX12_rateOf_X12_within : GoodIn wsX12_rateOf wsX12_within := goodIn_r _ [26] rfl (by decide +kernel)
set_option maxRecDepth 20000 in
theorem gX12_rateOf_X12_within : GoodIn wsX12_rateOf (va_wsS RX12 243 yX12_within wsX12_within) := goodIn_app (goodIn_r _ [24, 25, 5] rfl (by decide +kernel)) ggX12_rateOf_X12_within
theorem dX12_rateOf_0 : decode cX12_rateOf 0 = .ok (.iload_n 1, 1) := by decide +kernel
theorem dX12_rateOf_1 : decode cX12_rateOf 1 = .ok (.iload_n 2, 1) := by decide +kernel
theorem dX12_rateOf_2 : decode cX12_rateOf 2 = .ok (.if_icmp .eq 12, 3) := by decide +kernel
theorem dX12_rateOf_5 : decode cX12_rateOf 5 = .ok (.aload_n 0, 1) := by decide +kernel
theorem dX12_rateOf_6 : decode cX12_rateOf 6 = .ok (.getfield 46, 3) := by decide +kernel
theorem dX12_rateOf_9 : decode cX12_rateOf 9 = .ok (.iconst 0, 1) := by decide +kernel
theorem dX12_rateOf_10 : decode cX12_rateOf 10 = .ok (.iaload, 1) := by decide +kernel
theorem dX12_rateOf_11 : decode cX12_rateOf 11 = .ok (.ifCond .ne 7, 3) := by decide +kernel
theorem dX12_rateOf_14 : decode cX12_rateOf 14 = .ok (.sipush 1000, 3) := by decide +kernel
theorem dX12_rateOf_17 : decode cX12_rateOf 17 = .ok (.ireturn, 1) := by decide +kernel
theorem dX12_rateOf_18 : decode cX12_rateOf 18 = .ok (.aload_n 0, 1) := by decide +kernel
theorem dX12_rateOf_19 : decode cX12_rateOf 19 = .ok (.iload_n 1, 1) := by decide +kernel
theorem dX12_rateOf_20 : decode cX12_rateOf 20 = .ok (.iload_n 2, 1) := by decide +kernel
theorem dX12_rateOf_21 : decode cX12_rateOf 21 = .ok (.iload_n 3, 1) := by decide +kernel
theorem dX12_rateOf_22 : decode cX12_rateOf 22 = .ok (.iconst 0, 1) := by decide +kernel
theorem dX12_rateOf_23 : decode cX12_rateOf 23 = .ok (.iconst 0, 1) := by decide +kernel
theorem dX12_rateOf_24 : decode cX12_rateOf 24 = .ok (.iconst 0, 1) := by decide +kernel
theorem dX12_rateOf_25 : decode cX12_rateOf 25 = .ok (.iconst 0, 1) := by decide +kernel
theorem dX12_rateOf_26 : decode cX12_rateOf 26 = .ok (.invokevirtual 236, 3) := by decide +kernel
theorem dX12_rateOf_29 : decode cX12_rateOf 29 = .ok (.aload_n 0, 1) := by decide +kernel
theorem dX12_rateOf_30 : decode cX12_rateOf 30 = .ok (.iconst 0, 1) := by decide +kernel
theorem dX12_rateOf_31 : decode cX12_rateOf 31 = .ok (.invokevirtual 240, 3) := by decide +kernel
theorem dX12_rateOf_34 : decode cX12_rateOf 34 = .ok (.iconst 1, 1) := by decide +kernel
theorem dX12_rateOf_35 : decode cX12_rateOf 35 = .ok (.sipush 9999, 3) := by decide +kernel
theorem dX12_rateOf_38 : decode cX12_rateOf 38 = .ok (.invokestatic 243, 3) := by decide +kernel
theorem dX12_rateOf_41 : decode cX12_rateOf 41 = .ok (.ireturn, 1) := by decide +kernel
set_option maxRecDepth 20000 in
theorem ggX12_isDay_X12_in : GoodIn wsX12_isDay wsX12_in := goodIn_r _ [4] rfl (by decide +kernel)
set_option maxRecDepth 20000 in
theorem gX12_isDay_X12_in : GoodIn wsX12_isDay (va_wsS RX12 118 yX12_in wsX12_in) := goodIn_app (goodIn_r _ [1, 2, 3] rfl (by decide +kernel)) ggX12_isDay_X12_in
theorem dX12_isDay_0 : decode cX12_isDay 0 = .ok (.iload_n 0, 1) := by decide +kernel
theorem dX12_isDay_1 : decode cX12_isDay 1 = .ok (.iconst 0, 1) := by decide +kernel
theorem dX12_isDay_2 : decode cX12_isDay 2 = .ok (.sipush 9999, 3) := by decide +kernel
theorem dX12_isDay_5 : decode cX12_isDay 5 = .ok (.invokestatic 118, 3) := by decide +kernel
theorem dX12_isDay_8 : decode cX12_isDay 8 = .ok (.ireturn, 1) := by decide +kernel
set_option maxRecDepth 20000 in
theorem ggX12_isPair_X12_isLand : GoodIn wsX12_isPair wsX12_isLand := goodIn_r _ [4, 5, 6, 3, 7] rfl (by decide +kernel)
set_option maxRecDepth 20000 in
theorem gX12_isPair_X12_isLand : GoodIn wsX12_isPair (va_wsS RX12 125 yX12_isLand wsX12_isLand) := goodIn_app (goodIn_r _ [1, 2, 3] rfl (by decide +kernel)) ggX12_isPair_X12_isLand
theorem dX12_isPair_0 : decode cX12_isPair 0 = .ok (.iload_n 0, 1) := by decide +kernel
theorem dX12_isPair_1 : decode cX12_isPair 1 = .ok (.ifCond .lt 27, 3) := by decide +kernel
theorem dX12_isPair_4 : decode cX12_isPair 4 = .ok (.iload_n 0, 1) := by decide +kernel
theorem dX12_isPair_5 : decode cX12_isPair 5 = .ok (.bipush 10, 2) := by decide +kernel
theorem dX12_isPair_7 : decode cX12_isPair 7 = .ok (.idiv, 1) := by decide +kernel
theorem dX12_isPair_8 : decode cX12_isPair 8 = .ok (.invokestatic 125, 3) := by decide +kernel
theorem dX12_isPair_11 : decode cX12_isPair 11 = .ok (.ifCond .eq 17, 3) := by decide +kernel
theorem dX12_isPair_14 : decode cX12_isPair 14 = .ok (.iload_n 0, 1) := by decide +kernel
theorem dX12_isPair_15 : decode cX12_isPair 15 = .ok (.bipush 10, 2) := by decide +kernel
theorem dX12_isPair_17 : decode cX12_isPair 17 = .ok (.irem, 1) := by decide +kernel
theorem dX12_isPair_18 : decode cX12_isPair 18 = .ok (.invokestatic 125, 3) := by decide +kernel
theorem dX12_isPair_21 : decode cX12_isPair 21 = .ok (.ifCond .eq 7, 3) := by decide +kernel
theorem dX12_isPair_24 : decode cX12_isPair 24 = .ok (.iconst 1, 1) := by decide +kernel
theorem dX12_isPair_25 : decode cX12_isPair 25 = .ok (.goto 4, 3) := by decide +kernel
theorem dX12_isPair_28 : decode cX12_isPair 28 = .ok (.iconst 0, 1) := by decide +kernel
theorem dX12_isPair_29 : decode cX12_isPair 29 = .ok (.ireturn, 1) := by decide +kernel
set_option maxRecDepth 20000 in
theorem ggX12_rate_X12_isPair : GoodIn wsX12_rate wsX12_isPair := goodIn_r _ [4, 5, 6, 3, 7, 8, 9, 10] rfl (by decide +kernel)
set_option maxRecDepth 20000 in
theorem gX12_rate_X12_isPair : GoodIn wsX12_rate (va_wsS RX12 246 yX12_isPair wsX12_isPair) := goodIn_app (goodIn_r _ [1, 2, 3] rfl (by decide +kernel)) ggX12_rate_X12_isPair
set_option maxRecDepth 20000 in
theorem ggX12_rate_X12_isDay : GoodIn wsX12_rate wsX12_isDay := goodIn_r _ [13, 8, 9, 3, 10] rfl (by decide +kernel)
set_option maxRecDepth 20000 in
theorem gX12_rate_X12_isDay : GoodIn wsX12_rate (va_wsS RX12 249 yX12_isDay wsX12_isDay) := goodIn_app (goodIn_r _ [11, 12, 3] rfl (by decide +kernel)) ggX12_rate_X12_isDay
set_option maxRecDepth 20000 in
theorem ggX12_rate_X12_rateOf : GoodIn wsX12_rate wsX12_rateOf := goodIn_r _ [17, 18, 19, 20, 21, 3, 22, 23, 24, 25, 26, 27, 28, 29, 30, 31, 32, 33, 34, 35, 36, 37, 38, 39, 40, 41, 42, 43, 44, 45, 46, 47, 48, 49, 50, 51, 52, 53, 54, 55, 56, 57, 58, 59, 60, 61, 62, 63, 64, 65, 66, 67, 68, 69, 70, 71, 72, 73, 74, 75, 76, 77, 78, 79, 80, 81, 82, 83, 84, 85, 86, 87, 88, 89, 90, 91, 92, 93, 94, 95, 96, 97, 98, 99] rfl (by decide +kernel)
set_option maxRecDepth 20000 in
theorem gX12_rate_X12_rateOf : GoodIn wsX12_rate (wsV RX12 252 RX12 yX12_rateOf wsX12_rateOf) := goodIn_app (goodIn_r _ [14, 15, 16, 3] rfl (by decide +kernel)) ggX12_rate_X12_rateOf
theorem dX12_rate_0 : decode cX12_rate 0 = .ok (.iload_n 1, 1) := by decide +kernel
theorem dX12_rate_1 : decode cX12_rate 1 = .ok (.invokestatic 246, 3) := by decide +kernel
theorem dX12_rate_4 : decode cX12_rate 4 = .ok (.ifCond .eq 26, 3) := by decide +kernel
theorem dX12_rate_7 : decode cX12_rate 7 = .ok (.iload_n 2, 1) := by decide +kernel
theorem dX12_rate_8 : decode cX12_rate 8 = .ok (.invokestatic 249, 3) := by decide +kernel
theorem dX12_rate_11 : decode cX12_rate 11 = .ok (.ifCond .eq 19, 3) := by decide +kernel
theorem dX12_rate_14 : decode cX12_rate 14 = .ok (.aload_n 0, 1) := by decide +kernel
theorem dX12_rate_15 : decode cX12_rate 15 = .ok (.iload_n 1, 1) := by decide +kernel
theorem dX12_rate_16 : decode cX12_rate 16 = .ok (.bipush 10, 2) := by decide +kernel
theorem dX12_rate_18 : decode cX12_rate 18 = .ok (.idiv, 1) := by decide +kernel
theorem dX12_rate_19 : decode cX12_rate 19 = .ok (.iload_n 1, 1) := by decide +kernel
theorem dX12_rate_20 : decode cX12_rate 20 = .ok (.bipush 10, 2) := by decide +kernel
theorem dX12_rate_22 : decode cX12_rate 22 = .ok (.irem, 1) := by decide +kernel
theorem dX12_rate_23 : decode cX12_rate 23 = .ok (.iload_n 2, 1) := by decide +kernel
theorem dX12_rate_24 : decode cX12_rate 24 = .ok (.invokevirtual 252, 3) := by decide +kernel
theorem dX12_rate_27 : decode cX12_rate 27 = .ok (.goto 4, 3) := by decide +kernel
theorem dX12_rate_30 : decode cX12_rate 30 = .ok (.iconst (-1), 1) := by decide +kernel
theorem dX12_rate_31 : decode cX12_rate 31 = .ok (.ireturn, 1) := by decide +kernel
theorem dX12_shifts_0 : decode cX12_shifts 0 = .ok (.bipush 30, 2) := by decide +kernel
theorem dX12_shifts_2 : decode cX12_shifts 2 = .ok (.istore_n 2, 1) := by decide +kernel
theorem dX12_shifts_3 : decode cX12_shifts 3 = .ok (.iload_n 2, 1) := by decide +kernel
theorem dX12_shifts_4 : decode cX12_shifts 4 = .ok (.ifCond .lt 50, 3) := by decide +kernel
theorem dX12_shifts_7 : decode cX12_shifts 7 = .ok (.iload_n 2, 1) := by decide +kernel
theorem dX12_shifts_8 : decode cX12_shifts 8 = .ok (.ifCond .le 19, 3) := by decide +kernel
theorem dX12_shifts_11 : decode cX12_shifts 11 = .ok (.aload_n 0, 1) := by decide +kernel
theorem dX12_shifts_12 : decode cX12_shifts 12 = .ok (.getfield 74, 3) := by decide +kernel
theorem dX12_shifts_15 : decode cX12_shifts 15 = .ok (.iload_n 2, 1) := by decide +kernel
theorem dX12_shifts_16 : decode cX12_shifts 16 = .ok (.iconst 1, 1) := by decide +kernel
theorem dX12_shifts_17 : decode cX12_shifts 17 = .ok (.isub, 1) := by decide +kernel
theorem dX12_shifts_18 : decode cX12_shifts 18 = .ok (.laload, 1) := by decide +kernel
theorem dX12_shifts_19 : decode cX12_shifts 19 = .ok (.bipush 64, 2) := by decide +kernel
theorem dX12_shifts_21 : decode cX12_shifts 21 = .ok (.iload_n 1, 1) := by decide +kernel
theorem dX12_shifts_22 : decode cX12_shifts 22 = .ok (.isub, 1) := by decide +kernel
theorem dX12_shifts_23 : decode cX12_shifts 23 = .ok (.lushr, 1) := by decide +kernel
theorem dX12_shifts_24 : decode cX12_shifts 24 = .ok (.goto 4, 3) := by decide +kernel
theorem dX12_shifts_27 : decode cX12_shifts 27 = .ok (.lconst 0, 1) := by decide +kernel
theorem dX12_shifts_28 : decode cX12_shifts 28 = .ok (.lstore_n 3, 1) := by decide +kernel
theorem dX12_shifts_29 : decode cX12_shifts 29 = .ok (.aload_n 0, 1) := by decide +kernel
theorem dX12_shifts_30 : decode cX12_shifts 30 = .ok (.getfield 74, 3) := by decide +kernel
theorem dX12_shifts_33 : decode cX12_shifts 33 = .ok (.iload_n 2, 1) := by decide +kernel
theorem dX12_shifts_34 : decode cX12_shifts 34 = .ok (.dup2, 1) := by decide +kernel
theorem dX12_shifts_35 : decode cX12_shifts 35 = .ok (.laload, 1) := by decide +kernel
theorem dX12_shifts_36 : decode cX12_shifts 36 = .ok (.aload_n 0, 1) := by decide +kernel
theorem dX12_shifts_37 : decode cX12_shifts 37 = .ok (.getfield 74, 3) := by decide +kernel
theorem dX12_shifts_40 : decode cX12_shifts 40 = .ok (.iload_n 2, 1) := by decide +kernel
theorem dX12_shifts_41 : decode cX12_shifts 41 = .ok (.laload, 1) := by decide +kernel
theorem dX12_shifts_42 : decode cX12_shifts 42 = .ok (.iload_n 1, 1) := by decide +kernel
theorem dX12_shifts_43 : decode cX12_shifts 43 = .ok (.lshl, 1) := by decide +kernel
theorem dX12_shifts_44 : decode cX12_shifts 44 = .ok (.lload_n 3, 1) := by decide +kernel
theorem dX12_shifts_45 : decode cX12_shifts 45 = .ok (.lor, 1) := by decide +kernel
theorem dX12_shifts_46 : decode cX12_shifts 46 = .ok (.lor, 1) := by decide +kernel
theorem dX12_shifts_47 : decode cX12_shifts 47 = .ok (.lastore, 1) := by decide +kernel
theorem dX12_shifts_48 : decode cX12_shifts 48 = .ok (.iinc 2 (-1), 3) := by decide +kernel
theorem dX12_shifts_51 : decode cX12_shifts 51 = .ok (.goto (-48), 3) := by decide +kernel
theorem dX12_shifts_54 : decode cX12_shifts 54 = .ok (.return_, 1) := by decide +kernel
set_option maxRecDepth 20000 in
theorem ggX12_pays_X12_shifts : GoodIn wsX12_pays wsX12_shifts := goodIn_r _ [10, 1, 11, 12, 13, 14, 15, 16, 17, 18, 19, 20, 21, 22, 23, 24, 25, 26, 27, 28, 29, 30, 31, 32, 33, 34, 35, 36, 37, 38, 39, 40, 41, 42, 43, 44, 45, 46, 47, 48, 49, 50, 51, 52, 53, 54, 55, 56, 57, 58, 59, 60, 61, 62, 63, 64, 65, 66, 67] rfl (by decide +kernel)
set_option maxRecDepth 20000 in
theorem gX12_pays_X12_shifts : GoodIn wsX12_pays (wsV RX12 255 RX12 yX12_shifts wsX12_shifts) := goodIn_app (goodIn_r _ [6, 7, 8, 9] rfl (by decide +kernel)) ggX12_pays_X12_shifts
theorem dX12_pays_0 : decode cX12_pays 0 = .ok (.iconst 0, 1) := by decide +kernel
theorem dX12_pays_1 : decode cX12_pays 1 = .ok (.istore_n 2, 1) := by decide +kernel
theorem dX12_pays_2 : decode cX12_pays 2 = .ok (.iload_n 2, 1) := by decide +kernel
theorem dX12_pays_3 : decode cX12_pays 3 = .ok (.bipush 31, 2) := by decide +kernel
theorem dX12_pays_5 : decode cX12_pays 5 = .ok (.if_icmp .ge 24, 3) := by decide +kernel
theorem dX12_pays_8 : decode cX12_pays 8 = .ok (.aload_n 0, 1) := by decide +kernel
theorem dX12_pays_9 : decode cX12_pays 9 = .ok (.getfield 74, 3) := by decide +kernel
theorem dX12_pays_12 : decode cX12_pays 12 = .ok (.iload_n 2, 1) := by decide +kernel
theorem dX12_pays_13 : decode cX12_pays 13 = .ok (.iload_n 2, 1) := by decide +kernel
theorem dX12_pays_14 : decode cX12_pays 14 = .ok (.ifCond .ne 7, 3) := by decide +kernel
theorem dX12_pays_17 : decode cX12_pays 17 = .ok (.lconst 1, 1) := by decide +kernel
theorem dX12_pays_18 : decode cX12_pays 18 = .ok (.goto 4, 3) := by decide +kernel
theorem dX12_pays_21 : decode cX12_pays 21 = .ok (.lconst 0, 1) := by decide +kernel
theorem dX12_pays_22 : decode cX12_pays 22 = .ok (.lastore, 1) := by decide +kernel
theorem dX12_pays_23 : decode cX12_pays 23 = .ok (.iinc 2 1, 3) := by decide +kernel
theorem dX12_pays_26 : decode cX12_pays 26 = .ok (.goto (-24), 3) := by decide +kernel
theorem dX12_pays_29 : decode cX12_pays 29 = .ok (.iconst 0, 1) := by decide +kernel
theorem dX12_pays_30 : decode cX12_pays 30 = .ok (.istore_n 2, 1) := by decide +kernel
theorem dX12_pays_31 : decode cX12_pays 31 = .ok (.iload_n 2, 1) := by decide +kernel
theorem dX12_pays_32 : decode cX12_pays 32 = .ok (.aload_n 0, 1) := by decide +kernel
theorem dX12_pays_33 : decode cX12_pays 33 = .ok (.getfield 114, 3) := by decide +kernel
theorem dX12_pays_36 : decode cX12_pays 36 = .ok (.if_icmp .ge 47, 3) := by decide +kernel
theorem dX12_pays_39 : decode cX12_pays 39 = .ok (.iconst 0, 1) := by decide +kernel
theorem dX12_pays_40 : decode cX12_pays 40 = .ok (.istore_n 3, 1) := by decide +kernel
theorem dX12_pays_41 : decode cX12_pays 41 = .ok (.iload_n 3, 1) := by decide +kernel
theorem dX12_pays_42 : decode cX12_pays 42 = .ok (.aload_n 0, 1) := by decide +kernel
theorem dX12_pays_43 : decode cX12_pays 43 = .ok (.getfield 22, 3) := by decide +kernel
theorem dX12_pays_46 : decode cX12_pays 46 = .ok (.iload_n 2, 1) := by decide +kernel
theorem dX12_pays_47 : decode cX12_pays 47 = .ok (.iaload, 1) := by decide +kernel
theorem dX12_pays_48 : decode cX12_pays 48 = .ok (.if_icmp .ge 29, 3) := by decide +kernel
theorem dX12_pays_51 : decode cX12_pays 51 = .ok (.aload_n 0, 1) := by decide +kernel
theorem dX12_pays_52 : decode cX12_pays 52 = .ok (.getfield 7, 3) := by decide +kernel
theorem dX12_pays_55 : decode cX12_pays 55 = .ok (.iload_n 2, 1) := by decide +kernel
theorem dX12_pays_56 : decode cX12_pays 56 = .ok (.iaload, 1) := by decide +kernel
theorem dX12_pays_57 : decode cX12_pays 57 = .ok (.iload_n 1, 1) := by decide +kernel
theorem dX12_pays_58 : decode cX12_pays 58 = .ok (.if_icmp .ne 19, 3) := by decide +kernel
theorem dX12_pays_61 : decode cX12_pays 61 = .ok (.aload_n 0, 1) := by decide +kernel
theorem dX12_pays_62 : decode cX12_pays 62 = .ok (.aload_n 0, 1) := by decide +kernel
theorem dX12_pays_63 : decode cX12_pays 63 = .ok (.getfield 13, 3) := by decide +kernel
theorem dX12_pays_66 : decode cX12_pays 66 = .ok (.iload_n 2, 1) := by decide +kernel
theorem dX12_pays_67 : decode cX12_pays 67 = .ok (.iaload, 1) := by decide +kernel
theorem dX12_pays_68 : decode cX12_pays 68 = .ok (.invokevirtual 255, 3) := by decide +kernel
theorem dX12_pays_71 : decode cX12_pays 71 = .ok (.iinc 3 1, 3) := by decide +kernel
theorem dX12_pays_74 : decode cX12_pays 74 = .ok (.goto (-33), 3) := by decide +kernel
theorem dX12_pays_77 : decode cX12_pays 77 = .ok (.iinc 2 1, 3) := by decide +kernel
theorem dX12_pays_80 : decode cX12_pays 80 = .ok (.goto (-49), 3) := by decide +kernel
theorem dX12_pays_83 : decode cX12_pays 83 = .ok (.return_, 1) := by decide +kernel
theorem dX12_canPay_0 : decode cX12_canPay 0 = .ok (.iload_n 1, 1) := by decide +kernel
theorem dX12_canPay_1 : decode cX12_canPay 1 = .ok (.sipush 1920, 3) := by decide +kernel
theorem dX12_canPay_4 : decode cX12_canPay 4 = .ok (.if_icmp .gt 28, 3) := by decide +kernel
theorem dX12_canPay_7 : decode cX12_canPay 7 = .ok (.aload_n 0, 1) := by decide +kernel
theorem dX12_canPay_8 : decode cX12_canPay 8 = .ok (.getfield 74, 3) := by decide +kernel
theorem dX12_canPay_11 : decode cX12_canPay 11 = .ok (.iload_n 1, 1) := by decide +kernel
theorem dX12_canPay_12 : decode cX12_canPay 12 = .ok (.bipush 64, 2) := by decide +kernel
theorem dX12_canPay_14 : decode cX12_canPay 14 = .ok (.idiv, 1) := by decide +kernel
theorem dX12_canPay_15 : decode cX12_canPay 15 = .ok (.laload, 1) := by decide +kernel
theorem dX12_canPay_16 : decode cX12_canPay 16 = .ok (.iload_n 1, 1) := by decide +kernel
theorem dX12_canPay_17 : decode cX12_canPay 17 = .ok (.bipush 64, 2) := by decide +kernel
theorem dX12_canPay_19 : decode cX12_canPay 19 = .ok (.irem, 1) := by decide +kernel
theorem dX12_canPay_20 : decode cX12_canPay 20 = .ok (.lushr, 1) := by decide +kernel
theorem dX12_canPay_21 : decode cX12_canPay 21 = .ok (.lconst 1, 1) := by decide +kernel
theorem dX12_canPay_22 : decode cX12_canPay 22 = .ok (.land, 1) := by decide +kernel
theorem dX12_canPay_23 : decode cX12_canPay 23 = .ok (.lconst 1, 1) := by decide +kernel
theorem dX12_canPay_24 : decode cX12_canPay 24 = .ok (.lcmp, 1) := by decide +kernel
theorem dX12_canPay_25 : decode cX12_canPay 25 = .ok (.ifCond .ne 7, 3) := by decide +kernel
theorem dX12_canPay_28 : decode cX12_canPay 28 = .ok (.iconst 1, 1) := by decide +kernel
theorem dX12_canPay_29 : decode cX12_canPay 29 = .ok (.goto 4, 3) := by decide +kernel
theorem dX12_canPay_32 : decode cX12_canPay 32 = .ok (.iconst 0, 1) := by decide +kernel
theorem dX12_canPay_33 : decode cX12_canPay 33 = .ok (.ireturn, 1) := by decide +kernel
theorem dX12_isMore_0 : decode cX12_isMore 0 = .ok (.iload_n 2, 1) := by decide +kernel
theorem dX12_isMore_1 : decode cX12_isMore 1 = .ok (.iconst (-1), 1) := by decide +kernel
theorem dX12_isMore_2 : decode cX12_isMore 2 = .ok (.if_icmp .eq 20, 3) := by decide +kernel
theorem dX12_isMore_5 : decode cX12_isMore 5 = .ok (.iload_n 0, 1) := by decide +kernel
theorem dX12_isMore_6 : decode cX12_isMore 6 = .ok (.ifCond .ne 11, 3) := by decide +kernel
theorem dX12_isMore_9 : decode cX12_isMore 9 = .ok (.iload_n 1, 1) := by decide +kernel
theorem dX12_isMore_10 : decode cX12_isMore 10 = .ok (.iload_n 2, 1) := by decide +kernel
theorem dX12_isMore_11 : decode cX12_isMore 11 = .ok (.if_icmp .ge 15, 3) := by decide +kernel
theorem dX12_isMore_14 : decode cX12_isMore 14 = .ok (.goto 8, 3) := by decide +kernel
theorem dX12_isMore_17 : decode cX12_isMore 17 = .ok (.iload_n 1, 1) := by decide +kernel
theorem dX12_isMore_18 : decode cX12_isMore 18 = .ok (.iload_n 2, 1) := by decide +kernel
theorem dX12_isMore_19 : decode cX12_isMore 19 = .ok (.if_icmp .le 7, 3) := by decide +kernel
theorem dX12_isMore_22 : decode cX12_isMore 22 = .ok (.iconst 1, 1) := by decide +kernel
theorem dX12_isMore_23 : decode cX12_isMore 23 = .ok (.goto 4, 3) := by decide +kernel
theorem dX12_isMore_26 : decode cX12_isMore 26 = .ok (.iconst 0, 1) := by decide +kernel
theorem dX12_isMore_27 : decode cX12_isMore 27 = .ok (.ireturn, 1) := by decide +kernel
set_option maxRecDepth 20000 in
theorem ggX12_fills_X12_isMore : GoodIn wsX12_fills wsX12_isMore := goodIn_r _ [8] rfl (by decide +kernel)
set_option maxRecDepth 20000 in
theorem gX12_fills_X12_isMore : GoodIn wsX12_fills (va_wsS RX12 258 yX12_isMore wsX12_isMore) := goodIn_app (goodIn_r _ [5, 6, 7] rfl (by decide +kernel)) ggX12_fills_X12_isMore
theorem dX12_fills_0 : decode cX12_fills 0 = .ok (.aload_n 0, 1) := by decide +kernel
theorem dX12_fills_1 : decode cX12_fills 1 = .ok (.getfield 7, 3) := by decide +kernel
theorem dX12_fills_4 : decode cX12_fills 4 = .ok (.iload_n 1, 1) := by decide +kernel
theorem dX12_fills_5 : decode cX12_fills 5 = .ok (.iaload, 1) := by decide +kernel
theorem dX12_fills_6 : decode cX12_fills 6 = .ok (.iload_n 2, 1) := by decide +kernel
theorem dX12_fills_7 : decode cX12_fills 7 = .ok (.if_icmp .ne 12, 3) := by decide +kernel
theorem dX12_fills_10 : decode cX12_fills 10 = .ok (.aload_n 0, 1) := by decide +kernel
theorem dX12_fills_11 : decode cX12_fills 11 = .ok (.getfield 22, 3) := by decide +kernel
theorem dX12_fills_14 : decode cX12_fills 14 = .ok (.iload_n 1, 1) := by decide +kernel
theorem dX12_fills_15 : decode cX12_fills 15 = .ok (.iaload, 1) := by decide +kernel
theorem dX12_fills_16 : decode cX12_fills 16 = .ok (.goto 4, 3) := by decide +kernel
theorem dX12_fills_19 : decode cX12_fills 19 = .ok (.iconst 0, 1) := by decide +kernel
theorem dX12_fills_20 : decode cX12_fills 20 = .ok (.istore 4, 2) := by decide +kernel
theorem dX12_fills_22 : decode cX12_fills 22 = .ok (.iconst 0, 1) := by decide +kernel
theorem dX12_fills_23 : decode cX12_fills 23 = .ok (.istore 5, 2) := by decide +kernel
theorem dX12_fills_25 : decode cX12_fills 25 = .ok (.iload 5, 2) := by decide +kernel
theorem dX12_fills_27 : decode cX12_fills 27 = .ok (.sipush 1920, 3) := by decide +kernel
theorem dX12_fills_30 : decode cX12_fills 30 = .ok (.if_icmp .gt 116, 3) := by decide +kernel
theorem dX12_fills_33 : decode cX12_fills 33 = .ok (.iconst (-1), 1) := by decide +kernel
theorem dX12_fills_34 : decode cX12_fills 34 = .ok (.istore 6, 2) := by decide +kernel
theorem dX12_fills_36 : decode cX12_fills 36 = .ok (.iconst 0, 1) := by decide +kernel
theorem dX12_fills_37 : decode cX12_fills 37 = .ok (.istore 7, 2) := by decide +kernel
theorem dX12_fills_39 : decode cX12_fills 39 = .ok (.iload 7, 2) := by decide +kernel
theorem dX12_fills_41 : decode cX12_fills 41 = .ok (.iload 4, 2) := by decide +kernel
theorem dX12_fills_43 : decode cX12_fills 43 = .ok (.if_icmp .gt 82, 3) := by decide +kernel
theorem dX12_fills_46 : decode cX12_fills 46 = .ok (.iload 7, 2) := by decide +kernel
theorem dX12_fills_48 : decode cX12_fills 48 = .ok (.aload_n 0, 1) := by decide +kernel
theorem dX12_fills_49 : decode cX12_fills 49 = .ok (.getfield 13, 3) := by decide +kernel
theorem dX12_fills_52 : decode cX12_fills 52 = .ok (.iload_n 1, 1) := by decide +kernel
theorem dX12_fills_53 : decode cX12_fills 53 = .ok (.iaload, 1) := by decide +kernel
theorem dX12_fills_54 : decode cX12_fills 54 = .ok (.imul, 1) := by decide +kernel
theorem dX12_fills_55 : decode cX12_fills 55 = .ok (.iload 5, 2) := by decide +kernel
theorem dX12_fills_57 : decode cX12_fills 57 = .ok (.if_icmp .gt 68, 3) := by decide +kernel
theorem dX12_fills_60 : decode cX12_fills 60 = .ok (.aload_n 0, 1) := by decide +kernel
theorem dX12_fills_61 : decode cX12_fills 61 = .ok (.getfield 78, 3) := by decide +kernel
theorem dX12_fills_64 : decode cX12_fills 64 = .ok (.sipush 1921, 3) := by decide +kernel
theorem dX12_fills_67 : decode cX12_fills 67 = .ok (.iload_n 1, 1) := by decide +kernel
theorem dX12_fills_68 : decode cX12_fills 68 = .ok (.iconst 1, 1) := by decide +kernel
theorem dX12_fills_69 : decode cX12_fills 69 = .ok (.iadd, 1) := by decide +kernel
theorem dX12_fills_70 : decode cX12_fills 70 = .ok (.imul, 1) := by decide +kernel
theorem dX12_fills_71 : decode cX12_fills 71 = .ok (.iload 5, 2) := by decide +kernel
theorem dX12_fills_73 : decode cX12_fills 73 = .ok (.iadd, 1) := by decide +kernel
theorem dX12_fills_74 : decode cX12_fills 74 = .ok (.iload 7, 2) := by decide +kernel
theorem dX12_fills_76 : decode cX12_fills 76 = .ok (.aload_n 0, 1) := by decide +kernel
theorem dX12_fills_77 : decode cX12_fills 77 = .ok (.getfield 13, 3) := by decide +kernel
theorem dX12_fills_80 : decode cX12_fills 80 = .ok (.iload_n 1, 1) := by decide +kernel
theorem dX12_fills_81 : decode cX12_fills 81 = .ok (.iaload, 1) := by decide +kernel
theorem dX12_fills_82 : decode cX12_fills 82 = .ok (.imul, 1) := by decide +kernel
theorem dX12_fills_83 : decode cX12_fills 83 = .ok (.isub, 1) := by decide +kernel
theorem dX12_fills_84 : decode cX12_fills 84 = .ok (.iaload, 1) := by decide +kernel
theorem dX12_fills_85 : decode cX12_fills 85 = .ok (.istore 8, 2) := by decide +kernel
theorem dX12_fills_87 : decode cX12_fills 87 = .ok (.iload 8, 2) := by decide +kernel
theorem dX12_fills_89 : decode cX12_fills 89 = .ok (.iconst (-1), 1) := by decide +kernel
theorem dX12_fills_90 : decode cX12_fills 90 = .ok (.if_icmp .eq 25, 3) := by decide +kernel
theorem dX12_fills_93 : decode cX12_fills 93 = .ok (.iload_n 3, 1) := by decide +kernel
theorem dX12_fills_94 : decode cX12_fills 94 = .ok (.iload 7, 2) := by decide +kernel
theorem dX12_fills_96 : decode cX12_fills 96 = .ok (.iload 8, 2) := by decide +kernel
theorem dX12_fills_98 : decode cX12_fills 98 = .ok (.iadd, 1) := by decide +kernel
theorem dX12_fills_99 : decode cX12_fills 99 = .ok (.iload 6, 2) := by decide +kernel
theorem dX12_fills_101 : decode cX12_fills 101 = .ok (.invokestatic 258, 3) := by decide +kernel
theorem dX12_fills_104 : decode cX12_fills 104 = .ok (.ifCond .eq 11, 3) := by decide +kernel
theorem dX12_fills_107 : decode cX12_fills 107 = .ok (.iload 7, 2) := by decide +kernel
theorem dX12_fills_109 : decode cX12_fills 109 = .ok (.iload 8, 2) := by decide +kernel
theorem dX12_fills_111 : decode cX12_fills 111 = .ok (.iadd, 1) := by decide +kernel
theorem dX12_fills_112 : decode cX12_fills 112 = .ok (.goto 5, 3) := by decide +kernel
theorem dX12_fills_115 : decode cX12_fills 115 = .ok (.iload 6, 2) := by decide +kernel
theorem dX12_fills_117 : decode cX12_fills 117 = .ok (.istore 6, 2) := by decide +kernel
theorem dX12_fills_119 : decode cX12_fills 119 = .ok (.iinc 7 1, 3) := by decide +kernel
theorem dX12_fills_122 : decode cX12_fills 122 = .ok (.goto (-83), 3) := by decide +kernel
theorem dX12_fills_125 : decode cX12_fills 125 = .ok (.aload_n 0, 1) := by decide +kernel
theorem dX12_fills_126 : decode cX12_fills 126 = .ok (.getfield 78, 3) := by decide +kernel
theorem dX12_fills_129 : decode cX12_fills 129 = .ok (.sipush 1921, 3) := by decide +kernel
theorem dX12_fills_132 : decode cX12_fills 132 = .ok (.iload_n 1, 1) := by decide +kernel
theorem dX12_fills_133 : decode cX12_fills 133 = .ok (.imul, 1) := by decide +kernel
theorem dX12_fills_134 : decode cX12_fills 134 = .ok (.iload 5, 2) := by decide +kernel
theorem dX12_fills_136 : decode cX12_fills 136 = .ok (.iadd, 1) := by decide +kernel
theorem dX12_fills_137 : decode cX12_fills 137 = .ok (.iload 6, 2) := by decide +kernel
theorem dX12_fills_139 : decode cX12_fills 139 = .ok (.iastore, 1) := by decide +kernel
theorem dX12_fills_140 : decode cX12_fills 140 = .ok (.iinc 5 1, 3) := by decide +kernel
theorem dX12_fills_143 : decode cX12_fills 143 = .ok (.goto (-118), 3) := by decide +kernel
theorem dX12_fills_146 : decode cX12_fills 146 = .ok (.return_, 1) := by decide +kernel
set_option maxRecDepth 20000 in
theorem ggX12_payment_X12_fills : GoodIn wsX12_payment wsX12_fills := goodIn_r _ [11, 3, 4, 6, 1, 12, 13, 10, 14, 15, 16, 17, 18, 19, 20, 21, 22, 23, 24, 25, 26, 27, 28, 29, 30, 31, 32, 33, 34, 35, 36, 37, 38, 39, 40, 41, 42, 43, 44, 45, 46, 47, 48, 49, 50, 51, 52, 53, 54, 55, 56, 57, 58, 59, 60, 61, 62, 63, 64, 65, 66, 67, 68, 69, 70, 71] rfl (by decide +kernel)
set_option maxRecDepth 20000 in
theorem gX12_payment_X12_fills : GoodIn wsX12_payment (wsV RX12 261 RX12 yX12_fills wsX12_fills) := goodIn_app (goodIn_r _ [7, 8, 9, 10] rfl (by decide +kernel)) ggX12_payment_X12_fills
theorem dX12_payment_0 : decode cX12_payment 0 = .ok (.iload_n 2, 1) := by decide +kernel
theorem dX12_payment_1 : decode cX12_payment 1 = .ok (.sipush 1920, 3) := by decide +kernel
theorem dX12_payment_4 : decode cX12_payment 4 = .ok (.if_icmp .le 5, 3) := by decide +kernel
theorem dX12_payment_7 : decode cX12_payment 7 = .ok (.iconst (-1), 1) := by decide +kernel
theorem dX12_payment_8 : decode cX12_payment 8 = .ok (.ireturn, 1) := by decide +kernel
theorem dX12_payment_9 : decode cX12_payment 9 = .ok (.iconst 0, 1) := by decide +kernel
theorem dX12_payment_10 : decode cX12_payment 10 = .ok (.istore 4, 2) := by decide +kernel
theorem dX12_payment_12 : decode cX12_payment 12 = .ok (.iload 4, 2) := by decide +kernel
theorem dX12_payment_14 : decode cX12_payment 14 = .ok (.sipush 1920, 3) := by decide +kernel
theorem dX12_payment_17 : decode cX12_payment 17 = .ok (.if_icmp .gt 35, 3) := by decide +kernel
theorem dX12_payment_20 : decode cX12_payment 20 = .ok (.aload_n 0, 1) := by decide +kernel
theorem dX12_payment_21 : decode cX12_payment 21 = .ok (.getfield 78, 3) := by decide +kernel
theorem dX12_payment_24 : decode cX12_payment 24 = .ok (.sipush 1921, 3) := by decide +kernel
theorem dX12_payment_27 : decode cX12_payment 27 = .ok (.aload_n 0, 1) := by decide +kernel
theorem dX12_payment_28 : decode cX12_payment 28 = .ok (.getfield 114, 3) := by decide +kernel
theorem dX12_payment_31 : decode cX12_payment 31 = .ok (.imul, 1) := by decide +kernel
theorem dX12_payment_32 : decode cX12_payment 32 = .ok (.iload 4, 2) := by decide +kernel
theorem dX12_payment_34 : decode cX12_payment 34 = .ok (.iadd, 1) := by decide +kernel
theorem dX12_payment_35 : decode cX12_payment 35 = .ok (.iload 4, 2) := by decide +kernel
theorem dX12_payment_37 : decode cX12_payment 37 = .ok (.ifCond .ne 7, 3) := by decide +kernel
theorem dX12_payment_40 : decode cX12_payment 40 = .ok (.iconst 0, 1) := by decide +kernel
theorem dX12_payment_41 : decode cX12_payment 41 = .ok (.goto 4, 3) := by decide +kernel
theorem dX12_payment_44 : decode cX12_payment 44 = .ok (.iconst (-1), 1) := by decide +kernel
theorem dX12_payment_45 : decode cX12_payment 45 = .ok (.iastore, 1) := by decide +kernel
theorem dX12_payment_46 : decode cX12_payment 46 = .ok (.iinc 4 1, 3) := by decide +kernel
theorem dX12_payment_49 : decode cX12_payment 49 = .ok (.goto (-37), 3) := by decide +kernel
theorem dX12_payment_52 : decode cX12_payment 52 = .ok (.aload_n 0, 1) := by decide +kernel
theorem dX12_payment_53 : decode cX12_payment 53 = .ok (.getfield 114, 3) := by decide +kernel
theorem dX12_payment_56 : decode cX12_payment 56 = .ok (.iconst 1, 1) := by decide +kernel
theorem dX12_payment_57 : decode cX12_payment 57 = .ok (.isub, 1) := by decide +kernel
theorem dX12_payment_58 : decode cX12_payment 58 = .ok (.istore 4, 2) := by decide +kernel
theorem dX12_payment_60 : decode cX12_payment 60 = .ok (.iload 4, 2) := by decide +kernel
theorem dX12_payment_62 : decode cX12_payment 62 = .ok (.ifCond .lt 17, 3) := by decide +kernel
theorem dX12_payment_65 : decode cX12_payment 65 = .ok (.aload_n 0, 1) := by decide +kernel
theorem dX12_payment_66 : decode cX12_payment 66 = .ok (.iload 4, 2) := by decide +kernel
theorem dX12_payment_68 : decode cX12_payment 68 = .ok (.iload_n 1, 1) := by decide +kernel
theorem dX12_payment_69 : decode cX12_payment 69 = .ok (.iload_n 3, 1) := by decide +kernel
theorem dX12_payment_70 : decode cX12_payment 70 = .ok (.invokevirtual 261, 3) := by decide +kernel
theorem dX12_payment_73 : decode cX12_payment 73 = .ok (.iinc 4 (-1), 3) := by decide +kernel
theorem dX12_payment_76 : decode cX12_payment 76 = .ok (.goto (-16), 3) := by decide +kernel
theorem dX12_payment_79 : decode cX12_payment 79 = .ok (.aload_n 0, 1) := by decide +kernel
theorem dX12_payment_80 : decode cX12_payment 80 = .ok (.getfield 78, 3) := by decide +kernel
theorem dX12_payment_83 : decode cX12_payment 83 = .ok (.iload_n 2, 1) := by decide +kernel
theorem dX12_payment_84 : decode cX12_payment 84 = .ok (.iaload, 1) := by decide +kernel
theorem dX12_payment_85 : decode cX12_payment 85 = .ok (.istore 4, 2) := by decide +kernel
theorem dX12_payment_87 : decode cX12_payment 87 = .ok (.iload_n 2, 1) := by decide +kernel
theorem dX12_payment_88 : decode cX12_payment 88 = .ok (.istore 5, 2) := by decide +kernel
theorem dX12_payment_90 : decode cX12_payment 90 = .ok (.iconst 0, 1) := by decide +kernel
theorem dX12_payment_91 : decode cX12_payment 91 = .ok (.istore 6, 2) := by decide +kernel
theorem dX12_payment_93 : decode cX12_payment 93 = .ok (.iload 6, 2) := by decide +kernel
theorem dX12_payment_95 : decode cX12_payment 95 = .ok (.aload_n 0, 1) := by decide +kernel
theorem dX12_payment_96 : decode cX12_payment 96 = .ok (.getfield 114, 3) := by decide +kernel
theorem dX12_payment_99 : decode cX12_payment 99 = .ok (.if_icmp .ge 174, 3) := by decide +kernel
theorem dX12_payment_102 : decode cX12_payment 102 = .ok (.iload 4, 2) := by decide +kernel
theorem dX12_payment_104 : decode cX12_payment 104 = .ok (.iconst (-1), 1) := by decide +kernel
theorem dX12_payment_105 : decode cX12_payment 105 = .ok (.if_icmp .eq 168, 3) := by decide +kernel
theorem dX12_payment_108 : decode cX12_payment 108 = .ok (.aload_n 0, 1) := by decide +kernel
theorem dX12_payment_109 : decode cX12_payment 109 = .ok (.getfield 7, 3) := by decide +kernel
theorem dX12_payment_112 : decode cX12_payment 112 = .ok (.iload 6, 2) := by decide +kernel
theorem dX12_payment_114 : decode cX12_payment 114 = .ok (.iaload, 1) := by decide +kernel
theorem dX12_payment_115 : decode cX12_payment 115 = .ok (.iload_n 1, 1) := by decide +kernel
theorem dX12_payment_116 : decode cX12_payment 116 = .ok (.if_icmp .ne 13, 3) := by decide +kernel
theorem dX12_payment_119 : decode cX12_payment 119 = .ok (.aload_n 0, 1) := by decide +kernel
theorem dX12_payment_120 : decode cX12_payment 120 = .ok (.getfield 22, 3) := by decide +kernel
theorem dX12_payment_123 : decode cX12_payment 123 = .ok (.iload 6, 2) := by decide +kernel
theorem dX12_payment_125 : decode cX12_payment 125 = .ok (.iaload, 1) := by decide +kernel
theorem dX12_payment_126 : decode cX12_payment 126 = .ok (.goto 4, 3) := by decide +kernel
theorem dX12_payment_129 : decode cX12_payment 129 = .ok (.iconst 0, 1) := by decide +kernel
theorem dX12_payment_130 : decode cX12_payment 130 = .ok (.istore 7, 2) := by decide +kernel
theorem dX12_payment_132 : decode cX12_payment 132 = .ok (.aload_n 0, 1) := by decide +kernel
theorem dX12_payment_133 : decode cX12_payment 133 = .ok (.getfield 81, 3) := by decide +kernel
theorem dX12_payment_136 : decode cX12_payment 136 = .ok (.iload 6, 2) := by decide +kernel
theorem dX12_payment_138 : decode cX12_payment 138 = .ok (.iconst 0, 1) := by decide +kernel
theorem dX12_payment_139 : decode cX12_payment 139 = .ok (.iastore, 1) := by decide +kernel
theorem dX12_payment_140 : decode cX12_payment 140 = .ok (.iconst 0, 1) := by decide +kernel
theorem dX12_payment_141 : decode cX12_payment 141 = .ok (.istore 8, 2) := by decide +kernel
theorem dX12_payment_143 : decode cX12_payment 143 = .ok (.iload 8, 2) := by decide +kernel
theorem dX12_payment_145 : decode cX12_payment 145 = .ok (.iload 7, 2) := by decide +kernel
theorem dX12_payment_147 : decode cX12_payment 147 = .ok (.if_icmp .gt 100, 3) := by decide +kernel
theorem dX12_payment_150 : decode cX12_payment 150 = .ok (.iload 8, 2) := by decide +kernel
theorem dX12_payment_152 : decode cX12_payment 152 = .ok (.aload_n 0, 1) := by decide +kernel
theorem dX12_payment_153 : decode cX12_payment 153 = .ok (.getfield 13, 3) := by decide +kernel
theorem dX12_payment_156 : decode cX12_payment 156 = .ok (.iload 6, 2) := by decide +kernel
theorem dX12_payment_158 : decode cX12_payment 158 = .ok (.iaload, 1) := by decide +kernel
theorem dX12_payment_159 : decode cX12_payment 159 = .ok (.imul, 1) := by decide +kernel
theorem dX12_payment_160 : decode cX12_payment 160 = .ok (.iload 5, 2) := by decide +kernel
theorem dX12_payment_162 : decode cX12_payment 162 = .ok (.if_icmp .gt 85, 3) := by decide +kernel
theorem dX12_payment_165 : decode cX12_payment 165 = .ok (.aload_n 0, 1) := by decide +kernel
theorem dX12_payment_166 : decode cX12_payment 166 = .ok (.getfield 78, 3) := by decide +kernel
theorem dX12_payment_169 : decode cX12_payment 169 = .ok (.sipush 1921, 3) := by decide +kernel
theorem dX12_payment_172 : decode cX12_payment 172 = .ok (.iload 6, 2) := by decide +kernel
theorem dX12_payment_174 : decode cX12_payment 174 = .ok (.iconst 1, 1) := by decide +kernel
theorem dX12_payment_175 : decode cX12_payment 175 = .ok (.iadd, 1) := by decide +kernel
theorem dX12_payment_176 : decode cX12_payment 176 = .ok (.imul, 1) := by decide +kernel
theorem dX12_payment_177 : decode cX12_payment 177 = .ok (.iload 5, 2) := by decide +kernel
theorem dX12_payment_179 : decode cX12_payment 179 = .ok (.iadd, 1) := by decide +kernel
theorem dX12_payment_180 : decode cX12_payment 180 = .ok (.iload 8, 2) := by decide +kernel
theorem dX12_payment_182 : decode cX12_payment 182 = .ok (.aload_n 0, 1) := by decide +kernel
theorem dX12_payment_183 : decode cX12_payment 183 = .ok (.getfield 13, 3) := by decide +kernel
theorem dX12_payment_186 : decode cX12_payment 186 = .ok (.iload 6, 2) := by decide +kernel
theorem dX12_payment_188 : decode cX12_payment 188 = .ok (.iaload, 1) := by decide +kernel
theorem dX12_payment_189 : decode cX12_payment 189 = .ok (.imul, 1) := by decide +kernel
theorem dX12_payment_190 : decode cX12_payment 190 = .ok (.isub, 1) := by decide +kernel
theorem dX12_payment_191 : decode cX12_payment 191 = .ok (.iaload, 1) := by decide +kernel
theorem dX12_payment_192 : decode cX12_payment 192 = .ok (.istore 9, 2) := by decide +kernel
theorem dX12_payment_194 : decode cX12_payment 194 = .ok (.aload_n 0, 1) := by decide +kernel
theorem dX12_payment_195 : decode cX12_payment 195 = .ok (.getfield 81, 3) := by decide +kernel
theorem dX12_payment_198 : decode cX12_payment 198 = .ok (.iload 6, 2) := by decide +kernel
theorem dX12_payment_200 : decode cX12_payment 200 = .ok (.iload 9, 2) := by decide +kernel
theorem dX12_payment_202 : decode cX12_payment 202 = .ok (.iconst (-1), 1) := by decide +kernel
theorem dX12_payment_203 : decode cX12_payment 203 = .ok (.if_icmp .eq 30, 3) := by decide +kernel
theorem dX12_payment_206 : decode cX12_payment 206 = .ok (.iload 8, 2) := by decide +kernel
theorem dX12_payment_208 : decode cX12_payment 208 = .ok (.iload 9, 2) := by decide +kernel
theorem dX12_payment_210 : decode cX12_payment 210 = .ok (.iadd, 1) := by decide +kernel
theorem dX12_payment_211 : decode cX12_payment 211 = .ok (.aload_n 0, 1) := by decide +kernel
theorem dX12_payment_212 : decode cX12_payment 212 = .ok (.getfield 78, 3) := by decide +kernel
theorem dX12_payment_215 : decode cX12_payment 215 = .ok (.sipush 1921, 3) := by decide +kernel
theorem dX12_payment_218 : decode cX12_payment 218 = .ok (.iload 6, 2) := by decide +kernel
theorem dX12_payment_220 : decode cX12_payment 220 = .ok (.imul, 1) := by decide +kernel
theorem dX12_payment_221 : decode cX12_payment 221 = .ok (.iload 5, 2) := by decide +kernel
theorem dX12_payment_223 : decode cX12_payment 223 = .ok (.iadd, 1) := by decide +kernel
theorem dX12_payment_224 : decode cX12_payment 224 = .ok (.iaload, 1) := by decide +kernel
theorem dX12_payment_225 : decode cX12_payment 225 = .ok (.if_icmp .ne 8, 3) := by decide +kernel
theorem dX12_payment_228 : decode cX12_payment 228 = .ok (.iload 8, 2) := by decide +kernel
theorem dX12_payment_230 : decode cX12_payment 230 = .ok (.goto 10, 3) := by decide +kernel
theorem dX12_payment_233 : decode cX12_payment 233 = .ok (.aload_n 0, 1) := by decide +kernel
theorem dX12_payment_234 : decode cX12_payment 234 = .ok (.getfield 81, 3) := by decide +kernel
theorem dX12_payment_237 : decode cX12_payment 237 = .ok (.iload 6, 2) := by decide +kernel
theorem dX12_payment_239 : decode cX12_payment 239 = .ok (.iaload, 1) := by decide +kernel
theorem dX12_payment_240 : decode cX12_payment 240 = .ok (.iastore, 1) := by decide +kernel
theorem dX12_payment_241 : decode cX12_payment 241 = .ok (.iinc 8 1, 3) := by decide +kernel
theorem dX12_payment_244 : decode cX12_payment 244 = .ok (.goto (-101), 3) := by decide +kernel
theorem dX12_payment_247 : decode cX12_payment 247 = .ok (.iload 5, 2) := by decide +kernel
theorem dX12_payment_249 : decode cX12_payment 249 = .ok (.aload_n 0, 1) := by decide +kernel
theorem dX12_payment_250 : decode cX12_payment 250 = .ok (.getfield 81, 3) := by decide +kernel
theorem dX12_payment_253 : decode cX12_payment 253 = .ok (.iload 6, 2) := by decide +kernel
theorem dX12_payment_255 : decode cX12_payment 255 = .ok (.iaload, 1) := by decide +kernel
theorem dX12_payment_256 : decode cX12_payment 256 = .ok (.aload_n 0, 1) := by decide +kernel
theorem dX12_payment_257 : decode cX12_payment 257 = .ok (.getfield 13, 3) := by decide +kernel
theorem dX12_payment_260 : decode cX12_payment 260 = .ok (.iload 6, 2) := by decide +kernel
theorem dX12_payment_262 : decode cX12_payment 262 = .ok (.iaload, 1) := by decide +kernel
theorem dX12_payment_263 : decode cX12_payment 263 = .ok (.imul, 1) := by decide +kernel
theorem dX12_payment_264 : decode cX12_payment 264 = .ok (.isub, 1) := by decide +kernel
theorem dX12_payment_265 : decode cX12_payment 265 = .ok (.istore 5, 2) := by decide +kernel
theorem dX12_payment_267 : decode cX12_payment 267 = .ok (.iinc 6 1, 3) := by decide +kernel
theorem dX12_payment_270 : decode cX12_payment 270 = .ok (.goto (-177), 3) := by decide +kernel
theorem dX12_payment_273 : decode cX12_payment 273 = .ok (.iload 4, 2) := by decide +kernel
theorem dX12_payment_275 : decode cX12_payment 275 = .ok (.ireturn, 1) := by decide +kernel
set_option maxRecDepth 20000 in
theorem ggX12_isAmount_X12_isLand : GoodIn wsX12_isAmount wsX12_isLand := goodIn_r _ [4, 5, 6, 3, 7] rfl (by decide +kernel)
set_option maxRecDepth 20000 in
theorem gX12_isAmount_X12_isLand : GoodIn wsX12_isAmount (va_wsS RX12 125 yX12_isLand wsX12_isLand) := goodIn_app (goodIn_r _ [1, 2, 3] rfl (by decide +kernel)) ggX12_isAmount_X12_isLand
theorem dX12_isAmount_0 : decode cX12_isAmount 0 = .ok (.iload_n 0, 1) := by decide +kernel
theorem dX12_isAmount_1 : decode cX12_isAmount 1 = .ok (.ifCond .lt 18, 3) := by decide +kernel
theorem dX12_isAmount_4 : decode cX12_isAmount 4 = .ok (.iload_n 0, 1) := by decide +kernel
theorem dX12_isAmount_5 : decode cX12_isAmount 5 = .ok (.sipush 10000, 3) := by decide +kernel
theorem dX12_isAmount_8 : decode cX12_isAmount 8 = .ok (.idiv, 1) := by decide +kernel
theorem dX12_isAmount_9 : decode cX12_isAmount 9 = .ok (.invokestatic 125, 3) := by decide +kernel
theorem dX12_isAmount_12 : decode cX12_isAmount 12 = .ok (.ifCond .eq 7, 3) := by decide +kernel
theorem dX12_isAmount_15 : decode cX12_isAmount 15 = .ok (.iconst 1, 1) := by decide +kernel
theorem dX12_isAmount_16 : decode cX12_isAmount 16 = .ok (.goto 4, 3) := by decide +kernel
theorem dX12_isAmount_19 : decode cX12_isAmount 19 = .ok (.iconst 0, 1) := by decide +kernel
theorem dX12_isAmount_20 : decode cX12_isAmount 20 = .ok (.ireturn, 1) := by decide +kernel
set_option maxRecDepth 20000 in
theorem ggX12_paid_X12_isAmount : GoodIn wsX12_paid wsX12_isAmount := goodIn_r _ [6, 7, 8, 5, 9, 10, 11, 12] rfl (by decide +kernel)
set_option maxRecDepth 20000 in
theorem gX12_paid_X12_isAmount : GoodIn wsX12_paid (va_wsS RX12 264 yX12_isAmount wsX12_isAmount) := goodIn_app (goodIn_r _ [3, 4, 5] rfl (by decide +kernel)) ggX12_paid_X12_isAmount
set_option maxRecDepth 20000 in
theorem ggX12_paid_X12_in : GoodIn wsX12_paid wsX12_in := goodIn_r _ [12] rfl (by decide +kernel)
set_option maxRecDepth 20000 in
theorem gX12_paid_X12_in : GoodIn wsX12_paid (va_wsS RX12 118 yX12_in wsX12_in) := goodIn_app (goodIn_r _ [10, 11, 5] rfl (by decide +kernel)) ggX12_paid_X12_in
set_option maxRecDepth 20000 in
theorem ggX12_paid_X12_payment : GoodIn wsX12_paid wsX12_payment := goodIn_r _ [16, 17, 1, 18, 19, 2, 20, 21, 22, 23, 5, 24, 25, 26, 27, 28, 29, 30, 31, 32, 33, 34, 35, 36, 37, 38, 39, 40, 41, 42, 43, 44, 45, 46, 47, 48, 49, 50, 51, 52, 53, 54, 55, 56, 57, 58, 59, 60, 61, 62, 63, 64, 65, 66, 67, 68, 69, 70, 71, 72, 73, 74, 75, 76, 77, 78, 79, 80, 81, 82, 83, 84] rfl (by decide +kernel)
set_option maxRecDepth 20000 in
theorem gX12_paid_X12_payment : GoodIn wsX12_paid (wsV RX12 267 RX12 yX12_payment wsX12_payment) := goodIn_app (goodIn_r _ [13, 14, 15, 5] rfl (by decide +kernel)) ggX12_paid_X12_payment
theorem dX12_paid_0 : decode cX12_paid 0 = .ok (.iload_n 1, 1) := by decide +kernel
theorem dX12_paid_1 : decode cX12_paid 1 = .ok (.invokestatic 264, 3) := by decide +kernel
theorem dX12_paid_4 : decode cX12_paid 4 = .ok (.ifCond .eq 26, 3) := by decide +kernel
theorem dX12_paid_7 : decode cX12_paid 7 = .ok (.iload_n 2, 1) := by decide +kernel
theorem dX12_paid_8 : decode cX12_paid 8 = .ok (.iconst 0, 1) := by decide +kernel
theorem dX12_paid_9 : decode cX12_paid 9 = .ok (.iconst 1, 1) := by decide +kernel
theorem dX12_paid_10 : decode cX12_paid 10 = .ok (.invokestatic 118, 3) := by decide +kernel
theorem dX12_paid_13 : decode cX12_paid 13 = .ok (.ifCond .eq 17, 3) := by decide +kernel
theorem dX12_paid_16 : decode cX12_paid 16 = .ok (.iload_n 3, 1) := by decide +kernel
theorem dX12_paid_17 : decode cX12_paid 17 = .ok (.iconst (-1), 1) := by decide +kernel
theorem dX12_paid_18 : decode cX12_paid 18 = .ok (.aload_n 0, 1) := by decide +kernel
theorem dX12_paid_19 : decode cX12_paid 19 = .ok (.getfield 114, 3) := by decide +kernel
theorem dX12_paid_22 : decode cX12_paid 22 = .ok (.iconst 1, 1) := by decide +kernel
theorem dX12_paid_23 : decode cX12_paid 23 = .ok (.isub, 1) := by decide +kernel
theorem dX12_paid_24 : decode cX12_paid 24 = .ok (.invokestatic 118, 3) := by decide +kernel
theorem dX12_paid_27 : decode cX12_paid 27 = .ok (.ifCond .ne 5, 3) := by decide +kernel
theorem dX12_paid_30 : decode cX12_paid 30 = .ok (.iconst (-1), 1) := by decide +kernel
theorem dX12_paid_31 : decode cX12_paid 31 = .ok (.ireturn, 1) := by decide +kernel
theorem dX12_paid_32 : decode cX12_paid 32 = .ok (.aload_n 0, 1) := by decide +kernel
theorem dX12_paid_33 : decode cX12_paid 33 = .ok (.iload_n 1, 1) := by decide +kernel
theorem dX12_paid_34 : decode cX12_paid 34 = .ok (.sipush 10000, 3) := by decide +kernel
theorem dX12_paid_37 : decode cX12_paid 37 = .ok (.idiv, 1) := by decide +kernel
theorem dX12_paid_38 : decode cX12_paid 38 = .ok (.iload_n 1, 1) := by decide +kernel
theorem dX12_paid_39 : decode cX12_paid 39 = .ok (.sipush 10000, 3) := by decide +kernel
theorem dX12_paid_42 : decode cX12_paid 42 = .ok (.irem, 1) := by decide +kernel
theorem dX12_paid_43 : decode cX12_paid 43 = .ok (.iload_n 2, 1) := by decide +kernel
theorem dX12_paid_44 : decode cX12_paid 44 = .ok (.invokevirtual 267, 3) := by decide +kernel
theorem dX12_paid_47 : decode cX12_paid 47 = .ok (.istore 4, 2) := by decide +kernel
theorem dX12_paid_49 : decode cX12_paid 49 = .ok (.iload 4, 2) := by decide +kernel
theorem dX12_paid_51 : decode cX12_paid 51 = .ok (.iconst (-1), 1) := by decide +kernel
theorem dX12_paid_52 : decode cX12_paid 52 = .ok (.if_icmp .ne 8, 3) := by decide +kernel
theorem dX12_paid_55 : decode cX12_paid 55 = .ok (.bipush (-2), 2) := by decide +kernel
theorem dX12_paid_57 : decode cX12_paid 57 = .ok (.goto 19, 3) := by decide +kernel
theorem dX12_paid_60 : decode cX12_paid 60 = .ok (.iload_n 3, 1) := by decide +kernel
theorem dX12_paid_61 : decode cX12_paid 61 = .ok (.iconst (-1), 1) := by decide +kernel
theorem dX12_paid_62 : decode cX12_paid 62 = .ok (.if_icmp .ne 8, 3) := by decide +kernel
theorem dX12_paid_65 : decode cX12_paid 65 = .ok (.iload 4, 2) := by decide +kernel
theorem dX12_paid_67 : decode cX12_paid 67 = .ok (.goto 9, 3) := by decide +kernel
theorem dX12_paid_70 : decode cX12_paid 70 = .ok (.aload_n 0, 1) := by decide +kernel
theorem dX12_paid_71 : decode cX12_paid 71 = .ok (.getfield 81, 3) := by decide +kernel
theorem dX12_paid_74 : decode cX12_paid 74 = .ok (.iload_n 3, 1) := by decide +kernel
theorem dX12_paid_75 : decode cX12_paid 75 = .ok (.iaload, 1) := by decide +kernel
theorem dX12_paid_76 : decode cX12_paid 76 = .ok (.ireturn, 1) := by decide +kernel
set_option maxRecDepth 20000 in
theorem ggX12_amounts_X12_isLand : GoodIn wsX12_amounts wsX12_isLand := goodIn_r _ [4, 5, 6, 3, 7] rfl (by decide +kernel)
set_option maxRecDepth 20000 in
theorem gX12_amounts_X12_isLand : GoodIn wsX12_amounts (va_wsS RX12 125 yX12_isLand wsX12_isLand) := goodIn_app (goodIn_r _ [1, 2, 3] rfl (by decide +kernel)) ggX12_amounts_X12_isLand
set_option maxRecDepth 20000 in
theorem ggX12_amounts_X12_in : GoodIn wsX12_amounts wsX12_in := goodIn_r _ [7] rfl (by decide +kernel)
set_option maxRecDepth 20000 in
theorem gX12_amounts_X12_in : GoodIn wsX12_amounts (va_wsS RX12 118 yX12_in wsX12_in) := goodIn_app (goodIn_r _ [5, 6, 3] rfl (by decide +kernel)) ggX12_amounts_X12_in
set_option maxRecDepth 20000 in
theorem ggX12_amounts_X12_pays : GoodIn wsX12_amounts wsX12_pays := goodIn_r _ [11, 12, 13, 14, 15, 16, 17, 18, 19, 3, 20, 25, 26, 27, 28, 29, 30, 31, 32, 33, 34, 35, 36, 37, 38, 39, 40, 41, 42, 43, 44, 45, 46, 47, 48, 49, 50, 51, 52, 53, 54, 55, 56, 57, 58, 59, 60, 61, 62, 63, 64, 65, 66, 67, 68, 69, 70, 71, 72, 73, 74, 75, 76, 77, 78, 79, 80, 81] rfl (by decide +kernel)
set_option maxRecDepth 20000 in
theorem gX12_amounts_X12_pays : GoodIn wsX12_amounts (wsV RX12 270 RX12 yX12_pays wsX12_pays) := goodIn_app (goodIn_r _ [8, 9, 10, 3] rfl (by decide +kernel)) ggX12_amounts_X12_pays
set_option maxRecDepth 20000 in
theorem ggX12_amounts_X12_canPay : GoodIn wsX12_amounts wsX12_canPay := goodIn_r _ [24, 12, 25, 26, 27, 28, 29, 30, 31, 32, 33, 34, 35, 36, 37, 38, 39, 40, 41, 42, 43, 44, 45, 46, 47, 48, 49, 50, 51, 52, 53, 54, 55, 56, 57, 58, 59, 60, 61, 62, 63, 64, 65, 66, 67, 68, 69, 70, 71, 72, 73, 74, 75, 76, 77, 78, 79, 80, 81] rfl (by decide +kernel)
set_option maxRecDepth 20000 in
theorem gX12_amounts_X12_canPay : GoodIn wsX12_amounts (wsV RX12 273 RX12 yX12_canPay wsX12_canPay) := goodIn_app (goodIn_r _ [21, 22, 23, 3] rfl (by decide +kernel)) ggX12_amounts_X12_canPay
theorem dX12_amounts_0 : decode cX12_amounts 0 = .ok (.iload_n 1, 1) := by decide +kernel
theorem dX12_amounts_1 : decode cX12_amounts 1 = .ok (.invokestatic 125, 3) := by decide +kernel
theorem dX12_amounts_4 : decode cX12_amounts 4 = .ok (.ifCond .eq 12, 3) := by decide +kernel
theorem dX12_amounts_7 : decode cX12_amounts 7 = .ok (.iload_n 2, 1) := by decide +kernel
theorem dX12_amounts_8 : decode cX12_amounts 8 = .ok (.iconst 0, 1) := by decide +kernel
theorem dX12_amounts_9 : decode cX12_amounts 9 = .ok (.iconst 1, 1) := by decide +kernel
theorem dX12_amounts_10 : decode cX12_amounts 10 = .ok (.invokestatic 118, 3) := by decide +kernel
theorem dX12_amounts_13 : decode cX12_amounts 13 = .ok (.ifCond .ne 5, 3) := by decide +kernel
theorem dX12_amounts_16 : decode cX12_amounts 16 = .ok (.iconst (-1), 1) := by decide +kernel
theorem dX12_amounts_17 : decode cX12_amounts 17 = .ok (.ireturn, 1) := by decide +kernel
theorem dX12_amounts_18 : decode cX12_amounts 18 = .ok (.aload_n 0, 1) := by decide +kernel
theorem dX12_amounts_19 : decode cX12_amounts 19 = .ok (.iload_n 1, 1) := by decide +kernel
theorem dX12_amounts_20 : decode cX12_amounts 20 = .ok (.invokevirtual 270, 3) := by decide +kernel
theorem dX12_amounts_23 : decode cX12_amounts 23 = .ok (.iconst 0, 1) := by decide +kernel
theorem dX12_amounts_24 : decode cX12_amounts 24 = .ok (.istore_n 3, 1) := by decide +kernel
theorem dX12_amounts_25 : decode cX12_amounts 25 = .ok (.iconst 1, 1) := by decide +kernel
theorem dX12_amounts_26 : decode cX12_amounts 26 = .ok (.istore 4, 2) := by decide +kernel
theorem dX12_amounts_28 : decode cX12_amounts 28 = .ok (.iconst 1, 1) := by decide +kernel
theorem dX12_amounts_29 : decode cX12_amounts 29 = .ok (.istore 5, 2) := by decide +kernel
theorem dX12_amounts_31 : decode cX12_amounts 31 = .ok (.iload 5, 2) := by decide +kernel
theorem dX12_amounts_33 : decode cX12_amounts 33 = .ok (.sipush 1920, 3) := by decide +kernel
theorem dX12_amounts_36 : decode cX12_amounts 36 = .ok (.if_icmp .gt 26, 3) := by decide +kernel
theorem dX12_amounts_39 : decode cX12_amounts 39 = .ok (.iload_n 3, 1) := by decide +kernel
theorem dX12_amounts_40 : decode cX12_amounts 40 = .ok (.aload_n 0, 1) := by decide +kernel
theorem dX12_amounts_41 : decode cX12_amounts 41 = .ok (.iload 5, 2) := by decide +kernel
theorem dX12_amounts_43 : decode cX12_amounts 43 = .ok (.invokevirtual 273, 3) := by decide +kernel
theorem dX12_amounts_46 : decode cX12_amounts 46 = .ok (.ifCond .eq 7, 3) := by decide +kernel
theorem dX12_amounts_49 : decode cX12_amounts 49 = .ok (.iconst 1, 1) := by decide +kernel
theorem dX12_amounts_50 : decode cX12_amounts 50 = .ok (.goto 4, 3) := by decide +kernel
theorem dX12_amounts_53 : decode cX12_amounts 53 = .ok (.iconst 0, 1) := by decide +kernel
theorem dX12_amounts_54 : decode cX12_amounts 54 = .ok (.iadd, 1) := by decide +kernel
theorem dX12_amounts_55 : decode cX12_amounts 55 = .ok (.istore_n 3, 1) := by decide +kernel
theorem dX12_amounts_56 : decode cX12_amounts 56 = .ok (.iinc 5 1, 3) := by decide +kernel
theorem dX12_amounts_59 : decode cX12_amounts 59 = .ok (.goto (-28), 3) := by decide +kernel
theorem dX12_amounts_62 : decode cX12_amounts 62 = .ok (.aload_n 0, 1) := by decide +kernel
theorem dX12_amounts_63 : decode cX12_amounts 63 = .ok (.iload 4, 2) := by decide +kernel
theorem dX12_amounts_65 : decode cX12_amounts 65 = .ok (.invokevirtual 273, 3) := by decide +kernel
theorem dX12_amounts_68 : decode cX12_amounts 68 = .ok (.ifCond .eq 9, 3) := by decide +kernel
theorem dX12_amounts_71 : decode cX12_amounts 71 = .ok (.iinc 4 1, 3) := by decide +kernel
theorem dX12_amounts_74 : decode cX12_amounts 74 = .ok (.goto (-12), 3) := by decide +kernel
theorem dX12_amounts_77 : decode cX12_amounts 77 = .ok (.iload_n 2, 1) := by decide +kernel
theorem dX12_amounts_78 : decode cX12_amounts 78 = .ok (.ifCond .ne 7, 3) := by decide +kernel
theorem dX12_amounts_81 : decode cX12_amounts 81 = .ok (.iload_n 3, 1) := by decide +kernel
theorem dX12_amounts_82 : decode cX12_amounts 82 = .ok (.goto 5, 3) := by decide +kernel
theorem dX12_amounts_85 : decode cX12_amounts 85 = .ok (.iload 4, 2) := by decide +kernel
theorem dX12_amounts_87 : decode cX12_amounts 87 = .ok (.ireturn, 1) := by decide +kernel
theorem dX12_values_0 : decode cX12_values 0 = .ok (.iconst 0, 1) := by decide +kernel
theorem dX12_values_1 : decode cX12_values 1 = .ok (.istore_n 2, 1) := by decide +kernel
theorem dX12_values_2 : decode cX12_values 2 = .ok (.iload_n 2, 1) := by decide +kernel
theorem dX12_values_3 : decode cX12_values 3 = .ok (.sipush 1920, 3) := by decide +kernel
theorem dX12_values_6 : decode cX12_values 6 = .ok (.if_icmp .gt 24, 3) := by decide +kernel
theorem dX12_values_9 : decode cX12_values 9 = .ok (.aload_n 0, 1) := by decide +kernel
theorem dX12_values_10 : decode cX12_values 10 = .ok (.getfield 84, 3) := by decide +kernel
theorem dX12_values_13 : decode cX12_values 13 = .ok (.iload_n 2, 1) := by decide +kernel
theorem dX12_values_14 : decode cX12_values 14 = .ok (.iload_n 2, 1) := by decide +kernel
theorem dX12_values_15 : decode cX12_values 15 = .ok (.ifCond .ne 7, 3) := by decide +kernel
theorem dX12_values_18 : decode cX12_values 18 = .ok (.iconst 0, 1) := by decide +kernel
theorem dX12_values_19 : decode cX12_values 19 = .ok (.goto 4, 3) := by decide +kernel
theorem dX12_values_22 : decode cX12_values 22 = .ok (.iconst (-1), 1) := by decide +kernel
theorem dX12_values_23 : decode cX12_values 23 = .ok (.iastore, 1) := by decide +kernel
theorem dX12_values_24 : decode cX12_values 24 = .ok (.iinc 2 1, 3) := by decide +kernel
theorem dX12_values_27 : decode cX12_values 27 = .ok (.goto (-25), 3) := by decide +kernel
theorem dX12_values_30 : decode cX12_values 30 = .ok (.iconst 0, 1) := by decide +kernel
theorem dX12_values_31 : decode cX12_values 31 = .ok (.istore_n 2, 1) := by decide +kernel
theorem dX12_values_32 : decode cX12_values 32 = .ok (.iload_n 2, 1) := by decide +kernel
theorem dX12_values_33 : decode cX12_values 33 = .ok (.aload_n 0, 1) := by decide +kernel
theorem dX12_values_34 : decode cX12_values 34 = .ok (.getfield 122, 3) := by decide +kernel
theorem dX12_values_37 : decode cX12_values 37 = .ok (.if_icmp .ge 126, 3) := by decide +kernel
theorem dX12_values_40 : decode cX12_values 40 = .ok (.iconst 0, 1) := by decide +kernel
theorem dX12_values_41 : decode cX12_values 41 = .ok (.istore_n 3, 1) := by decide +kernel
theorem dX12_values_42 : decode cX12_values 42 = .ok (.iload_n 3, 1) := by decide +kernel
theorem dX12_values_43 : decode cX12_values 43 = .ok (.aload_n 0, 1) := by decide +kernel
theorem dX12_values_44 : decode cX12_values 44 = .ok (.getfield 34, 3) := by decide +kernel
theorem dX12_values_47 : decode cX12_values 47 = .ok (.iload_n 2, 1) := by decide +kernel
theorem dX12_values_48 : decode cX12_values 48 = .ok (.iaload, 1) := by decide +kernel
theorem dX12_values_49 : decode cX12_values 49 = .ok (.if_icmp .ge 108, 3) := by decide +kernel
theorem dX12_values_52 : decode cX12_values 52 = .ok (.aload_n 0, 1) := by decide +kernel
theorem dX12_values_53 : decode cX12_values 53 = .ok (.getfield 25, 3) := by decide +kernel
theorem dX12_values_56 : decode cX12_values 56 = .ok (.iload_n 2, 1) := by decide +kernel
theorem dX12_values_57 : decode cX12_values 57 = .ok (.iaload, 1) := by decide +kernel
theorem dX12_values_58 : decode cX12_values 58 = .ok (.iload_n 1, 1) := by decide +kernel
theorem dX12_values_59 : decode cX12_values 59 = .ok (.if_icmp .ne 98, 3) := by decide +kernel
theorem dX12_values_62 : decode cX12_values 62 = .ok (.sipush 1920, 3) := by decide +kernel
theorem dX12_values_65 : decode cX12_values 65 = .ok (.istore 4, 2) := by decide +kernel
theorem dX12_values_67 : decode cX12_values 67 = .ok (.iload 4, 2) := by decide +kernel
theorem dX12_values_69 : decode cX12_values 69 = .ok (.aload_n 0, 1) := by decide +kernel
theorem dX12_values_70 : decode cX12_values 70 = .ok (.getfield 28, 3) := by decide +kernel
theorem dX12_values_73 : decode cX12_values 73 = .ok (.iload_n 2, 1) := by decide +kernel
theorem dX12_values_74 : decode cX12_values 74 = .ok (.iaload, 1) := by decide +kernel
theorem dX12_values_75 : decode cX12_values 75 = .ok (.if_icmp .lt 76, 3) := by decide +kernel
theorem dX12_values_78 : decode cX12_values 78 = .ok (.aload_n 0, 1) := by decide +kernel
theorem dX12_values_79 : decode cX12_values 79 = .ok (.getfield 84, 3) := by decide +kernel
theorem dX12_values_82 : decode cX12_values 82 = .ok (.iload 4, 2) := by decide +kernel
theorem dX12_values_84 : decode cX12_values 84 = .ok (.aload_n 0, 1) := by decide +kernel
theorem dX12_values_85 : decode cX12_values 85 = .ok (.getfield 28, 3) := by decide +kernel
theorem dX12_values_88 : decode cX12_values 88 = .ok (.iload_n 2, 1) := by decide +kernel
theorem dX12_values_89 : decode cX12_values 89 = .ok (.iaload, 1) := by decide +kernel
theorem dX12_values_90 : decode cX12_values 90 = .ok (.isub, 1) := by decide +kernel
theorem dX12_values_91 : decode cX12_values 91 = .ok (.iaload, 1) := by decide +kernel
theorem dX12_values_92 : decode cX12_values 92 = .ok (.istore 5, 2) := by decide +kernel
theorem dX12_values_94 : decode cX12_values 94 = .ok (.aload_n 0, 1) := by decide +kernel
theorem dX12_values_95 : decode cX12_values 95 = .ok (.getfield 84, 3) := by decide +kernel
theorem dX12_values_98 : decode cX12_values 98 = .ok (.iload 4, 2) := by decide +kernel
theorem dX12_values_100 : decode cX12_values 100 = .ok (.iload 5, 2) := by decide +kernel
theorem dX12_values_102 : decode cX12_values 102 = .ok (.iconst (-1), 1) := by decide +kernel
theorem dX12_values_103 : decode cX12_values 103 = .ok (.if_icmp .eq 34, 3) := by decide +kernel
theorem dX12_values_106 : decode cX12_values 106 = .ok (.iload 5, 2) := by decide +kernel
theorem dX12_values_108 : decode cX12_values 108 = .ok (.aload_n 0, 1) := by decide +kernel
theorem dX12_values_109 : decode cX12_values 109 = .ok (.getfield 31, 3) := by decide +kernel
theorem dX12_values_112 : decode cX12_values 112 = .ok (.iload_n 2, 1) := by decide +kernel
theorem dX12_values_113 : decode cX12_values 113 = .ok (.iaload, 1) := by decide +kernel
theorem dX12_values_114 : decode cX12_values 114 = .ok (.iadd, 1) := by decide +kernel
theorem dX12_values_115 : decode cX12_values 115 = .ok (.aload_n 0, 1) := by decide +kernel
theorem dX12_values_116 : decode cX12_values 116 = .ok (.getfield 84, 3) := by decide +kernel
theorem dX12_values_119 : decode cX12_values 119 = .ok (.iload 4, 2) := by decide +kernel
theorem dX12_values_121 : decode cX12_values 121 = .ok (.iaload, 1) := by decide +kernel
theorem dX12_values_122 : decode cX12_values 122 = .ok (.if_icmp .le 15, 3) := by decide +kernel
theorem dX12_values_125 : decode cX12_values 125 = .ok (.iload 5, 2) := by decide +kernel
theorem dX12_values_127 : decode cX12_values 127 = .ok (.aload_n 0, 1) := by decide +kernel
theorem dX12_values_128 : decode cX12_values 128 = .ok (.getfield 31, 3) := by decide +kernel
theorem dX12_values_131 : decode cX12_values 131 = .ok (.iload_n 2, 1) := by decide +kernel
theorem dX12_values_132 : decode cX12_values 132 = .ok (.iaload, 1) := by decide +kernel
theorem dX12_values_133 : decode cX12_values 133 = .ok (.iadd, 1) := by decide +kernel
theorem dX12_values_134 : decode cX12_values 134 = .ok (.goto 10, 3) := by decide +kernel
theorem dX12_values_137 : decode cX12_values 137 = .ok (.aload_n 0, 1) := by decide +kernel
theorem dX12_values_138 : decode cX12_values 138 = .ok (.getfield 84, 3) := by decide +kernel
theorem dX12_values_141 : decode cX12_values 141 = .ok (.iload 4, 2) := by decide +kernel
theorem dX12_values_143 : decode cX12_values 143 = .ok (.iaload, 1) := by decide +kernel
theorem dX12_values_144 : decode cX12_values 144 = .ok (.iastore, 1) := by decide +kernel
theorem dX12_values_145 : decode cX12_values 145 = .ok (.iinc 4 (-1), 3) := by decide +kernel
theorem dX12_values_148 : decode cX12_values 148 = .ok (.goto (-81), 3) := by decide +kernel
theorem dX12_values_151 : decode cX12_values 151 = .ok (.iinc 3 1, 3) := by decide +kernel
theorem dX12_values_154 : decode cX12_values 154 = .ok (.goto (-112), 3) := by decide +kernel
theorem dX12_values_157 : decode cX12_values 157 = .ok (.iinc 2 1, 3) := by decide +kernel
theorem dX12_values_160 : decode cX12_values 160 = .ok (.goto (-128), 3) := by decide +kernel
theorem dX12_values_163 : decode cX12_values 163 = .ok (.return_, 1) := by decide +kernel
set_option maxRecDepth 20000 in
theorem ggX12_spend_X12_isLand : GoodIn wsX12_spend wsX12_isLand := goodIn_r _ [5, 6, 7, 4, 8] rfl (by decide +kernel)
set_option maxRecDepth 20000 in
theorem gX12_spend_X12_isLand : GoodIn wsX12_spend (va_wsS RX12 125 yX12_isLand wsX12_isLand) := goodIn_app (goodIn_r _ [2, 3, 4] rfl (by decide +kernel)) ggX12_spend_X12_isLand
set_option maxRecDepth 20000 in
theorem ggX12_spend_X12_in : GoodIn wsX12_spend wsX12_in := goodIn_r _ [8] rfl (by decide +kernel)
set_option maxRecDepth 20000 in
theorem gX12_spend_X12_in : GoodIn wsX12_spend (va_wsS RX12 118 yX12_in wsX12_in) := goodIn_app (goodIn_r _ [6, 7, 4] rfl (by decide +kernel)) ggX12_spend_X12_in
set_option maxRecDepth 20000 in
theorem ggX12_spend_X12_pays : GoodIn wsX12_spend wsX12_pays := goodIn_r _ [12, 13, 14, 15, 16, 17, 18, 19, 20, 4, 21, 39, 40, 41, 42, 43, 44, 45, 46, 47, 48, 49, 50, 51, 52, 53, 54, 55, 56, 57, 58, 59, 60, 61, 62, 63, 64, 65, 66, 67, 68, 69, 70, 71, 72, 73, 74, 75, 76, 77, 78, 79, 80, 81, 82, 83, 84, 85, 86, 87, 88, 89, 90, 91, 92, 93, 94, 95] rfl (by decide +kernel)
set_option maxRecDepth 20000 in
theorem gX12_spend_X12_pays : GoodIn wsX12_spend (wsV RX12 270 RX12 yX12_pays wsX12_pays) := goodIn_app (goodIn_r _ [9, 10, 11, 4] rfl (by decide +kernel)) ggX12_spend_X12_pays
set_option maxRecDepth 20000 in
theorem ggX12_spend_X12_values : GoodIn wsX12_spend wsX12_values := goodIn_r _ [25, 1, 26, 27, 28, 29, 30, 39, 40, 41, 42, 43, 44, 45, 46, 47, 48, 49, 50, 51, 52, 53, 54, 55, 56, 57, 58, 59, 60, 61, 62, 63, 64, 65, 66, 67, 68, 69, 70, 71, 72, 73, 74, 75, 76, 77, 78, 79, 80, 81, 82, 83, 84, 85, 86, 87, 88, 89, 90, 91, 92, 93, 94, 95] rfl (by decide +kernel)
set_option maxRecDepth 20000 in
theorem gX12_spend_X12_values : GoodIn wsX12_spend (wsV RX12 276 RX12 yX12_values wsX12_values) := goodIn_app (goodIn_r _ [22, 23, 24, 4] rfl (by decide +kernel)) ggX12_spend_X12_values
set_option maxRecDepth 20000 in
theorem ggX12_spend_X12_canPay : GoodIn wsX12_spend wsX12_canPay := goodIn_r _ [34, 13, 39, 40, 41, 42, 43, 44, 45, 46, 47, 48, 49, 50, 51, 52, 53, 54, 55, 56, 57, 58, 59, 60, 61, 62, 63, 64, 65, 66, 67, 68, 69, 70, 71, 72, 73, 74, 75, 76, 77, 78, 79, 80, 81, 82, 83, 84, 85, 86, 87, 88, 89, 90, 91, 92, 93, 94, 95] rfl (by decide +kernel)
set_option maxRecDepth 20000 in
theorem gX12_spend_X12_canPay : GoodIn wsX12_spend (wsV RX12 273 RX12 yX12_canPay wsX12_canPay) := goodIn_app (goodIn_r _ [31, 32, 33, 4] rfl (by decide +kernel)) ggX12_spend_X12_canPay
set_option maxRecDepth 20000 in
theorem ggX12_spend_X12_purseOf : GoodIn wsX12_spend wsX12_purseOf := goodIn_r _ [38, 14, 16, 15, 17, 39, 40, 41, 42, 43, 44, 45, 46, 47, 48, 49, 50, 51, 52, 53, 54, 55, 56, 57, 58, 59, 60, 61, 62, 63, 64, 65, 66, 67, 68, 69, 70, 71, 72, 73, 74, 75, 76, 77, 78, 79, 80, 81, 82, 83, 84, 85, 86, 87, 88, 89, 90, 91, 92, 93, 94, 95] rfl (by decide +kernel)
set_option maxRecDepth 20000 in
theorem gX12_spend_X12_purseOf : GoodIn wsX12_spend (wsV RX12 168 RX12 yX12_purseOf wsX12_purseOf) := goodIn_app (goodIn_r _ [35, 36, 37, 4] rfl (by decide +kernel)) ggX12_spend_X12_purseOf
theorem dX12_spend_0 : decode cX12_spend 0 = .ok (.iload_n 1, 1) := by decide +kernel
theorem dX12_spend_1 : decode cX12_spend 1 = .ok (.invokestatic 125, 3) := by decide +kernel
theorem dX12_spend_4 : decode cX12_spend 4 = .ok (.ifCond .eq 21, 3) := by decide +kernel
theorem dX12_spend_7 : decode cX12_spend 7 = .ok (.iload_n 2, 1) := by decide +kernel
theorem dX12_spend_8 : decode cX12_spend 8 = .ok (.iconst 0, 1) := by decide +kernel
theorem dX12_spend_9 : decode cX12_spend 9 = .ok (.iconst 1, 1) := by decide +kernel
theorem dX12_spend_10 : decode cX12_spend 10 = .ok (.invokestatic 118, 3) := by decide +kernel
theorem dX12_spend_13 : decode cX12_spend 13 = .ok (.ifCond .eq 12, 3) := by decide +kernel
theorem dX12_spend_16 : decode cX12_spend 16 = .ok (.iload_n 3, 1) := by decide +kernel
theorem dX12_spend_17 : decode cX12_spend 17 = .ok (.iconst 0, 1) := by decide +kernel
theorem dX12_spend_18 : decode cX12_spend 18 = .ok (.iconst 2, 1) := by decide +kernel
theorem dX12_spend_19 : decode cX12_spend 19 = .ok (.invokestatic 118, 3) := by decide +kernel
theorem dX12_spend_22 : decode cX12_spend 22 = .ok (.ifCond .ne 5, 3) := by decide +kernel
theorem dX12_spend_25 : decode cX12_spend 25 = .ok (.iconst (-1), 1) := by decide +kernel
theorem dX12_spend_26 : decode cX12_spend 26 = .ok (.ireturn, 1) := by decide +kernel
theorem dX12_spend_27 : decode cX12_spend 27 = .ok (.aload_n 0, 1) := by decide +kernel
theorem dX12_spend_28 : decode cX12_spend 28 = .ok (.iload_n 1, 1) := by decide +kernel
theorem dX12_spend_29 : decode cX12_spend 29 = .ok (.invokevirtual 270, 3) := by decide +kernel
theorem dX12_spend_32 : decode cX12_spend 32 = .ok (.aload_n 0, 1) := by decide +kernel
theorem dX12_spend_33 : decode cX12_spend 33 = .ok (.iload_n 1, 1) := by decide +kernel
theorem dX12_spend_34 : decode cX12_spend 34 = .ok (.invokevirtual 276, 3) := by decide +kernel
theorem dX12_spend_37 : decode cX12_spend 37 = .ok (.iconst 0, 1) := by decide +kernel
theorem dX12_spend_38 : decode cX12_spend 38 = .ok (.istore 4, 2) := by decide +kernel
theorem dX12_spend_40 : decode cX12_spend 40 = .ok (.iconst 1, 1) := by decide +kernel
theorem dX12_spend_41 : decode cX12_spend 41 = .ok (.istore 5, 2) := by decide +kernel
theorem dX12_spend_43 : decode cX12_spend 43 = .ok (.iload 5, 2) := by decide +kernel
theorem dX12_spend_45 : decode cX12_spend 45 = .ok (.sipush 1920, 3) := by decide +kernel
theorem dX12_spend_48 : decode cX12_spend 48 = .ok (.if_icmp .gt 59, 3) := by decide +kernel
theorem dX12_spend_51 : decode cX12_spend 51 = .ok (.aload_n 0, 1) := by decide +kernel
theorem dX12_spend_52 : decode cX12_spend 52 = .ok (.getfield 84, 3) := by decide +kernel
theorem dX12_spend_55 : decode cX12_spend 55 = .ok (.iload 5, 2) := by decide +kernel
theorem dX12_spend_57 : decode cX12_spend 57 = .ok (.iaload, 1) := by decide +kernel
theorem dX12_spend_58 : decode cX12_spend 58 = .ok (.iconst (-1), 1) := by decide +kernel
theorem dX12_spend_59 : decode cX12_spend 59 = .ok (.if_icmp .eq 42, 3) := by decide +kernel
theorem dX12_spend_62 : decode cX12_spend 62 = .ok (.aload_n 0, 1) := by decide +kernel
theorem dX12_spend_63 : decode cX12_spend 63 = .ok (.iload 5, 2) := by decide +kernel
theorem dX12_spend_65 : decode cX12_spend 65 = .ok (.invokevirtual 273, 3) := by decide +kernel
theorem dX12_spend_68 : decode cX12_spend 68 = .ok (.ifCond .eq 33, 3) := by decide +kernel
theorem dX12_spend_71 : decode cX12_spend 71 = .ok (.iload_n 2, 1) := by decide +kernel
theorem dX12_spend_72 : decode cX12_spend 72 = .ok (.ifCond .eq 20, 3) := by decide +kernel
theorem dX12_spend_75 : decode cX12_spend 75 = .ok (.aload_n 0, 1) := by decide +kernel
theorem dX12_spend_76 : decode cX12_spend 76 = .ok (.getfield 84, 3) := by decide +kernel
theorem dX12_spend_79 : decode cX12_spend 79 = .ok (.iload 5, 2) := by decide +kernel
theorem dX12_spend_81 : decode cX12_spend 81 = .ok (.iaload, 1) := by decide +kernel
theorem dX12_spend_82 : decode cX12_spend 82 = .ok (.aload_n 0, 1) := by decide +kernel
theorem dX12_spend_83 : decode cX12_spend 83 = .ok (.getfield 84, 3) := by decide +kernel
theorem dX12_spend_86 : decode cX12_spend 86 = .ok (.iload 4, 2) := by decide +kernel
theorem dX12_spend_88 : decode cX12_spend 88 = .ok (.iaload, 1) := by decide +kernel
theorem dX12_spend_89 : decode cX12_spend 89 = .ok (.if_icmp .le 8, 3) := by decide +kernel
theorem dX12_spend_92 : decode cX12_spend 92 = .ok (.iload 5, 2) := by decide +kernel
theorem dX12_spend_94 : decode cX12_spend 94 = .ok (.goto 5, 3) := by decide +kernel
theorem dX12_spend_97 : decode cX12_spend 97 = .ok (.iload 4, 2) := by decide +kernel
theorem dX12_spend_99 : decode cX12_spend 99 = .ok (.istore 4, 2) := by decide +kernel
theorem dX12_spend_101 : decode cX12_spend 101 = .ok (.iinc 5 1, 3) := by decide +kernel
theorem dX12_spend_104 : decode cX12_spend 104 = .ok (.goto (-61), 3) := by decide +kernel
theorem dX12_spend_107 : decode cX12_spend 107 = .ok (.iload_n 3, 1) := by decide +kernel
theorem dX12_spend_108 : decode cX12_spend 108 = .ok (.ifCond .ne 14, 3) := by decide +kernel
theorem dX12_spend_111 : decode cX12_spend 111 = .ok (.aload_n 0, 1) := by decide +kernel
theorem dX12_spend_112 : decode cX12_spend 112 = .ok (.iload_n 1, 1) := by decide +kernel
theorem dX12_spend_113 : decode cX12_spend 113 = .ok (.invokevirtual 168, 3) := by decide +kernel
theorem dX12_spend_116 : decode cX12_spend 116 = .ok (.iload 4, 2) := by decide +kernel
theorem dX12_spend_118 : decode cX12_spend 118 = .ok (.isub, 1) := by decide +kernel
theorem dX12_spend_119 : decode cX12_spend 119 = .ok (.goto 20, 3) := by decide +kernel
theorem dX12_spend_122 : decode cX12_spend 122 = .ok (.iload_n 3, 1) := by decide +kernel
theorem dX12_spend_123 : decode cX12_spend 123 = .ok (.iconst 1, 1) := by decide +kernel
theorem dX12_spend_124 : decode cX12_spend 124 = .ok (.if_icmp .ne 13, 3) := by decide +kernel
theorem dX12_spend_127 : decode cX12_spend 127 = .ok (.aload_n 0, 1) := by decide +kernel
theorem dX12_spend_128 : decode cX12_spend 128 = .ok (.getfield 84, 3) := by decide +kernel
theorem dX12_spend_131 : decode cX12_spend 131 = .ok (.iload 4, 2) := by decide +kernel
theorem dX12_spend_133 : decode cX12_spend 133 = .ok (.iaload, 1) := by decide +kernel
theorem dX12_spend_134 : decode cX12_spend 134 = .ok (.goto 5, 3) := by decide +kernel
theorem dX12_spend_137 : decode cX12_spend 137 = .ok (.iload 4, 2) := by decide +kernel
theorem dX12_spend_139 : decode cX12_spend 139 = .ok (.ireturn, 1) := by decide +kernel
theorem dX12_comesBack_0 : decode cX12_comesBack 0 = .ok (.iload_n 2, 1) := by decide +kernel
theorem dX12_comesBack_1 : decode cX12_comesBack 1 = .ok (.istore_n 3, 1) := by decide +kernel
theorem dX12_comesBack_2 : decode cX12_comesBack 2 = .ok (.iconst 1, 1) := by decide +kernel
theorem dX12_comesBack_3 : decode cX12_comesBack 3 = .ok (.istore 4, 2) := by decide +kernel
theorem dX12_comesBack_5 : decode cX12_comesBack 5 = .ok (.iload 4, 2) := by decide +kernel
theorem dX12_comesBack_7 : decode cX12_comesBack 7 = .ok (.ifCond .eq 145, 3) := by decide +kernel
theorem dX12_comesBack_10 : decode cX12_comesBack 10 = .ok (.iconst (-1), 1) := by decide +kernel
theorem dX12_comesBack_11 : decode cX12_comesBack 11 = .ok (.istore 5, 2) := by decide +kernel
theorem dX12_comesBack_13 : decode cX12_comesBack 13 = .ok (.aload_n 0, 1) := by decide +kernel
theorem dX12_comesBack_14 : decode cX12_comesBack 14 = .ok (.getfield 114, 3) := by decide +kernel
theorem dX12_comesBack_17 : decode cX12_comesBack 17 = .ok (.iconst 1, 1) := by decide +kernel
theorem dX12_comesBack_18 : decode cX12_comesBack 18 = .ok (.isub, 1) := by decide +kernel
theorem dX12_comesBack_19 : decode cX12_comesBack 19 = .ok (.istore 6, 2) := by decide +kernel
theorem dX12_comesBack_21 : decode cX12_comesBack 21 = .ok (.iload 6, 2) := by decide +kernel
theorem dX12_comesBack_23 : decode cX12_comesBack 23 = .ok (.ifCond .lt 87, 3) := by decide +kernel
theorem dX12_comesBack_26 : decode cX12_comesBack 26 = .ok (.aload_n 0, 1) := by decide +kernel
theorem dX12_comesBack_27 : decode cX12_comesBack 27 = .ok (.getfield 7, 3) := by decide +kernel
theorem dX12_comesBack_30 : decode cX12_comesBack 30 = .ok (.iload 6, 2) := by decide +kernel
theorem dX12_comesBack_32 : decode cX12_comesBack 32 = .ok (.iaload, 1) := by decide +kernel
theorem dX12_comesBack_33 : decode cX12_comesBack 33 = .ok (.iload_n 1, 1) := by decide +kernel
theorem dX12_comesBack_34 : decode cX12_comesBack 34 = .ok (.if_icmp .ne 30, 3) := by decide +kernel
theorem dX12_comesBack_37 : decode cX12_comesBack 37 = .ok (.aload_n 0, 1) := by decide +kernel
theorem dX12_comesBack_38 : decode cX12_comesBack 38 = .ok (.getfield 13, 3) := by decide +kernel
theorem dX12_comesBack_41 : decode cX12_comesBack 41 = .ok (.iload 6, 2) := by decide +kernel
theorem dX12_comesBack_43 : decode cX12_comesBack 43 = .ok (.iaload, 1) := by decide +kernel
theorem dX12_comesBack_44 : decode cX12_comesBack 44 = .ok (.iload_n 3, 1) := by decide +kernel
theorem dX12_comesBack_45 : decode cX12_comesBack 45 = .ok (.if_icmp .gt 19, 3) := by decide +kernel
theorem dX12_comesBack_48 : decode cX12_comesBack 48 = .ok (.aload_n 0, 1) := by decide +kernel
theorem dX12_comesBack_49 : decode cX12_comesBack 49 = .ok (.getfield 22, 3) := by decide +kernel
theorem dX12_comesBack_52 : decode cX12_comesBack 52 = .ok (.iload 6, 2) := by decide +kernel
theorem dX12_comesBack_54 : decode cX12_comesBack 54 = .ok (.iaload, 1) := by decide +kernel
theorem dX12_comesBack_55 : decode cX12_comesBack 55 = .ok (.bipush 6, 2) := by decide +kernel
theorem dX12_comesBack_57 : decode cX12_comesBack 57 = .ok (.if_icmp .ge 7, 3) := by decide +kernel
theorem dX12_comesBack_60 : decode cX12_comesBack 60 = .ok (.iconst 1, 1) := by decide +kernel
theorem dX12_comesBack_61 : decode cX12_comesBack 61 = .ok (.goto 4, 3) := by decide +kernel
theorem dX12_comesBack_64 : decode cX12_comesBack 64 = .ok (.iconst 0, 1) := by decide +kernel
theorem dX12_comesBack_65 : decode cX12_comesBack 65 = .ok (.istore 7, 2) := by decide +kernel
theorem dX12_comesBack_67 : decode cX12_comesBack 67 = .ok (.iload 7, 2) := by decide +kernel
theorem dX12_comesBack_69 : decode cX12_comesBack 69 = .ok (.ifCond .eq 31, 3) := by decide +kernel
theorem dX12_comesBack_72 : decode cX12_comesBack 72 = .ok (.iload 5, 2) := by decide +kernel
theorem dX12_comesBack_74 : decode cX12_comesBack 74 = .ok (.iconst (-1), 1) := by decide +kernel
theorem dX12_comesBack_75 : decode cX12_comesBack 75 = .ok (.if_icmp .eq 20, 3) := by decide +kernel
theorem dX12_comesBack_78 : decode cX12_comesBack 78 = .ok (.aload_n 0, 1) := by decide +kernel
theorem dX12_comesBack_79 : decode cX12_comesBack 79 = .ok (.getfield 13, 3) := by decide +kernel
theorem dX12_comesBack_82 : decode cX12_comesBack 82 = .ok (.iload 6, 2) := by decide +kernel
theorem dX12_comesBack_84 : decode cX12_comesBack 84 = .ok (.iaload, 1) := by decide +kernel
theorem dX12_comesBack_85 : decode cX12_comesBack 85 = .ok (.aload_n 0, 1) := by decide +kernel
theorem dX12_comesBack_86 : decode cX12_comesBack 86 = .ok (.getfield 13, 3) := by decide +kernel
theorem dX12_comesBack_89 : decode cX12_comesBack 89 = .ok (.iload 5, 2) := by decide +kernel
theorem dX12_comesBack_91 : decode cX12_comesBack 91 = .ok (.iaload, 1) := by decide +kernel
theorem dX12_comesBack_92 : decode cX12_comesBack 92 = .ok (.if_icmp .lt 8, 3) := by decide +kernel
theorem dX12_comesBack_95 : decode cX12_comesBack 95 = .ok (.iload 6, 2) := by decide +kernel
theorem dX12_comesBack_97 : decode cX12_comesBack 97 = .ok (.goto 5, 3) := by decide +kernel
theorem dX12_comesBack_100 : decode cX12_comesBack 100 = .ok (.iload 5, 2) := by decide +kernel
theorem dX12_comesBack_102 : decode cX12_comesBack 102 = .ok (.istore 5, 2) := by decide +kernel
theorem dX12_comesBack_104 : decode cX12_comesBack 104 = .ok (.iinc 6 (-1), 3) := by decide +kernel
theorem dX12_comesBack_107 : decode cX12_comesBack 107 = .ok (.goto (-86), 3) := by decide +kernel
theorem dX12_comesBack_110 : decode cX12_comesBack 110 = .ok (.iload 5, 2) := by decide +kernel
theorem dX12_comesBack_112 : decode cX12_comesBack 112 = .ok (.iconst (-1), 1) := by decide +kernel
theorem dX12_comesBack_113 : decode cX12_comesBack 113 = .ok (.if_icmp .eq 7, 3) := by decide +kernel
theorem dX12_comesBack_116 : decode cX12_comesBack 116 = .ok (.iconst 1, 1) := by decide +kernel
theorem dX12_comesBack_117 : decode cX12_comesBack 117 = .ok (.goto 4, 3) := by decide +kernel
theorem dX12_comesBack_120 : decode cX12_comesBack 120 = .ok (.iconst 0, 1) := by decide +kernel
theorem dX12_comesBack_121 : decode cX12_comesBack 121 = .ok (.istore 4, 2) := by decide +kernel
theorem dX12_comesBack_123 : decode cX12_comesBack 123 = .ok (.iload 4, 2) := by decide +kernel
theorem dX12_comesBack_125 : decode cX12_comesBack 125 = .ok (.ifCond .eq 24, 3) := by decide +kernel
theorem dX12_comesBack_128 : decode cX12_comesBack 128 = .ok (.aload_n 0, 1) := by decide +kernel
theorem dX12_comesBack_129 : decode cX12_comesBack 129 = .ok (.getfield 22, 3) := by decide +kernel
theorem dX12_comesBack_132 : decode cX12_comesBack 132 = .ok (.iload 5, 2) := by decide +kernel
theorem dX12_comesBack_134 : decode cX12_comesBack 134 = .ok (.dup2, 1) := by decide +kernel
theorem dX12_comesBack_135 : decode cX12_comesBack 135 = .ok (.iaload, 1) := by decide +kernel
theorem dX12_comesBack_136 : decode cX12_comesBack 136 = .ok (.iconst 1, 1) := by decide +kernel
theorem dX12_comesBack_137 : decode cX12_comesBack 137 = .ok (.iadd, 1) := by decide +kernel
theorem dX12_comesBack_138 : decode cX12_comesBack 138 = .ok (.iastore, 1) := by decide +kernel
theorem dX12_comesBack_139 : decode cX12_comesBack 139 = .ok (.iload_n 3, 1) := by decide +kernel
theorem dX12_comesBack_140 : decode cX12_comesBack 140 = .ok (.aload_n 0, 1) := by decide +kernel
theorem dX12_comesBack_141 : decode cX12_comesBack 141 = .ok (.getfield 13, 3) := by decide +kernel
theorem dX12_comesBack_144 : decode cX12_comesBack 144 = .ok (.iload 5, 2) := by decide +kernel
theorem dX12_comesBack_146 : decode cX12_comesBack 146 = .ok (.iaload, 1) := by decide +kernel
theorem dX12_comesBack_147 : decode cX12_comesBack 147 = .ok (.isub, 1) := by decide +kernel
theorem dX12_comesBack_148 : decode cX12_comesBack 148 = .ok (.istore_n 3, 1) := by decide +kernel
theorem dX12_comesBack_149 : decode cX12_comesBack 149 = .ok (.goto (-144), 3) := by decide +kernel
theorem dX12_comesBack_152 : decode cX12_comesBack 152 = .ok (.iload_n 2, 1) := by decide +kernel
theorem dX12_comesBack_153 : decode cX12_comesBack 153 = .ok (.iload_n 3, 1) := by decide +kernel
theorem dX12_comesBack_154 : decode cX12_comesBack 154 = .ok (.isub, 1) := by decide +kernel
theorem dX12_comesBack_155 : decode cX12_comesBack 155 = .ok (.ireturn, 1) := by decide +kernel
set_option maxRecDepth 20000 in
theorem ggX12_buy_X12_isThing : GoodIn wsX12_buy wsX12_isThing := goodIn_r _ [14, 15, 16, 17, 13, 18, 50, 51, 52, 53, 54, 55, 56, 57, 58, 59, 60, 61, 62, 63, 64, 65, 66, 67, 68, 69, 70, 71, 72, 73, 74, 75, 76, 77, 78, 79, 80, 81, 82, 83, 84, 85, 86, 87, 88, 89, 90, 91, 92, 93, 94, 95, 96, 97, 98, 99, 100, 101, 102, 103, 104, 105, 106] rfl (by decide +kernel)
set_option maxRecDepth 20000 in
theorem gX12_buy_X12_isThing : GoodIn wsX12_buy (wsV RX12 151 RX12 yX12_isThing wsX12_isThing) := goodIn_app (goodIn_r _ [10, 11, 12, 13] rfl (by decide +kernel)) ggX12_buy_X12_isThing
set_option maxRecDepth 20000 in
theorem ggX12_buy_X12_pays : GoodIn wsX12_buy wsX12_pays := goodIn_r _ [22, 23, 5, 6, 24, 25, 26, 27, 28, 13, 29, 50, 51, 52, 53, 54, 55, 56, 57, 58, 59, 60, 61, 62, 63, 64, 65, 66, 67, 68, 69, 70, 71, 72, 73, 74, 75, 76, 77, 78, 79, 80, 81, 82, 83, 84, 85, 86, 87, 88, 89, 90, 91, 92, 93, 94, 95, 96, 97, 98, 99, 100, 101, 102, 103, 104, 105, 106] rfl (by decide +kernel)
set_option maxRecDepth 20000 in
theorem gX12_buy_X12_pays : GoodIn wsX12_buy (wsV RX12 270 RX12 yX12_pays wsX12_pays) := goodIn_app (goodIn_r _ [19, 20, 21, 13] rfl (by decide +kernel)) ggX12_buy_X12_pays
set_option maxRecDepth 20000 in
theorem ggX12_buy_X12_canPay : GoodIn wsX12_buy wsX12_canPay := goodIn_r _ [33, 23, 50, 51, 52, 53, 54, 55, 56, 57, 58, 59, 60, 61, 62, 63, 64, 65, 66, 67, 68, 69, 70, 71, 72, 73, 74, 75, 76, 77, 78, 79, 80, 81, 82, 83, 84, 85, 86, 87, 88, 89, 90, 91, 92, 93, 94, 95, 96, 97, 98, 99, 100, 101, 102, 103, 104, 105, 106] rfl (by decide +kernel)
set_option maxRecDepth 20000 in
theorem gX12_buy_X12_canPay : GoodIn wsX12_buy (wsV RX12 273 RX12 yX12_canPay wsX12_canPay) := goodIn_app (goodIn_r _ [30, 31, 32, 13] rfl (by decide +kernel)) ggX12_buy_X12_canPay
set_option maxRecDepth 20000 in
theorem ggX12_buy_X12_payment : GoodIn wsX12_buy wsX12_payment := goodIn_r _ [37, 38, 5, 24, 6, 7, 25, 39, 40, 41, 13, 42, 43, 44, 45, 50, 51, 52, 53, 54, 55, 56, 57, 58, 59, 60, 61, 62, 63, 64, 65, 66, 67, 68, 69, 70, 71, 72, 73, 74, 75, 76, 77, 78, 79, 80, 81, 82, 83, 84, 85, 86, 87, 88, 89, 90, 91, 92, 93, 94, 95, 96, 97, 98, 99, 100, 101, 102, 103, 104, 105, 106] rfl (by decide +kernel)
set_option maxRecDepth 20000 in
theorem gX12_buy_X12_payment : GoodIn wsX12_buy (wsV RX12 267 RX12 yX12_payment wsX12_payment) := goodIn_app (goodIn_r _ [34, 35, 36, 13] rfl (by decide +kernel)) ggX12_buy_X12_payment
set_option maxRecDepth 20000 in
theorem ggX12_buy_X12_comesBack : GoodIn wsX12_buy wsX12_comesBack := goodIn_r _ [49, 5, 24, 25, 6, 50, 51, 52, 53, 54, 55, 56, 57, 58, 59, 60, 61, 62, 63, 64, 65, 66, 67, 68, 69, 70, 71, 72, 73, 74, 75, 76, 77, 78, 79, 80, 81, 82, 83, 84, 85, 86, 87, 88, 89, 90, 91, 92, 93, 94, 95, 96, 97, 98, 99, 100, 101, 102, 103, 104, 105, 106] rfl (by decide +kernel)
set_option maxRecDepth 20000 in
theorem gX12_buy_X12_comesBack : GoodIn wsX12_buy (wsV RX12 279 RX12 yX12_comesBack wsX12_comesBack) := goodIn_app (goodIn_r _ [46, 47, 48, 13] rfl (by decide +kernel)) ggX12_buy_X12_comesBack
theorem dX12_buy_0 : decode cX12_buy 0 = .ok (.aload_n 0, 1) := by decide +kernel
theorem dX12_buy_1 : decode cX12_buy 1 = .ok (.iload_n 1, 1) := by decide +kernel
theorem dX12_buy_2 : decode cX12_buy 2 = .ok (.invokevirtual 151, 3) := by decide +kernel
theorem dX12_buy_5 : decode cX12_buy 5 = .ok (.ifCond .ne 5, 3) := by decide +kernel
theorem dX12_buy_8 : decode cX12_buy 8 = .ok (.iconst (-1), 1) := by decide +kernel
theorem dX12_buy_9 : decode cX12_buy 9 = .ok (.ireturn, 1) := by decide +kernel
theorem dX12_buy_10 : decode cX12_buy 10 = .ok (.aload_n 0, 1) := by decide +kernel
theorem dX12_buy_11 : decode cX12_buy 11 = .ok (.getfield 34, 3) := by decide +kernel
theorem dX12_buy_14 : decode cX12_buy 14 = .ok (.iload_n 1, 1) := by decide +kernel
theorem dX12_buy_15 : decode cX12_buy 15 = .ok (.iaload, 1) := by decide +kernel
theorem dX12_buy_16 : decode cX12_buy 16 = .ok (.ifCond .ne 6, 3) := by decide +kernel
theorem dX12_buy_19 : decode cX12_buy 19 = .ok (.bipush (-5), 2) := by decide +kernel
theorem dX12_buy_21 : decode cX12_buy 21 = .ok (.ireturn, 1) := by decide +kernel
theorem dX12_buy_22 : decode cX12_buy 22 = .ok (.aload_n 0, 1) := by decide +kernel
theorem dX12_buy_23 : decode cX12_buy 23 = .ok (.getfield 25, 3) := by decide +kernel
theorem dX12_buy_26 : decode cX12_buy 26 = .ok (.iload_n 1, 1) := by decide +kernel
theorem dX12_buy_27 : decode cX12_buy 27 = .ok (.iaload, 1) := by decide +kernel
theorem dX12_buy_28 : decode cX12_buy 28 = .ok (.istore_n 2, 1) := by decide +kernel
theorem dX12_buy_29 : decode cX12_buy 29 = .ok (.aload_n 0, 1) := by decide +kernel
theorem dX12_buy_30 : decode cX12_buy 30 = .ok (.iload_n 2, 1) := by decide +kernel
theorem dX12_buy_31 : decode cX12_buy 31 = .ok (.invokevirtual 270, 3) := by decide +kernel
theorem dX12_buy_34 : decode cX12_buy 34 = .ok (.aload_n 0, 1) := by decide +kernel
theorem dX12_buy_35 : decode cX12_buy 35 = .ok (.getfield 28, 3) := by decide +kernel
theorem dX12_buy_38 : decode cX12_buy 38 = .ok (.iload_n 1, 1) := by decide +kernel
theorem dX12_buy_39 : decode cX12_buy 39 = .ok (.iaload, 1) := by decide +kernel
theorem dX12_buy_40 : decode cX12_buy 40 = .ok (.istore_n 3, 1) := by decide +kernel
theorem dX12_buy_41 : decode cX12_buy 41 = .ok (.aload_n 0, 1) := by decide +kernel
theorem dX12_buy_42 : decode cX12_buy 42 = .ok (.getfield 37, 3) := by decide +kernel
theorem dX12_buy_45 : decode cX12_buy 45 = .ok (.iload_n 2, 1) := by decide +kernel
theorem dX12_buy_46 : decode cX12_buy 46 = .ok (.iaload, 1) := by decide +kernel
theorem dX12_buy_47 : decode cX12_buy 47 = .ok (.ifCond .le 24, 3) := by decide +kernel
theorem dX12_buy_50 : decode cX12_buy 50 = .ok (.iload_n 3, 1) := by decide +kernel
theorem dX12_buy_51 : decode cX12_buy 51 = .ok (.sipush 1920, 3) := by decide +kernel
theorem dX12_buy_54 : decode cX12_buy 54 = .ok (.if_icmp .gt 17, 3) := by decide +kernel
theorem dX12_buy_57 : decode cX12_buy 57 = .ok (.aload_n 0, 1) := by decide +kernel
theorem dX12_buy_58 : decode cX12_buy 58 = .ok (.iload_n 3, 1) := by decide +kernel
theorem dX12_buy_59 : decode cX12_buy 59 = .ok (.invokevirtual 273, 3) := by decide +kernel
theorem dX12_buy_62 : decode cX12_buy 62 = .ok (.ifCond .ne 9, 3) := by decide +kernel
theorem dX12_buy_65 : decode cX12_buy 65 = .ok (.iinc 3 1, 3) := by decide +kernel
theorem dX12_buy_68 : decode cX12_buy 68 = .ok (.goto (-27), 3) := by decide +kernel
theorem dX12_buy_71 : decode cX12_buy 71 = .ok (.aload_n 0, 1) := by decide +kernel
theorem dX12_buy_72 : decode cX12_buy 72 = .ok (.iload_n 3, 1) := by decide +kernel
theorem dX12_buy_73 : decode cX12_buy 73 = .ok (.invokevirtual 273, 3) := by decide +kernel
theorem dX12_buy_76 : decode cX12_buy 76 = .ok (.ifCond .ne 6, 3) := by decide +kernel
theorem dX12_buy_79 : decode cX12_buy 79 = .ok (.bipush (-2), 2) := by decide +kernel
theorem dX12_buy_81 : decode cX12_buy 81 = .ok (.ireturn, 1) := by decide +kernel
theorem dX12_buy_82 : decode cX12_buy 82 = .ok (.aload_n 0, 1) := by decide +kernel
theorem dX12_buy_83 : decode cX12_buy 83 = .ok (.iload_n 2, 1) := by decide +kernel
theorem dX12_buy_84 : decode cX12_buy 84 = .ok (.iload_n 3, 1) := by decide +kernel
theorem dX12_buy_85 : decode cX12_buy 85 = .ok (.iconst 1, 1) := by decide +kernel
theorem dX12_buy_86 : decode cX12_buy 86 = .ok (.invokevirtual 267, 3) := by decide +kernel
theorem dX12_buy_89 : decode cX12_buy 89 = .ok (.pop, 1) := by decide +kernel
theorem dX12_buy_90 : decode cX12_buy 90 = .ok (.iconst 0, 1) := by decide +kernel
theorem dX12_buy_91 : decode cX12_buy 91 = .ok (.istore 4, 2) := by decide +kernel
theorem dX12_buy_93 : decode cX12_buy 93 = .ok (.iload 4, 2) := by decide +kernel
theorem dX12_buy_95 : decode cX12_buy 95 = .ok (.aload_n 0, 1) := by decide +kernel
theorem dX12_buy_96 : decode cX12_buy 96 = .ok (.getfield 114, 3) := by decide +kernel
theorem dX12_buy_99 : decode cX12_buy 99 = .ok (.if_icmp .ge 26, 3) := by decide +kernel
theorem dX12_buy_102 : decode cX12_buy 102 = .ok (.aload_n 0, 1) := by decide +kernel
theorem dX12_buy_103 : decode cX12_buy 103 = .ok (.getfield 22, 3) := by decide +kernel
theorem dX12_buy_106 : decode cX12_buy 106 = .ok (.iload 4, 2) := by decide +kernel
theorem dX12_buy_108 : decode cX12_buy 108 = .ok (.dup2, 1) := by decide +kernel
theorem dX12_buy_109 : decode cX12_buy 109 = .ok (.iaload, 1) := by decide +kernel
theorem dX12_buy_110 : decode cX12_buy 110 = .ok (.aload_n 0, 1) := by decide +kernel
theorem dX12_buy_111 : decode cX12_buy 111 = .ok (.getfield 81, 3) := by decide +kernel
theorem dX12_buy_114 : decode cX12_buy 114 = .ok (.iload 4, 2) := by decide +kernel
theorem dX12_buy_116 : decode cX12_buy 116 = .ok (.iaload, 1) := by decide +kernel
theorem dX12_buy_117 : decode cX12_buy 117 = .ok (.isub, 1) := by decide +kernel
theorem dX12_buy_118 : decode cX12_buy 118 = .ok (.iastore, 1) := by decide +kernel
theorem dX12_buy_119 : decode cX12_buy 119 = .ok (.iinc 4 1, 3) := by decide +kernel
theorem dX12_buy_122 : decode cX12_buy 122 = .ok (.goto (-29), 3) := by decide +kernel
theorem dX12_buy_125 : decode cX12_buy 125 = .ok (.aload_n 0, 1) := by decide +kernel
theorem dX12_buy_126 : decode cX12_buy 126 = .ok (.getfield 37, 3) := by decide +kernel
theorem dX12_buy_129 : decode cX12_buy 129 = .ok (.iload_n 2, 1) := by decide +kernel
theorem dX12_buy_130 : decode cX12_buy 130 = .ok (.iaload, 1) := by decide +kernel
theorem dX12_buy_131 : decode cX12_buy 131 = .ok (.iconst 2, 1) := by decide +kernel
theorem dX12_buy_132 : decode cX12_buy 132 = .ok (.if_icmp .ne 19, 3) := by decide +kernel
theorem dX12_buy_135 : decode cX12_buy 135 = .ok (.aload_n 0, 1) := by decide +kernel
theorem dX12_buy_136 : decode cX12_buy 136 = .ok (.iload_n 2, 1) := by decide +kernel
theorem dX12_buy_137 : decode cX12_buy 137 = .ok (.iload_n 3, 1) := by decide +kernel
theorem dX12_buy_138 : decode cX12_buy 138 = .ok (.aload_n 0, 1) := by decide +kernel
theorem dX12_buy_139 : decode cX12_buy 139 = .ok (.getfield 28, 3) := by decide +kernel
theorem dX12_buy_142 : decode cX12_buy 142 = .ok (.iload_n 1, 1) := by decide +kernel
theorem dX12_buy_143 : decode cX12_buy 143 = .ok (.iaload, 1) := by decide +kernel
theorem dX12_buy_144 : decode cX12_buy 144 = .ok (.isub, 1) := by decide +kernel
theorem dX12_buy_145 : decode cX12_buy 145 = .ok (.invokevirtual 279, 3) := by decide +kernel
theorem dX12_buy_148 : decode cX12_buy 148 = .ok (.goto 4, 3) := by decide +kernel
theorem dX12_buy_151 : decode cX12_buy 151 = .ok (.iconst 0, 1) := by decide +kernel
theorem dX12_buy_152 : decode cX12_buy 152 = .ok (.istore 4, 2) := by decide +kernel
theorem dX12_buy_154 : decode cX12_buy 154 = .ok (.aload_n 0, 1) := by decide +kernel
theorem dX12_buy_155 : decode cX12_buy 155 = .ok (.getfield 34, 3) := by decide +kernel
theorem dX12_buy_158 : decode cX12_buy 158 = .ok (.iload_n 1, 1) := by decide +kernel
theorem dX12_buy_159 : decode cX12_buy 159 = .ok (.dup2, 1) := by decide +kernel
theorem dX12_buy_160 : decode cX12_buy 160 = .ok (.iaload, 1) := by decide +kernel
theorem dX12_buy_161 : decode cX12_buy 161 = .ok (.iconst 1, 1) := by decide +kernel
theorem dX12_buy_162 : decode cX12_buy 162 = .ok (.isub, 1) := by decide +kernel
theorem dX12_buy_163 : decode cX12_buy 163 = .ok (.iastore, 1) := by decide +kernel
theorem dX12_buy_164 : decode cX12_buy 164 = .ok (.aload_n 0, 1) := by decide +kernel
theorem dX12_buy_165 : decode cX12_buy 165 = .ok (.dup, 1) := by decide +kernel
theorem dX12_buy_166 : decode cX12_buy 166 = .ok (.getfield 282, 3) := by decide +kernel
theorem dX12_buy_169 : decode cX12_buy 169 = .ok (.iload_n 3, 1) := by decide +kernel
theorem dX12_buy_170 : decode cX12_buy 170 = .ok (.aload_n 0, 1) := by decide +kernel
theorem dX12_buy_171 : decode cX12_buy 171 = .ok (.getfield 28, 3) := by decide +kernel
theorem dX12_buy_174 : decode cX12_buy 174 = .ok (.iload_n 1, 1) := by decide +kernel
theorem dX12_buy_175 : decode cX12_buy 175 = .ok (.iaload, 1) := by decide +kernel
theorem dX12_buy_176 : decode cX12_buy 176 = .ok (.isub, 1) := by decide +kernel
theorem dX12_buy_177 : decode cX12_buy 177 = .ok (.iload 4, 2) := by decide +kernel
theorem dX12_buy_179 : decode cX12_buy 179 = .ok (.isub, 1) := by decide +kernel
theorem dX12_buy_180 : decode cX12_buy 180 = .ok (.iadd, 1) := by decide +kernel
theorem dX12_buy_181 : decode cX12_buy 181 = .ok (.putfield 282, 3) := by decide +kernel
theorem dX12_buy_184 : decode cX12_buy 184 = .ok (.aload_n 0, 1) := by decide +kernel
theorem dX12_buy_185 : decode cX12_buy 185 = .ok (.dup, 1) := by decide +kernel
theorem dX12_buy_186 : decode cX12_buy 186 = .ok (.getfield 285, 3) := by decide +kernel
theorem dX12_buy_189 : decode cX12_buy 189 = .ok (.iload_n 3, 1) := by decide +kernel
theorem dX12_buy_190 : decode cX12_buy 190 = .ok (.iload 4, 2) := by decide +kernel
theorem dX12_buy_192 : decode cX12_buy 192 = .ok (.isub, 1) := by decide +kernel
theorem dX12_buy_193 : decode cX12_buy 193 = .ok (.iadd, 1) := by decide +kernel
theorem dX12_buy_194 : decode cX12_buy 194 = .ok (.putfield 285, 3) := by decide +kernel
theorem dX12_buy_197 : decode cX12_buy 197 = .ok (.iload_n 3, 1) := by decide +kernel
theorem dX12_buy_198 : decode cX12_buy 198 = .ok (.iload 4, 2) := by decide +kernel
theorem dX12_buy_200 : decode cX12_buy 200 = .ok (.isub, 1) := by decide +kernel
theorem dX12_buy_201 : decode cX12_buy 201 = .ok (.ireturn, 1) := by decide +kernel
theorem dX12_apart_0 : decode cX12_apart 0 = .ok (.iload_n 0, 1) := by decide +kernel
theorem dX12_apart_1 : decode cX12_apart 1 = .ok (.iload_n 1, 1) := by decide +kernel
theorem dX12_apart_2 : decode cX12_apart 2 = .ok (.if_icmp .ge 9, 3) := by decide +kernel
theorem dX12_apart_5 : decode cX12_apart 5 = .ok (.iload_n 1, 1) := by decide +kernel
theorem dX12_apart_6 : decode cX12_apart 6 = .ok (.iload_n 0, 1) := by decide +kernel
theorem dX12_apart_7 : decode cX12_apart 7 = .ok (.isub, 1) := by decide +kernel
theorem dX12_apart_8 : decode cX12_apart 8 = .ok (.goto 6, 3) := by decide +kernel
theorem dX12_apart_11 : decode cX12_apart 11 = .ok (.iload_n 0, 1) := by decide +kernel
theorem dX12_apart_12 : decode cX12_apart 12 = .ok (.iload_n 1, 1) := by decide +kernel
theorem dX12_apart_13 : decode cX12_apart 13 = .ok (.isub, 1) := by decide +kernel
theorem dX12_apart_14 : decode cX12_apart 14 = .ok (.ireturn, 1) := by decide +kernel
set_option maxRecDepth 20000 in
theorem ggX12_isLike_X12_apart : GoodIn wsX12_isLike wsX12_apart := goodIn_r _ [6] rfl (by decide +kernel)
set_option maxRecDepth 20000 in
theorem gX12_isLike_X12_apart : GoodIn wsX12_isLike (va_wsS RX12 288 yX12_apart wsX12_apart) := goodIn_app (goodIn_r _ [3, 4, 5] rfl (by decide +kernel)) ggX12_isLike_X12_apart
theorem dX12_isLike_0 : decode cX12_isLike 0 = .ok (.aload_n 0, 1) := by decide +kernel
theorem dX12_isLike_1 : decode cX12_isLike 1 = .ok (.getfield 16, 3) := by decide +kernel
theorem dX12_isLike_4 : decode cX12_isLike 4 = .ok (.iload_n 1, 1) := by decide +kernel
theorem dX12_isLike_5 : decode cX12_isLike 5 = .ok (.iaload, 1) := by decide +kernel
theorem dX12_isLike_6 : decode cX12_isLike 6 = .ok (.aload_n 0, 1) := by decide +kernel
theorem dX12_isLike_7 : decode cX12_isLike 7 = .ok (.getfield 16, 3) := by decide +kernel
theorem dX12_isLike_10 : decode cX12_isLike 10 = .ok (.iload_n 2, 1) := by decide +kernel
theorem dX12_isLike_11 : decode cX12_isLike 11 = .ok (.iaload, 1) := by decide +kernel
theorem dX12_isLike_12 : decode cX12_isLike 12 = .ok (.invokestatic 288, 3) := by decide +kernel
theorem dX12_isLike_15 : decode cX12_isLike 15 = .ok (.iload_n 3, 1) := by decide +kernel
theorem dX12_isLike_16 : decode cX12_isLike 16 = .ok (.if_icmp .gt 26, 3) := by decide +kernel
theorem dX12_isLike_19 : decode cX12_isLike 19 = .ok (.aload_n 0, 1) := by decide +kernel
theorem dX12_isLike_20 : decode cX12_isLike 20 = .ok (.getfield 19, 3) := by decide +kernel
theorem dX12_isLike_23 : decode cX12_isLike 23 = .ok (.iload_n 1, 1) := by decide +kernel
theorem dX12_isLike_24 : decode cX12_isLike 24 = .ok (.iaload, 1) := by decide +kernel
theorem dX12_isLike_25 : decode cX12_isLike 25 = .ok (.aload_n 0, 1) := by decide +kernel
theorem dX12_isLike_26 : decode cX12_isLike 26 = .ok (.getfield 19, 3) := by decide +kernel
theorem dX12_isLike_29 : decode cX12_isLike 29 = .ok (.iload_n 2, 1) := by decide +kernel
theorem dX12_isLike_30 : decode cX12_isLike 30 = .ok (.iaload, 1) := by decide +kernel
theorem dX12_isLike_31 : decode cX12_isLike 31 = .ok (.invokestatic 288, 3) := by decide +kernel
theorem dX12_isLike_34 : decode cX12_isLike 34 = .ok (.iload_n 3, 1) := by decide +kernel
theorem dX12_isLike_35 : decode cX12_isLike 35 = .ok (.if_icmp .gt 7, 3) := by decide +kernel
theorem dX12_isLike_38 : decode cX12_isLike 38 = .ok (.iconst 1, 1) := by decide +kernel
theorem dX12_isLike_39 : decode cX12_isLike 39 = .ok (.goto 4, 3) := by decide +kernel
theorem dX12_isLike_42 : decode cX12_isLike 42 = .ok (.iconst 0, 1) := by decide +kernel
theorem dX12_isLike_43 : decode cX12_isLike 43 = .ok (.ireturn, 1) := by decide +kernel
set_option maxRecDepth 20000 in
theorem ggX12_like_X12_isSort : GoodIn wsX12_like wsX12_isSort := goodIn_r _ [6, 1, 7, 8, 5, 9, 19, 20, 21, 22, 23, 24, 25, 26, 27, 28, 29, 30, 31, 32, 33, 34, 35, 36, 37, 38, 39, 40, 41, 42, 43, 44, 45, 46, 47, 48, 49, 50, 51, 52, 53, 54, 55, 56, 57, 58, 59, 60, 61, 62, 63, 64, 65, 66, 67, 68, 69, 70, 71, 72, 73, 74, 75] rfl (by decide +kernel)
set_option maxRecDepth 20000 in
theorem gX12_like_X12_isSort : GoodIn wsX12_like (wsV RX12 142 RX12 yX12_isSort wsX12_isSort) := goodIn_app (goodIn_r _ [2, 3, 4, 5] rfl (by decide +kernel)) ggX12_like_X12_isSort
set_option maxRecDepth 20000 in
theorem ggX12_like_X12_in : GoodIn wsX12_like wsX12_in := goodIn_r _ [9] rfl (by decide +kernel)
set_option maxRecDepth 20000 in
theorem gX12_like_X12_in : GoodIn wsX12_like (va_wsS RX12 118 yX12_in wsX12_in) := goodIn_app (goodIn_r _ [7, 8, 5] rfl (by decide +kernel)) ggX12_like_X12_in
set_option maxRecDepth 20000 in
theorem ggX12_like_X12_isLike : GoodIn wsX12_like wsX12_isLike := goodIn_r _ [13, 14, 15, 16, 17, 5, 18, 19, 20, 21, 22, 23, 24, 25, 26, 27, 28, 29, 30, 31, 32, 33, 34, 35, 36, 37, 38, 39, 40, 41, 42, 43, 44, 45, 46, 47, 48, 49, 50, 51, 52, 53, 54, 55, 56, 57, 58, 59, 60, 61, 62, 63, 64, 65, 66, 67, 68, 69, 70, 71, 72, 73, 74, 75] rfl (by decide +kernel)
set_option maxRecDepth 20000 in
theorem gX12_like_X12_isLike : GoodIn wsX12_like (wsV RX12 291 RX12 yX12_isLike wsX12_isLike) := goodIn_app (goodIn_r _ [10, 11, 12, 5] rfl (by decide +kernel)) ggX12_like_X12_isLike
theorem dX12_like_0 : decode cX12_like 0 = .ok (.aload_n 0, 1) := by decide +kernel
theorem dX12_like_1 : decode cX12_like 1 = .ok (.iload_n 1, 1) := by decide +kernel
theorem dX12_like_2 : decode cX12_like 2 = .ok (.invokevirtual 142, 3) := by decide +kernel
theorem dX12_like_5 : decode cX12_like 5 = .ok (.ifCond .eq 13, 3) := by decide +kernel
theorem dX12_like_8 : decode cX12_like 8 = .ok (.iload_n 2, 1) := by decide +kernel
theorem dX12_like_9 : decode cX12_like 9 = .ok (.iconst 0, 1) := by decide +kernel
theorem dX12_like_10 : decode cX12_like 10 = .ok (.bipush 99, 2) := by decide +kernel
theorem dX12_like_12 : decode cX12_like 12 = .ok (.invokestatic 118, 3) := by decide +kernel
theorem dX12_like_15 : decode cX12_like 15 = .ok (.ifCond .ne 5, 3) := by decide +kernel
theorem dX12_like_18 : decode cX12_like 18 = .ok (.iconst (-1), 1) := by decide +kernel
theorem dX12_like_19 : decode cX12_like 19 = .ok (.ireturn, 1) := by decide +kernel
theorem dX12_like_20 : decode cX12_like 20 = .ok (.iconst 0, 1) := by decide +kernel
theorem dX12_like_21 : decode cX12_like 21 = .ok (.istore_n 3, 1) := by decide +kernel
theorem dX12_like_22 : decode cX12_like 22 = .ok (.iconst 0, 1) := by decide +kernel
theorem dX12_like_23 : decode cX12_like 23 = .ok (.istore 4, 2) := by decide +kernel
theorem dX12_like_25 : decode cX12_like 25 = .ok (.iload 4, 2) := by decide +kernel
theorem dX12_like_27 : decode cX12_like 27 = .ok (.aload_n 0, 1) := by decide +kernel
theorem dX12_like_28 : decode cX12_like 28 = .ok (.getfield 114, 3) := by decide +kernel
theorem dX12_like_31 : decode cX12_like 31 = .ok (.if_icmp .ge 31, 3) := by decide +kernel
theorem dX12_like_34 : decode cX12_like 34 = .ok (.iload_n 3, 1) := by decide +kernel
theorem dX12_like_35 : decode cX12_like 35 = .ok (.aload_n 0, 1) := by decide +kernel
theorem dX12_like_36 : decode cX12_like 36 = .ok (.iload_n 1, 1) := by decide +kernel
theorem dX12_like_37 : decode cX12_like 37 = .ok (.iload 4, 2) := by decide +kernel
theorem dX12_like_39 : decode cX12_like 39 = .ok (.iload_n 2, 1) := by decide +kernel
theorem dX12_like_40 : decode cX12_like 40 = .ok (.invokevirtual 291, 3) := by decide +kernel
theorem dX12_like_43 : decode cX12_like 43 = .ok (.ifCond .eq 10, 3) := by decide +kernel
theorem dX12_like_46 : decode cX12_like 46 = .ok (.iconst 1, 1) := by decide +kernel
theorem dX12_like_47 : decode cX12_like 47 = .ok (.iload 4, 2) := by decide +kernel
theorem dX12_like_49 : decode cX12_like 49 = .ok (.ishl, 1) := by decide +kernel
theorem dX12_like_50 : decode cX12_like 50 = .ok (.goto 4, 3) := by decide +kernel
theorem dX12_like_53 : decode cX12_like 53 = .ok (.iconst 0, 1) := by decide +kernel
theorem dX12_like_54 : decode cX12_like 54 = .ok (.ior, 1) := by decide +kernel
theorem dX12_like_55 : decode cX12_like 55 = .ok (.istore_n 3, 1) := by decide +kernel
theorem dX12_like_56 : decode cX12_like 56 = .ok (.iinc 4 1, 3) := by decide +kernel
theorem dX12_like_59 : decode cX12_like 59 = .ok (.goto (-34), 3) := by decide +kernel
theorem dX12_like_62 : decode cX12_like 62 = .ok (.iload_n 3, 1) := by decide +kernel
theorem dX12_like_63 : decode cX12_like 63 = .ok (.ireturn, 1) := by decide +kernel
set_option maxRecDepth 20000 in
theorem ggX12_worthIn_X12_rateOf : GoodIn wsX12_worthIn wsX12_rateOf := goodIn_r _ [7, 8, 9, 10, 11, 6, 12, 13, 14, 15, 16, 17, 18, 19, 20, 21, 22, 23, 24, 25, 26, 27, 28, 29, 30, 31, 32, 33, 34, 35, 36, 37, 38, 39, 40, 41, 42, 43, 44, 45, 46, 47, 48, 49, 50, 51, 52, 53, 54, 55, 56, 57, 58, 59, 60, 61, 62, 63, 64, 65, 66, 67, 68, 69, 70, 71, 72, 73, 74, 75, 76, 77, 78, 79, 80, 81, 82, 83, 84, 85, 86, 87, 88, 89] rfl (by decide +kernel)
set_option maxRecDepth 20000 in
theorem gX12_worthIn_X12_rateOf : GoodIn wsX12_worthIn (wsV RX12 252 RX12 yX12_rateOf wsX12_rateOf) := goodIn_app (goodIn_r _ [3, 4, 5, 6] rfl (by decide +kernel)) ggX12_worthIn_X12_rateOf
theorem dX12_worthIn_0 : decode cX12_worthIn 0 = .ok (.aload_n 0, 1) := by decide +kernel
theorem dX12_worthIn_1 : decode cX12_worthIn 1 = .ok (.getfield 13, 3) := by decide +kernel
theorem dX12_worthIn_4 : decode cX12_worthIn 4 = .ok (.iload_n 1, 1) := by decide +kernel
theorem dX12_worthIn_5 : decode cX12_worthIn 5 = .ok (.iaload, 1) := by decide +kernel
theorem dX12_worthIn_6 : decode cX12_worthIn 6 = .ok (.aload_n 0, 1) := by decide +kernel
theorem dX12_worthIn_7 : decode cX12_worthIn 7 = .ok (.aload_n 0, 1) := by decide +kernel
theorem dX12_worthIn_8 : decode cX12_worthIn 8 = .ok (.getfield 7, 3) := by decide +kernel
theorem dX12_worthIn_11 : decode cX12_worthIn 11 = .ok (.iload_n 1, 1) := by decide +kernel
theorem dX12_worthIn_12 : decode cX12_worthIn 12 = .ok (.iaload, 1) := by decide +kernel
theorem dX12_worthIn_13 : decode cX12_worthIn 13 = .ok (.iload_n 2, 1) := by decide +kernel
theorem dX12_worthIn_14 : decode cX12_worthIn 14 = .ok (.iload_n 3, 1) := by decide +kernel
theorem dX12_worthIn_15 : decode cX12_worthIn 15 = .ok (.invokevirtual 252, 3) := by decide +kernel
theorem dX12_worthIn_18 : decode cX12_worthIn 18 = .ok (.imul, 1) := by decide +kernel
theorem dX12_worthIn_19 : decode cX12_worthIn 19 = .ok (.sipush 1000, 3) := by decide +kernel
theorem dX12_worthIn_22 : decode cX12_worthIn 22 = .ok (.idiv, 1) := by decide +kernel
theorem dX12_worthIn_23 : decode cX12_worthIn 23 = .ok (.ireturn, 1) := by decide +kernel
set_option maxRecDepth 20000 in
theorem ggX12_standIn_X12_isSort : GoodIn wsX12_standIn wsX12_isSort := goodIn_r _ [9, 2, 10, 11, 8, 12, 58, 59, 60, 61, 62, 63, 64, 65, 66, 67, 68, 69, 70, 71, 72, 73, 74, 75, 76, 77, 78, 79, 80, 81, 82, 83, 84, 85, 86, 87, 88, 89, 90, 91, 92, 93, 94, 95, 96, 97, 98, 99, 100, 101, 102, 103, 104, 105, 106, 107, 108, 109, 110, 111, 112, 113, 114] rfl (by decide +kernel)
set_option maxRecDepth 20000 in
theorem gX12_standIn_X12_isSort : GoodIn wsX12_standIn (wsV RX12 142 RX12 yX12_isSort wsX12_isSort) := goodIn_app (goodIn_r _ [5, 6, 7, 8] rfl (by decide +kernel)) ggX12_standIn_X12_isSort
set_option maxRecDepth 20000 in
theorem ggX12_standIn_X12_in : GoodIn wsX12_standIn wsX12_in := goodIn_r _ [12] rfl (by decide +kernel)
set_option maxRecDepth 20000 in
theorem gX12_standIn_X12_in : GoodIn wsX12_standIn (va_wsS RX12 118 yX12_in wsX12_in) := goodIn_app (goodIn_r _ [10, 11, 8] rfl (by decide +kernel)) ggX12_standIn_X12_in
set_option maxRecDepth 20000 in
theorem ggX12_standIn_X12_isDay : GoodIn wsX12_standIn wsX12_isDay := goodIn_r _ [15, 10, 11, 8, 12] rfl (by decide +kernel)
set_option maxRecDepth 20000 in
theorem gX12_standIn_X12_isDay : GoodIn wsX12_standIn (va_wsS RX12 249 yX12_isDay wsX12_isDay) := goodIn_app (goodIn_r _ [13, 14, 8] rfl (by decide +kernel)) ggX12_standIn_X12_isDay
set_option maxRecDepth 20000 in
theorem ggX12_standIn_X12_isLike : GoodIn wsX12_standIn wsX12_isLike := goodIn_r _ [19, 20, 21, 22, 23, 8, 24, 58, 59, 60, 61, 62, 63, 64, 65, 66, 67, 68, 69, 70, 71, 72, 73, 74, 75, 76, 77, 78, 79, 80, 81, 82, 83, 84, 85, 86, 87, 88, 89, 90, 91, 92, 93, 94, 95, 96, 97, 98, 99, 100, 101, 102, 103, 104, 105, 106, 107, 108, 109, 110, 111, 112, 113, 114] rfl (by decide +kernel)
set_option maxRecDepth 20000 in
theorem gX12_standIn_X12_isLike : GoodIn wsX12_standIn (wsV RX12 291 RX12 yX12_isLike wsX12_isLike) := goodIn_app (goodIn_r _ [16, 17, 18, 8] rfl (by decide +kernel)) ggX12_standIn_X12_isLike
set_option maxRecDepth 20000 in
theorem ggX12_standIn_X12_worthIn : GoodIn wsX12_standIn wsX12_worthIn := goodIn_r _ [28, 4, 3, 29, 30, 31, 8, 32, 33, 34, 35, 36, 37, 38, 39, 40, 41, 42, 43, 44, 45, 46, 47, 48, 49, 50, 51, 52, 53, 54, 55, 56, 57, 58, 59, 60, 61, 62, 63, 64, 65, 66, 67, 68, 69, 70, 71, 72, 73, 74, 75, 76, 77, 78, 79, 80, 81, 82, 83, 84, 85, 86, 87, 88, 89, 90, 91, 92, 93, 94, 95, 96, 97, 98, 99, 100, 101, 102, 103, 104, 105, 106, 107, 108, 109, 110, 111, 112, 113, 114] rfl (by decide +kernel)
set_option maxRecDepth 20000 in
theorem gX12_standIn_X12_worthIn : GoodIn wsX12_standIn (wsV RX12 295 RX12 yX12_worthIn wsX12_worthIn) := goodIn_app (goodIn_r _ [25, 26, 27, 8] rfl (by decide +kernel)) ggX12_standIn_X12_worthIn
theorem dX12_standIn_0 : decode cX12_standIn 0 = .ok (.aload_n 0, 1) := by decide +kernel
theorem dX12_standIn_1 : decode cX12_standIn 1 = .ok (.iload_n 1, 1) := by decide +kernel
theorem dX12_standIn_2 : decode cX12_standIn 2 = .ok (.invokevirtual 142, 3) := by decide +kernel
theorem dX12_standIn_5 : decode cX12_standIn 5 = .ok (.ifCond .eq 30, 3) := by decide +kernel
theorem dX12_standIn_8 : decode cX12_standIn 8 = .ok (.iload_n 2, 1) := by decide +kernel
theorem dX12_standIn_9 : decode cX12_standIn 9 = .ok (.iconst 0, 1) := by decide +kernel
theorem dX12_standIn_10 : decode cX12_standIn 10 = .ok (.bipush 99, 2) := by decide +kernel
theorem dX12_standIn_12 : decode cX12_standIn 12 = .ok (.invokestatic 118, 3) := by decide +kernel
theorem dX12_standIn_15 : decode cX12_standIn 15 = .ok (.ifCond .eq 20, 3) := by decide +kernel
theorem dX12_standIn_18 : decode cX12_standIn 18 = .ok (.iload_n 3, 1) := by decide +kernel
theorem dX12_standIn_19 : decode cX12_standIn 19 = .ok (.invokestatic 249, 3) := by decide +kernel
theorem dX12_standIn_22 : decode cX12_standIn 22 = .ok (.ifCond .eq 13, 3) := by decide +kernel
theorem dX12_standIn_25 : decode cX12_standIn 25 = .ok (.iload 4, 2) := by decide +kernel
theorem dX12_standIn_27 : decode cX12_standIn 27 = .ok (.iconst 0, 1) := by decide +kernel
theorem dX12_standIn_28 : decode cX12_standIn 28 = .ok (.iconst 1, 1) := by decide +kernel
theorem dX12_standIn_29 : decode cX12_standIn 29 = .ok (.invokestatic 118, 3) := by decide +kernel
theorem dX12_standIn_32 : decode cX12_standIn 32 = .ok (.ifCond .ne 7, 3) := by decide +kernel
theorem dX12_standIn_35 : decode cX12_standIn 35 = .ok (.ldc_w 294, 3) := by decide +kernel
theorem dX12_standIn_38 : decode cX12_standIn 38 = .ok (.ireturn, 1) := by decide +kernel
theorem dX12_standIn_39 : decode cX12_standIn 39 = .ok (.iconst (-1), 1) := by decide +kernel
theorem dX12_standIn_40 : decode cX12_standIn 40 = .ok (.istore 5, 2) := by decide +kernel
theorem dX12_standIn_42 : decode cX12_standIn 42 = .ok (.iconst 0, 1) := by decide +kernel
theorem dX12_standIn_43 : decode cX12_standIn 43 = .ok (.istore 6, 2) := by decide +kernel
theorem dX12_standIn_45 : decode cX12_standIn 45 = .ok (.iload 6, 2) := by decide +kernel
theorem dX12_standIn_47 : decode cX12_standIn 47 = .ok (.aload_n 0, 1) := by decide +kernel
theorem dX12_standIn_48 : decode cX12_standIn 48 = .ok (.getfield 114, 3) := by decide +kernel
theorem dX12_standIn_51 : decode cX12_standIn 51 = .ok (.if_icmp .ge 82, 3) := by decide +kernel
theorem dX12_standIn_54 : decode cX12_standIn 54 = .ok (.iload 6, 2) := by decide +kernel
theorem dX12_standIn_56 : decode cX12_standIn 56 = .ok (.iload_n 1, 1) := by decide +kernel
theorem dX12_standIn_57 : decode cX12_standIn 57 = .ok (.if_icmp .eq 18, 3) := by decide +kernel
theorem dX12_standIn_60 : decode cX12_standIn 60 = .ok (.aload_n 0, 1) := by decide +kernel
theorem dX12_standIn_61 : decode cX12_standIn 61 = .ok (.iload_n 1, 1) := by decide +kernel
theorem dX12_standIn_62 : decode cX12_standIn 62 = .ok (.iload 6, 2) := by decide +kernel
theorem dX12_standIn_64 : decode cX12_standIn 64 = .ok (.iload_n 2, 1) := by decide +kernel
theorem dX12_standIn_65 : decode cX12_standIn 65 = .ok (.invokevirtual 291, 3) := by decide +kernel
theorem dX12_standIn_68 : decode cX12_standIn 68 = .ok (.ifCond .eq 7, 3) := by decide +kernel
theorem dX12_standIn_71 : decode cX12_standIn 71 = .ok (.iconst 1, 1) := by decide +kernel
theorem dX12_standIn_72 : decode cX12_standIn 72 = .ok (.goto 4, 3) := by decide +kernel
theorem dX12_standIn_75 : decode cX12_standIn 75 = .ok (.iconst 0, 1) := by decide +kernel
theorem dX12_standIn_76 : decode cX12_standIn 76 = .ok (.istore 7, 2) := by decide +kernel
theorem dX12_standIn_78 : decode cX12_standIn 78 = .ok (.iload 7, 2) := by decide +kernel
theorem dX12_standIn_80 : decode cX12_standIn 80 = .ok (.ifCond .eq 43, 3) := by decide +kernel
theorem dX12_standIn_83 : decode cX12_standIn 83 = .ok (.iload 5, 2) := by decide +kernel
theorem dX12_standIn_85 : decode cX12_standIn 85 = .ok (.iconst (-1), 1) := by decide +kernel
theorem dX12_standIn_86 : decode cX12_standIn 86 = .ok (.if_icmp .eq 32, 3) := by decide +kernel
theorem dX12_standIn_89 : decode cX12_standIn 89 = .ok (.aload_n 0, 1) := by decide +kernel
theorem dX12_standIn_90 : decode cX12_standIn 90 = .ok (.iload 6, 2) := by decide +kernel
theorem dX12_standIn_92 : decode cX12_standIn 92 = .ok (.aload_n 0, 1) := by decide +kernel
theorem dX12_standIn_93 : decode cX12_standIn 93 = .ok (.getfield 7, 3) := by decide +kernel
theorem dX12_standIn_96 : decode cX12_standIn 96 = .ok (.iload_n 1, 1) := by decide +kernel
theorem dX12_standIn_97 : decode cX12_standIn 97 = .ok (.iaload, 1) := by decide +kernel
theorem dX12_standIn_98 : decode cX12_standIn 98 = .ok (.iload_n 3, 1) := by decide +kernel
theorem dX12_standIn_99 : decode cX12_standIn 99 = .ok (.invokevirtual 295, 3) := by decide +kernel
theorem dX12_standIn_102 : decode cX12_standIn 102 = .ok (.aload_n 0, 1) := by decide +kernel
theorem dX12_standIn_103 : decode cX12_standIn 103 = .ok (.iload 5, 2) := by decide +kernel
theorem dX12_standIn_105 : decode cX12_standIn 105 = .ok (.aload_n 0, 1) := by decide +kernel
theorem dX12_standIn_106 : decode cX12_standIn 106 = .ok (.getfield 7, 3) := by decide +kernel
theorem dX12_standIn_109 : decode cX12_standIn 109 = .ok (.iload_n 1, 1) := by decide +kernel
theorem dX12_standIn_110 : decode cX12_standIn 110 = .ok (.iaload, 1) := by decide +kernel
theorem dX12_standIn_111 : decode cX12_standIn 111 = .ok (.iload_n 3, 1) := by decide +kernel
theorem dX12_standIn_112 : decode cX12_standIn 112 = .ok (.invokevirtual 295, 3) := by decide +kernel
theorem dX12_standIn_115 : decode cX12_standIn 115 = .ok (.if_icmp .ge 8, 3) := by decide +kernel
theorem dX12_standIn_118 : decode cX12_standIn 118 = .ok (.iload 6, 2) := by decide +kernel
theorem dX12_standIn_120 : decode cX12_standIn 120 = .ok (.goto 5, 3) := by decide +kernel
theorem dX12_standIn_123 : decode cX12_standIn 123 = .ok (.iload 5, 2) := by decide +kernel
theorem dX12_standIn_125 : decode cX12_standIn 125 = .ok (.istore 5, 2) := by decide +kernel
theorem dX12_standIn_127 : decode cX12_standIn 127 = .ok (.iinc 6 1, 3) := by decide +kernel
theorem dX12_standIn_130 : decode cX12_standIn 130 = .ok (.goto (-85), 3) := by decide +kernel
theorem dX12_standIn_133 : decode cX12_standIn 133 = .ok (.iload 5, 2) := by decide +kernel
theorem dX12_standIn_135 : decode cX12_standIn 135 = .ok (.iconst (-1), 1) := by decide +kernel
theorem dX12_standIn_136 : decode cX12_standIn 136 = .ok (.if_icmp .ne 7, 3) := by decide +kernel
theorem dX12_standIn_139 : decode cX12_standIn 139 = .ok (.iconst (-1), 1) := by decide +kernel
theorem dX12_standIn_140 : decode cX12_standIn 140 = .ok (.goto 33, 3) := by decide +kernel
theorem dX12_standIn_143 : decode cX12_standIn 143 = .ok (.iload 4, 2) := by decide +kernel
theorem dX12_standIn_145 : decode cX12_standIn 145 = .ok (.ifCond .ne 8, 3) := by decide +kernel
theorem dX12_standIn_148 : decode cX12_standIn 148 = .ok (.iload 5, 2) := by decide +kernel
theorem dX12_standIn_150 : decode cX12_standIn 150 = .ok (.goto 23, 3) := by decide +kernel
theorem dX12_standIn_153 : decode cX12_standIn 153 = .ok (.aload_n 0, 1) := by decide +kernel
theorem dX12_standIn_154 : decode cX12_standIn 154 = .ok (.getfield 13, 3) := by decide +kernel
theorem dX12_standIn_157 : decode cX12_standIn 157 = .ok (.iload_n 1, 1) := by decide +kernel
theorem dX12_standIn_158 : decode cX12_standIn 158 = .ok (.iaload, 1) := by decide +kernel
theorem dX12_standIn_159 : decode cX12_standIn 159 = .ok (.aload_n 0, 1) := by decide +kernel
theorem dX12_standIn_160 : decode cX12_standIn 160 = .ok (.iload 5, 2) := by decide +kernel
theorem dX12_standIn_162 : decode cX12_standIn 162 = .ok (.aload_n 0, 1) := by decide +kernel
theorem dX12_standIn_163 : decode cX12_standIn 163 = .ok (.getfield 7, 3) := by decide +kernel
theorem dX12_standIn_166 : decode cX12_standIn 166 = .ok (.iload_n 1, 1) := by decide +kernel
theorem dX12_standIn_167 : decode cX12_standIn 167 = .ok (.iaload, 1) := by decide +kernel
theorem dX12_standIn_168 : decode cX12_standIn 168 = .ok (.iload_n 3, 1) := by decide +kernel
theorem dX12_standIn_169 : decode cX12_standIn 169 = .ok (.invokevirtual 295, 3) := by decide +kernel
theorem dX12_standIn_172 : decode cX12_standIn 172 = .ok (.isub, 1) := by decide +kernel
theorem dX12_standIn_173 : decode cX12_standIn 173 = .ok (.ireturn, 1) := by decide +kernel
set_option maxRecDepth 20000 in
theorem ggX12_changedTo_X12_rateOf : GoodIn wsX12_changedTo wsX12_rateOf := goodIn_r _ [10, 11, 12, 13, 14, 9, 15, 16, 17, 18, 19, 20, 21, 22, 23, 24, 25, 26, 27, 28, 29, 30, 31, 32, 33, 34, 35, 36, 37, 38, 39, 40, 41, 42, 43, 44, 45, 46, 47, 48, 49, 50, 51, 52, 53, 54, 55, 56, 57, 58, 59, 60, 61, 62, 63, 64, 65, 66, 67, 68, 69, 70, 71, 72, 73, 74, 75, 76, 77, 78, 79, 80, 81, 82, 83, 84, 85, 86, 87, 88, 89, 90, 91, 92] rfl (by decide +kernel)
set_option maxRecDepth 20000 in
theorem gX12_changedTo_X12_rateOf : GoodIn wsX12_changedTo (wsV RX12 252 RX12 yX12_rateOf wsX12_rateOf) := goodIn_app (goodIn_r _ [6, 7, 8, 9] rfl (by decide +kernel)) ggX12_changedTo_X12_rateOf
theorem dX12_changedTo_0 : decode cX12_changedTo 0 = .ok (.lload_n 1, 1) := by decide +kernel
theorem dX12_changedTo_1 : decode cX12_changedTo 1 = .ok (.aload_n 0, 1) := by decide +kernel
theorem dX12_changedTo_2 : decode cX12_changedTo 2 = .ok (.iload_n 3, 1) := by decide +kernel
theorem dX12_changedTo_3 : decode cX12_changedTo 3 = .ok (.iload 4, 2) := by decide +kernel
theorem dX12_changedTo_5 : decode cX12_changedTo 5 = .ok (.iload 5, 2) := by decide +kernel
theorem dX12_changedTo_7 : decode cX12_changedTo 7 = .ok (.invokevirtual 252, 3) := by decide +kernel
theorem dX12_changedTo_10 : decode cX12_changedTo 10 = .ok (.i2l, 1) := by decide +kernel
theorem dX12_changedTo_11 : decode cX12_changedTo 11 = .ok (.lmul, 1) := by decide +kernel
theorem dX12_changedTo_12 : decode cX12_changedTo 12 = .ok (.ldc2_w 298, 3) := by decide +kernel
theorem dX12_changedTo_15 : decode cX12_changedTo 15 = .ok (.ldiv, 1) := by decide +kernel
theorem dX12_changedTo_16 : decode cX12_changedTo 16 = .ok (.lstore 6, 2) := by decide +kernel
theorem dX12_changedTo_18 : decode cX12_changedTo 18 = .ok (.lload 6, 2) := by decide +kernel
theorem dX12_changedTo_20 : decode cX12_changedTo 20 = .ok (.lload 6, 2) := by decide +kernel
theorem dX12_changedTo_22 : decode cX12_changedTo 22 = .ok (.aload_n 0, 1) := by decide +kernel
theorem dX12_changedTo_23 : decode cX12_changedTo 23 = .ok (.getfield 145, 3) := by decide +kernel
theorem dX12_changedTo_26 : decode cX12_changedTo 26 = .ok (.i2l, 1) := by decide +kernel
theorem dX12_changedTo_27 : decode cX12_changedTo 27 = .ok (.lmul, 1) := by decide +kernel
theorem dX12_changedTo_28 : decode cX12_changedTo 28 = .ok (.ldc2_w 300, 3) := by decide +kernel
theorem dX12_changedTo_31 : decode cX12_changedTo 31 = .ok (.ladd, 1) := by decide +kernel
theorem dX12_changedTo_32 : decode cX12_changedTo 32 = .ok (.ldc2_w 302, 3) := by decide +kernel
theorem dX12_changedTo_35 : decode cX12_changedTo 35 = .ok (.ldiv, 1) := by decide +kernel
theorem dX12_changedTo_36 : decode cX12_changedTo 36 = .ok (.lsub, 1) := by decide +kernel
theorem dX12_changedTo_37 : decode cX12_changedTo 37 = .ok (.aload_n 0, 1) := by decide +kernel
theorem dX12_changedTo_38 : decode cX12_changedTo 38 = .ok (.getfield 148, 3) := by decide +kernel
theorem dX12_changedTo_41 : decode cX12_changedTo 41 = .ok (.i2l, 1) := by decide +kernel
theorem dX12_changedTo_42 : decode cX12_changedTo 42 = .ok (.lsub, 1) := by decide +kernel
theorem dX12_changedTo_43 : decode cX12_changedTo 43 = .ok (.lstore 6, 2) := by decide +kernel
theorem dX12_changedTo_45 : decode cX12_changedTo 45 = .ok (.lload 6, 2) := by decide +kernel
theorem dX12_changedTo_47 : decode cX12_changedTo 47 = .ok (.lconst 0, 1) := by decide +kernel
theorem dX12_changedTo_48 : decode cX12_changedTo 48 = .ok (.lcmp, 1) := by decide +kernel
theorem dX12_changedTo_49 : decode cX12_changedTo 49 = .ok (.ifCond .ge 7, 3) := by decide +kernel
theorem dX12_changedTo_52 : decode cX12_changedTo 52 = .ok (.lconst 0, 1) := by decide +kernel
theorem dX12_changedTo_53 : decode cX12_changedTo 53 = .ok (.goto 5, 3) := by decide +kernel
theorem dX12_changedTo_56 : decode cX12_changedTo 56 = .ok (.lload 6, 2) := by decide +kernel
theorem dX12_changedTo_58 : decode cX12_changedTo 58 = .ok (.lreturn, 1) := by decide +kernel
set_option maxRecDepth 20000 in
theorem ggX12_isSum_X12_in : GoodIn wsX12_isSum wsX12_in := goodIn_r _ [4] rfl (by decide +kernel)
set_option maxRecDepth 20000 in
theorem gX12_isSum_X12_in : GoodIn wsX12_isSum (va_wsS RX12 118 yX12_in wsX12_in) := goodIn_app (goodIn_r _ [1, 2, 3] rfl (by decide +kernel)) ggX12_isSum_X12_in
theorem dX12_isSum_0 : decode cX12_isSum 0 = .ok (.iload_n 0, 1) := by decide +kernel
theorem dX12_isSum_1 : decode cX12_isSum 1 = .ok (.iconst 0, 1) := by decide +kernel
theorem dX12_isSum_2 : decode cX12_isSum 2 = .ok (.sipush 9999, 3) := by decide +kernel
theorem dX12_isSum_5 : decode cX12_isSum 5 = .ok (.invokestatic 118, 3) := by decide +kernel
theorem dX12_isSum_8 : decode cX12_isSum 8 = .ok (.ireturn, 1) := by decide +kernel
set_option maxRecDepth 20000 in
theorem ggX12_change_X12_isSum : GoodIn wsX12_change wsX12_isSum := goodIn_r _ [4, 5, 6, 3, 7] rfl (by decide +kernel)
set_option maxRecDepth 20000 in
theorem gX12_change_X12_isSum : GoodIn wsX12_change (va_wsS RX12 304 yX12_isSum wsX12_isSum) := goodIn_app (goodIn_r _ [1, 2, 3] rfl (by decide +kernel)) ggX12_change_X12_isSum
set_option maxRecDepth 20000 in
theorem ggX12_change_X12_isPair : GoodIn wsX12_change wsX12_isPair := goodIn_r _ [10, 11, 12, 3, 13, 5, 6, 7] rfl (by decide +kernel)
set_option maxRecDepth 20000 in
theorem gX12_change_X12_isPair : GoodIn wsX12_change (va_wsS RX12 246 yX12_isPair wsX12_isPair) := goodIn_app (goodIn_r _ [8, 9, 3] rfl (by decide +kernel)) ggX12_change_X12_isPair
set_option maxRecDepth 20000 in
theorem ggX12_change_X12_isDay : GoodIn wsX12_change wsX12_isDay := goodIn_r _ [16, 5, 6, 3, 7] rfl (by decide +kernel)
set_option maxRecDepth 20000 in
theorem gX12_change_X12_isDay : GoodIn wsX12_change (va_wsS RX12 249 yX12_isDay wsX12_isDay) := goodIn_app (goodIn_r _ [14, 15, 3] rfl (by decide +kernel)) ggX12_change_X12_isDay
set_option maxRecDepth 20000 in
theorem ggX12_change_X12_changedTo : GoodIn wsX12_change wsX12_changedTo := goodIn_r _ [20, 21, 22, 23, 24, 25, 26, 27, 28, 3, 29, 30, 31, 32, 33, 34, 35, 36, 37, 38, 39, 40, 41, 42, 43, 44, 45, 46, 47, 48, 49, 50, 51, 52, 53, 54, 55, 56, 57, 58, 59, 60, 61, 62, 63, 64, 65, 66, 67, 68, 69, 70, 71, 72, 73, 74, 75, 76, 77, 78, 79, 80, 81, 82, 83, 84, 85, 86, 87, 88, 89, 90, 91, 92, 93, 94, 95, 96, 97, 98, 99, 100, 101, 102, 103, 104, 105, 106, 107, 108, 109, 110, 111] rfl (by decide +kernel)
set_option maxRecDepth 20000 in
theorem gX12_change_X12_changedTo : GoodIn wsX12_change (wsV RX12 307 RX12 yX12_changedTo wsX12_changedTo) := goodIn_app (goodIn_r _ [17, 18, 19, 3] rfl (by decide +kernel)) ggX12_change_X12_changedTo
theorem dX12_change_0 : decode cX12_change 0 = .ok (.iload_n 1, 1) := by decide +kernel
theorem dX12_change_1 : decode cX12_change 1 = .ok (.invokestatic 304, 3) := by decide +kernel
theorem dX12_change_4 : decode cX12_change 4 = .ok (.ifCond .eq 28, 3) := by decide +kernel
theorem dX12_change_7 : decode cX12_change 7 = .ok (.iload_n 2, 1) := by decide +kernel
theorem dX12_change_8 : decode cX12_change 8 = .ok (.invokestatic 246, 3) := by decide +kernel
theorem dX12_change_11 : decode cX12_change 11 = .ok (.ifCond .eq 21, 3) := by decide +kernel
theorem dX12_change_14 : decode cX12_change 14 = .ok (.iload_n 2, 1) := by decide +kernel
theorem dX12_change_15 : decode cX12_change 15 = .ok (.bipush 10, 2) := by decide +kernel
theorem dX12_change_17 : decode cX12_change 17 = .ok (.idiv, 1) := by decide +kernel
theorem dX12_change_18 : decode cX12_change 18 = .ok (.iload_n 2, 1) := by decide +kernel
theorem dX12_change_19 : decode cX12_change 19 = .ok (.bipush 10, 2) := by decide +kernel
theorem dX12_change_21 : decode cX12_change 21 = .ok (.irem, 1) := by decide +kernel
theorem dX12_change_22 : decode cX12_change 22 = .ok (.if_icmp .eq 10, 3) := by decide +kernel
theorem dX12_change_25 : decode cX12_change 25 = .ok (.iload_n 3, 1) := by decide +kernel
theorem dX12_change_26 : decode cX12_change 26 = .ok (.invokestatic 249, 3) := by decide +kernel
theorem dX12_change_29 : decode cX12_change 29 = .ok (.ifCond .ne 5, 3) := by decide +kernel
theorem dX12_change_32 : decode cX12_change 32 = .ok (.iconst (-1), 1) := by decide +kernel
theorem dX12_change_33 : decode cX12_change 33 = .ok (.ireturn, 1) := by decide +kernel
theorem dX12_change_34 : decode cX12_change 34 = .ok (.aload_n 0, 1) := by decide +kernel
theorem dX12_change_35 : decode cX12_change 35 = .ok (.iload_n 1, 1) := by decide +kernel
theorem dX12_change_36 : decode cX12_change 36 = .ok (.i2l, 1) := by decide +kernel
theorem dX12_change_37 : decode cX12_change 37 = .ok (.iload_n 2, 1) := by decide +kernel
theorem dX12_change_38 : decode cX12_change 38 = .ok (.bipush 10, 2) := by decide +kernel
theorem dX12_change_40 : decode cX12_change 40 = .ok (.idiv, 1) := by decide +kernel
theorem dX12_change_41 : decode cX12_change 41 = .ok (.iload_n 2, 1) := by decide +kernel
theorem dX12_change_42 : decode cX12_change 42 = .ok (.bipush 10, 2) := by decide +kernel
theorem dX12_change_44 : decode cX12_change 44 = .ok (.irem, 1) := by decide +kernel
theorem dX12_change_45 : decode cX12_change 45 = .ok (.iload_n 3, 1) := by decide +kernel
theorem dX12_change_46 : decode cX12_change 46 = .ok (.invokevirtual 307, 3) := by decide +kernel
theorem dX12_change_49 : decode cX12_change 49 = .ok (.l2i, 1) := by decide +kernel
theorem dX12_change_50 : decode cX12_change 50 = .ok (.ireturn, 1) := by decide +kernel
set_option maxRecDepth 20000 in
theorem ggX12_goes_X12_changedTo : GoodIn wsX12_goes wsX12_changedTo := goodIn_r _ [7, 8, 9, 10, 11, 12, 13, 14, 15, 6, 16, 17, 18, 19, 20, 21, 22, 23, 24, 25, 26, 27, 28, 29, 30, 31, 32, 33, 34, 35, 36, 37, 38, 39, 40, 41, 45, 46, 47, 48, 49, 50, 51, 52, 53, 54, 55, 56, 57, 58, 59, 60, 61, 62, 63, 64, 65, 66, 67, 68, 69, 70, 71, 72, 73, 74, 75, 76, 77, 78, 79, 80, 81, 82, 83, 84, 85, 86, 87, 88, 89, 90, 91, 92, 93, 94, 95, 96, 97, 98, 99, 100, 101] rfl (by decide +kernel)
set_option maxRecDepth 20000 in
theorem gX12_goes_X12_changedTo : GoodIn wsX12_goes (wsV RX12 307 RX12 yX12_changedTo wsX12_changedTo) := goodIn_app (goodIn_r _ [3, 4, 5, 6] rfl (by decide +kernel)) ggX12_goes_X12_changedTo
set_option maxRecDepth 20000 in
theorem ggX12_goes_X12_goes : GoodIn wsX12_goes wsX12_goes := goodIn_r _ [0, 1, 2, 3, 4, 5, 6, 7, 8, 9, 10, 11, 12, 13, 14, 15, 16, 17, 18, 19, 20, 21, 22, 23, 24, 25, 26, 27, 28, 29, 30, 31, 32, 33, 34, 35, 36, 37, 38, 39, 40, 41, 42, 43, 44, 45, 46, 47, 48, 49, 50, 51, 52, 53, 54, 55, 56, 57, 58, 59, 60, 61, 62, 63, 64, 65, 66, 67, 68, 69, 70, 71, 72, 73, 74, 75, 76, 77, 78, 79, 80, 81, 82, 83, 84, 85, 86, 87, 88, 89, 90, 91, 92, 93, 94, 95, 96, 97, 98, 99, 100, 101] rfl (by decide +kernel)
set_option maxRecDepth 20000 in
theorem gX12_goes_X12_goes : GoodIn wsX12_goes (wsV RX12 318 RX12 yX12_goes wsX12_goes) := goodIn_app (goodIn_r _ [42, 43, 44, 6] rfl (by decide +kernel)) ggX12_goes_X12_goes
theorem dX12_goes_0 : decode cX12_goes 0 = .ok (.iconst 0, 1) := by decide +kernel
theorem dX12_goes_1 : decode cX12_goes 1 = .ok (.istore 8, 2) := by decide +kernel
theorem dX12_goes_3 : decode cX12_goes 3 = .ok (.iload 8, 2) := by decide +kernel
theorem dX12_goes_5 : decode cX12_goes 5 = .ok (.iconst 4, 1) := by decide +kernel
theorem dX12_goes_6 : decode cX12_goes 6 = .ok (.if_icmp .ge 159, 3) := by decide +kernel
theorem dX12_goes_9 : decode cX12_goes 9 = .ok (.iload 8, 2) := by decide +kernel
theorem dX12_goes_11 : decode cX12_goes 11 = .ok (.iload 4, 2) := by decide +kernel
theorem dX12_goes_13 : decode cX12_goes 13 = .ok (.if_icmp .ne 13, 3) := by decide +kernel
theorem dX12_goes_16 : decode cX12_goes 16 = .ok (.iload_n 3, 1) := by decide +kernel
theorem dX12_goes_17 : decode cX12_goes 17 = .ok (.iload 4, 2) := by decide +kernel
theorem dX12_goes_19 : decode cX12_goes 19 = .ok (.if_icmp .eq 7, 3) := by decide +kernel
theorem dX12_goes_22 : decode cX12_goes 22 = .ok (.iconst 1, 1) := by decide +kernel
theorem dX12_goes_23 : decode cX12_goes 23 = .ok (.goto 4, 3) := by decide +kernel
theorem dX12_goes_26 : decode cX12_goes 26 = .ok (.iconst 0, 1) := by decide +kernel
theorem dX12_goes_27 : decode cX12_goes 27 = .ok (.istore 9, 2) := by decide +kernel
theorem dX12_goes_29 : decode cX12_goes 29 = .ok (.iload 9, 2) := by decide +kernel
theorem dX12_goes_31 : decode cX12_goes 31 = .ok (.ifCond .ne 13, 3) := by decide +kernel
theorem dX12_goes_34 : decode cX12_goes 34 = .ok (.iload 5, 2) := by decide +kernel
theorem dX12_goes_36 : decode cX12_goes 36 = .ok (.iload 8, 2) := by decide +kernel
theorem dX12_goes_38 : decode cX12_goes 38 = .ok (.ishr, 1) := by decide +kernel
theorem dX12_goes_39 : decode cX12_goes 39 = .ok (.iconst 1, 1) := by decide +kernel
theorem dX12_goes_40 : decode cX12_goes 40 = .ok (.iand, 1) := by decide +kernel
theorem dX12_goes_41 : decode cX12_goes 41 = .ok (.ifCond .ne 118, 3) := by decide +kernel
theorem dX12_goes_44 : decode cX12_goes 44 = .ok (.aload_n 0, 1) := by decide +kernel
theorem dX12_goes_45 : decode cX12_goes 45 = .ok (.lload_n 1, 1) := by decide +kernel
theorem dX12_goes_46 : decode cX12_goes 46 = .ok (.iload_n 3, 1) := by decide +kernel
theorem dX12_goes_47 : decode cX12_goes 47 = .ok (.iload 8, 2) := by decide +kernel
theorem dX12_goes_49 : decode cX12_goes 49 = .ok (.iload 6, 2) := by decide +kernel
theorem dX12_goes_51 : decode cX12_goes 51 = .ok (.invokevirtual 307, 3) := by decide +kernel
theorem dX12_goes_54 : decode cX12_goes 54 = .ok (.lstore 10, 2) := by decide +kernel
theorem dX12_goes_56 : decode cX12_goes 56 = .ok (.bipush 10, 2) := by decide +kernel
theorem dX12_goes_58 : decode cX12_goes 58 = .ok (.iload 7, 2) := by decide +kernel
theorem dX12_goes_60 : decode cX12_goes 60 = .ok (.imul, 1) := by decide +kernel
theorem dX12_goes_61 : decode cX12_goes 61 = .ok (.iload 8, 2) := by decide +kernel
theorem dX12_goes_63 : decode cX12_goes 63 = .ok (.iadd, 1) := by decide +kernel
theorem dX12_goes_64 : decode cX12_goes 64 = .ok (.iconst 1, 1) := by decide +kernel
theorem dX12_goes_65 : decode cX12_goes 65 = .ok (.iadd, 1) := by decide +kernel
theorem dX12_goes_66 : decode cX12_goes 66 = .ok (.istore 12, 2) := by decide +kernel
theorem dX12_goes_68 : decode cX12_goes 68 = .ok (.iload 9, 2) := by decide +kernel
theorem dX12_goes_70 : decode cX12_goes 70 = .ok (.ifCond .eq 66, 3) := by decide +kernel
theorem dX12_goes_73 : decode cX12_goes 73 = .ok (.aload_n 0, 1) := by decide +kernel
theorem dX12_goes_74 : decode cX12_goes 74 = .ok (.getfield 311, 3) := by decide +kernel
theorem dX12_goes_77 : decode cX12_goes 77 = .ok (.ifCond .eq 13, 3) := by decide +kernel
theorem dX12_goes_80 : decode cX12_goes 80 = .ok (.lload 10, 2) := by decide +kernel
theorem dX12_goes_82 : decode cX12_goes 82 = .ok (.aload_n 0, 1) := by decide +kernel
theorem dX12_goes_83 : decode cX12_goes 83 = .ok (.getfield 314, 3) := by decide +kernel
theorem dX12_goes_86 : decode cX12_goes 86 = .ok (.lcmp, 1) := by decide +kernel
theorem dX12_goes_87 : decode cX12_goes 87 = .ok (.ifCond .le 7, 3) := by decide +kernel
theorem dX12_goes_90 : decode cX12_goes 90 = .ok (.iconst 1, 1) := by decide +kernel
theorem dX12_goes_91 : decode cX12_goes 91 = .ok (.goto 4, 3) := by decide +kernel
theorem dX12_goes_94 : decode cX12_goes 94 = .ok (.iconst 0, 1) := by decide +kernel
theorem dX12_goes_95 : decode cX12_goes 95 = .ok (.istore 13, 2) := by decide +kernel
theorem dX12_goes_97 : decode cX12_goes 97 = .ok (.aload_n 0, 1) := by decide +kernel
theorem dX12_goes_98 : decode cX12_goes 98 = .ok (.iload 13, 2) := by decide +kernel
theorem dX12_goes_100 : decode cX12_goes 100 = .ok (.ifCond .eq 8, 3) := by decide +kernel
theorem dX12_goes_103 : decode cX12_goes 103 = .ok (.lload 10, 2) := by decide +kernel
theorem dX12_goes_105 : decode cX12_goes 105 = .ok (.goto 7, 3) := by decide +kernel
theorem dX12_goes_108 : decode cX12_goes 108 = .ok (.aload_n 0, 1) := by decide +kernel
theorem dX12_goes_109 : decode cX12_goes 109 = .ok (.getfield 314, 3) := by decide +kernel
theorem dX12_goes_112 : decode cX12_goes 112 = .ok (.putfield 314, 3) := by decide +kernel
theorem dX12_goes_115 : decode cX12_goes 115 = .ok (.aload_n 0, 1) := by decide +kernel
theorem dX12_goes_116 : decode cX12_goes 116 = .ok (.iload 13, 2) := by decide +kernel
theorem dX12_goes_118 : decode cX12_goes 118 = .ok (.ifCond .eq 8, 3) := by decide +kernel
theorem dX12_goes_121 : decode cX12_goes 121 = .ok (.iload 12, 2) := by decide +kernel
theorem dX12_goes_123 : decode cX12_goes 123 = .ok (.goto 7, 3) := by decide +kernel
theorem dX12_goes_126 : decode cX12_goes 126 = .ok (.aload_n 0, 1) := by decide +kernel
theorem dX12_goes_127 : decode cX12_goes 127 = .ok (.getfield 311, 3) := by decide +kernel
theorem dX12_goes_130 : decode cX12_goes 130 = .ok (.putfield 311, 3) := by decide +kernel
theorem dX12_goes_133 : decode cX12_goes 133 = .ok (.goto 26, 3) := by decide +kernel
theorem dX12_goes_136 : decode cX12_goes 136 = .ok (.aload_n 0, 1) := by decide +kernel
theorem dX12_goes_137 : decode cX12_goes 137 = .ok (.lload 10, 2) := by decide +kernel
theorem dX12_goes_139 : decode cX12_goes 139 = .ok (.iload 8, 2) := by decide +kernel
theorem dX12_goes_141 : decode cX12_goes 141 = .ok (.iload 4, 2) := by decide +kernel
theorem dX12_goes_143 : decode cX12_goes 143 = .ok (.iload 5, 2) := by decide +kernel
theorem dX12_goes_145 : decode cX12_goes 145 = .ok (.iconst 1, 1) := by decide +kernel
theorem dX12_goes_146 : decode cX12_goes 146 = .ok (.iload 8, 2) := by decide +kernel
theorem dX12_goes_148 : decode cX12_goes 148 = .ok (.ishl, 1) := by decide +kernel
theorem dX12_goes_149 : decode cX12_goes 149 = .ok (.ior, 1) := by decide +kernel
theorem dX12_goes_150 : decode cX12_goes 150 = .ok (.iload 6, 2) := by decide +kernel
theorem dX12_goes_152 : decode cX12_goes 152 = .ok (.iconst 1, 1) := by decide +kernel
theorem dX12_goes_153 : decode cX12_goes 153 = .ok (.iadd, 1) := by decide +kernel
theorem dX12_goes_154 : decode cX12_goes 154 = .ok (.iload 12, 2) := by decide +kernel
theorem dX12_goes_156 : decode cX12_goes 156 = .ok (.invokevirtual 318, 3) := by decide +kernel
theorem dX12_goes_159 : decode cX12_goes 159 = .ok (.iinc 8 1, 3) := by decide +kernel
theorem dX12_goes_162 : decode cX12_goes 162 = .ok (.goto (-159), 3) := by decide +kernel
theorem dX12_goes_165 : decode cX12_goes 165 = .ok (.return_, 1) := by decide +kernel
set_option maxRecDepth 20000 in
theorem ggX12_way_X12_isSum : GoodIn wsX12_way wsX12_isSum := goodIn_r _ [6, 7, 8, 5, 9] rfl (by decide +kernel)
set_option maxRecDepth 20000 in
theorem gX12_way_X12_isSum : GoodIn wsX12_way (va_wsS RX12 304 yX12_isSum wsX12_isSum) := goodIn_app (goodIn_r _ [3, 4, 5] rfl (by decide +kernel)) ggX12_way_X12_isSum
set_option maxRecDepth 20000 in
theorem ggX12_way_X12_isPair : GoodIn wsX12_way wsX12_isPair := goodIn_r _ [12, 13, 14, 5, 15, 7, 8, 9] rfl (by decide +kernel)
set_option maxRecDepth 20000 in
theorem gX12_way_X12_isPair : GoodIn wsX12_way (va_wsS RX12 246 yX12_isPair wsX12_isPair) := goodIn_app (goodIn_r _ [10, 11, 5] rfl (by decide +kernel)) ggX12_way_X12_isPair
set_option maxRecDepth 20000 in
theorem ggX12_way_X12_isDay : GoodIn wsX12_way wsX12_isDay := goodIn_r _ [18, 7, 8, 5, 9] rfl (by decide +kernel)
set_option maxRecDepth 20000 in
theorem gX12_way_X12_isDay : GoodIn wsX12_way (va_wsS RX12 249 yX12_isDay wsX12_isDay) := goodIn_app (goodIn_r _ [16, 17, 5] rfl (by decide +kernel)) ggX12_way_X12_isDay
set_option maxRecDepth 20000 in
theorem ggX12_way_X12_in : GoodIn wsX12_way wsX12_in := goodIn_r _ [9] rfl (by decide +kernel)
set_option maxRecDepth 20000 in
theorem gX12_way_X12_in : GoodIn wsX12_way (va_wsS RX12 118 yX12_in wsX12_in) := goodIn_app (goodIn_r _ [7, 8, 5] rfl (by decide +kernel)) ggX12_way_X12_in
set_option maxRecDepth 20000 in
theorem ggX12_way_X12_goes : GoodIn wsX12_way wsX12_goes := goodIn_r _ [22, 1, 2, 23, 24, 25, 5, 26, 27, 28, 29, 30, 31, 32, 33, 34, 35, 36, 37, 38, 39, 40, 41, 42, 43, 44, 45, 46, 47, 48, 49, 50, 51, 52, 53, 54, 55, 56, 57, 58, 59, 60, 19, 20, 21, 61, 62, 63, 64, 65, 66, 67, 68, 69, 70, 71, 72, 73, 74, 75, 76, 77, 78, 79, 80, 81, 82, 83, 84, 85, 86, 87, 88, 89, 90, 91, 92, 93, 94, 95, 96, 97, 98, 99, 100, 101, 102, 103, 104, 105, 106, 107, 108, 109, 110, 111, 112, 113, 114, 115, 116, 117] rfl (by decide +kernel)
set_option maxRecDepth 20000 in
theorem gX12_way_X12_goes : GoodIn wsX12_way (wsV RX12 318 RX12 yX12_goes wsX12_goes) := goodIn_app (goodIn_r _ [19, 20, 21, 5] rfl (by decide +kernel)) ggX12_way_X12_goes
theorem dX12_way_0 : decode cX12_way 0 = .ok (.iload_n 1, 1) := by decide +kernel
theorem dX12_way_1 : decode cX12_way 1 = .ok (.invokestatic 304, 3) := by decide +kernel
theorem dX12_way_4 : decode cX12_way 4 = .ok (.ifCond .eq 38, 3) := by decide +kernel
theorem dX12_way_7 : decode cX12_way 7 = .ok (.iload_n 2, 1) := by decide +kernel
theorem dX12_way_8 : decode cX12_way 8 = .ok (.invokestatic 246, 3) := by decide +kernel
theorem dX12_way_11 : decode cX12_way 11 = .ok (.ifCond .eq 31, 3) := by decide +kernel
theorem dX12_way_14 : decode cX12_way 14 = .ok (.iload_n 2, 1) := by decide +kernel
theorem dX12_way_15 : decode cX12_way 15 = .ok (.bipush 10, 2) := by decide +kernel
theorem dX12_way_17 : decode cX12_way 17 = .ok (.idiv, 1) := by decide +kernel
theorem dX12_way_18 : decode cX12_way 18 = .ok (.iload_n 2, 1) := by decide +kernel
theorem dX12_way_19 : decode cX12_way 19 = .ok (.bipush 10, 2) := by decide +kernel
theorem dX12_way_21 : decode cX12_way 21 = .ok (.irem, 1) := by decide +kernel
theorem dX12_way_22 : decode cX12_way 22 = .ok (.if_icmp .eq 20, 3) := by decide +kernel
theorem dX12_way_25 : decode cX12_way 25 = .ok (.iload_n 3, 1) := by decide +kernel
theorem dX12_way_26 : decode cX12_way 26 = .ok (.invokestatic 249, 3) := by decide +kernel
theorem dX12_way_29 : decode cX12_way 29 = .ok (.ifCond .eq 13, 3) := by decide +kernel
theorem dX12_way_32 : decode cX12_way 32 = .ok (.iload 4, 2) := by decide +kernel
theorem dX12_way_34 : decode cX12_way 34 = .ok (.iconst 0, 1) := by decide +kernel
theorem dX12_way_35 : decode cX12_way 35 = .ok (.iconst 1, 1) := by decide +kernel
theorem dX12_way_36 : decode cX12_way 36 = .ok (.invokestatic 118, 3) := by decide +kernel
theorem dX12_way_39 : decode cX12_way 39 = .ok (.ifCond .ne 5, 3) := by decide +kernel
theorem dX12_way_42 : decode cX12_way 42 = .ok (.iconst (-1), 1) := by decide +kernel
theorem dX12_way_43 : decode cX12_way 43 = .ok (.ireturn, 1) := by decide +kernel
theorem dX12_way_44 : decode cX12_way 44 = .ok (.aload_n 0, 1) := by decide +kernel
theorem dX12_way_45 : decode cX12_way 45 = .ok (.iconst 0, 1) := by decide +kernel
theorem dX12_way_46 : decode cX12_way 46 = .ok (.putfield 311, 3) := by decide +kernel
theorem dX12_way_49 : decode cX12_way 49 = .ok (.aload_n 0, 1) := by decide +kernel
theorem dX12_way_50 : decode cX12_way 50 = .ok (.iload_n 1, 1) := by decide +kernel
theorem dX12_way_51 : decode cX12_way 51 = .ok (.i2l, 1) := by decide +kernel
theorem dX12_way_52 : decode cX12_way 52 = .ok (.iload_n 2, 1) := by decide +kernel
theorem dX12_way_53 : decode cX12_way 53 = .ok (.bipush 10, 2) := by decide +kernel
theorem dX12_way_55 : decode cX12_way 55 = .ok (.idiv, 1) := by decide +kernel
theorem dX12_way_56 : decode cX12_way 56 = .ok (.iload_n 2, 1) := by decide +kernel
theorem dX12_way_57 : decode cX12_way 57 = .ok (.bipush 10, 2) := by decide +kernel
theorem dX12_way_59 : decode cX12_way 59 = .ok (.irem, 1) := by decide +kernel
theorem dX12_way_60 : decode cX12_way 60 = .ok (.iconst 1, 1) := by decide +kernel
theorem dX12_way_61 : decode cX12_way 61 = .ok (.iload_n 2, 1) := by decide +kernel
theorem dX12_way_62 : decode cX12_way 62 = .ok (.bipush 10, 2) := by decide +kernel
theorem dX12_way_64 : decode cX12_way 64 = .ok (.idiv, 1) := by decide +kernel
theorem dX12_way_65 : decode cX12_way 65 = .ok (.ishl, 1) := by decide +kernel
theorem dX12_way_66 : decode cX12_way 66 = .ok (.iload_n 3, 1) := by decide +kernel
theorem dX12_way_67 : decode cX12_way 67 = .ok (.iload_n 2, 1) := by decide +kernel
theorem dX12_way_68 : decode cX12_way 68 = .ok (.bipush 10, 2) := by decide +kernel
theorem dX12_way_70 : decode cX12_way 70 = .ok (.idiv, 1) := by decide +kernel
theorem dX12_way_71 : decode cX12_way 71 = .ok (.iconst 1, 1) := by decide +kernel
theorem dX12_way_72 : decode cX12_way 72 = .ok (.iadd, 1) := by decide +kernel
theorem dX12_way_73 : decode cX12_way 73 = .ok (.invokevirtual 318, 3) := by decide +kernel
theorem dX12_way_76 : decode cX12_way 76 = .ok (.iload 4, 2) := by decide +kernel
theorem dX12_way_78 : decode cX12_way 78 = .ok (.ifCond .ne 11, 3) := by decide +kernel
theorem dX12_way_81 : decode cX12_way 81 = .ok (.aload_n 0, 1) := by decide +kernel
theorem dX12_way_82 : decode cX12_way 82 = .ok (.getfield 314, 3) := by decide +kernel
theorem dX12_way_85 : decode cX12_way 85 = .ok (.l2i, 1) := by decide +kernel
theorem dX12_way_86 : decode cX12_way 86 = .ok (.goto 7, 3) := by decide +kernel
theorem dX12_way_89 : decode cX12_way 89 = .ok (.aload_n 0, 1) := by decide +kernel
theorem dX12_way_90 : decode cX12_way 90 = .ok (.getfield 311, 3) := by decide +kernel
theorem dX12_way_93 : decode cX12_way 93 = .ok (.ireturn, 1) := by decide +kernel
set_option maxRecDepth 20000 in
theorem ggX12_round_X12_isSum : GoodIn wsX12_round wsX12_isSum := goodIn_r _ [6, 7, 8, 5, 9] rfl (by decide +kernel)
set_option maxRecDepth 20000 in
theorem gX12_round_X12_isSum : GoodIn wsX12_round (va_wsS RX12 304 yX12_isSum wsX12_isSum) := goodIn_app (goodIn_r _ [3, 4, 5] rfl (by decide +kernel)) ggX12_round_X12_isSum
set_option maxRecDepth 20000 in
theorem ggX12_round_X12_isLand : GoodIn wsX12_round wsX12_isLand := goodIn_r _ [12, 7, 8, 5, 9] rfl (by decide +kernel)
set_option maxRecDepth 20000 in
theorem gX12_round_X12_isLand : GoodIn wsX12_round (va_wsS RX12 125 yX12_isLand wsX12_isLand) := goodIn_app (goodIn_r _ [10, 11, 5] rfl (by decide +kernel)) ggX12_round_X12_isLand
set_option maxRecDepth 20000 in
theorem ggX12_round_X12_isDay : GoodIn wsX12_round wsX12_isDay := goodIn_r _ [15, 7, 8, 5, 9] rfl (by decide +kernel)
set_option maxRecDepth 20000 in
theorem gX12_round_X12_isDay : GoodIn wsX12_round (va_wsS RX12 249 yX12_isDay wsX12_isDay) := goodIn_app (goodIn_r _ [13, 14, 5] rfl (by decide +kernel)) ggX12_round_X12_isDay
set_option maxRecDepth 20000 in
theorem ggX12_round_X12_in : GoodIn wsX12_round wsX12_in := goodIn_r _ [9] rfl (by decide +kernel)
set_option maxRecDepth 20000 in
theorem gX12_round_X12_in : GoodIn wsX12_round (va_wsS RX12 118 yX12_in wsX12_in) := goodIn_app (goodIn_r _ [7, 8, 5] rfl (by decide +kernel)) ggX12_round_X12_in
set_option maxRecDepth 20000 in
theorem ggX12_round_X12_goes : GoodIn wsX12_round wsX12_goes := goodIn_r _ [19, 1, 2, 20, 21, 22, 5, 23, 24, 25, 26, 27, 28, 29, 30, 31, 32, 33, 34, 35, 36, 37, 38, 39, 40, 41, 42, 43, 44, 45, 46, 47, 48, 49, 50, 51, 52, 53, 54, 55, 56, 57, 16, 17, 18, 58, 59, 60, 61, 62, 63, 64, 65, 66, 67, 68, 69, 70, 71, 72, 73, 74, 75, 76, 77, 78, 79, 80, 81, 82, 83, 84, 85, 86, 87, 88, 89, 90, 91, 92, 93, 94, 95, 96, 97, 98, 99, 100, 101, 102, 103, 104, 105, 106, 107, 108, 109, 110, 111, 112, 113, 114] rfl (by decide +kernel)
set_option maxRecDepth 20000 in
theorem gX12_round_X12_goes : GoodIn wsX12_round (wsV RX12 318 RX12 yX12_goes wsX12_goes) := goodIn_app (goodIn_r _ [16, 17, 18, 5] rfl (by decide +kernel)) ggX12_round_X12_goes
theorem dX12_round_0 : decode cX12_round 0 = .ok (.iload_n 1, 1) := by decide +kernel
theorem dX12_round_1 : decode cX12_round 1 = .ok (.invokestatic 304, 3) := by decide +kernel
theorem dX12_round_4 : decode cX12_round 4 = .ok (.ifCond .eq 27, 3) := by decide +kernel
theorem dX12_round_7 : decode cX12_round 7 = .ok (.iload_n 2, 1) := by decide +kernel
theorem dX12_round_8 : decode cX12_round 8 = .ok (.invokestatic 125, 3) := by decide +kernel
theorem dX12_round_11 : decode cX12_round 11 = .ok (.ifCond .eq 20, 3) := by decide +kernel
theorem dX12_round_14 : decode cX12_round 14 = .ok (.iload_n 3, 1) := by decide +kernel
theorem dX12_round_15 : decode cX12_round 15 = .ok (.invokestatic 249, 3) := by decide +kernel
theorem dX12_round_18 : decode cX12_round 18 = .ok (.ifCond .eq 13, 3) := by decide +kernel
theorem dX12_round_21 : decode cX12_round 21 = .ok (.iload 4, 2) := by decide +kernel
theorem dX12_round_23 : decode cX12_round 23 = .ok (.iconst 0, 1) := by decide +kernel
theorem dX12_round_24 : decode cX12_round 24 = .ok (.iconst 1, 1) := by decide +kernel
theorem dX12_round_25 : decode cX12_round 25 = .ok (.invokestatic 118, 3) := by decide +kernel
theorem dX12_round_28 : decode cX12_round 28 = .ok (.ifCond .ne 5, 3) := by decide +kernel
theorem dX12_round_31 : decode cX12_round 31 = .ok (.iconst (-1), 1) := by decide +kernel
theorem dX12_round_32 : decode cX12_round 32 = .ok (.ireturn, 1) := by decide +kernel
theorem dX12_round_33 : decode cX12_round 33 = .ok (.aload_n 0, 1) := by decide +kernel
theorem dX12_round_34 : decode cX12_round 34 = .ok (.iconst 0, 1) := by decide +kernel
theorem dX12_round_35 : decode cX12_round 35 = .ok (.putfield 311, 3) := by decide +kernel
theorem dX12_round_38 : decode cX12_round 38 = .ok (.aload_n 0, 1) := by decide +kernel
theorem dX12_round_39 : decode cX12_round 39 = .ok (.iload_n 1, 1) := by decide +kernel
theorem dX12_round_40 : decode cX12_round 40 = .ok (.i2l, 1) := by decide +kernel
theorem dX12_round_41 : decode cX12_round 41 = .ok (.iload_n 2, 1) := by decide +kernel
theorem dX12_round_42 : decode cX12_round 42 = .ok (.iload_n 2, 1) := by decide +kernel
theorem dX12_round_43 : decode cX12_round 43 = .ok (.iconst 1, 1) := by decide +kernel
theorem dX12_round_44 : decode cX12_round 44 = .ok (.iload_n 2, 1) := by decide +kernel
theorem dX12_round_45 : decode cX12_round 45 = .ok (.ishl, 1) := by decide +kernel
theorem dX12_round_46 : decode cX12_round 46 = .ok (.iload_n 3, 1) := by decide +kernel
theorem dX12_round_47 : decode cX12_round 47 = .ok (.iload_n 2, 1) := by decide +kernel
theorem dX12_round_48 : decode cX12_round 48 = .ok (.iconst 1, 1) := by decide +kernel
theorem dX12_round_49 : decode cX12_round 49 = .ok (.iadd, 1) := by decide +kernel
theorem dX12_round_50 : decode cX12_round 50 = .ok (.invokevirtual 318, 3) := by decide +kernel
theorem dX12_round_53 : decode cX12_round 53 = .ok (.iload 4, 2) := by decide +kernel
theorem dX12_round_55 : decode cX12_round 55 = .ok (.ifCond .ne 11, 3) := by decide +kernel
theorem dX12_round_58 : decode cX12_round 58 = .ok (.aload_n 0, 1) := by decide +kernel
theorem dX12_round_59 : decode cX12_round 59 = .ok (.getfield 314, 3) := by decide +kernel
theorem dX12_round_62 : decode cX12_round 62 = .ok (.l2i, 1) := by decide +kernel
theorem dX12_round_63 : decode cX12_round 63 = .ok (.goto 7, 3) := by decide +kernel
theorem dX12_round_66 : decode cX12_round 66 = .ok (.aload_n 0, 1) := by decide +kernel
theorem dX12_round_67 : decode cX12_round 67 = .ok (.getfield 311, 3) := by decide +kernel
theorem dX12_round_70 : decode cX12_round 70 = .ok (.ireturn, 1) := by decide +kernel
set_option maxRecDepth 20000 in
theorem ggX12_waits_X12_isSum : GoodIn wsX12_waits wsX12_isSum := goodIn_r _ [5, 6, 7, 4, 8] rfl (by decide +kernel)
set_option maxRecDepth 20000 in
theorem gX12_waits_X12_isSum : GoodIn wsX12_waits (va_wsS RX12 304 yX12_isSum wsX12_isSum) := goodIn_app (goodIn_r _ [2, 3, 4] rfl (by decide +kernel)) ggX12_waits_X12_isSum
set_option maxRecDepth 20000 in
theorem ggX12_waits_X12_isPair : GoodIn wsX12_waits wsX12_isPair := goodIn_r _ [11, 12, 13, 4, 14, 6, 7, 8] rfl (by decide +kernel)
set_option maxRecDepth 20000 in
theorem gX12_waits_X12_isPair : GoodIn wsX12_waits (va_wsS RX12 246 yX12_isPair wsX12_isPair) := goodIn_app (goodIn_r _ [9, 10, 4] rfl (by decide +kernel)) ggX12_waits_X12_isPair
set_option maxRecDepth 20000 in
theorem ggX12_waits_X12_isDay : GoodIn wsX12_waits wsX12_isDay := goodIn_r _ [17, 6, 7, 4, 8] rfl (by decide +kernel)
set_option maxRecDepth 20000 in
theorem gX12_waits_X12_isDay : GoodIn wsX12_waits (va_wsS RX12 249 yX12_isDay wsX12_isDay) := goodIn_app (goodIn_r _ [15, 16, 4] rfl (by decide +kernel)) ggX12_waits_X12_isDay
set_option maxRecDepth 20000 in
theorem ggX12_waits_X12_in : GoodIn wsX12_waits wsX12_in := goodIn_r _ [8] rfl (by decide +kernel)
set_option maxRecDepth 20000 in
theorem gX12_waits_X12_in : GoodIn wsX12_waits (va_wsS RX12 118 yX12_in wsX12_in) := goodIn_app (goodIn_r _ [6, 7, 4] rfl (by decide +kernel)) ggX12_waits_X12_in
set_option maxRecDepth 20000 in
theorem ggX12_waits_X12_changedTo : GoodIn wsX12_waits wsX12_changedTo := goodIn_r _ [21, 22, 23, 24, 25, 26, 27, 28, 29, 4, 30, 31, 32, 33, 34, 35, 36, 37, 38, 39, 40, 41, 42, 43, 44, 45, 46, 47, 48, 49, 50, 51, 52, 53, 54, 55, 56, 57, 58, 59, 60, 61, 62, 63, 64, 65, 66, 67, 68, 69, 70, 71, 72, 73, 74, 75, 76, 77, 78, 79, 80, 81, 82, 83, 84, 85, 86, 87, 88, 89, 90, 91, 92, 93, 94, 95, 96, 97, 98, 99, 100, 101, 102, 103, 104, 105, 106, 107, 108, 109, 110, 111, 112] rfl (by decide +kernel)
set_option maxRecDepth 20000 in
theorem gX12_waits_X12_changedTo : GoodIn wsX12_waits (wsV RX12 307 RX12 yX12_changedTo wsX12_changedTo) := goodIn_app (goodIn_r _ [18, 19, 20, 4] rfl (by decide +kernel)) ggX12_waits_X12_changedTo
theorem dX12_waits_0 : decode cX12_waits 0 = .ok (.iload_n 1, 1) := by decide +kernel
theorem dX12_waits_1 : decode cX12_waits 1 = .ok (.invokestatic 304, 3) := by decide +kernel
theorem dX12_waits_4 : decode cX12_waits 4 = .ok (.ifCond .eq 48, 3) := by decide +kernel
theorem dX12_waits_7 : decode cX12_waits 7 = .ok (.iload_n 2, 1) := by decide +kernel
theorem dX12_waits_8 : decode cX12_waits 8 = .ok (.invokestatic 246, 3) := by decide +kernel
theorem dX12_waits_11 : decode cX12_waits 11 = .ok (.ifCond .eq 41, 3) := by decide +kernel
theorem dX12_waits_14 : decode cX12_waits 14 = .ok (.iload_n 2, 1) := by decide +kernel
theorem dX12_waits_15 : decode cX12_waits 15 = .ok (.bipush 10, 2) := by decide +kernel
theorem dX12_waits_17 : decode cX12_waits 17 = .ok (.idiv, 1) := by decide +kernel
theorem dX12_waits_18 : decode cX12_waits 18 = .ok (.iload_n 2, 1) := by decide +kernel
theorem dX12_waits_19 : decode cX12_waits 19 = .ok (.bipush 10, 2) := by decide +kernel
theorem dX12_waits_21 : decode cX12_waits 21 = .ok (.irem, 1) := by decide +kernel
theorem dX12_waits_22 : decode cX12_waits 22 = .ok (.if_icmp .eq 30, 3) := by decide +kernel
theorem dX12_waits_25 : decode cX12_waits 25 = .ok (.iload_n 3, 1) := by decide +kernel
theorem dX12_waits_26 : decode cX12_waits 26 = .ok (.ifCond .lt 26, 3) := by decide +kernel
theorem dX12_waits_29 : decode cX12_waits 29 = .ok (.iload_n 3, 1) := by decide +kernel
theorem dX12_waits_30 : decode cX12_waits 30 = .ok (.bipush 100, 2) := by decide +kernel
theorem dX12_waits_32 : decode cX12_waits 32 = .ok (.idiv, 1) := by decide +kernel
theorem dX12_waits_33 : decode cX12_waits 33 = .ok (.invokestatic 249, 3) := by decide +kernel
theorem dX12_waits_36 : decode cX12_waits 36 = .ok (.ifCond .eq 16, 3) := by decide +kernel
theorem dX12_waits_39 : decode cX12_waits 39 = .ok (.iload_n 3, 1) := by decide +kernel
theorem dX12_waits_40 : decode cX12_waits 40 = .ok (.bipush 100, 2) := by decide +kernel
theorem dX12_waits_42 : decode cX12_waits 42 = .ok (.irem, 1) := by decide +kernel
theorem dX12_waits_43 : decode cX12_waits 43 = .ok (.bipush 60, 2) := by decide +kernel
theorem dX12_waits_45 : decode cX12_waits 45 = .ok (.if_icmp .gt 7, 3) := by decide +kernel
theorem dX12_waits_48 : decode cX12_waits 48 = .ok (.iconst 1, 1) := by decide +kernel
theorem dX12_waits_49 : decode cX12_waits 49 = .ok (.goto 4, 3) := by decide +kernel
theorem dX12_waits_52 : decode cX12_waits 52 = .ok (.iconst 0, 1) := by decide +kernel
theorem dX12_waits_53 : decode cX12_waits 53 = .ok (.istore 5, 2) := by decide +kernel
theorem dX12_waits_55 : decode cX12_waits 55 = .ok (.iload 5, 2) := by decide +kernel
theorem dX12_waits_57 : decode cX12_waits 57 = .ok (.ifCond .eq 13, 3) := by decide +kernel
theorem dX12_waits_60 : decode cX12_waits 60 = .ok (.iload 4, 2) := by decide +kernel
theorem dX12_waits_62 : decode cX12_waits 62 = .ok (.iconst 0, 1) := by decide +kernel
theorem dX12_waits_63 : decode cX12_waits 63 = .ok (.iconst 1, 1) := by decide +kernel
theorem dX12_waits_64 : decode cX12_waits 64 = .ok (.invokestatic 118, 3) := by decide +kernel
theorem dX12_waits_67 : decode cX12_waits 67 = .ok (.ifCond .ne 5, 3) := by decide +kernel
theorem dX12_waits_70 : decode cX12_waits 70 = .ok (.iconst (-1), 1) := by decide +kernel
theorem dX12_waits_71 : decode cX12_waits 71 = .ok (.ireturn, 1) := by decide +kernel
theorem dX12_waits_72 : decode cX12_waits 72 = .ok (.iload_n 3, 1) := by decide +kernel
theorem dX12_waits_73 : decode cX12_waits 73 = .ok (.bipush 100, 2) := by decide +kernel
theorem dX12_waits_75 : decode cX12_waits 75 = .ok (.idiv, 1) := by decide +kernel
theorem dX12_waits_76 : decode cX12_waits 76 = .ok (.istore 6, 2) := by decide +kernel
theorem dX12_waits_78 : decode cX12_waits 78 = .ok (.ldc2_w 322, 3) := by decide +kernel
theorem dX12_waits_81 : decode cX12_waits 81 = .ok (.lstore 7, 2) := by decide +kernel
theorem dX12_waits_83 : decode cX12_waits 83 = .ok (.iload_n 3, 1) := by decide +kernel
theorem dX12_waits_84 : decode cX12_waits 84 = .ok (.bipush 100, 2) := by decide +kernel
theorem dX12_waits_86 : decode cX12_waits 86 = .ok (.idiv, 1) := by decide +kernel
theorem dX12_waits_87 : decode cX12_waits 87 = .ok (.istore 9, 2) := by decide +kernel
theorem dX12_waits_89 : decode cX12_waits 89 = .ok (.iload 9, 2) := by decide +kernel
theorem dX12_waits_91 : decode cX12_waits 91 = .ok (.iload_n 3, 1) := by decide +kernel
theorem dX12_waits_92 : decode cX12_waits 92 = .ok (.bipush 100, 2) := by decide +kernel
theorem dX12_waits_94 : decode cX12_waits 94 = .ok (.idiv, 1) := by decide +kernel
theorem dX12_waits_95 : decode cX12_waits 95 = .ok (.iload_n 3, 1) := by decide +kernel
theorem dX12_waits_96 : decode cX12_waits 96 = .ok (.bipush 100, 2) := by decide +kernel
theorem dX12_waits_98 : decode cX12_waits 98 = .ok (.irem, 1) := by decide +kernel
theorem dX12_waits_99 : decode cX12_waits 99 = .ok (.iadd, 1) := by decide +kernel
theorem dX12_waits_100 : decode cX12_waits 100 = .ok (.if_icmp .gt 61, 3) := by decide +kernel
theorem dX12_waits_103 : decode cX12_waits 103 = .ok (.aload_n 0, 1) := by decide +kernel
theorem dX12_waits_104 : decode cX12_waits 104 = .ok (.iload_n 1, 1) := by decide +kernel
theorem dX12_waits_105 : decode cX12_waits 105 = .ok (.i2l, 1) := by decide +kernel
theorem dX12_waits_106 : decode cX12_waits 106 = .ok (.iload_n 2, 1) := by decide +kernel
theorem dX12_waits_107 : decode cX12_waits 107 = .ok (.bipush 10, 2) := by decide +kernel
theorem dX12_waits_109 : decode cX12_waits 109 = .ok (.idiv, 1) := by decide +kernel
theorem dX12_waits_110 : decode cX12_waits 110 = .ok (.iload_n 2, 1) := by decide +kernel
theorem dX12_waits_111 : decode cX12_waits 111 = .ok (.bipush 10, 2) := by decide +kernel
theorem dX12_waits_113 : decode cX12_waits 113 = .ok (.irem, 1) := by decide +kernel
theorem dX12_waits_114 : decode cX12_waits 114 = .ok (.iload 9, 2) := by decide +kernel
theorem dX12_waits_116 : decode cX12_waits 116 = .ok (.invokevirtual 307, 3) := by decide +kernel
theorem dX12_waits_119 : decode cX12_waits 119 = .ok (.lstore 10, 2) := by decide +kernel
theorem dX12_waits_121 : decode cX12_waits 121 = .ok (.lload 10, 2) := by decide +kernel
theorem dX12_waits_123 : decode cX12_waits 123 = .ok (.lload 7, 2) := by decide +kernel
theorem dX12_waits_125 : decode cX12_waits 125 = .ok (.lcmp, 1) := by decide +kernel
theorem dX12_waits_126 : decode cX12_waits 126 = .ok (.ifCond .le 8, 3) := by decide +kernel
theorem dX12_waits_129 : decode cX12_waits 129 = .ok (.iload 9, 2) := by decide +kernel
theorem dX12_waits_131 : decode cX12_waits 131 = .ok (.goto 5, 3) := by decide +kernel
theorem dX12_waits_134 : decode cX12_waits 134 = .ok (.iload 6, 2) := by decide +kernel
theorem dX12_waits_136 : decode cX12_waits 136 = .ok (.istore 6, 2) := by decide +kernel
theorem dX12_waits_138 : decode cX12_waits 138 = .ok (.lload 10, 2) := by decide +kernel
theorem dX12_waits_140 : decode cX12_waits 140 = .ok (.lload 7, 2) := by decide +kernel
theorem dX12_waits_142 : decode cX12_waits 142 = .ok (.lcmp, 1) := by decide +kernel
theorem dX12_waits_143 : decode cX12_waits 143 = .ok (.ifCond .le 8, 3) := by decide +kernel
theorem dX12_waits_146 : decode cX12_waits 146 = .ok (.lload 10, 2) := by decide +kernel
theorem dX12_waits_148 : decode cX12_waits 148 = .ok (.goto 5, 3) := by decide +kernel
theorem dX12_waits_151 : decode cX12_waits 151 = .ok (.lload 7, 2) := by decide +kernel
theorem dX12_waits_153 : decode cX12_waits 153 = .ok (.lstore 7, 2) := by decide +kernel
theorem dX12_waits_155 : decode cX12_waits 155 = .ok (.iinc 9 1, 3) := by decide +kernel
theorem dX12_waits_158 : decode cX12_waits 158 = .ok (.goto (-69), 3) := by decide +kernel
theorem dX12_waits_161 : decode cX12_waits 161 = .ok (.iload 4, 2) := by decide +kernel
theorem dX12_waits_163 : decode cX12_waits 163 = .ok (.ifCond .ne 8, 3) := by decide +kernel
theorem dX12_waits_166 : decode cX12_waits 166 = .ok (.iload 6, 2) := by decide +kernel
theorem dX12_waits_168 : decode cX12_waits 168 = .ok (.goto 6, 3) := by decide +kernel
theorem dX12_waits_171 : decode cX12_waits 171 = .ok (.lload 7, 2) := by decide +kernel
theorem dX12_waits_173 : decode cX12_waits 173 = .ok (.l2i, 1) := by decide +kernel
theorem dX12_waits_174 : decode cX12_waits 174 = .ok (.ireturn, 1) := by decide +kernel
set_option maxRecDepth 20000 in
theorem ggX12_isSwap_X12_rateOf : GoodIn wsX12_isSwap wsX12_rateOf := goodIn_r _ [8, 9, 10, 11, 12, 7, 13, 14, 15, 16, 17, 18, 19, 20, 21, 22, 23, 24, 25, 26, 27, 28, 29, 30, 31, 32, 33, 48, 49, 50, 51, 52, 53, 54, 55, 56, 57, 58, 59, 60, 61, 62, 63, 64, 65, 66, 67, 68, 69, 70, 71, 72, 73, 74, 75, 76, 77, 78, 79, 80, 81, 82, 83, 84, 85, 86, 87, 88, 89, 90, 91, 92, 93, 94, 95, 96, 97, 98, 99, 100, 101, 102, 103, 104] rfl (by decide +kernel)
set_option maxRecDepth 20000 in
theorem gX12_isSwap_X12_rateOf : GoodIn wsX12_isSwap (wsV RX12 252 RX12 yX12_rateOf wsX12_rateOf) := goodIn_app (goodIn_r _ [4, 5, 6, 7] rfl (by decide +kernel)) ggX12_isSwap_X12_rateOf
set_option maxRecDepth 20000 in
theorem ggX12_isSwap_X12_pays : GoodIn wsX12_isSwap wsX12_pays := goodIn_r _ [37, 38, 39, 1, 3, 2, 40, 41, 42, 7, 43, 48, 49, 50, 51, 52, 53, 54, 55, 56, 57, 58, 59, 60, 61, 62, 63, 64, 65, 66, 67, 68, 69, 70, 71, 72, 73, 74, 75, 76, 77, 78, 79, 80, 81, 82, 83, 84, 85, 86, 87, 88, 89, 90, 91, 92, 93, 94, 95, 96, 97, 98, 99, 100, 101, 102, 103, 104] rfl (by decide +kernel)
set_option maxRecDepth 20000 in
theorem gX12_isSwap_X12_pays : GoodIn wsX12_isSwap (wsV RX12 270 RX12 yX12_pays wsX12_pays) := goodIn_app (goodIn_r _ [34, 35, 36, 7] rfl (by decide +kernel)) ggX12_isSwap_X12_pays
set_option maxRecDepth 20000 in
theorem ggX12_isSwap_X12_canPay : GoodIn wsX12_isSwap wsX12_canPay := goodIn_r _ [47, 38, 48, 49, 50, 51, 52, 53, 54, 55, 56, 57, 58, 59, 60, 61, 62, 63, 64, 65, 66, 67, 68, 69, 70, 71, 72, 73, 74, 75, 76, 77, 78, 79, 80, 81, 82, 83, 84, 85, 86, 87, 88, 89, 90, 91, 92, 93, 94, 95, 96, 97, 98, 99, 100, 101, 102, 103, 104] rfl (by decide +kernel)
set_option maxRecDepth 20000 in
theorem gX12_isSwap_X12_canPay : GoodIn wsX12_isSwap (wsV RX12 273 RX12 yX12_canPay wsX12_canPay) := goodIn_app (goodIn_r _ [44, 45, 46, 7] rfl (by decide +kernel)) ggX12_isSwap_X12_canPay
theorem dX12_isSwap_0 : decode cX12_isSwap 0 = .ok (.iload 4, 2) := by decide +kernel
theorem dX12_isSwap_2 : decode cX12_isSwap 2 = .ok (.iload 6, 2) := by decide +kernel
theorem dX12_isSwap_4 : decode cX12_isSwap 4 = .ok (.if_icmp .eq 30, 3) := by decide +kernel
theorem dX12_isSwap_7 : decode cX12_isSwap 7 = .ok (.aload_n 0, 1) := by decide +kernel
theorem dX12_isSwap_8 : decode cX12_isSwap 8 = .ok (.getfield 22, 3) := by decide +kernel
theorem dX12_isSwap_11 : decode cX12_isSwap 11 = .ok (.iload 4, 2) := by decide +kernel
theorem dX12_isSwap_13 : decode cX12_isSwap 13 = .ok (.iaload, 1) := by decide +kernel
theorem dX12_isSwap_14 : decode cX12_isSwap 14 = .ok (.iload 5, 2) := by decide +kernel
theorem dX12_isSwap_16 : decode cX12_isSwap 16 = .ok (.if_icmp .lt 18, 3) := by decide +kernel
theorem dX12_isSwap_19 : decode cX12_isSwap 19 = .ok (.aload_n 0, 1) := by decide +kernel
theorem dX12_isSwap_20 : decode cX12_isSwap 20 = .ok (.getfield 22, 3) := by decide +kernel
theorem dX12_isSwap_23 : decode cX12_isSwap 23 = .ok (.iload 6, 2) := by decide +kernel
theorem dX12_isSwap_25 : decode cX12_isSwap 25 = .ok (.iaload, 1) := by decide +kernel
theorem dX12_isSwap_26 : decode cX12_isSwap 26 = .ok (.iload 7, 2) := by decide +kernel
theorem dX12_isSwap_28 : decode cX12_isSwap 28 = .ok (.iadd, 1) := by decide +kernel
theorem dX12_isSwap_29 : decode cX12_isSwap 29 = .ok (.bipush 6, 2) := by decide +kernel
theorem dX12_isSwap_31 : decode cX12_isSwap 31 = .ok (.if_icmp .le 5, 3) := by decide +kernel
theorem dX12_isSwap_34 : decode cX12_isSwap 34 = .ok (.iconst 0, 1) := by decide +kernel
theorem dX12_isSwap_35 : decode cX12_isSwap 35 = .ok (.ireturn, 1) := by decide +kernel
theorem dX12_isSwap_36 : decode cX12_isSwap 36 = .ok (.iload 5, 2) := by decide +kernel
theorem dX12_isSwap_38 : decode cX12_isSwap 38 = .ok (.aload_n 0, 1) := by decide +kernel
theorem dX12_isSwap_39 : decode cX12_isSwap 39 = .ok (.getfield 13, 3) := by decide +kernel
theorem dX12_isSwap_42 : decode cX12_isSwap 42 = .ok (.iload 4, 2) := by decide +kernel
theorem dX12_isSwap_44 : decode cX12_isSwap 44 = .ok (.iaload, 1) := by decide +kernel
theorem dX12_isSwap_45 : decode cX12_isSwap 45 = .ok (.imul, 1) := by decide +kernel
theorem dX12_isSwap_46 : decode cX12_isSwap 46 = .ok (.aload_n 0, 1) := by decide +kernel
theorem dX12_isSwap_47 : decode cX12_isSwap 47 = .ok (.aload_n 0, 1) := by decide +kernel
theorem dX12_isSwap_48 : decode cX12_isSwap 48 = .ok (.getfield 7, 3) := by decide +kernel
theorem dX12_isSwap_51 : decode cX12_isSwap 51 = .ok (.iload 4, 2) := by decide +kernel
theorem dX12_isSwap_53 : decode cX12_isSwap 53 = .ok (.iaload, 1) := by decide +kernel
theorem dX12_isSwap_54 : decode cX12_isSwap 54 = .ok (.aload_n 0, 1) := by decide +kernel
theorem dX12_isSwap_55 : decode cX12_isSwap 55 = .ok (.getfield 7, 3) := by decide +kernel
theorem dX12_isSwap_58 : decode cX12_isSwap 58 = .ok (.iload 6, 2) := by decide +kernel
theorem dX12_isSwap_60 : decode cX12_isSwap 60 = .ok (.iaload, 1) := by decide +kernel
theorem dX12_isSwap_61 : decode cX12_isSwap 61 = .ok (.iload_n 3, 1) := by decide +kernel
theorem dX12_isSwap_62 : decode cX12_isSwap 62 = .ok (.invokevirtual 252, 3) := by decide +kernel
theorem dX12_isSwap_65 : decode cX12_isSwap 65 = .ok (.imul, 1) := by decide +kernel
theorem dX12_isSwap_66 : decode cX12_isSwap 66 = .ok (.sipush 1000, 3) := by decide +kernel
theorem dX12_isSwap_69 : decode cX12_isSwap 69 = .ok (.idiv, 1) := by decide +kernel
theorem dX12_isSwap_70 : decode cX12_isSwap 70 = .ok (.iload 7, 2) := by decide +kernel
theorem dX12_isSwap_72 : decode cX12_isSwap 72 = .ok (.aload_n 0, 1) := by decide +kernel
theorem dX12_isSwap_73 : decode cX12_isSwap 73 = .ok (.getfield 13, 3) := by decide +kernel
theorem dX12_isSwap_76 : decode cX12_isSwap 76 = .ok (.iload 6, 2) := by decide +kernel
theorem dX12_isSwap_78 : decode cX12_isSwap 78 = .ok (.iaload, 1) := by decide +kernel
theorem dX12_isSwap_79 : decode cX12_isSwap 79 = .ok (.imul, 1) := by decide +kernel
theorem dX12_isSwap_80 : decode cX12_isSwap 80 = .ok (.if_icmp .ge 5, 3) := by decide +kernel
theorem dX12_isSwap_83 : decode cX12_isSwap 83 = .ok (.iconst 0, 1) := by decide +kernel
theorem dX12_isSwap_84 : decode cX12_isSwap 84 = .ok (.ireturn, 1) := by decide +kernel
theorem dX12_isSwap_85 : decode cX12_isSwap 85 = .ok (.aload_n 0, 1) := by decide +kernel
theorem dX12_isSwap_86 : decode cX12_isSwap 86 = .ok (.getfield 22, 3) := by decide +kernel
theorem dX12_isSwap_89 : decode cX12_isSwap 89 = .ok (.iload 4, 2) := by decide +kernel
theorem dX12_isSwap_91 : decode cX12_isSwap 91 = .ok (.dup2, 1) := by decide +kernel
theorem dX12_isSwap_92 : decode cX12_isSwap 92 = .ok (.iaload, 1) := by decide +kernel
theorem dX12_isSwap_93 : decode cX12_isSwap 93 = .ok (.iload 5, 2) := by decide +kernel
theorem dX12_isSwap_95 : decode cX12_isSwap 95 = .ok (.isub, 1) := by decide +kernel
theorem dX12_isSwap_96 : decode cX12_isSwap 96 = .ok (.iastore, 1) := by decide +kernel
theorem dX12_isSwap_97 : decode cX12_isSwap 97 = .ok (.aload_n 0, 1) := by decide +kernel
theorem dX12_isSwap_98 : decode cX12_isSwap 98 = .ok (.getfield 22, 3) := by decide +kernel
theorem dX12_isSwap_101 : decode cX12_isSwap 101 = .ok (.iload 6, 2) := by decide +kernel
theorem dX12_isSwap_103 : decode cX12_isSwap 103 = .ok (.dup2, 1) := by decide +kernel
theorem dX12_isSwap_104 : decode cX12_isSwap 104 = .ok (.iaload, 1) := by decide +kernel
theorem dX12_isSwap_105 : decode cX12_isSwap 105 = .ok (.iload 7, 2) := by decide +kernel
theorem dX12_isSwap_107 : decode cX12_isSwap 107 = .ok (.iadd, 1) := by decide +kernel
theorem dX12_isSwap_108 : decode cX12_isSwap 108 = .ok (.iastore, 1) := by decide +kernel
theorem dX12_isSwap_109 : decode cX12_isSwap 109 = .ok (.aload_n 0, 1) := by decide +kernel
theorem dX12_isSwap_110 : decode cX12_isSwap 110 = .ok (.iload_n 1, 1) := by decide +kernel
theorem dX12_isSwap_111 : decode cX12_isSwap 111 = .ok (.invokevirtual 270, 3) := by decide +kernel
theorem dX12_isSwap_114 : decode cX12_isSwap 114 = .ok (.aload_n 0, 1) := by decide +kernel
theorem dX12_isSwap_115 : decode cX12_isSwap 115 = .ok (.getfield 22, 3) := by decide +kernel
theorem dX12_isSwap_118 : decode cX12_isSwap 118 = .ok (.iload 4, 2) := by decide +kernel
theorem dX12_isSwap_120 : decode cX12_isSwap 120 = .ok (.dup2, 1) := by decide +kernel
theorem dX12_isSwap_121 : decode cX12_isSwap 121 = .ok (.iaload, 1) := by decide +kernel
theorem dX12_isSwap_122 : decode cX12_isSwap 122 = .ok (.iload 5, 2) := by decide +kernel
theorem dX12_isSwap_124 : decode cX12_isSwap 124 = .ok (.iadd, 1) := by decide +kernel
theorem dX12_isSwap_125 : decode cX12_isSwap 125 = .ok (.iastore, 1) := by decide +kernel
theorem dX12_isSwap_126 : decode cX12_isSwap 126 = .ok (.aload_n 0, 1) := by decide +kernel
theorem dX12_isSwap_127 : decode cX12_isSwap 127 = .ok (.getfield 22, 3) := by decide +kernel
theorem dX12_isSwap_130 : decode cX12_isSwap 130 = .ok (.iload 6, 2) := by decide +kernel
theorem dX12_isSwap_132 : decode cX12_isSwap 132 = .ok (.dup2, 1) := by decide +kernel
theorem dX12_isSwap_133 : decode cX12_isSwap 133 = .ok (.iaload, 1) := by decide +kernel
theorem dX12_isSwap_134 : decode cX12_isSwap 134 = .ok (.iload 7, 2) := by decide +kernel
theorem dX12_isSwap_136 : decode cX12_isSwap 136 = .ok (.isub, 1) := by decide +kernel
theorem dX12_isSwap_137 : decode cX12_isSwap 137 = .ok (.iastore, 1) := by decide +kernel
theorem dX12_isSwap_138 : decode cX12_isSwap 138 = .ok (.aload_n 0, 1) := by decide +kernel
theorem dX12_isSwap_139 : decode cX12_isSwap 139 = .ok (.iload_n 2, 1) := by decide +kernel
theorem dX12_isSwap_140 : decode cX12_isSwap 140 = .ok (.invokevirtual 273, 3) := by decide +kernel
theorem dX12_isSwap_143 : decode cX12_isSwap 143 = .ok (.ireturn, 1) := by decide +kernel
set_option maxRecDepth 20000 in
theorem ggX12_swap_X12_isAmount : GoodIn wsX12_swap wsX12_isAmount := goodIn_r _ [5, 6, 7, 4, 8, 9, 10, 11] rfl (by decide +kernel)
set_option maxRecDepth 20000 in
theorem gX12_swap_X12_isAmount : GoodIn wsX12_swap (va_wsS RX12 264 yX12_isAmount wsX12_isAmount) := goodIn_app (goodIn_r _ [2, 3, 4] rfl (by decide +kernel)) ggX12_swap_X12_isAmount
set_option maxRecDepth 20000 in
theorem ggX12_swap_X12_isDay : GoodIn wsX12_swap wsX12_isDay := goodIn_r _ [14, 9, 10, 4, 11] rfl (by decide +kernel)
set_option maxRecDepth 20000 in
theorem gX12_swap_X12_isDay : GoodIn wsX12_swap (va_wsS RX12 249 yX12_isDay wsX12_isDay) := goodIn_app (goodIn_r _ [12, 13, 4] rfl (by decide +kernel)) ggX12_swap_X12_isDay
set_option maxRecDepth 20000 in
theorem ggX12_swap_X12_pays : GoodIn wsX12_swap wsX12_pays := goodIn_r _ [18, 19, 1, 20, 21, 22, 23, 24, 25, 4, 26, 64, 65, 66, 67, 68, 69, 70, 71, 72, 73, 74, 75, 76, 77, 78, 79, 80, 81, 82, 83, 84, 85, 86, 87, 88, 89, 90, 91, 92, 93, 94, 95, 96, 97, 98, 99, 100, 101, 102, 103, 104, 105, 106, 107, 108, 109, 110, 111, 112, 113, 114, 115, 116, 117, 118, 119, 120] rfl (by decide +kernel)
set_option maxRecDepth 20000 in
theorem gX12_swap_X12_pays : GoodIn wsX12_swap (wsV RX12 270 RX12 yX12_pays wsX12_pays) := goodIn_app (goodIn_r _ [15, 16, 17, 4] rfl (by decide +kernel)) ggX12_swap_X12_pays
set_option maxRecDepth 20000 in
theorem ggX12_swap_X12_canPay : GoodIn wsX12_swap wsX12_canPay := goodIn_r _ [30, 19, 64, 65, 66, 67, 68, 69, 70, 71, 72, 73, 74, 75, 76, 77, 78, 79, 80, 81, 82, 83, 84, 85, 86, 87, 88, 89, 90, 91, 92, 93, 94, 95, 96, 97, 98, 99, 100, 101, 102, 103, 104, 105, 106, 107, 108, 109, 110, 111, 112, 113, 114, 115, 116, 117, 118, 119, 120] rfl (by decide +kernel)
set_option maxRecDepth 20000 in
theorem gX12_swap_X12_canPay : GoodIn wsX12_swap (wsV RX12 273 RX12 yX12_canPay wsX12_canPay) := goodIn_app (goodIn_r _ [27, 28, 29, 4] rfl (by decide +kernel)) ggX12_swap_X12_canPay
set_option maxRecDepth 20000 in
theorem ggX12_swap_X12_in : GoodIn wsX12_swap wsX12_in := goodIn_r _ [11] rfl (by decide +kernel)
set_option maxRecDepth 20000 in
theorem gX12_swap_X12_in : GoodIn wsX12_swap (va_wsS RX12 118 yX12_in wsX12_in) := goodIn_app (goodIn_r _ [9, 10, 4] rfl (by decide +kernel)) ggX12_swap_X12_in
set_option maxRecDepth 20000 in
theorem ggX12_swap_X12_isSwap : GoodIn wsX12_swap wsX12_isSwap := goodIn_r _ [34, 20, 22, 21, 35, 36, 37, 4, 38, 39, 40, 41, 42, 43, 44, 45, 46, 47, 48, 49, 50, 51, 52, 53, 54, 55, 56, 57, 58, 59, 60, 61, 62, 63, 15, 16, 17, 18, 19, 1, 23, 24, 25, 26, 27, 28, 29, 30, 64, 65, 66, 67, 68, 69, 70, 71, 72, 73, 74, 75, 76, 77, 78, 79, 80, 81, 82, 83, 84, 85, 86, 87, 88, 89, 90, 91, 92, 93, 94, 95, 96, 97, 98, 99, 100, 101, 102, 103, 104, 105, 106, 107, 108, 109, 110, 111, 112, 113, 114, 115, 116, 117, 118, 119, 120] rfl (by decide +kernel)
set_option maxRecDepth 20000 in
theorem gX12_swap_X12_isSwap : GoodIn wsX12_swap (wsV RX12 324 RX12 yX12_isSwap wsX12_isSwap) := goodIn_app (goodIn_r _ [31, 32, 33, 4] rfl (by decide +kernel)) ggX12_swap_X12_isSwap
theorem dX12_swap_0 : decode cX12_swap 0 = .ok (.iload_n 1, 1) := by decide +kernel
theorem dX12_swap_1 : decode cX12_swap 1 = .ok (.invokestatic 264, 3) := by decide +kernel
theorem dX12_swap_4 : decode cX12_swap 4 = .ok (.ifCond .eq 10, 3) := by decide +kernel
theorem dX12_swap_7 : decode cX12_swap 7 = .ok (.iload_n 2, 1) := by decide +kernel
theorem dX12_swap_8 : decode cX12_swap 8 = .ok (.invokestatic 249, 3) := by decide +kernel
theorem dX12_swap_11 : decode cX12_swap 11 = .ok (.ifCond .ne 5, 3) := by decide +kernel
theorem dX12_swap_14 : decode cX12_swap 14 = .ok (.iconst (-1), 1) := by decide +kernel
theorem dX12_swap_15 : decode cX12_swap 15 = .ok (.ireturn, 1) := by decide +kernel
theorem dX12_swap_16 : decode cX12_swap 16 = .ok (.aload_n 0, 1) := by decide +kernel
theorem dX12_swap_17 : decode cX12_swap 17 = .ok (.iload_n 1, 1) := by decide +kernel
theorem dX12_swap_18 : decode cX12_swap 18 = .ok (.sipush 10000, 3) := by decide +kernel
theorem dX12_swap_21 : decode cX12_swap 21 = .ok (.idiv, 1) := by decide +kernel
theorem dX12_swap_22 : decode cX12_swap 22 = .ok (.invokevirtual 270, 3) := by decide +kernel
theorem dX12_swap_25 : decode cX12_swap 25 = .ok (.aload_n 0, 1) := by decide +kernel
theorem dX12_swap_26 : decode cX12_swap 26 = .ok (.iload_n 1, 1) := by decide +kernel
theorem dX12_swap_27 : decode cX12_swap 27 = .ok (.sipush 10000, 3) := by decide +kernel
theorem dX12_swap_30 : decode cX12_swap 30 = .ok (.irem, 1) := by decide +kernel
theorem dX12_swap_31 : decode cX12_swap 31 = .ok (.invokevirtual 273, 3) := by decide +kernel
theorem dX12_swap_34 : decode cX12_swap 34 = .ok (.ifCond .eq 6, 3) := by decide +kernel
theorem dX12_swap_37 : decode cX12_swap 37 = .ok (.bipush (-5), 2) := by decide +kernel
theorem dX12_swap_39 : decode cX12_swap 39 = .ok (.ireturn, 1) := by decide +kernel
theorem dX12_swap_40 : decode cX12_swap 40 = .ok (.iconst 2, 1) := by decide +kernel
theorem dX12_swap_41 : decode cX12_swap 41 = .ok (.istore_n 3, 1) := by decide +kernel
theorem dX12_swap_42 : decode cX12_swap 42 = .ok (.iload_n 3, 1) := by decide +kernel
theorem dX12_swap_43 : decode cX12_swap 43 = .ok (.bipush 6, 2) := by decide +kernel
theorem dX12_swap_45 : decode cX12_swap 45 = .ok (.if_icmp .gt 143, 3) := by decide +kernel
theorem dX12_swap_48 : decode cX12_swap 48 = .ok (.iconst 0, 1) := by decide +kernel
theorem dX12_swap_49 : decode cX12_swap 49 = .ok (.istore 4, 2) := by decide +kernel
theorem dX12_swap_51 : decode cX12_swap 51 = .ok (.iload 4, 2) := by decide +kernel
theorem dX12_swap_53 : decode cX12_swap 53 = .ok (.aload_n 0, 1) := by decide +kernel
theorem dX12_swap_54 : decode cX12_swap 54 = .ok (.getfield 114, 3) := by decide +kernel
theorem dX12_swap_57 : decode cX12_swap 57 = .ok (.aload_n 0, 1) := by decide +kernel
theorem dX12_swap_58 : decode cX12_swap 58 = .ok (.getfield 114, 3) := by decide +kernel
theorem dX12_swap_61 : decode cX12_swap 61 = .ok (.imul, 1) := by decide +kernel
theorem dX12_swap_62 : decode cX12_swap 62 = .ok (.if_icmp .ge 120, 3) := by decide +kernel
theorem dX12_swap_65 : decode cX12_swap 65 = .ok (.iconst 1, 1) := by decide +kernel
theorem dX12_swap_66 : decode cX12_swap 66 = .ok (.istore 5, 2) := by decide +kernel
theorem dX12_swap_68 : decode cX12_swap 68 = .ok (.iload 5, 2) := by decide +kernel
theorem dX12_swap_70 : decode cX12_swap 70 = .ok (.iconst 3, 1) := by decide +kernel
theorem dX12_swap_71 : decode cX12_swap 71 = .ok (.if_icmp .gt 105, 3) := by decide +kernel
theorem dX12_swap_74 : decode cX12_swap 74 = .ok (.iload_n 3, 1) := by decide +kernel
theorem dX12_swap_75 : decode cX12_swap 75 = .ok (.iload 5, 2) := by decide +kernel
theorem dX12_swap_77 : decode cX12_swap 77 = .ok (.isub, 1) := by decide +kernel
theorem dX12_swap_78 : decode cX12_swap 78 = .ok (.iconst 1, 1) := by decide +kernel
theorem dX12_swap_79 : decode cX12_swap 79 = .ok (.iconst 3, 1) := by decide +kernel
theorem dX12_swap_80 : decode cX12_swap 80 = .ok (.invokestatic 118, 3) := by decide +kernel
theorem dX12_swap_83 : decode cX12_swap 83 = .ok (.ifCond .eq 45, 3) := by decide +kernel
theorem dX12_swap_86 : decode cX12_swap 86 = .ok (.aload_n 0, 1) := by decide +kernel
theorem dX12_swap_87 : decode cX12_swap 87 = .ok (.iload_n 1, 1) := by decide +kernel
theorem dX12_swap_88 : decode cX12_swap 88 = .ok (.sipush 10000, 3) := by decide +kernel
theorem dX12_swap_91 : decode cX12_swap 91 = .ok (.idiv, 1) := by decide +kernel
theorem dX12_swap_92 : decode cX12_swap 92 = .ok (.iload_n 1, 1) := by decide +kernel
theorem dX12_swap_93 : decode cX12_swap 93 = .ok (.sipush 10000, 3) := by decide +kernel
theorem dX12_swap_96 : decode cX12_swap 96 = .ok (.irem, 1) := by decide +kernel
theorem dX12_swap_97 : decode cX12_swap 97 = .ok (.iload_n 2, 1) := by decide +kernel
theorem dX12_swap_98 : decode cX12_swap 98 = .ok (.iload 4, 2) := by decide +kernel
theorem dX12_swap_100 : decode cX12_swap 100 = .ok (.aload_n 0, 1) := by decide +kernel
theorem dX12_swap_101 : decode cX12_swap 101 = .ok (.getfield 114, 3) := by decide +kernel
theorem dX12_swap_104 : decode cX12_swap 104 = .ok (.idiv, 1) := by decide +kernel
theorem dX12_swap_105 : decode cX12_swap 105 = .ok (.iload 5, 2) := by decide +kernel
theorem dX12_swap_107 : decode cX12_swap 107 = .ok (.iload 4, 2) := by decide +kernel
theorem dX12_swap_109 : decode cX12_swap 109 = .ok (.aload_n 0, 1) := by decide +kernel
theorem dX12_swap_110 : decode cX12_swap 110 = .ok (.getfield 114, 3) := by decide +kernel
theorem dX12_swap_113 : decode cX12_swap 113 = .ok (.irem, 1) := by decide +kernel
theorem dX12_swap_114 : decode cX12_swap 114 = .ok (.iload_n 3, 1) := by decide +kernel
theorem dX12_swap_115 : decode cX12_swap 115 = .ok (.iload 5, 2) := by decide +kernel
theorem dX12_swap_117 : decode cX12_swap 117 = .ok (.isub, 1) := by decide +kernel
theorem dX12_swap_118 : decode cX12_swap 118 = .ok (.invokevirtual 324, 3) := by decide +kernel
theorem dX12_swap_121 : decode cX12_swap 121 = .ok (.ifCond .eq 7, 3) := by decide +kernel
theorem dX12_swap_124 : decode cX12_swap 124 = .ok (.iconst 1, 1) := by decide +kernel
theorem dX12_swap_125 : decode cX12_swap 125 = .ok (.goto 4, 3) := by decide +kernel
theorem dX12_swap_128 : decode cX12_swap 128 = .ok (.iconst 0, 1) := by decide +kernel
theorem dX12_swap_129 : decode cX12_swap 129 = .ok (.istore 6, 2) := by decide +kernel
theorem dX12_swap_131 : decode cX12_swap 131 = .ok (.iload 6, 2) := by decide +kernel
theorem dX12_swap_133 : decode cX12_swap 133 = .ok (.ifCond .eq 37, 3) := by decide +kernel
theorem dX12_swap_136 : decode cX12_swap 136 = .ok (.sipush 1000, 3) := by decide +kernel
theorem dX12_swap_139 : decode cX12_swap 139 = .ok (.iload 4, 2) := by decide +kernel
theorem dX12_swap_141 : decode cX12_swap 141 = .ok (.aload_n 0, 1) := by decide +kernel
theorem dX12_swap_142 : decode cX12_swap 142 = .ok (.getfield 114, 3) := by decide +kernel
theorem dX12_swap_145 : decode cX12_swap 145 = .ok (.idiv, 1) := by decide +kernel
theorem dX12_swap_146 : decode cX12_swap 146 = .ok (.imul, 1) := by decide +kernel
theorem dX12_swap_147 : decode cX12_swap 147 = .ok (.bipush 100, 2) := by decide +kernel
theorem dX12_swap_149 : decode cX12_swap 149 = .ok (.iload 5, 2) := by decide +kernel
theorem dX12_swap_151 : decode cX12_swap 151 = .ok (.imul, 1) := by decide +kernel
theorem dX12_swap_152 : decode cX12_swap 152 = .ok (.iadd, 1) := by decide +kernel
theorem dX12_swap_153 : decode cX12_swap 153 = .ok (.bipush 10, 2) := by decide +kernel
theorem dX12_swap_155 : decode cX12_swap 155 = .ok (.iload 4, 2) := by decide +kernel
theorem dX12_swap_157 : decode cX12_swap 157 = .ok (.aload_n 0, 1) := by decide +kernel
theorem dX12_swap_158 : decode cX12_swap 158 = .ok (.getfield 114, 3) := by decide +kernel
theorem dX12_swap_161 : decode cX12_swap 161 = .ok (.irem, 1) := by decide +kernel
theorem dX12_swap_162 : decode cX12_swap 162 = .ok (.imul, 1) := by decide +kernel
theorem dX12_swap_163 : decode cX12_swap 163 = .ok (.iadd, 1) := by decide +kernel
theorem dX12_swap_164 : decode cX12_swap 164 = .ok (.iload_n 3, 1) := by decide +kernel
theorem dX12_swap_165 : decode cX12_swap 165 = .ok (.iadd, 1) := by decide +kernel
theorem dX12_swap_166 : decode cX12_swap 166 = .ok (.iload 5, 2) := by decide +kernel
theorem dX12_swap_168 : decode cX12_swap 168 = .ok (.isub, 1) := by decide +kernel
theorem dX12_swap_169 : decode cX12_swap 169 = .ok (.ireturn, 1) := by decide +kernel
theorem dX12_swap_170 : decode cX12_swap 170 = .ok (.iinc 5 1, 3) := by decide +kernel
theorem dX12_swap_173 : decode cX12_swap 173 = .ok (.goto (-105), 3) := by decide +kernel
theorem dX12_swap_176 : decode cX12_swap 176 = .ok (.iinc 4 1, 3) := by decide +kernel
theorem dX12_swap_179 : decode cX12_swap 179 = .ok (.goto (-128), 3) := by decide +kernel
theorem dX12_swap_182 : decode cX12_swap 182 = .ok (.iinc 3 1, 3) := by decide +kernel
theorem dX12_swap_185 : decode cX12_swap 185 = .ok (.goto (-143), 3) := by decide +kernel
theorem dX12_swap_188 : decode cX12_swap 188 = .ok (.bipush (-2), 2) := by decide +kernel
theorem dX12_swap_190 : decode cX12_swap 190 = .ok (.ireturn, 1) := by decide +kernel
set_option maxRecDepth 20000 in
theorem ggX12_keptFor_X12_names : GoodIn wsX12_keptFor wsX12_names := goodIn_r _ [11, 12, 32, 33, 34, 35, 36, 37, 38, 39, 40, 41, 42, 43, 44, 45, 46, 47, 48, 49, 50, 51, 52, 53, 54, 55, 56, 57, 58, 59, 60, 61, 62, 63, 64, 65, 66, 67, 68, 69, 70, 71, 72, 73, 74, 75, 76, 77, 78, 79, 80, 81, 82, 83, 84, 85, 86, 87, 88] rfl (by decide +kernel)
set_option maxRecDepth 20000 in
theorem gX12_keptFor_X12_names : GoodIn wsX12_keptFor (wsV RX12 236 RX12 yX12_names wsX12_names) := goodIn_app (goodIn_r _ [7, 8, 9, 10] rfl (by decide +kernel)) ggX12_keptFor_X12_names
set_option maxRecDepth 20000 in
theorem ggX12_keptFor_X12_told : GoodIn wsX12_keptFor wsX12_told := goodIn_r _ [16, 6, 17, 18, 19, 20, 21, 22, 10, 23, 24, 25, 12, 26, 27, 28, 32, 33, 34, 35, 36, 37, 38, 39, 40, 41, 42, 43, 44, 45, 46, 47, 48, 49, 50, 51, 52, 53, 54, 55, 56, 57, 58, 59, 60, 61, 62, 63, 64, 65, 66, 67, 68, 69, 70, 71, 72, 73, 74, 75, 76, 77, 78, 79, 80, 81, 82, 83, 84, 85, 86, 87, 88] rfl (by decide +kernel)
set_option maxRecDepth 20000 in
theorem gX12_keptFor_X12_told : GoodIn wsX12_keptFor (wsV RX12 240 RX12 yX12_told wsX12_told) := goodIn_app (goodIn_r _ [13, 14, 15, 10] rfl (by decide +kernel)) ggX12_keptFor_X12_told
set_option maxRecDepth 20000 in
theorem ggX12_keptFor_X12_within : GoodIn wsX12_keptFor wsX12_within := goodIn_r _ [31] rfl (by decide +kernel)
set_option maxRecDepth 20000 in
theorem gX12_keptFor_X12_within : GoodIn wsX12_keptFor (va_wsS RX12 243 yX12_within wsX12_within) := goodIn_app (goodIn_r _ [29, 30, 10] rfl (by decide +kernel)) ggX12_keptFor_X12_within
theorem dX12_keptFor_0 : decode cX12_keptFor 0 = .ok (.iconst 0, 1) := by decide +kernel
theorem dX12_keptFor_1 : decode cX12_keptFor 1 = .ok (.istore_n 2, 1) := by decide +kernel
theorem dX12_keptFor_2 : decode cX12_keptFor 2 = .ok (.iconst 0, 1) := by decide +kernel
theorem dX12_keptFor_3 : decode cX12_keptFor 3 = .ok (.istore_n 3, 1) := by decide +kernel
theorem dX12_keptFor_4 : decode cX12_keptFor 4 = .ok (.iload_n 3, 1) := by decide +kernel
theorem dX12_keptFor_5 : decode cX12_keptFor 5 = .ok (.aload_n 0, 1) := by decide +kernel
theorem dX12_keptFor_6 : decode cX12_keptFor 6 = .ok (.getfield 114, 3) := by decide +kernel
theorem dX12_keptFor_9 : decode cX12_keptFor 9 = .ok (.if_icmp .ge 75, 3) := by decide +kernel
theorem dX12_keptFor_12 : decode cX12_keptFor 12 = .ok (.aload_n 0, 1) := by decide +kernel
theorem dX12_keptFor_13 : decode cX12_keptFor 13 = .ok (.iconst 0, 1) := by decide +kernel
theorem dX12_keptFor_14 : decode cX12_keptFor 14 = .ok (.iconst 0, 1) := by decide +kernel
theorem dX12_keptFor_15 : decode cX12_keptFor 15 = .ok (.iconst 0, 1) := by decide +kernel
theorem dX12_keptFor_16 : decode cX12_keptFor 16 = .ok (.aload_n 0, 1) := by decide +kernel
theorem dX12_keptFor_17 : decode cX12_keptFor 17 = .ok (.getfield 13, 3) := by decide +kernel
theorem dX12_keptFor_20 : decode cX12_keptFor 20 = .ok (.iload_n 3, 1) := by decide +kernel
theorem dX12_keptFor_21 : decode cX12_keptFor 21 = .ok (.iaload, 1) := by decide +kernel
theorem dX12_keptFor_22 : decode cX12_keptFor 22 = .ok (.aload_n 0, 1) := by decide +kernel
theorem dX12_keptFor_23 : decode cX12_keptFor 23 = .ok (.getfield 7, 3) := by decide +kernel
theorem dX12_keptFor_26 : decode cX12_keptFor 26 = .ok (.iload_n 3, 1) := by decide +kernel
theorem dX12_keptFor_27 : decode cX12_keptFor 27 = .ok (.iaload, 1) := by decide +kernel
theorem dX12_keptFor_28 : decode cX12_keptFor 28 = .ok (.aload_n 0, 1) := by decide +kernel
theorem dX12_keptFor_29 : decode cX12_keptFor 29 = .ok (.getfield 16, 3) := by decide +kernel
theorem dX12_keptFor_32 : decode cX12_keptFor 32 = .ok (.iload_n 3, 1) := by decide +kernel
theorem dX12_keptFor_33 : decode cX12_keptFor 33 = .ok (.iaload, 1) := by decide +kernel
theorem dX12_keptFor_34 : decode cX12_keptFor 34 = .ok (.iload_n 1, 1) := by decide +kernel
theorem dX12_keptFor_35 : decode cX12_keptFor 35 = .ok (.invokevirtual 236, 3) := by decide +kernel
theorem dX12_keptFor_38 : decode cX12_keptFor 38 = .ok (.iload_n 2, 1) := by decide +kernel
theorem dX12_keptFor_39 : decode cX12_keptFor 39 = .ok (.aload_n 0, 1) := by decide +kernel
theorem dX12_keptFor_40 : decode cX12_keptFor 40 = .ok (.getfield 22, 3) := by decide +kernel
theorem dX12_keptFor_43 : decode cX12_keptFor 43 = .ok (.iload_n 3, 1) := by decide +kernel
theorem dX12_keptFor_44 : decode cX12_keptFor 44 = .ok (.iaload, 1) := by decide +kernel
theorem dX12_keptFor_45 : decode cX12_keptFor 45 = .ok (.aload_n 0, 1) := by decide +kernel
theorem dX12_keptFor_46 : decode cX12_keptFor 46 = .ok (.getfield 46, 3) := by decide +kernel
theorem dX12_keptFor_49 : decode cX12_keptFor 49 = .ok (.iconst 1, 1) := by decide +kernel
theorem dX12_keptFor_50 : decode cX12_keptFor 50 = .ok (.iaload, 1) := by decide +kernel
theorem dX12_keptFor_51 : decode cX12_keptFor 51 = .ok (.ifCond .ne 12, 3) := by decide +kernel
theorem dX12_keptFor_54 : decode cX12_keptFor 54 = .ok (.aload_n 0, 1) := by decide +kernel
theorem dX12_keptFor_55 : decode cX12_keptFor 55 = .ok (.getfield 13, 3) := by decide +kernel
theorem dX12_keptFor_58 : decode cX12_keptFor 58 = .ok (.iload_n 3, 1) := by decide +kernel
theorem dX12_keptFor_59 : decode cX12_keptFor 59 = .ok (.iaload, 1) := by decide +kernel
theorem dX12_keptFor_60 : decode cX12_keptFor 60 = .ok (.goto 15, 3) := by decide +kernel
theorem dX12_keptFor_63 : decode cX12_keptFor 63 = .ok (.aload_n 0, 1) := by decide +kernel
theorem dX12_keptFor_64 : decode cX12_keptFor 64 = .ok (.iconst 1, 1) := by decide +kernel
theorem dX12_keptFor_65 : decode cX12_keptFor 65 = .ok (.invokevirtual 240, 3) := by decide +kernel
theorem dX12_keptFor_68 : decode cX12_keptFor 68 = .ok (.iconst 0, 1) := by decide +kernel
theorem dX12_keptFor_69 : decode cX12_keptFor 69 = .ok (.sipush 9999, 3) := by decide +kernel
theorem dX12_keptFor_72 : decode cX12_keptFor 72 = .ok (.invokestatic 243, 3) := by decide +kernel
theorem dX12_keptFor_75 : decode cX12_keptFor 75 = .ok (.imul, 1) := by decide +kernel
theorem dX12_keptFor_76 : decode cX12_keptFor 76 = .ok (.iadd, 1) := by decide +kernel
theorem dX12_keptFor_77 : decode cX12_keptFor 77 = .ok (.istore_n 2, 1) := by decide +kernel
theorem dX12_keptFor_78 : decode cX12_keptFor 78 = .ok (.iinc 3 1, 3) := by decide +kernel
theorem dX12_keptFor_81 : decode cX12_keptFor 81 = .ok (.goto (-77), 3) := by decide +kernel
theorem dX12_keptFor_84 : decode cX12_keptFor 84 = .ok (.iload_n 2, 1) := by decide +kernel
theorem dX12_keptFor_85 : decode cX12_keptFor 85 = .ok (.ireturn, 1) := by decide +kernel
set_option maxRecDepth 20000 in
theorem ggX12_kept_X12_in : GoodIn wsX12_kept wsX12_in := goodIn_r _ [4] rfl (by decide +kernel)
set_option maxRecDepth 20000 in
theorem gX12_kept_X12_in : GoodIn wsX12_kept (va_wsS RX12 118 yX12_in wsX12_in) := goodIn_app (goodIn_r _ [1, 2, 3] rfl (by decide +kernel)) ggX12_kept_X12_in
set_option maxRecDepth 20000 in
theorem ggX12_kept_X12_keptFor : GoodIn wsX12_kept wsX12_keptFor := goodIn_r _ [8, 9, 10, 11, 12, 13, 14, 15, 16, 17, 3, 18, 19, 20, 21, 22, 23, 24, 25, 26, 27, 28, 29, 30, 31, 32, 33, 34, 35, 36, 37, 38, 39, 40, 41, 42, 43, 44, 45, 46, 47, 48, 49, 50, 51, 52, 53, 54, 55, 56, 57, 58, 59, 60, 61, 62, 63, 64, 65, 66, 67, 68, 69, 70, 71, 72, 73, 74, 75, 76, 77, 78, 79, 80, 81, 82, 83, 84, 85, 86, 87, 88, 89, 90, 91, 92, 93, 94, 95] rfl (by decide +kernel)
set_option maxRecDepth 20000 in
theorem gX12_kept_X12_keptFor : GoodIn wsX12_kept (wsV RX12 328 RX12 yX12_keptFor wsX12_keptFor) := goodIn_app (goodIn_r _ [5, 6, 7, 3] rfl (by decide +kernel)) ggX12_kept_X12_keptFor
theorem dX12_kept_0 : decode cX12_kept 0 = .ok (.iload_n 1, 1) := by decide +kernel
theorem dX12_kept_1 : decode cX12_kept 1 = .ok (.iconst 0, 1) := by decide +kernel
theorem dX12_kept_2 : decode cX12_kept 2 = .ok (.bipush 60, 2) := by decide +kernel
theorem dX12_kept_4 : decode cX12_kept 4 = .ok (.invokestatic 118, 3) := by decide +kernel
theorem dX12_kept_7 : decode cX12_kept 7 = .ok (.ifCond .eq 9, 3) := by decide +kernel
theorem dX12_kept_10 : decode cX12_kept 10 = .ok (.aload_n 0, 1) := by decide +kernel
theorem dX12_kept_11 : decode cX12_kept 11 = .ok (.iload_n 1, 1) := by decide +kernel
theorem dX12_kept_12 : decode cX12_kept 12 = .ok (.invokevirtual 328, 3) := by decide +kernel
theorem dX12_kept_15 : decode cX12_kept 15 = .ok (.ireturn, 1) := by decide +kernel
theorem dX12_kept_16 : decode cX12_kept 16 = .ok (.iload_n 1, 1) := by decide +kernel
theorem dX12_kept_17 : decode cX12_kept 17 = .ok (.bipush 100, 2) := by decide +kernel
theorem dX12_kept_19 : decode cX12_kept 19 = .ok (.bipush 101, 2) := by decide +kernel
theorem dX12_kept_21 : decode cX12_kept 21 = .ok (.invokestatic 118, 3) := by decide +kernel
theorem dX12_kept_24 : decode cX12_kept 24 = .ok (.ifCond .ne 5, 3) := by decide +kernel
theorem dX12_kept_27 : decode cX12_kept 27 = .ok (.iconst (-1), 1) := by decide +kernel
theorem dX12_kept_28 : decode cX12_kept 28 = .ok (.ireturn, 1) := by decide +kernel
theorem dX12_kept_29 : decode cX12_kept 29 = .ok (.iconst 0, 1) := by decide +kernel
theorem dX12_kept_30 : decode cX12_kept 30 = .ok (.istore_n 2, 1) := by decide +kernel
theorem dX12_kept_31 : decode cX12_kept 31 = .ok (.aload_n 0, 1) := by decide +kernel
theorem dX12_kept_32 : decode cX12_kept 32 = .ok (.iconst 0, 1) := by decide +kernel
theorem dX12_kept_33 : decode cX12_kept 33 = .ok (.invokevirtual 328, 3) := by decide +kernel
theorem dX12_kept_36 : decode cX12_kept 36 = .ok (.istore_n 3, 1) := by decide +kernel
theorem dX12_kept_37 : decode cX12_kept 37 = .ok (.iconst 1, 1) := by decide +kernel
theorem dX12_kept_38 : decode cX12_kept 38 = .ok (.istore 4, 2) := by decide +kernel
theorem dX12_kept_40 : decode cX12_kept 40 = .ok (.iload 4, 2) := by decide +kernel
theorem dX12_kept_42 : decode cX12_kept 42 = .ok (.bipush 60, 2) := by decide +kernel
theorem dX12_kept_44 : decode cX12_kept 44 = .ok (.if_icmp .gt 43, 3) := by decide +kernel
theorem dX12_kept_47 : decode cX12_kept 47 = .ok (.aload_n 0, 1) := by decide +kernel
theorem dX12_kept_48 : decode cX12_kept 48 = .ok (.iload 4, 2) := by decide +kernel
theorem dX12_kept_50 : decode cX12_kept 50 = .ok (.invokevirtual 328, 3) := by decide +kernel
theorem dX12_kept_53 : decode cX12_kept 53 = .ok (.istore 5, 2) := by decide +kernel
theorem dX12_kept_55 : decode cX12_kept 55 = .ok (.iload 5, 2) := by decide +kernel
theorem dX12_kept_57 : decode cX12_kept 57 = .ok (.iload_n 3, 1) := by decide +kernel
theorem dX12_kept_58 : decode cX12_kept 58 = .ok (.if_icmp .le 8, 3) := by decide +kernel
theorem dX12_kept_61 : decode cX12_kept 61 = .ok (.iload 4, 2) := by decide +kernel
theorem dX12_kept_63 : decode cX12_kept 63 = .ok (.goto 4, 3) := by decide +kernel
theorem dX12_kept_66 : decode cX12_kept 66 = .ok (.iload_n 2, 1) := by decide +kernel
theorem dX12_kept_67 : decode cX12_kept 67 = .ok (.istore_n 2, 1) := by decide +kernel
theorem dX12_kept_68 : decode cX12_kept 68 = .ok (.iload 5, 2) := by decide +kernel
theorem dX12_kept_70 : decode cX12_kept 70 = .ok (.iload_n 3, 1) := by decide +kernel
theorem dX12_kept_71 : decode cX12_kept 71 = .ok (.if_icmp .le 8, 3) := by decide +kernel
theorem dX12_kept_74 : decode cX12_kept 74 = .ok (.iload 5, 2) := by decide +kernel
theorem dX12_kept_76 : decode cX12_kept 76 = .ok (.goto 4, 3) := by decide +kernel
theorem dX12_kept_79 : decode cX12_kept 79 = .ok (.iload_n 3, 1) := by decide +kernel
theorem dX12_kept_80 : decode cX12_kept 80 = .ok (.istore_n 3, 1) := by decide +kernel
theorem dX12_kept_81 : decode cX12_kept 81 = .ok (.iinc 4 1, 3) := by decide +kernel
theorem dX12_kept_84 : decode cX12_kept 84 = .ok (.goto (-44), 3) := by decide +kernel
theorem dX12_kept_87 : decode cX12_kept 87 = .ok (.iload_n 1, 1) := by decide +kernel
theorem dX12_kept_88 : decode cX12_kept 88 = .ok (.bipush 100, 2) := by decide +kernel
theorem dX12_kept_90 : decode cX12_kept 90 = .ok (.if_icmp .ne 7, 3) := by decide +kernel
theorem dX12_kept_93 : decode cX12_kept 93 = .ok (.iload_n 2, 1) := by decide +kernel
theorem dX12_kept_94 : decode cX12_kept 94 = .ok (.goto 4, 3) := by decide +kernel
theorem dX12_kept_97 : decode cX12_kept 97 = .ok (.iload_n 3, 1) := by decide +kernel
theorem dX12_kept_98 : decode cX12_kept 98 = .ok (.ireturn, 1) := by decide +kernel
set_option maxRecDepth 20000 in
theorem ggX12_heaps_X12_heaps : GoodIn wsX12_heaps wsX12_heaps := goodIn_r _ [0, 1, 2, 3, 4, 5, 6, 7, 8, 9, 10, 11, 12, 13, 14, 15, 16, 17, 18, 19, 20, 21, 22, 23, 24, 25, 26, 27, 28, 29, 30, 31, 32, 33, 34, 35, 36, 37, 38, 39, 40, 41, 42, 43, 44, 45, 46, 47, 48, 49, 50, 51, 52, 53, 54, 55, 56, 57, 58, 59, 60, 61, 62, 63, 64, 65] rfl (by decide +kernel)
set_option maxRecDepth 20000 in
theorem gX12_heaps_X12_heaps : GoodIn wsX12_heaps (wsV RX12 331 RX12 yX12_heaps wsX12_heaps) := goodIn_app (goodIn_r _ [5, 6, 7, 8] rfl (by decide +kernel)) ggX12_heaps_X12_heaps
theorem dX12_heaps_0 : decode cX12_heaps 0 = .ok (.iload_n 3, 1) := by decide +kernel
theorem dX12_heaps_1 : decode cX12_heaps 1 = .ok (.ifCond .lt 13, 3) := by decide +kernel
theorem dX12_heaps_4 : decode cX12_heaps 4 = .ok (.iload 4, 2) := by decide +kernel
theorem dX12_heaps_6 : decode cX12_heaps 6 = .ok (.ifCond .lt 8, 3) := by decide +kernel
theorem dX12_heaps_9 : decode cX12_heaps 9 = .ok (.iload 5, 2) := by decide +kernel
theorem dX12_heaps_11 : decode cX12_heaps 11 = .ok (.ifCond .ge 5, 3) := by decide +kernel
theorem dX12_heaps_14 : decode cX12_heaps 14 = .ok (.iconst 0, 1) := by decide +kernel
theorem dX12_heaps_15 : decode cX12_heaps 15 = .ok (.ireturn, 1) := by decide +kernel
theorem dX12_heaps_16 : decode cX12_heaps 16 = .ok (.iload_n 1, 1) := by decide +kernel
theorem dX12_heaps_17 : decode cX12_heaps 17 = .ok (.aload_n 0, 1) := by decide +kernel
theorem dX12_heaps_18 : decode cX12_heaps 18 = .ok (.getfield 114, 3) := by decide +kernel
theorem dX12_heaps_21 : decode cX12_heaps 21 = .ok (.if_icmp .ne 23, 3) := by decide +kernel
theorem dX12_heaps_24 : decode cX12_heaps 24 = .ok (.iload_n 3, 1) := by decide +kernel
theorem dX12_heaps_25 : decode cX12_heaps 25 = .ok (.ifCond .ne 17, 3) := by decide +kernel
theorem dX12_heaps_28 : decode cX12_heaps 28 = .ok (.iload 4, 2) := by decide +kernel
theorem dX12_heaps_30 : decode cX12_heaps 30 = .ok (.ifCond .ne 12, 3) := by decide +kernel
theorem dX12_heaps_33 : decode cX12_heaps 33 = .ok (.iload 5, 2) := by decide +kernel
theorem dX12_heaps_35 : decode cX12_heaps 35 = .ok (.ifCond .ne 7, 3) := by decide +kernel
theorem dX12_heaps_38 : decode cX12_heaps 38 = .ok (.iconst 1, 1) := by decide +kernel
theorem dX12_heaps_39 : decode cX12_heaps 39 = .ok (.goto 4, 3) := by decide +kernel
theorem dX12_heaps_42 : decode cX12_heaps 42 = .ok (.iconst 0, 1) := by decide +kernel
theorem dX12_heaps_43 : decode cX12_heaps 43 = .ok (.ireturn, 1) := by decide +kernel
theorem dX12_heaps_44 : decode cX12_heaps 44 = .ok (.aload_n 0, 1) := by decide +kernel
theorem dX12_heaps_45 : decode cX12_heaps 45 = .ok (.getfield 7, 3) := by decide +kernel
theorem dX12_heaps_48 : decode cX12_heaps 48 = .ok (.iload_n 1, 1) := by decide +kernel
theorem dX12_heaps_49 : decode cX12_heaps 49 = .ok (.iaload, 1) := by decide +kernel
theorem dX12_heaps_50 : decode cX12_heaps 50 = .ok (.iload_n 2, 1) := by decide +kernel
theorem dX12_heaps_51 : decode cX12_heaps 51 = .ok (.if_icmp .eq 17, 3) := by decide +kernel
theorem dX12_heaps_54 : decode cX12_heaps 54 = .ok (.aload_n 0, 1) := by decide +kernel
theorem dX12_heaps_55 : decode cX12_heaps 55 = .ok (.iload_n 1, 1) := by decide +kernel
theorem dX12_heaps_56 : decode cX12_heaps 56 = .ok (.iconst 1, 1) := by decide +kernel
theorem dX12_heaps_57 : decode cX12_heaps 57 = .ok (.iadd, 1) := by decide +kernel
theorem dX12_heaps_58 : decode cX12_heaps 58 = .ok (.iload_n 2, 1) := by decide +kernel
theorem dX12_heaps_59 : decode cX12_heaps 59 = .ok (.iload_n 3, 1) := by decide +kernel
theorem dX12_heaps_60 : decode cX12_heaps 60 = .ok (.iload 4, 2) := by decide +kernel
theorem dX12_heaps_62 : decode cX12_heaps 62 = .ok (.iload 5, 2) := by decide +kernel
theorem dX12_heaps_64 : decode cX12_heaps 64 = .ok (.invokevirtual 331, 3) := by decide +kernel
theorem dX12_heaps_67 : decode cX12_heaps 67 = .ok (.ireturn, 1) := by decide +kernel
theorem dX12_heaps_68 : decode cX12_heaps 68 = .ok (.iconst 0, 1) := by decide +kernel
theorem dX12_heaps_69 : decode cX12_heaps 69 = .ok (.istore 6, 2) := by decide +kernel
theorem dX12_heaps_71 : decode cX12_heaps 71 = .ok (.iconst 0, 1) := by decide +kernel
theorem dX12_heaps_72 : decode cX12_heaps 72 = .ok (.istore 7, 2) := by decide +kernel
theorem dX12_heaps_74 : decode cX12_heaps 74 = .ok (.iload 7, 2) := by decide +kernel
theorem dX12_heaps_76 : decode cX12_heaps 76 = .ok (.iload_n 3, 1) := by decide +kernel
theorem dX12_heaps_77 : decode cX12_heaps 77 = .ok (.if_icmp .gt 78, 3) := by decide +kernel
theorem dX12_heaps_80 : decode cX12_heaps 80 = .ok (.iload 7, 2) := by decide +kernel
theorem dX12_heaps_82 : decode cX12_heaps 82 = .ok (.aload_n 0, 1) := by decide +kernel
theorem dX12_heaps_83 : decode cX12_heaps 83 = .ok (.getfield 19, 3) := by decide +kernel
theorem dX12_heaps_86 : decode cX12_heaps 86 = .ok (.iload_n 1, 1) := by decide +kernel
theorem dX12_heaps_87 : decode cX12_heaps 87 = .ok (.iaload, 1) := by decide +kernel
theorem dX12_heaps_88 : decode cX12_heaps 88 = .ok (.imul, 1) := by decide +kernel
theorem dX12_heaps_89 : decode cX12_heaps 89 = .ok (.iload 4, 2) := by decide +kernel
theorem dX12_heaps_91 : decode cX12_heaps 91 = .ok (.if_icmp .gt 64, 3) := by decide +kernel
theorem dX12_heaps_94 : decode cX12_heaps 94 = .ok (.iload 7, 2) := by decide +kernel
theorem dX12_heaps_96 : decode cX12_heaps 96 = .ok (.aload_n 0, 1) := by decide +kernel
theorem dX12_heaps_97 : decode cX12_heaps 97 = .ok (.getfield 13, 3) := by decide +kernel
theorem dX12_heaps_100 : decode cX12_heaps 100 = .ok (.iload_n 1, 1) := by decide +kernel
theorem dX12_heaps_101 : decode cX12_heaps 101 = .ok (.iaload, 1) := by decide +kernel
theorem dX12_heaps_102 : decode cX12_heaps 102 = .ok (.imul, 1) := by decide +kernel
theorem dX12_heaps_103 : decode cX12_heaps 103 = .ok (.iload 5, 2) := by decide +kernel
theorem dX12_heaps_105 : decode cX12_heaps 105 = .ok (.if_icmp .gt 50, 3) := by decide +kernel
theorem dX12_heaps_108 : decode cX12_heaps 108 = .ok (.iload 6, 2) := by decide +kernel
theorem dX12_heaps_110 : decode cX12_heaps 110 = .ok (.aload_n 0, 1) := by decide +kernel
theorem dX12_heaps_111 : decode cX12_heaps 111 = .ok (.iload_n 1, 1) := by decide +kernel
theorem dX12_heaps_112 : decode cX12_heaps 112 = .ok (.iconst 1, 1) := by decide +kernel
theorem dX12_heaps_113 : decode cX12_heaps 113 = .ok (.iadd, 1) := by decide +kernel
theorem dX12_heaps_114 : decode cX12_heaps 114 = .ok (.iload_n 2, 1) := by decide +kernel
theorem dX12_heaps_115 : decode cX12_heaps 115 = .ok (.iload_n 3, 1) := by decide +kernel
theorem dX12_heaps_116 : decode cX12_heaps 116 = .ok (.iload 7, 2) := by decide +kernel
theorem dX12_heaps_118 : decode cX12_heaps 118 = .ok (.isub, 1) := by decide +kernel
theorem dX12_heaps_119 : decode cX12_heaps 119 = .ok (.iload 4, 2) := by decide +kernel
theorem dX12_heaps_121 : decode cX12_heaps 121 = .ok (.iload 7, 2) := by decide +kernel
theorem dX12_heaps_123 : decode cX12_heaps 123 = .ok (.aload_n 0, 1) := by decide +kernel
theorem dX12_heaps_124 : decode cX12_heaps 124 = .ok (.getfield 19, 3) := by decide +kernel
theorem dX12_heaps_127 : decode cX12_heaps 127 = .ok (.iload_n 1, 1) := by decide +kernel
theorem dX12_heaps_128 : decode cX12_heaps 128 = .ok (.iaload, 1) := by decide +kernel
theorem dX12_heaps_129 : decode cX12_heaps 129 = .ok (.imul, 1) := by decide +kernel
theorem dX12_heaps_130 : decode cX12_heaps 130 = .ok (.isub, 1) := by decide +kernel
theorem dX12_heaps_131 : decode cX12_heaps 131 = .ok (.iload 5, 2) := by decide +kernel
theorem dX12_heaps_133 : decode cX12_heaps 133 = .ok (.iload 7, 2) := by decide +kernel
theorem dX12_heaps_135 : decode cX12_heaps 135 = .ok (.aload_n 0, 1) := by decide +kernel
theorem dX12_heaps_136 : decode cX12_heaps 136 = .ok (.getfield 13, 3) := by decide +kernel
theorem dX12_heaps_139 : decode cX12_heaps 139 = .ok (.iload_n 1, 1) := by decide +kernel
theorem dX12_heaps_140 : decode cX12_heaps 140 = .ok (.iaload, 1) := by decide +kernel
theorem dX12_heaps_141 : decode cX12_heaps 141 = .ok (.imul, 1) := by decide +kernel
theorem dX12_heaps_142 : decode cX12_heaps 142 = .ok (.isub, 1) := by decide +kernel
theorem dX12_heaps_143 : decode cX12_heaps 143 = .ok (.invokevirtual 331, 3) := by decide +kernel
theorem dX12_heaps_146 : decode cX12_heaps 146 = .ok (.iadd, 1) := by decide +kernel
theorem dX12_heaps_147 : decode cX12_heaps 147 = .ok (.istore 6, 2) := by decide +kernel
theorem dX12_heaps_149 : decode cX12_heaps 149 = .ok (.iinc 7 1, 3) := by decide +kernel
theorem dX12_heaps_152 : decode cX12_heaps 152 = .ok (.goto (-78), 3) := by decide +kernel
theorem dX12_heaps_155 : decode cX12_heaps 155 = .ok (.iload 6, 2) := by decide +kernel
theorem dX12_heaps_157 : decode cX12_heaps 157 = .ok (.ireturn, 1) := by decide +kernel
set_option maxRecDepth 20000 in
theorem ggX12_heap_X12_isAmount : GoodIn wsX12_heap wsX12_isAmount := goodIn_r _ [4, 5, 6, 3, 7, 8, 9, 10] rfl (by decide +kernel)
set_option maxRecDepth 20000 in
theorem gX12_heap_X12_isAmount : GoodIn wsX12_heap (va_wsS RX12 264 yX12_isAmount wsX12_isAmount) := goodIn_app (goodIn_r _ [1, 2, 3] rfl (by decide +kernel)) ggX12_heap_X12_isAmount
set_option maxRecDepth 20000 in
theorem ggX12_heap_X12_in : GoodIn wsX12_heap wsX12_in := goodIn_r _ [10] rfl (by decide +kernel)
set_option maxRecDepth 20000 in
theorem gX12_heap_X12_in : GoodIn wsX12_heap (va_wsS RX12 118 yX12_in wsX12_in) := goodIn_app (goodIn_r _ [8, 9, 3] rfl (by decide +kernel)) ggX12_heap_X12_in
set_option maxRecDepth 20000 in
theorem ggX12_heap_X12_heaps : GoodIn wsX12_heap wsX12_heaps := goodIn_r _ [14, 15, 16, 17, 18, 11, 12, 13, 3, 19, 20, 21, 22, 23, 24, 25, 26, 27, 28, 29, 30, 31, 32, 33, 34, 35, 36, 37, 38, 39, 40, 41, 42, 43, 44, 45, 46, 47, 48, 49, 50, 51, 52, 53, 54, 55, 56, 57, 58, 59, 60, 61, 62, 63, 64, 65, 66, 67, 68, 69, 70, 71, 72, 73, 74, 75] rfl (by decide +kernel)
set_option maxRecDepth 20000 in
theorem gX12_heap_X12_heaps : GoodIn wsX12_heap (wsV RX12 331 RX12 yX12_heaps wsX12_heaps) := goodIn_app (goodIn_r _ [11, 12, 13, 3] rfl (by decide +kernel)) ggX12_heap_X12_heaps
theorem dX12_heap_0 : decode cX12_heap 0 = .ok (.iload_n 1, 1) := by decide +kernel
theorem dX12_heap_1 : decode cX12_heap 1 = .ok (.invokestatic 264, 3) := by decide +kernel
theorem dX12_heap_4 : decode cX12_heap 4 = .ok (.ifCond .eq 39, 3) := by decide +kernel
theorem dX12_heap_7 : decode cX12_heap 7 = .ok (.iload_n 1, 1) := by decide +kernel
theorem dX12_heap_8 : decode cX12_heap 8 = .ok (.sipush 10000, 3) := by decide +kernel
theorem dX12_heap_11 : decode cX12_heap 11 = .ok (.irem, 1) := by decide +kernel
theorem dX12_heap_12 : decode cX12_heap 12 = .ok (.sipush 1200, 3) := by decide +kernel
theorem dX12_heap_15 : decode cX12_heap 15 = .ok (.if_icmp .gt 28, 3) := by decide +kernel
theorem dX12_heap_18 : decode cX12_heap 18 = .ok (.iload_n 2, 1) := by decide +kernel
theorem dX12_heap_19 : decode cX12_heap 19 = .ok (.iconst 0, 1) := by decide +kernel
theorem dX12_heap_20 : decode cX12_heap 20 = .ok (.bipush 20, 2) := by decide +kernel
theorem dX12_heap_22 : decode cX12_heap 22 = .ok (.invokestatic 118, 3) := by decide +kernel
theorem dX12_heap_25 : decode cX12_heap 25 = .ok (.ifCond .eq 18, 3) := by decide +kernel
theorem dX12_heap_28 : decode cX12_heap 28 = .ok (.iload_n 3, 1) := by decide +kernel
theorem dX12_heap_29 : decode cX12_heap 29 = .ok (.iconst 0, 1) := by decide +kernel
theorem dX12_heap_30 : decode cX12_heap 30 = .ok (.sipush 1980, 3) := by decide +kernel
theorem dX12_heap_33 : decode cX12_heap 33 = .ok (.invokestatic 118, 3) := by decide +kernel
theorem dX12_heap_36 : decode cX12_heap 36 = .ok (.ifCond .eq 7, 3) := by decide +kernel
theorem dX12_heap_39 : decode cX12_heap 39 = .ok (.iconst 1, 1) := by decide +kernel
theorem dX12_heap_40 : decode cX12_heap 40 = .ok (.goto 4, 3) := by decide +kernel
theorem dX12_heap_43 : decode cX12_heap 43 = .ok (.iconst 0, 1) := by decide +kernel
theorem dX12_heap_44 : decode cX12_heap 44 = .ok (.istore 4, 2) := by decide +kernel
theorem dX12_heap_46 : decode cX12_heap 46 = .ok (.iload 4, 2) := by decide +kernel
theorem dX12_heap_48 : decode cX12_heap 48 = .ok (.ifCond .eq 23, 3) := by decide +kernel
theorem dX12_heap_51 : decode cX12_heap 51 = .ok (.aload_n 0, 1) := by decide +kernel
theorem dX12_heap_52 : decode cX12_heap 52 = .ok (.iconst 0, 1) := by decide +kernel
theorem dX12_heap_53 : decode cX12_heap 53 = .ok (.iload_n 1, 1) := by decide +kernel
theorem dX12_heap_54 : decode cX12_heap 54 = .ok (.sipush 10000, 3) := by decide +kernel
theorem dX12_heap_57 : decode cX12_heap 57 = .ok (.idiv, 1) := by decide +kernel
theorem dX12_heap_58 : decode cX12_heap 58 = .ok (.iload_n 2, 1) := by decide +kernel
theorem dX12_heap_59 : decode cX12_heap 59 = .ok (.iload_n 3, 1) := by decide +kernel
theorem dX12_heap_60 : decode cX12_heap 60 = .ok (.iload_n 1, 1) := by decide +kernel
theorem dX12_heap_61 : decode cX12_heap 61 = .ok (.sipush 10000, 3) := by decide +kernel
theorem dX12_heap_64 : decode cX12_heap 64 = .ok (.irem, 1) := by decide +kernel
theorem dX12_heap_65 : decode cX12_heap 65 = .ok (.invokevirtual 331, 3) := by decide +kernel
theorem dX12_heap_68 : decode cX12_heap 68 = .ok (.goto 4, 3) := by decide +kernel
theorem dX12_heap_71 : decode cX12_heap 71 = .ok (.iconst (-1), 1) := by decide +kernel
theorem dX12_heap_72 : decode cX12_heap 72 = .ok (.ireturn, 1) := by decide +kernel
set_option maxRecDepth 20000 in
theorem ggX12_give_X12_isLand : GoodIn wsX12_give wsX12_isLand := goodIn_r _ [8, 9, 10, 7, 11] rfl (by decide +kernel)
set_option maxRecDepth 20000 in
theorem gX12_give_X12_isLand : GoodIn wsX12_give (va_wsS RX12 125 yX12_isLand wsX12_isLand) := goodIn_app (goodIn_r _ [5, 6, 7] rfl (by decide +kernel)) ggX12_give_X12_isLand
set_option maxRecDepth 20000 in
theorem ggX12_give_X12_purseOf : GoodIn wsX12_give wsX12_purseOf := goodIn_r _ [15, 1, 3, 4, 16, 17, 18, 19, 20, 21, 22, 23, 24, 25, 26, 27, 28, 29, 30, 31, 32, 33, 34, 35, 36, 37, 38, 39, 40, 41, 42, 43, 44, 45, 46, 47, 48, 49, 50, 51, 52, 53, 54, 55, 56, 57, 58, 59, 60, 61, 62, 63, 64, 65, 66, 67, 68, 69, 70, 71, 72, 73] rfl (by decide +kernel)
set_option maxRecDepth 20000 in
theorem gX12_give_X12_purseOf : GoodIn wsX12_give (wsV RX12 168 RX12 yX12_purseOf wsX12_purseOf) := goodIn_app (goodIn_r _ [12, 13, 14, 7] rfl (by decide +kernel)) ggX12_give_X12_purseOf
theorem dX12_give_0 : decode cX12_give 0 = .ok (.iload_n 1, 1) := by decide +kernel
theorem dX12_give_1 : decode cX12_give 1 = .ok (.invokestatic 125, 3) := by decide +kernel
theorem dX12_give_4 : decode cX12_give 4 = .ok (.ifCond .ne 5, 3) := by decide +kernel
theorem dX12_give_7 : decode cX12_give 7 = .ok (.iconst (-1), 1) := by decide +kernel
theorem dX12_give_8 : decode cX12_give 8 = .ok (.ireturn, 1) := by decide +kernel
theorem dX12_give_9 : decode cX12_give 9 = .ok (.aload_n 0, 1) := by decide +kernel
theorem dX12_give_10 : decode cX12_give 10 = .ok (.iload_n 1, 1) := by decide +kernel
theorem dX12_give_11 : decode cX12_give 11 = .ok (.invokevirtual 168, 3) := by decide +kernel
theorem dX12_give_14 : decode cX12_give 14 = .ok (.istore_n 2, 1) := by decide +kernel
theorem dX12_give_15 : decode cX12_give 15 = .ok (.iconst 0, 1) := by decide +kernel
theorem dX12_give_16 : decode cX12_give 16 = .ok (.istore_n 3, 1) := by decide +kernel
theorem dX12_give_17 : decode cX12_give 17 = .ok (.iload_n 3, 1) := by decide +kernel
theorem dX12_give_18 : decode cX12_give 18 = .ok (.aload_n 0, 1) := by decide +kernel
theorem dX12_give_19 : decode cX12_give 19 = .ok (.getfield 114, 3) := by decide +kernel
theorem dX12_give_22 : decode cX12_give 22 = .ok (.if_icmp .ge 64, 3) := by decide +kernel
theorem dX12_give_25 : decode cX12_give 25 = .ok (.aload_n 0, 1) := by decide +kernel
theorem dX12_give_26 : decode cX12_give 26 = .ok (.dup, 1) := by decide +kernel
theorem dX12_give_27 : decode cX12_give 27 = .ok (.getfield 335, 3) := by decide +kernel
theorem dX12_give_30 : decode cX12_give 30 = .ok (.aload_n 0, 1) := by decide +kernel
theorem dX12_give_31 : decode cX12_give 31 = .ok (.getfield 7, 3) := by decide +kernel
theorem dX12_give_34 : decode cX12_give 34 = .ok (.iload_n 3, 1) := by decide +kernel
theorem dX12_give_35 : decode cX12_give 35 = .ok (.iaload, 1) := by decide +kernel
theorem dX12_give_36 : decode cX12_give 36 = .ok (.iload_n 1, 1) := by decide +kernel
theorem dX12_give_37 : decode cX12_give 37 = .ok (.if_icmp .ne 12, 3) := by decide +kernel
theorem dX12_give_40 : decode cX12_give 40 = .ok (.aload_n 0, 1) := by decide +kernel
theorem dX12_give_41 : decode cX12_give 41 = .ok (.getfield 22, 3) := by decide +kernel
theorem dX12_give_44 : decode cX12_give 44 = .ok (.iload_n 3, 1) := by decide +kernel
theorem dX12_give_45 : decode cX12_give 45 = .ok (.iaload, 1) := by decide +kernel
theorem dX12_give_46 : decode cX12_give 46 = .ok (.goto 4, 3) := by decide +kernel
theorem dX12_give_49 : decode cX12_give 49 = .ok (.iconst 0, 1) := by decide +kernel
theorem dX12_give_50 : decode cX12_give 50 = .ok (.iadd, 1) := by decide +kernel
theorem dX12_give_51 : decode cX12_give 51 = .ok (.putfield 335, 3) := by decide +kernel
theorem dX12_give_54 : decode cX12_give 54 = .ok (.aload_n 0, 1) := by decide +kernel
theorem dX12_give_55 : decode cX12_give 55 = .ok (.getfield 22, 3) := by decide +kernel
theorem dX12_give_58 : decode cX12_give 58 = .ok (.iload_n 3, 1) := by decide +kernel
theorem dX12_give_59 : decode cX12_give 59 = .ok (.aload_n 0, 1) := by decide +kernel
theorem dX12_give_60 : decode cX12_give 60 = .ok (.getfield 7, 3) := by decide +kernel
theorem dX12_give_63 : decode cX12_give 63 = .ok (.iload_n 3, 1) := by decide +kernel
theorem dX12_give_64 : decode cX12_give 64 = .ok (.iaload, 1) := by decide +kernel
theorem dX12_give_65 : decode cX12_give 65 = .ok (.iload_n 1, 1) := by decide +kernel
theorem dX12_give_66 : decode cX12_give 66 = .ok (.if_icmp .ne 7, 3) := by decide +kernel
theorem dX12_give_69 : decode cX12_give 69 = .ok (.iconst 0, 1) := by decide +kernel
theorem dX12_give_70 : decode cX12_give 70 = .ok (.goto 9, 3) := by decide +kernel
theorem dX12_give_73 : decode cX12_give 73 = .ok (.aload_n 0, 1) := by decide +kernel
theorem dX12_give_74 : decode cX12_give 74 = .ok (.getfield 22, 3) := by decide +kernel
theorem dX12_give_77 : decode cX12_give 77 = .ok (.iload_n 3, 1) := by decide +kernel
theorem dX12_give_78 : decode cX12_give 78 = .ok (.iaload, 1) := by decide +kernel
theorem dX12_give_79 : decode cX12_give 79 = .ok (.iastore, 1) := by decide +kernel
theorem dX12_give_80 : decode cX12_give 80 = .ok (.iinc 3 1, 3) := by decide +kernel
theorem dX12_give_83 : decode cX12_give 83 = .ok (.goto (-66), 3) := by decide +kernel
theorem dX12_give_86 : decode cX12_give 86 = .ok (.iload_n 2, 1) := by decide +kernel
theorem dX12_give_87 : decode cX12_give 87 = .ok (.ireturn, 1) := by decide +kernel
theorem dX12_led_0 : decode cX12_led 0 = .ok (.iload_n 1, 1) := by decide +kernel
theorem dX12_led_1 : decode cX12_led 1 = .ok (.ifCond .ne 10, 3) := by decide +kernel
theorem dX12_led_4 : decode cX12_led 4 = .ok (.aload_n 0, 1) := by decide +kernel
theorem dX12_led_5 : decode cX12_led 5 = .ok (.getfield 282, 3) := by decide +kernel
theorem dX12_led_8 : decode cX12_led 8 = .ok (.goto 28, 3) := by decide +kernel
theorem dX12_led_11 : decode cX12_led 11 = .ok (.iload_n 1, 1) := by decide +kernel
theorem dX12_led_12 : decode cX12_led 12 = .ok (.iconst 1, 1) := by decide +kernel
theorem dX12_led_13 : decode cX12_led 13 = .ok (.if_icmp .ne 10, 3) := by decide +kernel
theorem dX12_led_16 : decode cX12_led 16 = .ok (.aload_n 0, 1) := by decide +kernel
theorem dX12_led_17 : decode cX12_led 17 = .ok (.getfield 285, 3) := by decide +kernel
theorem dX12_led_20 : decode cX12_led 20 = .ok (.goto 16, 3) := by decide +kernel
theorem dX12_led_23 : decode cX12_led 23 = .ok (.iload_n 1, 1) := by decide +kernel
theorem dX12_led_24 : decode cX12_led 24 = .ok (.iconst 2, 1) := by decide +kernel
theorem dX12_led_25 : decode cX12_led 25 = .ok (.if_icmp .ne 10, 3) := by decide +kernel
theorem dX12_led_28 : decode cX12_led 28 = .ok (.aload_n 0, 1) := by decide +kernel
theorem dX12_led_29 : decode cX12_led 29 = .ok (.getfield 335, 3) := by decide +kernel
theorem dX12_led_32 : decode cX12_led 32 = .ok (.goto 4, 3) := by decide +kernel
theorem dX12_led_35 : decode cX12_led 35 = .ok (.iconst (-1), 1) := by decide +kernel
theorem dX12_led_36 : decode cX12_led 36 = .ok (.ireturn, 1) := by decide +kernel
theorem dX12_image_0 : decode cX12_image 0 = .ok (.aload_n 0, 1) := by decide +kernel
theorem dX12_image_1 : decode cX12_image 1 = .ok (.iconst 1, 1) := by decide +kernel
theorem dX12_image_2 : decode cX12_image 2 = .ok (.putfield 338, 3) := by decide +kernel
theorem dX12_image_5 : decode cX12_image 5 = .ok (.aload_n 0, 1) := by decide +kernel
theorem dX12_image_6 : decode cX12_image 6 = .ok (.aload_n 0, 1) := by decide +kernel
theorem dX12_image_7 : decode cX12_image 7 = .ok (.getfield 114, 3) := by decide +kernel
theorem dX12_image_10 : decode cX12_image 10 = .ok (.putfield 342, 3) := by decide +kernel
theorem dX12_image_13 : decode cX12_image 13 = .ok (.aload_n 0, 1) := by decide +kernel
theorem dX12_image_14 : decode cX12_image 14 = .ok (.aload_n 0, 1) := by decide +kernel
theorem dX12_image_15 : decode cX12_image 15 = .ok (.getfield 122, 3) := by decide +kernel
theorem dX12_image_18 : decode cX12_image 18 = .ok (.putfield 345, 3) := by decide +kernel
theorem dX12_image_21 : decode cX12_image 21 = .ok (.iconst 0, 1) := by decide +kernel
theorem dX12_image_22 : decode cX12_image 22 = .ok (.istore_n 1, 1) := by decide +kernel
theorem dX12_image_23 : decode cX12_image 23 = .ok (.iload_n 1, 1) := by decide +kernel
theorem dX12_image_24 : decode cX12_image 24 = .ok (.bipush 8, 2) := by decide +kernel
theorem dX12_image_26 : decode cX12_image 26 = .ok (.if_icmp .ge 21, 3) := by decide +kernel
theorem dX12_image_29 : decode cX12_image 29 = .ok (.aload_n 0, 1) := by decide +kernel
theorem dX12_image_30 : decode cX12_image 30 = .ok (.getfield 87, 3) := by decide +kernel
theorem dX12_image_33 : decode cX12_image 33 = .ok (.iload_n 1, 1) := by decide +kernel
theorem dX12_image_34 : decode cX12_image 34 = .ok (.aload_n 0, 1) := by decide +kernel
theorem dX12_image_35 : decode cX12_image 35 = .ok (.getfield 22, 3) := by decide +kernel
theorem dX12_image_38 : decode cX12_image 38 = .ok (.iload_n 1, 1) := by decide +kernel
theorem dX12_image_39 : decode cX12_image 39 = .ok (.iaload, 1) := by decide +kernel
theorem dX12_image_40 : decode cX12_image 40 = .ok (.iastore, 1) := by decide +kernel
theorem dX12_image_41 : decode cX12_image 41 = .ok (.iinc 1 1, 3) := by decide +kernel
theorem dX12_image_44 : decode cX12_image 44 = .ok (.goto (-21), 3) := by decide +kernel
theorem dX12_image_47 : decode cX12_image 47 = .ok (.iconst 0, 1) := by decide +kernel
theorem dX12_image_48 : decode cX12_image 48 = .ok (.istore_n 1, 1) := by decide +kernel
theorem dX12_image_49 : decode cX12_image 49 = .ok (.iload_n 1, 1) := by decide +kernel
theorem dX12_image_50 : decode cX12_image 50 = .ok (.bipush 10, 2) := by decide +kernel
theorem dX12_image_52 : decode cX12_image 52 = .ok (.if_icmp .ge 21, 3) := by decide +kernel
theorem dX12_image_55 : decode cX12_image 55 = .ok (.aload_n 0, 1) := by decide +kernel
theorem dX12_image_56 : decode cX12_image 56 = .ok (.getfield 90, 3) := by decide +kernel
theorem dX12_image_59 : decode cX12_image 59 = .ok (.iload_n 1, 1) := by decide +kernel
theorem dX12_image_60 : decode cX12_image 60 = .ok (.aload_n 0, 1) := by decide +kernel
theorem dX12_image_61 : decode cX12_image 61 = .ok (.getfield 34, 3) := by decide +kernel
theorem dX12_image_64 : decode cX12_image 64 = .ok (.iload_n 1, 1) := by decide +kernel
theorem dX12_image_65 : decode cX12_image 65 = .ok (.iaload, 1) := by decide +kernel
theorem dX12_image_66 : decode cX12_image 66 = .ok (.iastore, 1) := by decide +kernel
theorem dX12_image_67 : decode cX12_image 67 = .ok (.iinc 1 1, 3) := by decide +kernel
theorem dX12_image_70 : decode cX12_image 70 = .ok (.goto (-21), 3) := by decide +kernel
theorem dX12_image_73 : decode cX12_image 73 = .ok (.aload_n 0, 1) := by decide +kernel
theorem dX12_image_74 : decode cX12_image 74 = .ok (.getfield 93, 3) := by decide +kernel
theorem dX12_image_77 : decode cX12_image 77 = .ok (.iconst 0, 1) := by decide +kernel
theorem dX12_image_78 : decode cX12_image 78 = .ok (.aload_n 0, 1) := by decide +kernel
theorem dX12_image_79 : decode cX12_image 79 = .ok (.getfield 282, 3) := by decide +kernel
theorem dX12_image_82 : decode cX12_image 82 = .ok (.iastore, 1) := by decide +kernel
theorem dX12_image_83 : decode cX12_image 83 = .ok (.aload_n 0, 1) := by decide +kernel
theorem dX12_image_84 : decode cX12_image 84 = .ok (.getfield 93, 3) := by decide +kernel
theorem dX12_image_87 : decode cX12_image 87 = .ok (.iconst 1, 1) := by decide +kernel
theorem dX12_image_88 : decode cX12_image 88 = .ok (.aload_n 0, 1) := by decide +kernel
theorem dX12_image_89 : decode cX12_image 89 = .ok (.getfield 285, 3) := by decide +kernel
theorem dX12_image_92 : decode cX12_image 92 = .ok (.iastore, 1) := by decide +kernel
theorem dX12_image_93 : decode cX12_image 93 = .ok (.aload_n 0, 1) := by decide +kernel
theorem dX12_image_94 : decode cX12_image 94 = .ok (.getfield 93, 3) := by decide +kernel
theorem dX12_image_97 : decode cX12_image 97 = .ok (.iconst 2, 1) := by decide +kernel
theorem dX12_image_98 : decode cX12_image 98 = .ok (.aload_n 0, 1) := by decide +kernel
theorem dX12_image_99 : decode cX12_image 99 = .ok (.getfield 335, 3) := by decide +kernel
theorem dX12_image_102 : decode cX12_image 102 = .ok (.iastore, 1) := by decide +kernel
theorem dX12_image_103 : decode cX12_image 103 = .ok (.aload_n 0, 1) := by decide +kernel
theorem dX12_image_104 : decode cX12_image 104 = .ok (.getfield 114, 3) := by decide +kernel
theorem dX12_image_107 : decode cX12_image 107 = .ok (.ireturn, 1) := by decide +kernel
theorem dX12_back_0 : decode cX12_back 0 = .ok (.aload_n 0, 1) := by decide +kernel
theorem dX12_back_1 : decode cX12_back 1 = .ok (.getfield 338, 3) := by decide +kernel
theorem dX12_back_4 : decode cX12_back 4 = .ok (.ifCond .ne 6, 3) := by decide +kernel
theorem dX12_back_7 : decode cX12_back 7 = .ok (.bipush (-5), 2) := by decide +kernel
theorem dX12_back_9 : decode cX12_back 9 = .ok (.ireturn, 1) := by decide +kernel
theorem dX12_back_10 : decode cX12_back 10 = .ok (.iconst 0, 1) := by decide +kernel
theorem dX12_back_11 : decode cX12_back 11 = .ok (.istore_n 1, 1) := by decide +kernel
theorem dX12_back_12 : decode cX12_back 12 = .ok (.iload_n 1, 1) := by decide +kernel
theorem dX12_back_13 : decode cX12_back 13 = .ok (.bipush 8, 2) := by decide +kernel
theorem dX12_back_15 : decode cX12_back 15 = .ok (.if_icmp .ge 33, 3) := by decide +kernel
theorem dX12_back_18 : decode cX12_back 18 = .ok (.aload_n 0, 1) := by decide +kernel
theorem dX12_back_19 : decode cX12_back 19 = .ok (.getfield 22, 3) := by decide +kernel
theorem dX12_back_22 : decode cX12_back 22 = .ok (.iload_n 1, 1) := by decide +kernel
theorem dX12_back_23 : decode cX12_back 23 = .ok (.iload_n 1, 1) := by decide +kernel
theorem dX12_back_24 : decode cX12_back 24 = .ok (.aload_n 0, 1) := by decide +kernel
theorem dX12_back_25 : decode cX12_back 25 = .ok (.getfield 342, 3) := by decide +kernel
theorem dX12_back_28 : decode cX12_back 28 = .ok (.if_icmp .ge 12, 3) := by decide +kernel
theorem dX12_back_31 : decode cX12_back 31 = .ok (.aload_n 0, 1) := by decide +kernel
theorem dX12_back_32 : decode cX12_back 32 = .ok (.getfield 87, 3) := by decide +kernel
theorem dX12_back_35 : decode cX12_back 35 = .ok (.iload_n 1, 1) := by decide +kernel
theorem dX12_back_36 : decode cX12_back 36 = .ok (.iaload, 1) := by decide +kernel
theorem dX12_back_37 : decode cX12_back 37 = .ok (.goto 4, 3) := by decide +kernel
theorem dX12_back_40 : decode cX12_back 40 = .ok (.iconst 0, 1) := by decide +kernel
theorem dX12_back_41 : decode cX12_back 41 = .ok (.iastore, 1) := by decide +kernel
theorem dX12_back_42 : decode cX12_back 42 = .ok (.iinc 1 1, 3) := by decide +kernel
theorem dX12_back_45 : decode cX12_back 45 = .ok (.goto (-33), 3) := by decide +kernel
theorem dX12_back_48 : decode cX12_back 48 = .ok (.iconst 0, 1) := by decide +kernel
theorem dX12_back_49 : decode cX12_back 49 = .ok (.istore_n 1, 1) := by decide +kernel
theorem dX12_back_50 : decode cX12_back 50 = .ok (.iload_n 1, 1) := by decide +kernel
theorem dX12_back_51 : decode cX12_back 51 = .ok (.aload_n 0, 1) := by decide +kernel
theorem dX12_back_52 : decode cX12_back 52 = .ok (.getfield 345, 3) := by decide +kernel
theorem dX12_back_55 : decode cX12_back 55 = .ok (.if_icmp .ge 21, 3) := by decide +kernel
theorem dX12_back_58 : decode cX12_back 58 = .ok (.aload_n 0, 1) := by decide +kernel
theorem dX12_back_59 : decode cX12_back 59 = .ok (.getfield 34, 3) := by decide +kernel
theorem dX12_back_62 : decode cX12_back 62 = .ok (.iload_n 1, 1) := by decide +kernel
theorem dX12_back_63 : decode cX12_back 63 = .ok (.aload_n 0, 1) := by decide +kernel
theorem dX12_back_64 : decode cX12_back 64 = .ok (.getfield 90, 3) := by decide +kernel
theorem dX12_back_67 : decode cX12_back 67 = .ok (.iload_n 1, 1) := by decide +kernel
theorem dX12_back_68 : decode cX12_back 68 = .ok (.iaload, 1) := by decide +kernel
theorem dX12_back_69 : decode cX12_back 69 = .ok (.iastore, 1) := by decide +kernel
theorem dX12_back_70 : decode cX12_back 70 = .ok (.iinc 1 1, 3) := by decide +kernel
theorem dX12_back_73 : decode cX12_back 73 = .ok (.goto (-23), 3) := by decide +kernel
theorem dX12_back_76 : decode cX12_back 76 = .ok (.aload_n 0, 1) := by decide +kernel
theorem dX12_back_77 : decode cX12_back 77 = .ok (.aload_n 0, 1) := by decide +kernel
theorem dX12_back_78 : decode cX12_back 78 = .ok (.getfield 93, 3) := by decide +kernel
theorem dX12_back_81 : decode cX12_back 81 = .ok (.iconst 0, 1) := by decide +kernel
theorem dX12_back_82 : decode cX12_back 82 = .ok (.iaload, 1) := by decide +kernel
theorem dX12_back_83 : decode cX12_back 83 = .ok (.putfield 282, 3) := by decide +kernel
theorem dX12_back_86 : decode cX12_back 86 = .ok (.aload_n 0, 1) := by decide +kernel
theorem dX12_back_87 : decode cX12_back 87 = .ok (.aload_n 0, 1) := by decide +kernel
theorem dX12_back_88 : decode cX12_back 88 = .ok (.getfield 93, 3) := by decide +kernel
theorem dX12_back_91 : decode cX12_back 91 = .ok (.iconst 1, 1) := by decide +kernel
theorem dX12_back_92 : decode cX12_back 92 = .ok (.iaload, 1) := by decide +kernel
theorem dX12_back_93 : decode cX12_back 93 = .ok (.putfield 285, 3) := by decide +kernel
theorem dX12_back_96 : decode cX12_back 96 = .ok (.aload_n 0, 1) := by decide +kernel
theorem dX12_back_97 : decode cX12_back 97 = .ok (.aload_n 0, 1) := by decide +kernel
theorem dX12_back_98 : decode cX12_back 98 = .ok (.getfield 93, 3) := by decide +kernel
theorem dX12_back_101 : decode cX12_back 101 = .ok (.iconst 2, 1) := by decide +kernel
theorem dX12_back_102 : decode cX12_back 102 = .ok (.iaload, 1) := by decide +kernel
theorem dX12_back_103 : decode cX12_back 103 = .ok (.putfield 335, 3) := by decide +kernel
theorem dX12_back_106 : decode cX12_back 106 = .ok (.aload_n 0, 1) := by decide +kernel
theorem dX12_back_107 : decode cX12_back 107 = .ok (.getfield 114, 3) := by decide +kernel
theorem dX12_back_110 : decode cX12_back 110 = .ok (.ireturn, 1) := by decide +kernel
theorem dX12_over_0 : decode cX12_over 0 = .ok (.iload_n 0, 1) := by decide +kernel
theorem dX12_over_1 : decode cX12_over 1 = .ok (.tableswitch 57 0 7 #[47, 57, 57, 49, 57, 51, 53, 55], 47) := by decide +kernel
theorem dX12_over_48 : decode cX12_over 48 = .ok (.iconst (-1), 1) := by decide +kernel
theorem dX12_over_49 : decode cX12_over 49 = .ok (.ireturn, 1) := by decide +kernel
theorem dX12_over_50 : decode cX12_over 50 = .ok (.iconst 2, 1) := by decide +kernel
theorem dX12_over_51 : decode cX12_over 51 = .ok (.ireturn, 1) := by decide +kernel
theorem dX12_over_52 : decode cX12_over 52 = .ok (.iconst 1, 1) := by decide +kernel
theorem dX12_over_53 : decode cX12_over 53 = .ok (.ireturn, 1) := by decide +kernel
theorem dX12_over_54 : decode cX12_over 54 = .ok (.iconst 4, 1) := by decide +kernel
theorem dX12_over_55 : decode cX12_over 55 = .ok (.ireturn, 1) := by decide +kernel
theorem dX12_over_56 : decode cX12_over 56 = .ok (.iconst 3, 1) := by decide +kernel
theorem dX12_over_57 : decode cX12_over 57 = .ok (.ireturn, 1) := by decide +kernel
theorem dX12_over_58 : decode cX12_over 58 = .ok (.iconst 0, 1) := by decide +kernel
theorem dX12_over_59 : decode cX12_over 59 = .ok (.ireturn, 1) := by decide +kernel
theorem dX12_runs_0 : decode cX12_runs 0 = .ok (.aload_n 0, 1) := by decide +kernel
theorem dX12_runs_1 : decode cX12_runs 1 = .ok (.getfield 348, 3) := by decide +kernel
theorem dX12_runs_4 : decode cX12_runs 4 = .ok (.bipush 24, 2) := by decide +kernel
theorem dX12_runs_6 : decode cX12_runs 6 = .ok (.if_icmp .ge 13, 3) := by decide +kernel
theorem dX12_runs_9 : decode cX12_runs 9 = .ok (.aload_n 0, 1) := by decide +kernel
theorem dX12_runs_10 : decode cX12_runs 10 = .ok (.getfield 99, 3) := by decide +kernel
theorem dX12_runs_13 : decode cX12_runs 13 = .ok (.aload_n 0, 1) := by decide +kernel
theorem dX12_runs_14 : decode cX12_runs 14 = .ok (.getfield 348, 3) := by decide +kernel
theorem dX12_runs_17 : decode cX12_runs 17 = .ok (.iload_n 1, 1) := by decide +kernel
theorem dX12_runs_18 : decode cX12_runs 18 = .ok (.iastore, 1) := by decide +kernel
theorem dX12_runs_19 : decode cX12_runs 19 = .ok (.aload_n 0, 1) := by decide +kernel
theorem dX12_runs_20 : decode cX12_runs 20 = .ok (.dup, 1) := by decide +kernel
theorem dX12_runs_21 : decode cX12_runs 21 = .ok (.getfield 348, 3) := by decide +kernel
theorem dX12_runs_24 : decode cX12_runs 24 = .ok (.iconst 1, 1) := by decide +kernel
theorem dX12_runs_25 : decode cX12_runs 25 = .ok (.iadd, 1) := by decide +kernel
theorem dX12_runs_26 : decode cX12_runs 26 = .ok (.putfield 348, 3) := by decide +kernel
theorem dX12_runs_29 : decode cX12_runs 29 = .ok (.return_, 1) := by decide +kernel
set_option maxRecDepth 20000 in
theorem ggX12_paysIn_X12_runs : GoodIn wsX12_paysIn wsX12_runs := goodIn_r _ [6, 7, 8, 15, 16, 17, 18, 19, 20, 21, 22, 23, 24, 25, 26, 27, 28, 29, 30, 31, 32, 33, 34, 35, 36, 37, 38, 39, 40, 41, 42, 43, 44, 45, 46, 47, 48, 49, 50, 51, 52, 53, 54, 55, 56, 57, 58, 59, 60, 61, 62, 63, 64, 65, 66, 67, 68, 69, 70, 71] rfl (by decide +kernel)
set_option maxRecDepth 20000 in
theorem gX12_paysIn_X12_runs : GoodIn wsX12_paysIn (wsV RX12 351 RX12 yX12_runs wsX12_runs) := goodIn_app (goodIn_r _ [2, 3, 4, 5] rfl (by decide +kernel)) ggX12_paysIn_X12_runs
set_option maxRecDepth 20000 in
theorem ggX12_paysIn_X12_over : GoodIn wsX12_paysIn wsX12_over := goodIn_r _ [11] rfl (by decide +kernel)
set_option maxRecDepth 20000 in
theorem gX12_paysIn_X12_over : GoodIn wsX12_paysIn (va_wsS RX12 354 yX12_over wsX12_over) := goodIn_app (goodIn_r _ [9, 10, 5] rfl (by decide +kernel)) ggX12_paysIn_X12_over
set_option maxRecDepth 20000 in
theorem ggX12_paysIn_X12_paysIn : GoodIn wsX12_paysIn wsX12_paysIn := goodIn_r _ [0, 1, 2, 3, 4, 5, 6, 7, 8, 9, 10, 11, 12, 13, 14, 15, 16, 17, 18, 19, 20, 21, 22, 23, 24, 25, 26, 27, 28, 29, 30, 31, 32, 33, 34, 35, 36, 37, 38, 39, 40, 41, 42, 43, 44, 45, 46, 47, 48, 49, 50, 51, 52, 53, 54, 55, 56, 57, 58, 59, 60, 61, 62, 63, 64, 65, 66, 67, 68, 69, 70, 71] rfl (by decide +kernel)
set_option maxRecDepth 20000 in
theorem gX12_paysIn_X12_paysIn : GoodIn wsX12_paysIn (wsV RX12 357 RX12 yX12_paysIn wsX12_paysIn) := goodIn_app (goodIn_r _ [12, 13, 14, 5] rfl (by decide +kernel)) ggX12_paysIn_X12_paysIn
theorem dX12_paysIn_0 : decode cX12_paysIn 0 = .ok (.iload_n 1, 1) := by decide +kernel
theorem dX12_paysIn_1 : decode cX12_paysIn 1 = .ok (.iconst 1, 1) := by decide +kernel
theorem dX12_paysIn_2 : decode cX12_paysIn 2 = .ok (.if_icmp .ne 21, 3) := by decide +kernel
theorem dX12_paysIn_5 : decode cX12_paysIn 5 = .ok (.aload_n 0, 1) := by decide +kernel
theorem dX12_paysIn_6 : decode cX12_paysIn 6 = .ok (.bipush 20, 2) := by decide +kernel
theorem dX12_paysIn_8 : decode cX12_paysIn 8 = .ok (.invokevirtual 351, 3) := by decide +kernel
theorem dX12_paysIn_11 : decode cX12_paysIn 11 = .ok (.aload_n 0, 1) := by decide +kernel
theorem dX12_paysIn_12 : decode cX12_paysIn 12 = .ok (.iload_n 1, 1) := by decide +kernel
theorem dX12_paysIn_13 : decode cX12_paysIn 13 = .ok (.invokestatic 354, 3) := by decide +kernel
theorem dX12_paysIn_16 : decode cX12_paysIn 16 = .ok (.iload_n 2, 1) := by decide +kernel
theorem dX12_paysIn_17 : decode cX12_paysIn 17 = .ok (.invokevirtual 357, 3) := by decide +kernel
theorem dX12_paysIn_20 : decode cX12_paysIn 20 = .ok (.iconst 3, 1) := by decide +kernel
theorem dX12_paysIn_21 : decode cX12_paysIn 21 = .ok (.iadd, 1) := by decide +kernel
theorem dX12_paysIn_22 : decode cX12_paysIn 22 = .ok (.ireturn, 1) := by decide +kernel
theorem dX12_paysIn_23 : decode cX12_paysIn 23 = .ok (.iload_n 1, 1) := by decide +kernel
theorem dX12_paysIn_24 : decode cX12_paysIn 24 = .ok (.bipush 6, 2) := by decide +kernel
theorem dX12_paysIn_26 : decode cX12_paysIn 26 = .ok (.if_icmp .ne 21, 3) := by decide +kernel
theorem dX12_paysIn_29 : decode cX12_paysIn 29 = .ok (.aload_n 0, 1) := by decide +kernel
theorem dX12_paysIn_30 : decode cX12_paysIn 30 = .ok (.bipush 70, 2) := by decide +kernel
theorem dX12_paysIn_32 : decode cX12_paysIn 32 = .ok (.invokevirtual 351, 3) := by decide +kernel
theorem dX12_paysIn_35 : decode cX12_paysIn 35 = .ok (.aload_n 0, 1) := by decide +kernel
theorem dX12_paysIn_36 : decode cX12_paysIn 36 = .ok (.iload_n 1, 1) := by decide +kernel
theorem dX12_paysIn_37 : decode cX12_paysIn 37 = .ok (.invokestatic 354, 3) := by decide +kernel
theorem dX12_paysIn_40 : decode cX12_paysIn 40 = .ok (.iload_n 2, 1) := by decide +kernel
theorem dX12_paysIn_41 : decode cX12_paysIn 41 = .ok (.invokevirtual 357, 3) := by decide +kernel
theorem dX12_paysIn_44 : decode cX12_paysIn 44 = .ok (.iconst 2, 1) := by decide +kernel
theorem dX12_paysIn_45 : decode cX12_paysIn 45 = .ok (.imul, 1) := by decide +kernel
theorem dX12_paysIn_46 : decode cX12_paysIn 46 = .ok (.ireturn, 1) := by decide +kernel
theorem dX12_paysIn_47 : decode cX12_paysIn 47 = .ok (.iload_n 1, 1) := by decide +kernel
theorem dX12_paysIn_48 : decode cX12_paysIn 48 = .ok (.ifCond .le 13, 3) := by decide +kernel
theorem dX12_paysIn_51 : decode cX12_paysIn 51 = .ok (.aload_n 0, 1) := by decide +kernel
theorem dX12_paysIn_52 : decode cX12_paysIn 52 = .ok (.iload_n 1, 1) := by decide +kernel
theorem dX12_paysIn_53 : decode cX12_paysIn 53 = .ok (.invokestatic 354, 3) := by decide +kernel
theorem dX12_paysIn_56 : decode cX12_paysIn 56 = .ok (.iload_n 2, 1) := by decide +kernel
theorem dX12_paysIn_57 : decode cX12_paysIn 57 = .ok (.invokevirtual 357, 3) := by decide +kernel
theorem dX12_paysIn_60 : decode cX12_paysIn 60 = .ok (.ireturn, 1) := by decide +kernel
theorem dX12_paysIn_61 : decode cX12_paysIn 61 = .ok (.aload_n 0, 1) := by decide +kernel
theorem dX12_paysIn_62 : decode cX12_paysIn 62 = .ok (.iconst 1, 1) := by decide +kernel
theorem dX12_paysIn_63 : decode cX12_paysIn 63 = .ok (.invokevirtual 351, 3) := by decide +kernel
theorem dX12_paysIn_66 : decode cX12_paysIn 66 = .ok (.iload_n 2, 1) := by decide +kernel
theorem dX12_paysIn_67 : decode cX12_paysIn 67 = .ok (.aload_n 0, 1) := by decide +kernel
theorem dX12_paysIn_68 : decode cX12_paysIn 68 = .ok (.getfield 360, 3) := by decide +kernel
theorem dX12_paysIn_71 : decode cX12_paysIn 71 = .ok (.iadd, 1) := by decide +kernel
theorem dX12_paysIn_72 : decode cX12_paysIn 72 = .ok (.ireturn, 1) := by decide +kernel
set_option maxRecDepth 20000 in
theorem ggX12_changesIn_X12_runs : GoodIn wsX12_changesIn wsX12_runs := goodIn_r _ [7, 8, 9, 24, 25, 26, 27, 28, 29, 30, 31, 32, 33, 34, 35, 36, 37, 38, 39, 40, 41, 42, 43, 44, 45, 46, 47, 48, 49, 50, 51, 52, 53, 54, 55, 56, 57, 58, 59, 60, 61, 62, 63, 64, 65, 66, 67, 68, 69, 70, 71, 72, 73, 74, 75, 76, 77, 78, 79, 80] rfl (by decide +kernel)
set_option maxRecDepth 20000 in
theorem gX12_changesIn_X12_runs : GoodIn wsX12_changesIn (wsV RX12 351 RX12 yX12_runs wsX12_runs) := goodIn_app (goodIn_r _ [3, 4, 5, 6] rfl (by decide +kernel)) ggX12_changesIn_X12_runs
set_option maxRecDepth 20000 in
theorem ggX12_changesIn_X12_over : GoodIn wsX12_changesIn wsX12_over := goodIn_r _ [12] rfl (by decide +kernel)
set_option maxRecDepth 20000 in
theorem gX12_changesIn_X12_over : GoodIn wsX12_changesIn (va_wsS RX12 354 yX12_over wsX12_over) := goodIn_app (goodIn_r _ [10, 11, 6] rfl (by decide +kernel)) ggX12_changesIn_X12_over
set_option maxRecDepth 20000 in
theorem ggX12_changesIn_X12_changesIn : GoodIn wsX12_changesIn wsX12_changesIn := goodIn_r _ [0, 1, 2, 3, 4, 5, 6, 7, 8, 9, 10, 11, 12, 13, 14, 15, 16, 17, 18, 19, 20, 21, 22, 23, 24, 25, 26, 27, 28, 29, 30, 31, 32, 33, 34, 35, 36, 37, 38, 39, 40, 41, 42, 43, 44, 45, 46, 47, 48, 49, 50, 51, 52, 53, 54, 55, 56, 57, 58, 59, 60, 61, 62, 63, 64, 65, 66, 67, 68, 69, 70, 71, 72, 73, 74, 75, 76, 77, 78, 79, 80] rfl (by decide +kernel)
set_option maxRecDepth 20000 in
theorem gX12_changesIn_X12_changesIn : GoodIn wsX12_changesIn (wsV RX12 363 RX12 yX12_changesIn wsX12_changesIn) := goodIn_app (goodIn_r _ [13, 14, 15, 6] rfl (by decide +kernel)) ggX12_changesIn_X12_changesIn
set_option maxRecDepth 20000 in
theorem ggX12_changesIn_X12_swapsIn : GoodIn wsX12_changesIn wsX12_swapsIn := goodIn_r _ [19, 1, 2, 3, 4, 5, 6, 7, 8, 9, 10, 11, 12, 16, 17, 18, 20, 21, 22, 23, 24, 25, 26, 27, 28, 29, 30, 31, 32, 33, 34, 35, 36, 37, 38, 39, 40, 41, 42, 43, 44, 45, 46, 47, 48, 49, 50, 51, 52, 53, 54, 55, 56, 57, 58, 59, 60, 61, 62, 63, 64, 65, 66, 67, 68, 69, 70, 71, 72, 73, 74, 75, 76, 77, 78, 79, 80] rfl (by decide +kernel)
set_option maxRecDepth 20000 in
theorem gX12_changesIn_X12_swapsIn : GoodIn wsX12_changesIn (wsV RX12 366 RX12 yX12_swapsIn wsX12_swapsIn) := goodIn_app (goodIn_r _ [16, 17, 18, 6] rfl (by decide +kernel)) ggX12_changesIn_X12_swapsIn
set_option maxRecDepth 20000 in
theorem ggX12_changesIn_X12_paysIn : GoodIn wsX12_changesIn wsX12_paysIn := goodIn_r _ [23, 2, 3, 4, 5, 6, 7, 8, 9, 10, 11, 12, 20, 21, 22, 24, 25, 26, 27, 28, 29, 30, 31, 32, 33, 34, 35, 36, 37, 38, 39, 40, 41, 42, 43, 44, 45, 46, 47, 48, 49, 50, 51, 52, 53, 54, 55, 56, 57, 58, 59, 60, 61, 62, 63, 64, 65, 66, 67, 68, 69, 70, 71, 72, 73, 74, 75, 76, 77, 78, 79, 80] rfl (by decide +kernel)
set_option maxRecDepth 20000 in
theorem gX12_changesIn_X12_paysIn : GoodIn wsX12_changesIn (wsV RX12 357 RX12 yX12_paysIn wsX12_paysIn) := goodIn_app (goodIn_r _ [20, 21, 22, 6] rfl (by decide +kernel)) ggX12_changesIn_X12_paysIn
theorem dX12_changesIn_0 : decode cX12_changesIn 0 = .ok (.iload_n 1, 1) := by decide +kernel
theorem dX12_changesIn_1 : decode cX12_changesIn 1 = .ok (.iconst 2, 1) := by decide +kernel
theorem dX12_changesIn_2 : decode cX12_changesIn 2 = .ok (.if_icmp .ne 20, 3) := by decide +kernel
theorem dX12_changesIn_5 : decode cX12_changesIn 5 = .ok (.aload_n 0, 1) := by decide +kernel
theorem dX12_changesIn_6 : decode cX12_changesIn 6 = .ok (.bipush 30, 2) := by decide +kernel
theorem dX12_changesIn_8 : decode cX12_changesIn 8 = .ok (.invokevirtual 351, 3) := by decide +kernel
theorem dX12_changesIn_11 : decode cX12_changesIn 11 = .ok (.aload_n 0, 1) := by decide +kernel
theorem dX12_changesIn_12 : decode cX12_changesIn 12 = .ok (.iload_n 1, 1) := by decide +kernel
theorem dX12_changesIn_13 : decode cX12_changesIn 13 = .ok (.invokestatic 354, 3) := by decide +kernel
theorem dX12_changesIn_16 : decode cX12_changesIn 16 = .ok (.iload_n 2, 1) := by decide +kernel
theorem dX12_changesIn_17 : decode cX12_changesIn 17 = .ok (.invokevirtual 363, 3) := by decide +kernel
theorem dX12_changesIn_20 : decode cX12_changesIn 20 = .ok (.ineg, 1) := by decide +kernel
theorem dX12_changesIn_21 : decode cX12_changesIn 21 = .ok (.ireturn, 1) := by decide +kernel
theorem dX12_changesIn_22 : decode cX12_changesIn 22 = .ok (.iload_n 1, 1) := by decide +kernel
theorem dX12_changesIn_23 : decode cX12_changesIn 23 = .ok (.iconst 3, 1) := by decide +kernel
theorem dX12_changesIn_24 : decode cX12_changesIn 24 = .ok (.if_icmp .ne 21, 3) := by decide +kernel
theorem dX12_changesIn_27 : decode cX12_changesIn 27 = .ok (.aload_n 0, 1) := by decide +kernel
theorem dX12_changesIn_28 : decode cX12_changesIn 28 = .ok (.bipush 41, 2) := by decide +kernel
theorem dX12_changesIn_30 : decode cX12_changesIn 30 = .ok (.invokevirtual 351, 3) := by decide +kernel
theorem dX12_changesIn_33 : decode cX12_changesIn 33 = .ok (.aload_n 0, 1) := by decide +kernel
theorem dX12_changesIn_34 : decode cX12_changesIn 34 = .ok (.iload_n 1, 1) := by decide +kernel
theorem dX12_changesIn_35 : decode cX12_changesIn 35 = .ok (.invokestatic 354, 3) := by decide +kernel
theorem dX12_changesIn_38 : decode cX12_changesIn 38 = .ok (.iload_n 2, 1) := by decide +kernel
theorem dX12_changesIn_39 : decode cX12_changesIn 39 = .ok (.iconst 1, 1) := by decide +kernel
theorem dX12_changesIn_40 : decode cX12_changesIn 40 = .ok (.iadd, 1) := by decide +kernel
theorem dX12_changesIn_41 : decode cX12_changesIn 41 = .ok (.invokevirtual 363, 3) := by decide +kernel
theorem dX12_changesIn_44 : decode cX12_changesIn 44 = .ok (.ireturn, 1) := by decide +kernel
theorem dX12_changesIn_45 : decode cX12_changesIn 45 = .ok (.iload_n 1, 1) := by decide +kernel
theorem dX12_changesIn_46 : decode cX12_changesIn 46 = .ok (.bipush 7, 2) := by decide +kernel
theorem dX12_changesIn_48 : decode cX12_changesIn 48 = .ok (.if_icmp .ne 36, 3) := by decide +kernel
theorem dX12_changesIn_51 : decode cX12_changesIn 51 = .ok (.aload_n 0, 1) := by decide +kernel
theorem dX12_changesIn_52 : decode cX12_changesIn 52 = .ok (.bipush 80, 2) := by decide +kernel
theorem dX12_changesIn_54 : decode cX12_changesIn 54 = .ok (.invokevirtual 351, 3) := by decide +kernel
theorem dX12_changesIn_57 : decode cX12_changesIn 57 = .ok (.aload_n 0, 1) := by decide +kernel
theorem dX12_changesIn_58 : decode cX12_changesIn 58 = .ok (.iload_n 1, 1) := by decide +kernel
theorem dX12_changesIn_59 : decode cX12_changesIn 59 = .ok (.invokestatic 354, 3) := by decide +kernel
theorem dX12_changesIn_62 : decode cX12_changesIn 62 = .ok (.iload_n 2, 1) := by decide +kernel
theorem dX12_changesIn_63 : decode cX12_changesIn 63 = .ok (.invokevirtual 363, 3) := by decide +kernel
theorem dX12_changesIn_66 : decode cX12_changesIn 66 = .ok (.istore_n 3, 1) := by decide +kernel
theorem dX12_changesIn_67 : decode cX12_changesIn 67 = .ok (.iload_n 3, 1) := by decide +kernel
theorem dX12_changesIn_68 : decode cX12_changesIn 68 = .ok (.aload_n 0, 1) := by decide +kernel
theorem dX12_changesIn_69 : decode cX12_changesIn 69 = .ok (.aload_n 0, 1) := by decide +kernel
theorem dX12_changesIn_70 : decode cX12_changesIn 70 = .ok (.getfield 96, 3) := by decide +kernel
theorem dX12_changesIn_73 : decode cX12_changesIn 73 = .ok (.aload_n 0, 1) := by decide +kernel
theorem dX12_changesIn_74 : decode cX12_changesIn 74 = .ok (.getfield 360, 3) := by decide +kernel
theorem dX12_changesIn_77 : decode cX12_changesIn 77 = .ok (.iaload, 1) := by decide +kernel
theorem dX12_changesIn_78 : decode cX12_changesIn 78 = .ok (.iconst 2, 1) := by decide +kernel
theorem dX12_changesIn_79 : decode cX12_changesIn 79 = .ok (.invokevirtual 366, 3) := by decide +kernel
theorem dX12_changesIn_82 : decode cX12_changesIn 82 = .ok (.iadd, 1) := by decide +kernel
theorem dX12_changesIn_83 : decode cX12_changesIn 83 = .ok (.ireturn, 1) := by decide +kernel
theorem dX12_changesIn_84 : decode cX12_changesIn 84 = .ok (.iload_n 1, 1) := by decide +kernel
theorem dX12_changesIn_85 : decode cX12_changesIn 85 = .ok (.ifCond .le 13, 3) := by decide +kernel
theorem dX12_changesIn_88 : decode cX12_changesIn 88 = .ok (.aload_n 0, 1) := by decide +kernel
theorem dX12_changesIn_89 : decode cX12_changesIn 89 = .ok (.iload_n 1, 1) := by decide +kernel
theorem dX12_changesIn_90 : decode cX12_changesIn 90 = .ok (.invokestatic 354, 3) := by decide +kernel
theorem dX12_changesIn_93 : decode cX12_changesIn 93 = .ok (.iload_n 2, 1) := by decide +kernel
theorem dX12_changesIn_94 : decode cX12_changesIn 94 = .ok (.invokevirtual 363, 3) := by decide +kernel
theorem dX12_changesIn_97 : decode cX12_changesIn 97 = .ok (.ireturn, 1) := by decide +kernel
theorem dX12_changesIn_98 : decode cX12_changesIn 98 = .ok (.aload_n 0, 1) := by decide +kernel
theorem dX12_changesIn_99 : decode cX12_changesIn 99 = .ok (.bipush 10, 2) := by decide +kernel
theorem dX12_changesIn_101 : decode cX12_changesIn 101 = .ok (.invokevirtual 351, 3) := by decide +kernel
theorem dX12_changesIn_104 : decode cX12_changesIn 104 = .ok (.aload_n 0, 1) := by decide +kernel
theorem dX12_changesIn_105 : decode cX12_changesIn 105 = .ok (.aload_n 0, 1) := by decide +kernel
theorem dX12_changesIn_106 : decode cX12_changesIn 106 = .ok (.getfield 96, 3) := by decide +kernel
theorem dX12_changesIn_109 : decode cX12_changesIn 109 = .ok (.aload_n 0, 1) := by decide +kernel
theorem dX12_changesIn_110 : decode cX12_changesIn 110 = .ok (.getfield 360, 3) := by decide +kernel
theorem dX12_changesIn_113 : decode cX12_changesIn 113 = .ok (.iaload, 1) := by decide +kernel
theorem dX12_changesIn_114 : decode cX12_changesIn 114 = .ok (.iload_n 2, 1) := by decide +kernel
theorem dX12_changesIn_115 : decode cX12_changesIn 115 = .ok (.invokevirtual 357, 3) := by decide +kernel
theorem dX12_changesIn_118 : decode cX12_changesIn 118 = .ok (.iconst 2, 1) := by decide +kernel
theorem dX12_changesIn_119 : decode cX12_changesIn 119 = .ok (.imul, 1) := by decide +kernel
theorem dX12_changesIn_120 : decode cX12_changesIn 120 = .ok (.ireturn, 1) := by decide +kernel
set_option maxRecDepth 20000 in
theorem ggX12_swapsIn_X12_runs : GoodIn wsX12_swapsIn wsX12_runs := goodIn_r _ [7, 8, 9, 20, 21, 22, 23, 24, 25, 26, 27, 28, 29, 30, 31, 32, 33, 34, 35, 36, 37, 38, 39, 40, 41, 42, 43, 44, 45, 46, 47, 48, 49, 50, 51, 52, 53, 54, 55, 56, 57, 58, 59, 60, 61, 62, 63, 64, 65, 66, 67, 68, 69, 70, 71, 72, 73, 74, 75, 76] rfl (by decide +kernel)
set_option maxRecDepth 20000 in
theorem gX12_swapsIn_X12_runs : GoodIn wsX12_swapsIn (wsV RX12 351 RX12 yX12_runs wsX12_runs) := goodIn_app (goodIn_r _ [3, 4, 5, 6] rfl (by decide +kernel)) ggX12_swapsIn_X12_runs
set_option maxRecDepth 20000 in
theorem ggX12_swapsIn_X12_over : GoodIn wsX12_swapsIn wsX12_over := goodIn_r _ [12] rfl (by decide +kernel)
set_option maxRecDepth 20000 in
theorem gX12_swapsIn_X12_over : GoodIn wsX12_swapsIn (va_wsS RX12 354 yX12_over wsX12_over) := goodIn_app (goodIn_r _ [10, 11, 6] rfl (by decide +kernel)) ggX12_swapsIn_X12_over
set_option maxRecDepth 20000 in
theorem ggX12_swapsIn_X12_swapsIn : GoodIn wsX12_swapsIn wsX12_swapsIn := goodIn_r _ [0, 1, 2, 3, 4, 5, 6, 7, 8, 9, 10, 11, 12, 13, 14, 15, 16, 17, 18, 19, 20, 21, 22, 23, 24, 25, 26, 27, 28, 29, 30, 31, 32, 33, 34, 35, 36, 37, 38, 39, 40, 41, 42, 43, 44, 45, 46, 47, 48, 49, 50, 51, 52, 53, 54, 55, 56, 57, 58, 59, 60, 61, 62, 63, 64, 65, 66, 67, 68, 69, 70, 71, 72, 73, 74, 75, 76] rfl (by decide +kernel)
set_option maxRecDepth 20000 in
theorem gX12_swapsIn_X12_swapsIn : GoodIn wsX12_swapsIn (wsV RX12 366 RX12 yX12_swapsIn wsX12_swapsIn) := goodIn_app (goodIn_r _ [13, 14, 15, 6] rfl (by decide +kernel)) ggX12_swapsIn_X12_swapsIn
set_option maxRecDepth 20000 in
theorem ggX12_swapsIn_X12_paysIn : GoodIn wsX12_swapsIn wsX12_paysIn := goodIn_r _ [19, 2, 3, 4, 5, 6, 7, 8, 9, 10, 11, 12, 16, 17, 18, 20, 21, 22, 23, 24, 25, 26, 27, 28, 29, 30, 31, 32, 33, 34, 35, 36, 37, 38, 39, 40, 41, 42, 43, 44, 45, 46, 47, 48, 49, 50, 51, 52, 53, 54, 55, 56, 57, 58, 59, 60, 61, 62, 63, 64, 65, 66, 67, 68, 69, 70, 71, 72, 73, 74, 75, 76] rfl (by decide +kernel)
set_option maxRecDepth 20000 in
theorem gX12_swapsIn_X12_paysIn : GoodIn wsX12_swapsIn (wsV RX12 357 RX12 yX12_paysIn wsX12_paysIn) := goodIn_app (goodIn_r _ [16, 17, 18, 6] rfl (by decide +kernel)) ggX12_swapsIn_X12_paysIn
theorem dX12_swapsIn_0 : decode cX12_swapsIn 0 = .ok (.iload_n 1, 1) := by decide +kernel
theorem dX12_swapsIn_1 : decode cX12_swapsIn 1 = .ok (.iconst 3, 1) := by decide +kernel
theorem dX12_swapsIn_2 : decode cX12_swapsIn 2 = .ok (.if_icmp .ne 21, 3) := by decide +kernel
theorem dX12_swapsIn_5 : decode cX12_swapsIn 5 = .ok (.aload_n 0, 1) := by decide +kernel
theorem dX12_swapsIn_6 : decode cX12_swapsIn 6 = .ok (.bipush 40, 2) := by decide +kernel
theorem dX12_swapsIn_8 : decode cX12_swapsIn 8 = .ok (.invokevirtual 351, 3) := by decide +kernel
theorem dX12_swapsIn_11 : decode cX12_swapsIn 11 = .ok (.aload_n 0, 1) := by decide +kernel
theorem dX12_swapsIn_12 : decode cX12_swapsIn 12 = .ok (.iload_n 1, 1) := by decide +kernel
theorem dX12_swapsIn_13 : decode cX12_swapsIn 13 = .ok (.invokestatic 354, 3) := by decide +kernel
theorem dX12_swapsIn_16 : decode cX12_swapsIn 16 = .ok (.iload_n 2, 1) := by decide +kernel
theorem dX12_swapsIn_17 : decode cX12_swapsIn 17 = .ok (.invokevirtual 366, 3) := by decide +kernel
theorem dX12_swapsIn_20 : decode cX12_swapsIn 20 = .ok (.iconst 3, 1) := by decide +kernel
theorem dX12_swapsIn_21 : decode cX12_swapsIn 21 = .ok (.imul, 1) := by decide +kernel
theorem dX12_swapsIn_22 : decode cX12_swapsIn 22 = .ok (.ireturn, 1) := by decide +kernel
theorem dX12_swapsIn_23 : decode cX12_swapsIn 23 = .ok (.iload_n 1, 1) := by decide +kernel
theorem dX12_swapsIn_24 : decode cX12_swapsIn 24 = .ok (.iconst 4, 1) := by decide +kernel
theorem dX12_swapsIn_25 : decode cX12_swapsIn 25 = .ok (.if_icmp .ne 36, 3) := by decide +kernel
theorem dX12_swapsIn_28 : decode cX12_swapsIn 28 = .ok (.aload_n 0, 1) := by decide +kernel
theorem dX12_swapsIn_29 : decode cX12_swapsIn 29 = .ok (.bipush 50, 2) := by decide +kernel
theorem dX12_swapsIn_31 : decode cX12_swapsIn 31 = .ok (.invokevirtual 351, 3) := by decide +kernel
theorem dX12_swapsIn_34 : decode cX12_swapsIn 34 = .ok (.aload_n 0, 1) := by decide +kernel
theorem dX12_swapsIn_35 : decode cX12_swapsIn 35 = .ok (.iload_n 1, 1) := by decide +kernel
theorem dX12_swapsIn_36 : decode cX12_swapsIn 36 = .ok (.invokestatic 354, 3) := by decide +kernel
theorem dX12_swapsIn_39 : decode cX12_swapsIn 39 = .ok (.iload_n 2, 1) := by decide +kernel
theorem dX12_swapsIn_40 : decode cX12_swapsIn 40 = .ok (.invokevirtual 366, 3) := by decide +kernel
theorem dX12_swapsIn_43 : decode cX12_swapsIn 43 = .ok (.istore_n 3, 1) := by decide +kernel
theorem dX12_swapsIn_44 : decode cX12_swapsIn 44 = .ok (.iload_n 3, 1) := by decide +kernel
theorem dX12_swapsIn_45 : decode cX12_swapsIn 45 = .ok (.aload_n 0, 1) := by decide +kernel
theorem dX12_swapsIn_46 : decode cX12_swapsIn 46 = .ok (.aload_n 0, 1) := by decide +kernel
theorem dX12_swapsIn_47 : decode cX12_swapsIn 47 = .ok (.getfield 96, 3) := by decide +kernel
theorem dX12_swapsIn_50 : decode cX12_swapsIn 50 = .ok (.aload_n 0, 1) := by decide +kernel
theorem dX12_swapsIn_51 : decode cX12_swapsIn 51 = .ok (.getfield 360, 3) := by decide +kernel
theorem dX12_swapsIn_54 : decode cX12_swapsIn 54 = .ok (.iaload, 1) := by decide +kernel
theorem dX12_swapsIn_55 : decode cX12_swapsIn 55 = .ok (.iconst 2, 1) := by decide +kernel
theorem dX12_swapsIn_56 : decode cX12_swapsIn 56 = .ok (.invokevirtual 357, 3) := by decide +kernel
theorem dX12_swapsIn_59 : decode cX12_swapsIn 59 = .ok (.isub, 1) := by decide +kernel
theorem dX12_swapsIn_60 : decode cX12_swapsIn 60 = .ok (.ireturn, 1) := by decide +kernel
theorem dX12_swapsIn_61 : decode cX12_swapsIn 61 = .ok (.iload_n 1, 1) := by decide +kernel
theorem dX12_swapsIn_62 : decode cX12_swapsIn 62 = .ok (.ifCond .le 13, 3) := by decide +kernel
theorem dX12_swapsIn_65 : decode cX12_swapsIn 65 = .ok (.aload_n 0, 1) := by decide +kernel
theorem dX12_swapsIn_66 : decode cX12_swapsIn 66 = .ok (.iload_n 1, 1) := by decide +kernel
theorem dX12_swapsIn_67 : decode cX12_swapsIn 67 = .ok (.invokestatic 354, 3) := by decide +kernel
theorem dX12_swapsIn_70 : decode cX12_swapsIn 70 = .ok (.iload_n 2, 1) := by decide +kernel
theorem dX12_swapsIn_71 : decode cX12_swapsIn 71 = .ok (.invokevirtual 366, 3) := by decide +kernel
theorem dX12_swapsIn_74 : decode cX12_swapsIn 74 = .ok (.ireturn, 1) := by decide +kernel
theorem dX12_swapsIn_75 : decode cX12_swapsIn 75 = .ok (.aload_n 0, 1) := by decide +kernel
theorem dX12_swapsIn_76 : decode cX12_swapsIn 76 = .ok (.bipush 11, 2) := by decide +kernel
theorem dX12_swapsIn_78 : decode cX12_swapsIn 78 = .ok (.invokevirtual 351, 3) := by decide +kernel
theorem dX12_swapsIn_81 : decode cX12_swapsIn 81 = .ok (.iload_n 2, 1) := by decide +kernel
theorem dX12_swapsIn_82 : decode cX12_swapsIn 82 = .ok (.aload_n 0, 1) := by decide +kernel
theorem dX12_swapsIn_83 : decode cX12_swapsIn 83 = .ok (.getfield 360, 3) := by decide +kernel
theorem dX12_swapsIn_86 : decode cX12_swapsIn 86 = .ok (.ixor, 1) := by decide +kernel
theorem dX12_swapsIn_87 : decode cX12_swapsIn 87 = .ok (.ireturn, 1) := by decide +kernel
set_option maxRecDepth 20000 in
theorem ggX12_tellsIn_X12_runs : GoodIn wsX12_tellsIn wsX12_runs := goodIn_r _ [7, 8, 9, 28, 29, 30, 31, 32, 33, 34, 35, 36, 37, 38, 39, 40, 41, 42, 43, 44, 45, 46, 47, 48, 49, 50, 51, 52, 53, 54, 55, 56, 57, 58, 59, 60, 61, 62, 63, 64, 65, 66, 67, 68, 69, 70, 71, 72, 73, 74, 75, 76, 77, 78, 79, 80, 81, 82, 83, 84] rfl (by decide +kernel)
set_option maxRecDepth 20000 in
theorem gX12_tellsIn_X12_runs : GoodIn wsX12_tellsIn (wsV RX12 351 RX12 yX12_runs wsX12_runs) := goodIn_app (goodIn_r _ [3, 4, 5, 6] rfl (by decide +kernel)) ggX12_tellsIn_X12_runs
set_option maxRecDepth 20000 in
theorem ggX12_tellsIn_X12_over : GoodIn wsX12_tellsIn wsX12_over := goodIn_r _ [12] rfl (by decide +kernel)
set_option maxRecDepth 20000 in
theorem gX12_tellsIn_X12_over : GoodIn wsX12_tellsIn (va_wsS RX12 354 yX12_over wsX12_over) := goodIn_app (goodIn_r _ [10, 11, 6] rfl (by decide +kernel)) ggX12_tellsIn_X12_over
set_option maxRecDepth 20000 in
theorem ggX12_tellsIn_X12_tellsIn : GoodIn wsX12_tellsIn wsX12_tellsIn := goodIn_r _ [0, 1, 2, 3, 4, 5, 6, 7, 8, 9, 10, 11, 12, 13, 14, 15, 16, 17, 18, 19, 20, 21, 22, 23, 24, 25, 26, 27, 28, 29, 30, 31, 32, 33, 34, 35, 36, 37, 38, 39, 40, 41, 42, 43, 44, 45, 46, 47, 48, 49, 50, 51, 52, 53, 54, 55, 56, 57, 58, 59, 60, 61, 62, 63, 64, 65, 66, 67, 68, 69, 70, 71, 72, 73, 74, 75, 76, 77, 78, 79, 80, 81, 82, 83, 84] rfl (by decide +kernel)
set_option maxRecDepth 20000 in
theorem gX12_tellsIn_X12_tellsIn : GoodIn wsX12_tellsIn (wsV RX12 369 RX12 yX12_tellsIn wsX12_tellsIn) := goodIn_app (goodIn_r _ [13, 14, 15, 6] rfl (by decide +kernel)) ggX12_tellsIn_X12_tellsIn
set_option maxRecDepth 20000 in
theorem ggX12_tellsIn_X12_changesIn : GoodIn wsX12_tellsIn wsX12_changesIn := goodIn_r _ [19, 1, 2, 3, 4, 5, 6, 7, 8, 9, 10, 11, 12, 16, 17, 18, 20, 21, 22, 23, 24, 25, 26, 27, 28, 29, 30, 31, 32, 33, 34, 35, 36, 37, 38, 39, 40, 41, 42, 43, 44, 45, 46, 47, 48, 49, 50, 51, 52, 53, 54, 55, 56, 57, 58, 59, 60, 61, 62, 63, 64, 65, 66, 67, 68, 69, 70, 71, 72, 73, 74, 75, 76, 77, 78, 79, 80, 81, 82, 83, 84] rfl (by decide +kernel)
set_option maxRecDepth 20000 in
theorem gX12_tellsIn_X12_changesIn : GoodIn wsX12_tellsIn (wsV RX12 363 RX12 yX12_changesIn wsX12_changesIn) := goodIn_app (goodIn_r _ [16, 17, 18, 6] rfl (by decide +kernel)) ggX12_tellsIn_X12_changesIn
set_option maxRecDepth 20000 in
theorem ggX12_tellsIn_X12_swapsIn : GoodIn wsX12_tellsIn wsX12_swapsIn := goodIn_r _ [23, 1, 2, 3, 4, 5, 6, 7, 8, 9, 10, 11, 12, 20, 21, 22, 24, 25, 26, 27, 28, 29, 30, 31, 32, 33, 34, 35, 36, 37, 38, 39, 40, 41, 42, 43, 44, 45, 46, 47, 48, 49, 50, 51, 52, 53, 54, 55, 56, 57, 58, 59, 60, 61, 62, 63, 64, 65, 66, 67, 68, 69, 70, 71, 72, 73, 74, 75, 76, 77, 78, 79, 80, 81, 82, 83, 84] rfl (by decide +kernel)
set_option maxRecDepth 20000 in
theorem gX12_tellsIn_X12_swapsIn : GoodIn wsX12_tellsIn (wsV RX12 366 RX12 yX12_swapsIn wsX12_swapsIn) := goodIn_app (goodIn_r _ [20, 21, 22, 6] rfl (by decide +kernel)) ggX12_tellsIn_X12_swapsIn
theorem dX12_tellsIn_0 : decode cX12_tellsIn 0 = .ok (.iload_n 1, 1) := by decide +kernel
theorem dX12_tellsIn_1 : decode cX12_tellsIn 1 = .ok (.iconst 5, 1) := by decide +kernel
theorem dX12_tellsIn_2 : decode cX12_tellsIn 2 = .ok (.if_icmp .ne 21, 3) := by decide +kernel
theorem dX12_tellsIn_5 : decode cX12_tellsIn 5 = .ok (.aload_n 0, 1) := by decide +kernel
theorem dX12_tellsIn_6 : decode cX12_tellsIn 6 = .ok (.bipush 60, 2) := by decide +kernel
theorem dX12_tellsIn_8 : decode cX12_tellsIn 8 = .ok (.invokevirtual 351, 3) := by decide +kernel
theorem dX12_tellsIn_11 : decode cX12_tellsIn 11 = .ok (.aload_n 0, 1) := by decide +kernel
theorem dX12_tellsIn_12 : decode cX12_tellsIn 12 = .ok (.iload_n 1, 1) := by decide +kernel
theorem dX12_tellsIn_13 : decode cX12_tellsIn 13 = .ok (.invokestatic 354, 3) := by decide +kernel
theorem dX12_tellsIn_16 : decode cX12_tellsIn 16 = .ok (.iload_n 2, 1) := by decide +kernel
theorem dX12_tellsIn_17 : decode cX12_tellsIn 17 = .ok (.invokevirtual 369, 3) := by decide +kernel
theorem dX12_tellsIn_20 : decode cX12_tellsIn 20 = .ok (.iconst 5, 1) := by decide +kernel
theorem dX12_tellsIn_21 : decode cX12_tellsIn 21 = .ok (.ixor, 1) := by decide +kernel
theorem dX12_tellsIn_22 : decode cX12_tellsIn 22 = .ok (.ireturn, 1) := by decide +kernel
theorem dX12_tellsIn_23 : decode cX12_tellsIn 23 = .ok (.iload_n 1, 1) := by decide +kernel
theorem dX12_tellsIn_24 : decode cX12_tellsIn 24 = .ok (.bipush 7, 2) := by decide +kernel
theorem dX12_tellsIn_26 : decode cX12_tellsIn 26 = .ok (.if_icmp .ne 21, 3) := by decide +kernel
theorem dX12_tellsIn_29 : decode cX12_tellsIn 29 = .ok (.aload_n 0, 1) := by decide +kernel
theorem dX12_tellsIn_30 : decode cX12_tellsIn 30 = .ok (.bipush 81, 2) := by decide +kernel
theorem dX12_tellsIn_32 : decode cX12_tellsIn 32 = .ok (.invokevirtual 351, 3) := by decide +kernel
theorem dX12_tellsIn_35 : decode cX12_tellsIn 35 = .ok (.aload_n 0, 1) := by decide +kernel
theorem dX12_tellsIn_36 : decode cX12_tellsIn 36 = .ok (.iload_n 1, 1) := by decide +kernel
theorem dX12_tellsIn_37 : decode cX12_tellsIn 37 = .ok (.invokestatic 354, 3) := by decide +kernel
theorem dX12_tellsIn_40 : decode cX12_tellsIn 40 = .ok (.iload_n 2, 1) := by decide +kernel
theorem dX12_tellsIn_41 : decode cX12_tellsIn 41 = .ok (.invokevirtual 369, 3) := by decide +kernel
theorem dX12_tellsIn_44 : decode cX12_tellsIn 44 = .ok (.iconst 1, 1) := by decide +kernel
theorem dX12_tellsIn_45 : decode cX12_tellsIn 45 = .ok (.isub, 1) := by decide +kernel
theorem dX12_tellsIn_46 : decode cX12_tellsIn 46 = .ok (.ireturn, 1) := by decide +kernel
theorem dX12_tellsIn_47 : decode cX12_tellsIn 47 = .ok (.iload_n 1, 1) := by decide +kernel
theorem dX12_tellsIn_48 : decode cX12_tellsIn 48 = .ok (.ifCond .le 13, 3) := by decide +kernel
theorem dX12_tellsIn_51 : decode cX12_tellsIn 51 = .ok (.aload_n 0, 1) := by decide +kernel
theorem dX12_tellsIn_52 : decode cX12_tellsIn 52 = .ok (.iload_n 1, 1) := by decide +kernel
theorem dX12_tellsIn_53 : decode cX12_tellsIn 53 = .ok (.invokestatic 354, 3) := by decide +kernel
theorem dX12_tellsIn_56 : decode cX12_tellsIn 56 = .ok (.iload_n 2, 1) := by decide +kernel
theorem dX12_tellsIn_57 : decode cX12_tellsIn 57 = .ok (.invokevirtual 369, 3) := by decide +kernel
theorem dX12_tellsIn_60 : decode cX12_tellsIn 60 = .ok (.ireturn, 1) := by decide +kernel
theorem dX12_tellsIn_61 : decode cX12_tellsIn 61 = .ok (.aload_n 0, 1) := by decide +kernel
theorem dX12_tellsIn_62 : decode cX12_tellsIn 62 = .ok (.iconst 2, 1) := by decide +kernel
theorem dX12_tellsIn_63 : decode cX12_tellsIn 63 = .ok (.invokevirtual 351, 3) := by decide +kernel
theorem dX12_tellsIn_66 : decode cX12_tellsIn 66 = .ok (.aload_n 0, 1) := by decide +kernel
theorem dX12_tellsIn_67 : decode cX12_tellsIn 67 = .ok (.aload_n 0, 1) := by decide +kernel
theorem dX12_tellsIn_68 : decode cX12_tellsIn 68 = .ok (.getfield 96, 3) := by decide +kernel
theorem dX12_tellsIn_71 : decode cX12_tellsIn 71 = .ok (.aload_n 0, 1) := by decide +kernel
theorem dX12_tellsIn_72 : decode cX12_tellsIn 72 = .ok (.getfield 360, 3) := by decide +kernel
theorem dX12_tellsIn_75 : decode cX12_tellsIn 75 = .ok (.iaload, 1) := by decide +kernel
theorem dX12_tellsIn_76 : decode cX12_tellsIn 76 = .ok (.iload_n 2, 1) := by decide +kernel
theorem dX12_tellsIn_77 : decode cX12_tellsIn 77 = .ok (.invokevirtual 363, 3) := by decide +kernel
theorem dX12_tellsIn_80 : decode cX12_tellsIn 80 = .ok (.istore_n 3, 1) := by decide +kernel
theorem dX12_tellsIn_81 : decode cX12_tellsIn 81 = .ok (.iload_n 3, 1) := by decide +kernel
theorem dX12_tellsIn_82 : decode cX12_tellsIn 82 = .ok (.aload_n 0, 1) := by decide +kernel
theorem dX12_tellsIn_83 : decode cX12_tellsIn 83 = .ok (.aload_n 0, 1) := by decide +kernel
theorem dX12_tellsIn_84 : decode cX12_tellsIn 84 = .ok (.getfield 96, 3) := by decide +kernel
theorem dX12_tellsIn_87 : decode cX12_tellsIn 87 = .ok (.aload_n 0, 1) := by decide +kernel
theorem dX12_tellsIn_88 : decode cX12_tellsIn 88 = .ok (.getfield 360, 3) := by decide +kernel
theorem dX12_tellsIn_91 : decode cX12_tellsIn 91 = .ok (.iaload, 1) := by decide +kernel
theorem dX12_tellsIn_92 : decode cX12_tellsIn 92 = .ok (.iconst 1, 1) := by decide +kernel
theorem dX12_tellsIn_93 : decode cX12_tellsIn 93 = .ok (.invokevirtual 366, 3) := by decide +kernel
theorem dX12_tellsIn_96 : decode cX12_tellsIn 96 = .ok (.isub, 1) := by decide +kernel
theorem dX12_tellsIn_97 : decode cX12_tellsIn 97 = .ok (.ireturn, 1) := by decide +kernel
set_option maxRecDepth 20000 in
theorem ggX12_body_X12_in : GoodIn wsX12_body wsX12_in := goodIn_r _ [6] rfl (by decide +kernel)
set_option maxRecDepth 20000 in
theorem gX12_body_X12_in : GoodIn wsX12_body (va_wsS RX12 118 yX12_in wsX12_in) := goodIn_app (goodIn_r _ [3, 4, 5] rfl (by decide +kernel)) ggX12_body_X12_in
theorem dX12_body_0 : decode cX12_body 0 = .ok (.iload_n 1, 1) := by decide +kernel
theorem dX12_body_1 : decode cX12_body 1 = .ok (.iconst 0, 1) := by decide +kernel
theorem dX12_body_2 : decode cX12_body 2 = .ok (.bipush 7, 2) := by decide +kernel
theorem dX12_body_4 : decode cX12_body 4 = .ok (.invokestatic 118, 3) := by decide +kernel
theorem dX12_body_7 : decode cX12_body 7 = .ok (.ifCond .ne 5, 3) := by decide +kernel
theorem dX12_body_10 : decode cX12_body 10 = .ok (.iconst (-1), 1) := by decide +kernel
theorem dX12_body_11 : decode cX12_body 11 = .ok (.ireturn, 1) := by decide +kernel
theorem dX12_body_12 : decode cX12_body 12 = .ok (.aload_n 0, 1) := by decide +kernel
theorem dX12_body_13 : decode cX12_body 13 = .ok (.getfield 372, 3) := by decide +kernel
theorem dX12_body_16 : decode cX12_body 16 = .ok (.bipush 50, 2) := by decide +kernel
theorem dX12_body_18 : decode cX12_body 18 = .ok (.if_icmp .ne 6, 3) := by decide +kernel
theorem dX12_body_21 : decode cX12_body 21 = .ok (.bipush (-3), 2) := by decide +kernel
theorem dX12_body_23 : decode cX12_body 23 = .ok (.ireturn, 1) := by decide +kernel
theorem dX12_body_24 : decode cX12_body 24 = .ok (.aload_n 0, 1) := by decide +kernel
theorem dX12_body_25 : decode cX12_body 25 = .ok (.getfield 96, 3) := by decide +kernel
theorem dX12_body_28 : decode cX12_body 28 = .ok (.aload_n 0, 1) := by decide +kernel
theorem dX12_body_29 : decode cX12_body 29 = .ok (.getfield 372, 3) := by decide +kernel
theorem dX12_body_32 : decode cX12_body 32 = .ok (.iload_n 1, 1) := by decide +kernel
theorem dX12_body_33 : decode cX12_body 33 = .ok (.iastore, 1) := by decide +kernel
theorem dX12_body_34 : decode cX12_body 34 = .ok (.aload_n 0, 1) := by decide +kernel
theorem dX12_body_35 : decode cX12_body 35 = .ok (.dup, 1) := by decide +kernel
theorem dX12_body_36 : decode cX12_body 36 = .ok (.getfield 372, 3) := by decide +kernel
theorem dX12_body_39 : decode cX12_body 39 = .ok (.iconst 1, 1) := by decide +kernel
theorem dX12_body_40 : decode cX12_body 40 = .ok (.iadd, 1) := by decide +kernel
theorem dX12_body_41 : decode cX12_body 41 = .ok (.putfield 372, 3) := by decide +kernel
theorem dX12_body_44 : decode cX12_body 44 = .ok (.aload_n 0, 1) := by decide +kernel
theorem dX12_body_45 : decode cX12_body 45 = .ok (.getfield 372, 3) := by decide +kernel
theorem dX12_body_48 : decode cX12_body 48 = .ok (.iconst 1, 1) := by decide +kernel
theorem dX12_body_49 : decode cX12_body 49 = .ok (.isub, 1) := by decide +kernel
theorem dX12_body_50 : decode cX12_body 50 = .ok (.ireturn, 1) := by decide +kernel
set_option maxRecDepth 20000 in
theorem ggX12_act_X12_in : GoodIn wsX12_act wsX12_in := goodIn_r _ [8] rfl (by decide +kernel)
set_option maxRecDepth 20000 in
theorem gX12_act_X12_in : GoodIn wsX12_act (va_wsS RX12 118 yX12_in wsX12_in) := goodIn_app (goodIn_r _ [5, 6, 7] rfl (by decide +kernel)) ggX12_act_X12_in
set_option maxRecDepth 20000 in
theorem ggX12_act_X12_paysIn : GoodIn wsX12_act wsX12_paysIn := goodIn_r _ [12, 3, 13, 14, 15, 7, 16, 1, 17, 18, 19, 20, 9, 10, 11, 33, 34, 35, 36, 37, 38, 39, 40, 41, 42, 43, 44, 45, 46, 47, 48, 49, 50, 51, 52, 53, 54, 55, 56, 57, 58, 59, 60, 61, 62, 63, 64, 65, 66, 67, 68, 69, 70, 71, 72, 73, 74, 75, 76, 77, 78, 79, 80, 81, 82, 83, 84, 85, 86, 87, 88, 89] rfl (by decide +kernel)
set_option maxRecDepth 20000 in
theorem gX12_act_X12_paysIn : GoodIn wsX12_act (wsV RX12 357 RX12 yX12_paysIn wsX12_paysIn) := goodIn_app (goodIn_r _ [9, 10, 11, 7] rfl (by decide +kernel)) ggX12_act_X12_paysIn
set_option maxRecDepth 20000 in
theorem ggX12_act_X12_changesIn : GoodIn wsX12_act wsX12_changesIn := goodIn_r _ [24, 4, 3, 13, 14, 15, 7, 16, 1, 17, 18, 19, 20, 21, 22, 23, 25, 26, 27, 28, 9, 10, 11, 12, 33, 34, 35, 36, 37, 38, 39, 40, 41, 42, 43, 44, 45, 46, 47, 48, 49, 50, 51, 52, 53, 54, 55, 56, 57, 58, 59, 60, 61, 62, 63, 64, 65, 66, 67, 68, 69, 70, 71, 72, 73, 74, 75, 76, 77, 78, 79, 80, 81, 82, 83, 84, 85, 86, 87, 88, 89] rfl (by decide +kernel)
set_option maxRecDepth 20000 in
theorem gX12_act_X12_changesIn : GoodIn wsX12_act (wsV RX12 363 RX12 yX12_changesIn wsX12_changesIn) := goodIn_app (goodIn_r _ [21, 22, 23, 7] rfl (by decide +kernel)) ggX12_act_X12_changesIn
set_option maxRecDepth 20000 in
theorem ggX12_act_X12_swapsIn : GoodIn wsX12_act wsX12_swapsIn := goodIn_r _ [28, 4, 3, 13, 14, 15, 7, 16, 1, 17, 18, 19, 20, 25, 26, 27, 9, 10, 11, 12, 33, 34, 35, 36, 37, 38, 39, 40, 41, 42, 43, 44, 45, 46, 47, 48, 49, 50, 51, 52, 53, 54, 55, 56, 57, 58, 59, 60, 61, 62, 63, 64, 65, 66, 67, 68, 69, 70, 71, 72, 73, 74, 75, 76, 77, 78, 79, 80, 81, 82, 83, 84, 85, 86, 87, 88, 89] rfl (by decide +kernel)
set_option maxRecDepth 20000 in
theorem gX12_act_X12_swapsIn : GoodIn wsX12_act (wsV RX12 366 RX12 yX12_swapsIn wsX12_swapsIn) := goodIn_app (goodIn_r _ [25, 26, 27, 7] rfl (by decide +kernel)) ggX12_act_X12_swapsIn
set_option maxRecDepth 20000 in
theorem ggX12_act_X12_tellsIn : GoodIn wsX12_act wsX12_tellsIn := goodIn_r _ [32, 4, 3, 13, 14, 15, 7, 16, 1, 17, 18, 19, 20, 29, 30, 31, 21, 22, 23, 24, 25, 26, 27, 28, 9, 10, 11, 12, 33, 34, 35, 36, 37, 38, 39, 40, 41, 42, 43, 44, 45, 46, 47, 48, 49, 50, 51, 52, 53, 54, 55, 56, 57, 58, 59, 60, 61, 62, 63, 64, 65, 66, 67, 68, 69, 70, 71, 72, 73, 74, 75, 76, 77, 78, 79, 80, 81, 82, 83, 84, 85, 86, 87, 88, 89] rfl (by decide +kernel)
set_option maxRecDepth 20000 in
theorem gX12_act_X12_tellsIn : GoodIn wsX12_act (wsV RX12 369 RX12 yX12_tellsIn wsX12_tellsIn) := goodIn_app (goodIn_r _ [29, 30, 31, 7] rfl (by decide +kernel)) ggX12_act_X12_tellsIn
theorem dX12_act_0 : decode cX12_act 0 = .ok (.aload_n 0, 1) := by decide +kernel
theorem dX12_act_1 : decode cX12_act 1 = .ok (.iconst 0, 1) := by decide +kernel
theorem dX12_act_2 : decode cX12_act 2 = .ok (.putfield 348, 3) := by decide +kernel
theorem dX12_act_5 : decode cX12_act 5 = .ok (.iload_n 1, 1) := by decide +kernel
theorem dX12_act_6 : decode cX12_act 6 = .ok (.iconst 0, 1) := by decide +kernel
theorem dX12_act_7 : decode cX12_act 7 = .ok (.aload_n 0, 1) := by decide +kernel
theorem dX12_act_8 : decode cX12_act 8 = .ok (.getfield 372, 3) := by decide +kernel
theorem dX12_act_11 : decode cX12_act 11 = .ok (.iconst 1, 1) := by decide +kernel
theorem dX12_act_12 : decode cX12_act 12 = .ok (.isub, 1) := by decide +kernel
theorem dX12_act_13 : decode cX12_act 13 = .ok (.invokestatic 118, 3) := by decide +kernel
theorem dX12_act_16 : decode cX12_act 16 = .ok (.ifCond .eq 12, 3) := by decide +kernel
theorem dX12_act_19 : decode cX12_act 19 = .ok (.iload_n 2, 1) := by decide +kernel
theorem dX12_act_20 : decode cX12_act 20 = .ok (.iconst 0, 1) := by decide +kernel
theorem dX12_act_21 : decode cX12_act 21 = .ok (.iconst 3, 1) := by decide +kernel
theorem dX12_act_22 : decode cX12_act 22 = .ok (.invokestatic 118, 3) := by decide +kernel
theorem dX12_act_25 : decode cX12_act 25 = .ok (.ifCond .ne 5, 3) := by decide +kernel
theorem dX12_act_28 : decode cX12_act 28 = .ok (.iconst 0, 1) := by decide +kernel
theorem dX12_act_29 : decode cX12_act 29 = .ok (.ireturn, 1) := by decide +kernel
theorem dX12_act_30 : decode cX12_act 30 = .ok (.aload_n 0, 1) := by decide +kernel
theorem dX12_act_31 : decode cX12_act 31 = .ok (.iload_n 1, 1) := by decide +kernel
theorem dX12_act_32 : decode cX12_act 32 = .ok (.putfield 360, 3) := by decide +kernel
theorem dX12_act_35 : decode cX12_act 35 = .ok (.aload_n 0, 1) := by decide +kernel
theorem dX12_act_36 : decode cX12_act 36 = .ok (.getfield 96, 3) := by decide +kernel
theorem dX12_act_39 : decode cX12_act 39 = .ok (.iload_n 1, 1) := by decide +kernel
theorem dX12_act_40 : decode cX12_act 40 = .ok (.iaload, 1) := by decide +kernel
theorem dX12_act_41 : decode cX12_act 41 = .ok (.istore 4, 2) := by decide +kernel
theorem dX12_act_43 : decode cX12_act 43 = .ok (.iload_n 2, 1) := by decide +kernel
theorem dX12_act_44 : decode cX12_act 44 = .ok (.ifCond .ne 13, 3) := by decide +kernel
theorem dX12_act_47 : decode cX12_act 47 = .ok (.aload_n 0, 1) := by decide +kernel
theorem dX12_act_48 : decode cX12_act 48 = .ok (.iload 4, 2) := by decide +kernel
theorem dX12_act_50 : decode cX12_act 50 = .ok (.iload_n 3, 1) := by decide +kernel
theorem dX12_act_51 : decode cX12_act 51 = .ok (.invokevirtual 357, 3) := by decide +kernel
theorem dX12_act_54 : decode cX12_act 54 = .ok (.goto 40, 3) := by decide +kernel
theorem dX12_act_57 : decode cX12_act 57 = .ok (.iload_n 2, 1) := by decide +kernel
theorem dX12_act_58 : decode cX12_act 58 = .ok (.iconst 1, 1) := by decide +kernel
theorem dX12_act_59 : decode cX12_act 59 = .ok (.if_icmp .ne 13, 3) := by decide +kernel
theorem dX12_act_62 : decode cX12_act 62 = .ok (.aload_n 0, 1) := by decide +kernel
theorem dX12_act_63 : decode cX12_act 63 = .ok (.iload 4, 2) := by decide +kernel
theorem dX12_act_65 : decode cX12_act 65 = .ok (.iload_n 3, 1) := by decide +kernel
theorem dX12_act_66 : decode cX12_act 66 = .ok (.invokevirtual 363, 3) := by decide +kernel
theorem dX12_act_69 : decode cX12_act 69 = .ok (.goto 25, 3) := by decide +kernel
theorem dX12_act_72 : decode cX12_act 72 = .ok (.iload_n 2, 1) := by decide +kernel
theorem dX12_act_73 : decode cX12_act 73 = .ok (.iconst 2, 1) := by decide +kernel
theorem dX12_act_74 : decode cX12_act 74 = .ok (.if_icmp .ne 13, 3) := by decide +kernel
theorem dX12_act_77 : decode cX12_act 77 = .ok (.aload_n 0, 1) := by decide +kernel
theorem dX12_act_78 : decode cX12_act 78 = .ok (.iload 4, 2) := by decide +kernel
theorem dX12_act_80 : decode cX12_act 80 = .ok (.iload_n 3, 1) := by decide +kernel
theorem dX12_act_81 : decode cX12_act 81 = .ok (.invokevirtual 366, 3) := by decide +kernel
theorem dX12_act_84 : decode cX12_act 84 = .ok (.goto 10, 3) := by decide +kernel
theorem dX12_act_87 : decode cX12_act 87 = .ok (.aload_n 0, 1) := by decide +kernel
theorem dX12_act_88 : decode cX12_act 88 = .ok (.iload 4, 2) := by decide +kernel
theorem dX12_act_90 : decode cX12_act 90 = .ok (.iload_n 3, 1) := by decide +kernel
theorem dX12_act_91 : decode cX12_act 91 = .ok (.invokevirtual 369, 3) := by decide +kernel
theorem dX12_act_94 : decode cX12_act 94 = .ok (.ireturn, 1) := by decide +kernel
theorem dX12_trace_0 : decode cX12_trace 0 = .ok (.iload_n 1, 1) := by decide +kernel
theorem dX12_trace_1 : decode cX12_trace 1 = .ok (.ifCond .lt 26, 3) := by decide +kernel
theorem dX12_trace_4 : decode cX12_trace 4 = .ok (.iload_n 1, 1) := by decide +kernel
theorem dX12_trace_5 : decode cX12_trace 5 = .ok (.aload_n 0, 1) := by decide +kernel
theorem dX12_trace_6 : decode cX12_trace 6 = .ok (.getfield 348, 3) := by decide +kernel
theorem dX12_trace_9 : decode cX12_trace 9 = .ok (.if_icmp .ge 18, 3) := by decide +kernel
theorem dX12_trace_12 : decode cX12_trace 12 = .ok (.iload_n 1, 1) := by decide +kernel
theorem dX12_trace_13 : decode cX12_trace 13 = .ok (.bipush 24, 2) := by decide +kernel
theorem dX12_trace_15 : decode cX12_trace 15 = .ok (.if_icmp .ge 12, 3) := by decide +kernel
theorem dX12_trace_18 : decode cX12_trace 18 = .ok (.aload_n 0, 1) := by decide +kernel
theorem dX12_trace_19 : decode cX12_trace 19 = .ok (.getfield 99, 3) := by decide +kernel
theorem dX12_trace_22 : decode cX12_trace 22 = .ok (.iload_n 1, 1) := by decide +kernel
theorem dX12_trace_23 : decode cX12_trace 23 = .ok (.iaload, 1) := by decide +kernel
theorem dX12_trace_24 : decode cX12_trace 24 = .ok (.goto 4, 3) := by decide +kernel
theorem dX12_trace_27 : decode cX12_trace 27 = .ok (.iconst (-1), 1) := by decide +kernel
theorem dX12_trace_28 : decode cX12_trace 28 = .ok (.ireturn, 1) := by decide +kernel
set_option maxRecDepth 20000 in
theorem ggX12_isShelf_X12_in : GoodIn wsX12_isShelf wsX12_in := goodIn_r _ [4] rfl (by decide +kernel)
set_option maxRecDepth 20000 in
theorem gX12_isShelf_X12_in : GoodIn wsX12_isShelf (va_wsS RX12 118 yX12_in wsX12_in) := goodIn_app (goodIn_r _ [1, 2, 3] rfl (by decide +kernel)) ggX12_isShelf_X12_in
theorem dX12_isShelf_0 : decode cX12_isShelf 0 = .ok (.iload_n 0, 1) := by decide +kernel
theorem dX12_isShelf_1 : decode cX12_isShelf 1 = .ok (.iconst 0, 1) := by decide +kernel
theorem dX12_isShelf_2 : decode cX12_isShelf 2 = .ok (.iconst 5, 1) := by decide +kernel
theorem dX12_isShelf_3 : decode cX12_isShelf 3 = .ok (.invokestatic 118, 3) := by decide +kernel
theorem dX12_isShelf_6 : decode cX12_isShelf 6 = .ok (.ireturn, 1) := by decide +kernel
set_option maxRecDepth 20000 in
theorem ggX12_keep_X12_isShelf : GoodIn wsX12_keep wsX12_isShelf := goodIn_r _ [7, 8, 9, 6, 10] rfl (by decide +kernel)
set_option maxRecDepth 20000 in
theorem gX12_keep_X12_isShelf : GoodIn wsX12_keep (va_wsS RX12 137 yX12_isShelf wsX12_isShelf) := goodIn_app (goodIn_r _ [4, 5, 6] rfl (by decide +kernel)) ggX12_keep_X12_isShelf
set_option maxRecDepth 20000 in
theorem ggX12_keep_X12_in : GoodIn wsX12_keep wsX12_in := goodIn_r _ [10] rfl (by decide +kernel)
set_option maxRecDepth 20000 in
theorem gX12_keep_X12_in : GoodIn wsX12_keep (va_wsS RX12 118 yX12_in wsX12_in) := goodIn_app (goodIn_r _ [8, 9, 6] rfl (by decide +kernel)) ggX12_keep_X12_in
theorem dX12_keep_0 : decode cX12_keep 0 = .ok (.iload_n 1, 1) := by decide +kernel
theorem dX12_keep_1 : decode cX12_keep 1 = .ok (.invokestatic 137, 3) := by decide +kernel
theorem dX12_keep_4 : decode cX12_keep 4 = .ok (.ifCond .eq 17, 3) := by decide +kernel
theorem dX12_keep_7 : decode cX12_keep 7 = .ok (.iload_n 2, 1) := by decide +kernel
theorem dX12_keep_8 : decode cX12_keep 8 = .ok (.iconst (-1), 1) := by decide +kernel
theorem dX12_keep_9 : decode cX12_keep 9 = .ok (.aload_n 0, 1) := by decide +kernel
theorem dX12_keep_10 : decode cX12_keep 10 = .ok (.getfield 372, 3) := by decide +kernel
theorem dX12_keep_13 : decode cX12_keep 13 = .ok (.iconst 1, 1) := by decide +kernel
theorem dX12_keep_14 : decode cX12_keep 14 = .ok (.isub, 1) := by decide +kernel
theorem dX12_keep_15 : decode cX12_keep 15 = .ok (.invokestatic 118, 3) := by decide +kernel
theorem dX12_keep_18 : decode cX12_keep 18 = .ok (.ifCond .ne 5, 3) := by decide +kernel
theorem dX12_keep_21 : decode cX12_keep 21 = .ok (.iconst (-1), 1) := by decide +kernel
theorem dX12_keep_22 : decode cX12_keep 22 = .ok (.ireturn, 1) := by decide +kernel
theorem dX12_keep_23 : decode cX12_keep 23 = .ok (.aload_n 0, 1) := by decide +kernel
theorem dX12_keep_24 : decode cX12_keep 24 = .ok (.getfield 102, 3) := by decide +kernel
theorem dX12_keep_27 : decode cX12_keep 27 = .ok (.iload_n 1, 1) := by decide +kernel
theorem dX12_keep_28 : decode cX12_keep 28 = .ok (.iload_n 2, 1) := by decide +kernel
theorem dX12_keep_29 : decode cX12_keep 29 = .ok (.iconst (-1), 1) := by decide +kernel
theorem dX12_keep_30 : decode cX12_keep 30 = .ok (.if_icmp .ne 7, 3) := by decide +kernel
theorem dX12_keep_33 : decode cX12_keep 33 = .ok (.iconst (-1), 1) := by decide +kernel
theorem dX12_keep_34 : decode cX12_keep 34 = .ok (.goto 4, 3) := by decide +kernel
theorem dX12_keep_37 : decode cX12_keep 37 = .ok (.iconst 5, 1) := by decide +kernel
theorem dX12_keep_38 : decode cX12_keep 38 = .ok (.iastore, 1) := by decide +kernel
theorem dX12_keep_39 : decode cX12_keep 39 = .ok (.aload_n 0, 1) := by decide +kernel
theorem dX12_keep_40 : decode cX12_keep 40 = .ok (.getfield 105, 3) := by decide +kernel
theorem dX12_keep_43 : decode cX12_keep 43 = .ok (.iload_n 1, 1) := by decide +kernel
theorem dX12_keep_44 : decode cX12_keep 44 = .ok (.iload_n 2, 1) := by decide +kernel
theorem dX12_keep_45 : decode cX12_keep 45 = .ok (.iastore, 1) := by decide +kernel
theorem dX12_keep_46 : decode cX12_keep 46 = .ok (.iconst 1, 1) := by decide +kernel
theorem dX12_keep_47 : decode cX12_keep 47 = .ok (.ireturn, 1) := by decide +kernel
set_option maxRecDepth 20000 in
theorem ggX12_row_X12_isShelf : GoodIn wsX12_row wsX12_isShelf := goodIn_r _ [7, 8, 9, 6, 10] rfl (by decide +kernel)
set_option maxRecDepth 20000 in
theorem gX12_row_X12_isShelf : GoodIn wsX12_row (va_wsS RX12 137 yX12_isShelf wsX12_isShelf) := goodIn_app (goodIn_r _ [4, 5, 6] rfl (by decide +kernel)) ggX12_row_X12_isShelf
set_option maxRecDepth 20000 in
theorem ggX12_row_X12_in : GoodIn wsX12_row wsX12_in := goodIn_r _ [10] rfl (by decide +kernel)
set_option maxRecDepth 20000 in
theorem gX12_row_X12_in : GoodIn wsX12_row (va_wsS RX12 118 yX12_in wsX12_in) := goodIn_app (goodIn_r _ [8, 9, 6] rfl (by decide +kernel)) ggX12_row_X12_in
theorem dX12_row_0 : decode cX12_row 0 = .ok (.iload_n 1, 1) := by decide +kernel
theorem dX12_row_1 : decode cX12_row 1 = .ok (.invokestatic 137, 3) := by decide +kernel
theorem dX12_row_4 : decode cX12_row 4 = .ok (.ifCond .eq 18, 3) := by decide +kernel
theorem dX12_row_7 : decode cX12_row 7 = .ok (.iload_n 2, 1) := by decide +kernel
theorem dX12_row_8 : decode cX12_row 8 = .ok (.iconst 0, 1) := by decide +kernel
theorem dX12_row_9 : decode cX12_row 9 = .ok (.iconst 4, 1) := by decide +kernel
theorem dX12_row_10 : decode cX12_row 10 = .ok (.invokestatic 118, 3) := by decide +kernel
theorem dX12_row_13 : decode cX12_row 13 = .ok (.ifCond .eq 9, 3) := by decide +kernel
theorem dX12_row_16 : decode cX12_row 16 = .ok (.iload_n 3, 1) := by decide +kernel
theorem dX12_row_17 : decode cX12_row 17 = .ok (.bipush 60, 2) := by decide +kernel
theorem dX12_row_19 : decode cX12_row 19 = .ok (.if_icmp .le 5, 3) := by decide +kernel
theorem dX12_row_22 : decode cX12_row 22 = .ok (.iconst (-1), 1) := by decide +kernel
theorem dX12_row_23 : decode cX12_row 23 = .ok (.ireturn, 1) := by decide +kernel
theorem dX12_row_24 : decode cX12_row 24 = .ok (.iload_n 3, 1) := by decide +kernel
theorem dX12_row_25 : decode cX12_row 25 = .ok (.ifCond .ge 6, 3) := by decide +kernel
theorem dX12_row_28 : decode cX12_row 28 = .ok (.bipush (-14), 2) := by decide +kernel
theorem dX12_row_30 : decode cX12_row 30 = .ok (.ireturn, 1) := by decide +kernel
theorem dX12_row_31 : decode cX12_row 31 = .ok (.aload_n 0, 1) := by decide +kernel
theorem dX12_row_32 : decode cX12_row 32 = .ok (.getfield 102, 3) := by decide +kernel
theorem dX12_row_35 : decode cX12_row 35 = .ok (.iload_n 1, 1) := by decide +kernel
theorem dX12_row_36 : decode cX12_row 36 = .ok (.iload_n 2, 1) := by decide +kernel
theorem dX12_row_37 : decode cX12_row 37 = .ok (.iastore, 1) := by decide +kernel
theorem dX12_row_38 : decode cX12_row 38 = .ok (.aload_n 0, 1) := by decide +kernel
theorem dX12_row_39 : decode cX12_row 39 = .ok (.getfield 105, 3) := by decide +kernel
theorem dX12_row_42 : decode cX12_row 42 = .ok (.iload_n 1, 1) := by decide +kernel
theorem dX12_row_43 : decode cX12_row 43 = .ok (.iload_n 3, 1) := by decide +kernel
theorem dX12_row_44 : decode cX12_row 44 = .ok (.iastore, 1) := by decide +kernel
theorem dX12_row_45 : decode cX12_row 45 = .ok (.iconst 0, 1) := by decide +kernel
theorem dX12_row_46 : decode cX12_row 46 = .ok (.istore 4, 2) := by decide +kernel
theorem dX12_row_48 : decode cX12_row 48 = .ok (.iload 4, 2) := by decide +kernel
theorem dX12_row_50 : decode cX12_row 50 = .ok (.bipush 60, 2) := by decide +kernel
theorem dX12_row_52 : decode cX12_row 52 = .ok (.if_icmp .ge 22, 3) := by decide +kernel
theorem dX12_row_55 : decode cX12_row 55 = .ok (.aload_n 0, 1) := by decide +kernel
theorem dX12_row_56 : decode cX12_row 56 = .ok (.getfield 108, 3) := by decide +kernel
theorem dX12_row_59 : decode cX12_row 59 = .ok (.bipush 60, 2) := by decide +kernel
theorem dX12_row_61 : decode cX12_row 61 = .ok (.iload_n 1, 1) := by decide +kernel
theorem dX12_row_62 : decode cX12_row 62 = .ok (.imul, 1) := by decide +kernel
theorem dX12_row_63 : decode cX12_row 63 = .ok (.iload 4, 2) := by decide +kernel
theorem dX12_row_65 : decode cX12_row 65 = .ok (.iadd, 1) := by decide +kernel
theorem dX12_row_66 : decode cX12_row 66 = .ok (.lconst 0, 1) := by decide +kernel
theorem dX12_row_67 : decode cX12_row 67 = .ok (.lastore, 1) := by decide +kernel
theorem dX12_row_68 : decode cX12_row 68 = .ok (.iinc 4 1, 3) := by decide +kernel
theorem dX12_row_71 : decode cX12_row 71 = .ok (.goto (-23), 3) := by decide +kernel
theorem dX12_row_74 : decode cX12_row 74 = .ok (.iconst 1, 1) := by decide +kernel
theorem dX12_row_75 : decode cX12_row 75 = .ok (.ireturn, 1) := by decide +kernel
theorem dX12_cut_0 : decode cX12_cut 0 = .ok (.iload_n 0, 1) := by decide +kernel
theorem dX12_cut_1 : decode cX12_cut 1 = .ok (.ifCond .ne 10, 3) := by decide +kernel
theorem dX12_cut_4 : decode cX12_cut 4 = .ok (.lload_n 1, 1) := by decide +kernel
theorem dX12_cut_5 : decode cX12_cut 5 = .ok (.l2i, 1) := by decide +kernel
theorem dX12_cut_6 : decode cX12_cut 6 = .ok (.i2b, 1) := by decide +kernel
theorem dX12_cut_7 : decode cX12_cut 7 = .ok (.i2l, 1) := by decide +kernel
theorem dX12_cut_8 : decode cX12_cut 8 = .ok (.goto 46, 3) := by decide +kernel
theorem dX12_cut_11 : decode cX12_cut 11 = .ok (.iload_n 0, 1) := by decide +kernel
theorem dX12_cut_12 : decode cX12_cut 12 = .ok (.iconst 1, 1) := by decide +kernel
theorem dX12_cut_13 : decode cX12_cut 13 = .ok (.if_icmp .ne 10, 3) := by decide +kernel
theorem dX12_cut_16 : decode cX12_cut 16 = .ok (.lload_n 1, 1) := by decide +kernel
theorem dX12_cut_17 : decode cX12_cut 17 = .ok (.l2i, 1) := by decide +kernel
theorem dX12_cut_18 : decode cX12_cut 18 = .ok (.i2s, 1) := by decide +kernel
theorem dX12_cut_19 : decode cX12_cut 19 = .ok (.i2l, 1) := by decide +kernel
theorem dX12_cut_20 : decode cX12_cut 20 = .ok (.goto 34, 3) := by decide +kernel
theorem dX12_cut_23 : decode cX12_cut 23 = .ok (.iload_n 0, 1) := by decide +kernel
theorem dX12_cut_24 : decode cX12_cut 24 = .ok (.iconst 2, 1) := by decide +kernel
theorem dX12_cut_25 : decode cX12_cut 25 = .ok (.if_icmp .ne 9, 3) := by decide +kernel
theorem dX12_cut_28 : decode cX12_cut 28 = .ok (.lload_n 1, 1) := by decide +kernel
theorem dX12_cut_29 : decode cX12_cut 29 = .ok (.l2i, 1) := by decide +kernel
theorem dX12_cut_30 : decode cX12_cut 30 = .ok (.i2l, 1) := by decide +kernel
theorem dX12_cut_31 : decode cX12_cut 31 = .ok (.goto 23, 3) := by decide +kernel
theorem dX12_cut_34 : decode cX12_cut 34 = .ok (.iload_n 0, 1) := by decide +kernel
theorem dX12_cut_35 : decode cX12_cut 35 = .ok (.iconst 3, 1) := by decide +kernel
theorem dX12_cut_36 : decode cX12_cut 36 = .ok (.if_icmp .ne 7, 3) := by decide +kernel
theorem dX12_cut_39 : decode cX12_cut 39 = .ok (.lload_n 1, 1) := by decide +kernel
theorem dX12_cut_40 : decode cX12_cut 40 = .ok (.goto 14, 3) := by decide +kernel
theorem dX12_cut_43 : decode cX12_cut 43 = .ok (.lload_n 1, 1) := by decide +kernel
theorem dX12_cut_44 : decode cX12_cut 44 = .ok (.lconst 0, 1) := by decide +kernel
theorem dX12_cut_45 : decode cX12_cut 45 = .ok (.lcmp, 1) := by decide +kernel
theorem dX12_cut_46 : decode cX12_cut 46 = .ok (.ifCond .eq 7, 3) := by decide +kernel
theorem dX12_cut_49 : decode cX12_cut 49 = .ok (.lconst 1, 1) := by decide +kernel
theorem dX12_cut_50 : decode cX12_cut 50 = .ok (.goto 4, 3) := by decide +kernel
theorem dX12_cut_53 : decode cX12_cut 53 = .ok (.lconst 0, 1) := by decide +kernel
theorem dX12_cut_54 : decode cX12_cut 54 = .ok (.lreturn, 1) := by decide +kernel
set_option maxRecDepth 20000 in
theorem ggX12_shelfWrong_X12_isShelf : GoodIn wsX12_shelfWrong wsX12_isShelf := goodIn_r _ [5, 6, 7, 4, 8] rfl (by decide +kernel)
set_option maxRecDepth 20000 in
theorem gX12_shelfWrong_X12_isShelf : GoodIn wsX12_shelfWrong (va_wsS RX12 137 yX12_isShelf wsX12_isShelf) := goodIn_app (goodIn_r _ [2, 3, 4] rfl (by decide +kernel)) ggX12_shelfWrong_X12_isShelf
theorem dX12_shelfWrong_0 : decode cX12_shelfWrong 0 = .ok (.iload_n 1, 1) := by decide +kernel
theorem dX12_shelfWrong_1 : decode cX12_shelfWrong 1 = .ok (.invokestatic 137, 3) := by decide +kernel
theorem dX12_shelfWrong_4 : decode cX12_shelfWrong 4 = .ok (.ifCond .ne 7, 3) := by decide +kernel
theorem dX12_shelfWrong_7 : decode cX12_shelfWrong 7 = .ok (.iconst (-1), 1) := by decide +kernel
theorem dX12_shelfWrong_8 : decode cX12_shelfWrong 8 = .ok (.goto 34, 3) := by decide +kernel
theorem dX12_shelfWrong_11 : decode cX12_shelfWrong 11 = .ok (.aload_n 0, 1) := by decide +kernel
theorem dX12_shelfWrong_12 : decode cX12_shelfWrong 12 = .ok (.getfield 102, 3) := by decide +kernel
theorem dX12_shelfWrong_15 : decode cX12_shelfWrong 15 = .ok (.iload_n 1, 1) := by decide +kernel
theorem dX12_shelfWrong_16 : decode cX12_shelfWrong 16 = .ok (.iaload, 1) := by decide +kernel
theorem dX12_shelfWrong_17 : decode cX12_shelfWrong 17 = .ok (.iconst (-1), 1) := by decide +kernel
theorem dX12_shelfWrong_18 : decode cX12_shelfWrong 18 = .ok (.if_icmp .ne 8, 3) := by decide +kernel
theorem dX12_shelfWrong_21 : decode cX12_shelfWrong 21 = .ok (.bipush (-11), 2) := by decide +kernel
theorem dX12_shelfWrong_23 : decode cX12_shelfWrong 23 = .ok (.goto 19, 3) := by decide +kernel
theorem dX12_shelfWrong_26 : decode cX12_shelfWrong 26 = .ok (.aload_n 0, 1) := by decide +kernel
theorem dX12_shelfWrong_27 : decode cX12_shelfWrong 27 = .ok (.getfield 102, 3) := by decide +kernel
theorem dX12_shelfWrong_30 : decode cX12_shelfWrong 30 = .ok (.iload_n 1, 1) := by decide +kernel
theorem dX12_shelfWrong_31 : decode cX12_shelfWrong 31 = .ok (.iaload, 1) := by decide +kernel
theorem dX12_shelfWrong_32 : decode cX12_shelfWrong 32 = .ok (.iconst 5, 1) := by decide +kernel
theorem dX12_shelfWrong_33 : decode cX12_shelfWrong 33 = .ok (.if_icmp .ne 8, 3) := by decide +kernel
theorem dX12_shelfWrong_36 : decode cX12_shelfWrong 36 = .ok (.bipush (-12), 2) := by decide +kernel
theorem dX12_shelfWrong_38 : decode cX12_shelfWrong 38 = .ok (.goto 4, 3) := by decide +kernel
theorem dX12_shelfWrong_41 : decode cX12_shelfWrong 41 = .ok (.iconst 0, 1) := by decide +kernel
theorem dX12_shelfWrong_42 : decode cX12_shelfWrong 42 = .ok (.ireturn, 1) := by decide +kernel
set_option maxRecDepth 20000 in
theorem ggX12_put_X12_shelfWrong : GoodIn wsX12_put wsX12_shelfWrong := goodIn_r _ [8, 3, 9, 10, 7, 11, 12, 13, 14, 18, 19, 20, 21, 22, 23, 24, 25, 26, 27, 28, 29, 30, 31, 32, 33, 34, 35, 36, 37, 38, 39, 40, 41, 42, 43, 44, 45, 46, 47, 48, 49, 50, 51, 52, 53, 54, 55, 56, 57, 58, 59, 60, 61, 62, 63, 64, 65, 66, 67, 68, 69, 70, 71, 72, 73, 74] rfl (by decide +kernel)
set_option maxRecDepth 20000 in
theorem gX12_put_X12_shelfWrong : GoodIn wsX12_put (wsV RX12 375 RX12 yX12_shelfWrong wsX12_shelfWrong) := goodIn_app (goodIn_r _ [4, 5, 6, 7] rfl (by decide +kernel)) ggX12_put_X12_shelfWrong
set_option maxRecDepth 20000 in
theorem ggX12_put_X12_in : GoodIn wsX12_put wsX12_in := goodIn_r _ [14] rfl (by decide +kernel)
set_option maxRecDepth 20000 in
theorem gX12_put_X12_in : GoodIn wsX12_put (va_wsS RX12 118 yX12_in wsX12_in) := goodIn_app (goodIn_r _ [12, 13, 7] rfl (by decide +kernel)) ggX12_put_X12_in
set_option maxRecDepth 20000 in
theorem ggX12_put_X12_cut : GoodIn wsX12_put wsX12_cut := goodIn_r _ [17] rfl (by decide +kernel)
set_option maxRecDepth 20000 in
theorem gX12_put_X12_cut : GoodIn wsX12_put (va_wsS RX12 378 yX12_cut wsX12_cut) := goodIn_app (goodIn_r _ [15, 16, 7] rfl (by decide +kernel)) ggX12_put_X12_cut
theorem dX12_put_0 : decode cX12_put 0 = .ok (.aload_n 0, 1) := by decide +kernel
theorem dX12_put_1 : decode cX12_put 1 = .ok (.iload_n 1, 1) := by decide +kernel
theorem dX12_put_2 : decode cX12_put 2 = .ok (.invokevirtual 375, 3) := by decide +kernel
theorem dX12_put_5 : decode cX12_put 5 = .ok (.istore 5, 2) := by decide +kernel
theorem dX12_put_7 : decode cX12_put 7 = .ok (.iload 5, 2) := by decide +kernel
theorem dX12_put_9 : decode cX12_put 9 = .ok (.ifCond .eq 6, 3) := by decide +kernel
theorem dX12_put_12 : decode cX12_put 12 = .ok (.iload 5, 2) := by decide +kernel
theorem dX12_put_14 : decode cX12_put 14 = .ok (.ireturn, 1) := by decide +kernel
theorem dX12_put_15 : decode cX12_put 15 = .ok (.iload_n 2, 1) := by decide +kernel
theorem dX12_put_16 : decode cX12_put 16 = .ok (.iconst 0, 1) := by decide +kernel
theorem dX12_put_17 : decode cX12_put 17 = .ok (.aload_n 0, 1) := by decide +kernel
theorem dX12_put_18 : decode cX12_put 18 = .ok (.getfield 105, 3) := by decide +kernel
theorem dX12_put_21 : decode cX12_put 21 = .ok (.iload_n 1, 1) := by decide +kernel
theorem dX12_put_22 : decode cX12_put 22 = .ok (.iaload, 1) := by decide +kernel
theorem dX12_put_23 : decode cX12_put 23 = .ok (.iconst 1, 1) := by decide +kernel
theorem dX12_put_24 : decode cX12_put 24 = .ok (.isub, 1) := by decide +kernel
theorem dX12_put_25 : decode cX12_put 25 = .ok (.invokestatic 118, 3) := by decide +kernel
theorem dX12_put_28 : decode cX12_put 28 = .ok (.ifCond .ne 6, 3) := by decide +kernel
theorem dX12_put_31 : decode cX12_put 31 = .ok (.bipush (-13), 2) := by decide +kernel
theorem dX12_put_33 : decode cX12_put 33 = .ok (.ireturn, 1) := by decide +kernel
theorem dX12_put_34 : decode cX12_put 34 = .ok (.aload_n 0, 1) := by decide +kernel
theorem dX12_put_35 : decode cX12_put 35 = .ok (.getfield 108, 3) := by decide +kernel
theorem dX12_put_38 : decode cX12_put 38 = .ok (.bipush 60, 2) := by decide +kernel
theorem dX12_put_40 : decode cX12_put 40 = .ok (.iload_n 1, 1) := by decide +kernel
theorem dX12_put_41 : decode cX12_put 41 = .ok (.imul, 1) := by decide +kernel
theorem dX12_put_42 : decode cX12_put 42 = .ok (.iload_n 2, 1) := by decide +kernel
theorem dX12_put_43 : decode cX12_put 43 = .ok (.iadd, 1) := by decide +kernel
theorem dX12_put_44 : decode cX12_put 44 = .ok (.aload_n 0, 1) := by decide +kernel
theorem dX12_put_45 : decode cX12_put 45 = .ok (.getfield 102, 3) := by decide +kernel
theorem dX12_put_48 : decode cX12_put 48 = .ok (.iload_n 1, 1) := by decide +kernel
theorem dX12_put_49 : decode cX12_put 49 = .ok (.iaload, 1) := by decide +kernel
theorem dX12_put_50 : decode cX12_put 50 = .ok (.lload_n 3, 1) := by decide +kernel
theorem dX12_put_51 : decode cX12_put 51 = .ok (.invokestatic 378, 3) := by decide +kernel
theorem dX12_put_54 : decode cX12_put 54 = .ok (.lastore, 1) := by decide +kernel
theorem dX12_put_55 : decode cX12_put 55 = .ok (.iconst 1, 1) := by decide +kernel
theorem dX12_put_56 : decode cX12_put 56 = .ok (.ireturn, 1) := by decide +kernel
set_option maxRecDepth 20000 in
theorem ggX12_element_X12_shelfWrong : GoodIn wsX12_element wsX12_shelfWrong := goodIn_r _ [8, 9, 10, 11, 7, 12, 13, 14, 15, 16, 17, 18, 19, 20, 21, 22, 23, 24, 25, 26, 27, 28, 29, 30, 31, 32, 33, 34, 35, 36, 37, 38, 39, 40, 41, 42, 43, 44, 45, 46, 47, 48, 49, 50, 51, 52, 53, 54, 55, 56, 57, 58, 59, 60, 61, 62, 63, 64, 65, 66, 67, 68, 69, 70, 71, 72] rfl (by decide +kernel)
set_option maxRecDepth 20000 in
theorem gX12_element_X12_shelfWrong : GoodIn wsX12_element (wsV RX12 375 RX12 yX12_shelfWrong wsX12_shelfWrong) := goodIn_app (goodIn_r _ [4, 5, 6, 7] rfl (by decide +kernel)) ggX12_element_X12_shelfWrong
set_option maxRecDepth 20000 in
theorem ggX12_element_X12_in : GoodIn wsX12_element wsX12_in := goodIn_r _ [15] rfl (by decide +kernel)
set_option maxRecDepth 20000 in
theorem gX12_element_X12_in : GoodIn wsX12_element (va_wsS RX12 118 yX12_in wsX12_in) := goodIn_app (goodIn_r _ [13, 14, 7] rfl (by decide +kernel)) ggX12_element_X12_in
theorem dX12_element_0 : decode cX12_element 0 = .ok (.aload_n 0, 1) := by decide +kernel
theorem dX12_element_1 : decode cX12_element 1 = .ok (.iload_n 1, 1) := by decide +kernel
theorem dX12_element_2 : decode cX12_element 2 = .ok (.invokevirtual 375, 3) := by decide +kernel
theorem dX12_element_5 : decode cX12_element 5 = .ok (.ifCond .ne 33, 3) := by decide +kernel
theorem dX12_element_8 : decode cX12_element 8 = .ok (.iload_n 2, 1) := by decide +kernel
theorem dX12_element_9 : decode cX12_element 9 = .ok (.iconst 0, 1) := by decide +kernel
theorem dX12_element_10 : decode cX12_element 10 = .ok (.aload_n 0, 1) := by decide +kernel
theorem dX12_element_11 : decode cX12_element 11 = .ok (.getfield 105, 3) := by decide +kernel
theorem dX12_element_14 : decode cX12_element 14 = .ok (.iload_n 1, 1) := by decide +kernel
theorem dX12_element_15 : decode cX12_element 15 = .ok (.iaload, 1) := by decide +kernel
theorem dX12_element_16 : decode cX12_element 16 = .ok (.iconst 1, 1) := by decide +kernel
theorem dX12_element_17 : decode cX12_element 17 = .ok (.isub, 1) := by decide +kernel
theorem dX12_element_18 : decode cX12_element 18 = .ok (.invokestatic 118, 3) := by decide +kernel
theorem dX12_element_21 : decode cX12_element 21 = .ok (.ifCond .eq 17, 3) := by decide +kernel
theorem dX12_element_24 : decode cX12_element 24 = .ok (.aload_n 0, 1) := by decide +kernel
theorem dX12_element_25 : decode cX12_element 25 = .ok (.getfield 108, 3) := by decide +kernel
theorem dX12_element_28 : decode cX12_element 28 = .ok (.bipush 60, 2) := by decide +kernel
theorem dX12_element_30 : decode cX12_element 30 = .ok (.iload_n 1, 1) := by decide +kernel
theorem dX12_element_31 : decode cX12_element 31 = .ok (.imul, 1) := by decide +kernel
theorem dX12_element_32 : decode cX12_element 32 = .ok (.iload_n 2, 1) := by decide +kernel
theorem dX12_element_33 : decode cX12_element 33 = .ok (.iadd, 1) := by decide +kernel
theorem dX12_element_34 : decode cX12_element 34 = .ok (.laload, 1) := by decide +kernel
theorem dX12_element_35 : decode cX12_element 35 = .ok (.goto 6, 3) := by decide +kernel
theorem dX12_element_38 : decode cX12_element 38 = .ok (.ldc2_w 384, 3) := by decide +kernel
theorem dX12_element_41 : decode cX12_element 41 = .ok (.lreturn, 1) := by decide +kernel
set_option maxRecDepth 20000 in
theorem ggX12_shift_X12_isShelf : GoodIn wsX12_shift wsX12_isShelf := goodIn_r _ [8, 9, 10, 7, 11] rfl (by decide +kernel)
set_option maxRecDepth 20000 in
theorem gX12_shift_X12_isShelf : GoodIn wsX12_shift (va_wsS RX12 137 yX12_isShelf wsX12_isShelf) := goodIn_app (goodIn_r _ [5, 6, 7] rfl (by decide +kernel)) ggX12_shift_X12_isShelf
theorem dX12_shift_0 : decode cX12_shift 0 = .ok (.iload_n 1, 1) := by decide +kernel
theorem dX12_shift_1 : decode cX12_shift 1 = .ok (.invokestatic 137, 3) := by decide +kernel
theorem dX12_shift_4 : decode cX12_shift 4 = .ok (.ifCond .eq 10, 3) := by decide +kernel
theorem dX12_shift_7 : decode cX12_shift 7 = .ok (.iload_n 3, 1) := by decide +kernel
theorem dX12_shift_8 : decode cX12_shift 8 = .ok (.invokestatic 137, 3) := by decide +kernel
theorem dX12_shift_11 : decode cX12_shift 11 = .ok (.ifCond .ne 5, 3) := by decide +kernel
theorem dX12_shift_14 : decode cX12_shift 14 = .ok (.iconst (-1), 1) := by decide +kernel
theorem dX12_shift_15 : decode cX12_shift 15 = .ok (.ireturn, 1) := by decide +kernel
theorem dX12_shift_16 : decode cX12_shift 16 = .ok (.aload_n 0, 1) := by decide +kernel
theorem dX12_shift_17 : decode cX12_shift 17 = .ok (.getfield 102, 3) := by decide +kernel
theorem dX12_shift_20 : decode cX12_shift 20 = .ok (.iload_n 1, 1) := by decide +kernel
theorem dX12_shift_21 : decode cX12_shift 21 = .ok (.iaload, 1) := by decide +kernel
theorem dX12_shift_22 : decode cX12_shift 22 = .ok (.iconst (-1), 1) := by decide +kernel
theorem dX12_shift_23 : decode cX12_shift 23 = .ok (.if_icmp .eq 13, 3) := by decide +kernel
theorem dX12_shift_26 : decode cX12_shift 26 = .ok (.aload_n 0, 1) := by decide +kernel
theorem dX12_shift_27 : decode cX12_shift 27 = .ok (.getfield 102, 3) := by decide +kernel
theorem dX12_shift_30 : decode cX12_shift 30 = .ok (.iload_n 3, 1) := by decide +kernel
theorem dX12_shift_31 : decode cX12_shift 31 = .ok (.iaload, 1) := by decide +kernel
theorem dX12_shift_32 : decode cX12_shift 32 = .ok (.iconst (-1), 1) := by decide +kernel
theorem dX12_shift_33 : decode cX12_shift 33 = .ok (.if_icmp .ne 6, 3) := by decide +kernel
theorem dX12_shift_36 : decode cX12_shift 36 = .ok (.bipush (-11), 2) := by decide +kernel
theorem dX12_shift_38 : decode cX12_shift 38 = .ok (.ireturn, 1) := by decide +kernel
theorem dX12_shift_39 : decode cX12_shift 39 = .ok (.aload_n 0, 1) := by decide +kernel
theorem dX12_shift_40 : decode cX12_shift 40 = .ok (.getfield 102, 3) := by decide +kernel
theorem dX12_shift_43 : decode cX12_shift 43 = .ok (.iload_n 1, 1) := by decide +kernel
theorem dX12_shift_44 : decode cX12_shift 44 = .ok (.iaload, 1) := by decide +kernel
theorem dX12_shift_45 : decode cX12_shift 45 = .ok (.iconst 5, 1) := by decide +kernel
theorem dX12_shift_46 : decode cX12_shift 46 = .ok (.if_icmp .eq 18, 3) := by decide +kernel
theorem dX12_shift_49 : decode cX12_shift 49 = .ok (.aload_n 0, 1) := by decide +kernel
theorem dX12_shift_50 : decode cX12_shift 50 = .ok (.getfield 102, 3) := by decide +kernel
theorem dX12_shift_53 : decode cX12_shift 53 = .ok (.iload_n 1, 1) := by decide +kernel
theorem dX12_shift_54 : decode cX12_shift 54 = .ok (.iaload, 1) := by decide +kernel
theorem dX12_shift_55 : decode cX12_shift 55 = .ok (.aload_n 0, 1) := by decide +kernel
theorem dX12_shift_56 : decode cX12_shift 56 = .ok (.getfield 102, 3) := by decide +kernel
theorem dX12_shift_59 : decode cX12_shift 59 = .ok (.iload_n 3, 1) := by decide +kernel
theorem dX12_shift_60 : decode cX12_shift 60 = .ok (.iaload, 1) := by decide +kernel
theorem dX12_shift_61 : decode cX12_shift 61 = .ok (.if_icmp .eq 6, 3) := by decide +kernel
theorem dX12_shift_64 : decode cX12_shift 64 = .ok (.bipush (-12), 2) := by decide +kernel
theorem dX12_shift_66 : decode cX12_shift 66 = .ok (.ireturn, 1) := by decide +kernel
theorem dX12_shift_67 : decode cX12_shift 67 = .ok (.iload 5, 2) := by decide +kernel
theorem dX12_shift_69 : decode cX12_shift 69 = .ok (.ifCond .lt 60, 3) := by decide +kernel
theorem dX12_shift_72 : decode cX12_shift 72 = .ok (.iload_n 2, 1) := by decide +kernel
theorem dX12_shift_73 : decode cX12_shift 73 = .ok (.ifCond .lt 56, 3) := by decide +kernel
theorem dX12_shift_76 : decode cX12_shift 76 = .ok (.iload 4, 2) := by decide +kernel
theorem dX12_shift_78 : decode cX12_shift 78 = .ok (.ifCond .lt 51, 3) := by decide +kernel
theorem dX12_shift_81 : decode cX12_shift 81 = .ok (.iload_n 2, 1) := by decide +kernel
theorem dX12_shift_82 : decode cX12_shift 82 = .ok (.aload_n 0, 1) := by decide +kernel
theorem dX12_shift_83 : decode cX12_shift 83 = .ok (.getfield 105, 3) := by decide +kernel
theorem dX12_shift_86 : decode cX12_shift 86 = .ok (.iload_n 1, 1) := by decide +kernel
theorem dX12_shift_87 : decode cX12_shift 87 = .ok (.iaload, 1) := by decide +kernel
theorem dX12_shift_88 : decode cX12_shift 88 = .ok (.if_icmp .gt 41, 3) := by decide +kernel
theorem dX12_shift_91 : decode cX12_shift 91 = .ok (.iload 4, 2) := by decide +kernel
theorem dX12_shift_93 : decode cX12_shift 93 = .ok (.aload_n 0, 1) := by decide +kernel
theorem dX12_shift_94 : decode cX12_shift 94 = .ok (.getfield 105, 3) := by decide +kernel
theorem dX12_shift_97 : decode cX12_shift 97 = .ok (.iload_n 3, 1) := by decide +kernel
theorem dX12_shift_98 : decode cX12_shift 98 = .ok (.iaload, 1) := by decide +kernel
theorem dX12_shift_99 : decode cX12_shift 99 = .ok (.if_icmp .gt 30, 3) := by decide +kernel
theorem dX12_shift_102 : decode cX12_shift 102 = .ok (.iload 5, 2) := by decide +kernel
theorem dX12_shift_104 : decode cX12_shift 104 = .ok (.aload_n 0, 1) := by decide +kernel
theorem dX12_shift_105 : decode cX12_shift 105 = .ok (.getfield 105, 3) := by decide +kernel
theorem dX12_shift_108 : decode cX12_shift 108 = .ok (.iload_n 1, 1) := by decide +kernel
theorem dX12_shift_109 : decode cX12_shift 109 = .ok (.iaload, 1) := by decide +kernel
theorem dX12_shift_110 : decode cX12_shift 110 = .ok (.iload_n 2, 1) := by decide +kernel
theorem dX12_shift_111 : decode cX12_shift 111 = .ok (.isub, 1) := by decide +kernel
theorem dX12_shift_112 : decode cX12_shift 112 = .ok (.if_icmp .gt 17, 3) := by decide +kernel
theorem dX12_shift_115 : decode cX12_shift 115 = .ok (.iload 5, 2) := by decide +kernel
theorem dX12_shift_117 : decode cX12_shift 117 = .ok (.aload_n 0, 1) := by decide +kernel
theorem dX12_shift_118 : decode cX12_shift 118 = .ok (.getfield 105, 3) := by decide +kernel
theorem dX12_shift_121 : decode cX12_shift 121 = .ok (.iload_n 3, 1) := by decide +kernel
theorem dX12_shift_122 : decode cX12_shift 122 = .ok (.iaload, 1) := by decide +kernel
theorem dX12_shift_123 : decode cX12_shift 123 = .ok (.iload 4, 2) := by decide +kernel
theorem dX12_shift_125 : decode cX12_shift 125 = .ok (.isub, 1) := by decide +kernel
theorem dX12_shift_126 : decode cX12_shift 126 = .ok (.if_icmp .le 6, 3) := by decide +kernel
theorem dX12_shift_129 : decode cX12_shift 129 = .ok (.bipush (-13), 2) := by decide +kernel
theorem dX12_shift_131 : decode cX12_shift 131 = .ok (.ireturn, 1) := by decide +kernel
theorem dX12_shift_132 : decode cX12_shift 132 = .ok (.iconst 0, 1) := by decide +kernel
theorem dX12_shift_133 : decode cX12_shift 133 = .ok (.istore 6, 2) := by decide +kernel
theorem dX12_shift_135 : decode cX12_shift 135 = .ok (.iload 6, 2) := by decide +kernel
theorem dX12_shift_137 : decode cX12_shift 137 = .ok (.iload 5, 2) := by decide +kernel
theorem dX12_shift_139 : decode cX12_shift 139 = .ok (.if_icmp .ge 30, 3) := by decide +kernel
theorem dX12_shift_142 : decode cX12_shift 142 = .ok (.aload_n 0, 1) := by decide +kernel
theorem dX12_shift_143 : decode cX12_shift 143 = .ok (.getfield 111, 3) := by decide +kernel
theorem dX12_shift_146 : decode cX12_shift 146 = .ok (.iload 6, 2) := by decide +kernel
theorem dX12_shift_148 : decode cX12_shift 148 = .ok (.aload_n 0, 1) := by decide +kernel
theorem dX12_shift_149 : decode cX12_shift 149 = .ok (.getfield 108, 3) := by decide +kernel
theorem dX12_shift_152 : decode cX12_shift 152 = .ok (.bipush 60, 2) := by decide +kernel
theorem dX12_shift_154 : decode cX12_shift 154 = .ok (.iload_n 1, 1) := by decide +kernel
theorem dX12_shift_155 : decode cX12_shift 155 = .ok (.imul, 1) := by decide +kernel
theorem dX12_shift_156 : decode cX12_shift 156 = .ok (.iload_n 2, 1) := by decide +kernel
theorem dX12_shift_157 : decode cX12_shift 157 = .ok (.iadd, 1) := by decide +kernel
theorem dX12_shift_158 : decode cX12_shift 158 = .ok (.iload 6, 2) := by decide +kernel
theorem dX12_shift_160 : decode cX12_shift 160 = .ok (.iadd, 1) := by decide +kernel
theorem dX12_shift_161 : decode cX12_shift 161 = .ok (.laload, 1) := by decide +kernel
theorem dX12_shift_162 : decode cX12_shift 162 = .ok (.lastore, 1) := by decide +kernel
theorem dX12_shift_163 : decode cX12_shift 163 = .ok (.iinc 6 1, 3) := by decide +kernel
theorem dX12_shift_166 : decode cX12_shift 166 = .ok (.goto (-31), 3) := by decide +kernel
theorem dX12_shift_169 : decode cX12_shift 169 = .ok (.iconst 0, 1) := by decide +kernel
theorem dX12_shift_170 : decode cX12_shift 170 = .ok (.istore 6, 2) := by decide +kernel
theorem dX12_shift_172 : decode cX12_shift 172 = .ok (.iload 6, 2) := by decide +kernel
theorem dX12_shift_174 : decode cX12_shift 174 = .ok (.iload 5, 2) := by decide +kernel
theorem dX12_shift_176 : decode cX12_shift 176 = .ok (.if_icmp .ge 31, 3) := by decide +kernel
theorem dX12_shift_179 : decode cX12_shift 179 = .ok (.aload_n 0, 1) := by decide +kernel
theorem dX12_shift_180 : decode cX12_shift 180 = .ok (.getfield 108, 3) := by decide +kernel
theorem dX12_shift_183 : decode cX12_shift 183 = .ok (.bipush 60, 2) := by decide +kernel
theorem dX12_shift_185 : decode cX12_shift 185 = .ok (.iload_n 3, 1) := by decide +kernel
theorem dX12_shift_186 : decode cX12_shift 186 = .ok (.imul, 1) := by decide +kernel
theorem dX12_shift_187 : decode cX12_shift 187 = .ok (.iload 4, 2) := by decide +kernel
theorem dX12_shift_189 : decode cX12_shift 189 = .ok (.iadd, 1) := by decide +kernel
theorem dX12_shift_190 : decode cX12_shift 190 = .ok (.iload 6, 2) := by decide +kernel
theorem dX12_shift_192 : decode cX12_shift 192 = .ok (.iadd, 1) := by decide +kernel
theorem dX12_shift_193 : decode cX12_shift 193 = .ok (.aload_n 0, 1) := by decide +kernel
theorem dX12_shift_194 : decode cX12_shift 194 = .ok (.getfield 111, 3) := by decide +kernel
theorem dX12_shift_197 : decode cX12_shift 197 = .ok (.iload 6, 2) := by decide +kernel
theorem dX12_shift_199 : decode cX12_shift 199 = .ok (.laload, 1) := by decide +kernel
theorem dX12_shift_200 : decode cX12_shift 200 = .ok (.lastore, 1) := by decide +kernel
theorem dX12_shift_201 : decode cX12_shift 201 = .ok (.iinc 6 1, 3) := by decide +kernel
theorem dX12_shift_204 : decode cX12_shift 204 = .ok (.goto (-32), 3) := by decide +kernel
theorem dX12_shift_207 : decode cX12_shift 207 = .ok (.iload 5, 2) := by decide +kernel
theorem dX12_shift_209 : decode cX12_shift 209 = .ok (.ireturn, 1) := by decide +kernel
set_option maxRecDepth 20000 in
theorem ggX12_taken_X12_isShelf : GoodIn wsX12_taken wsX12_isShelf := goodIn_r _ [7, 8, 9, 6, 10] rfl (by decide +kernel)
set_option maxRecDepth 20000 in
theorem gX12_taken_X12_isShelf : GoodIn wsX12_taken (va_wsS RX12 137 yX12_isShelf wsX12_isShelf) := goodIn_app (goodIn_r _ [4, 5, 6] rfl (by decide +kernel)) ggX12_taken_X12_isShelf
set_option maxRecDepth 20000 in
theorem ggX12_taken_X12_in : GoodIn wsX12_taken wsX12_in := goodIn_r _ [10] rfl (by decide +kernel)
set_option maxRecDepth 20000 in
theorem gX12_taken_X12_in : GoodIn wsX12_taken (va_wsS RX12 118 yX12_in wsX12_in) := goodIn_app (goodIn_r _ [8, 9, 6] rfl (by decide +kernel)) ggX12_taken_X12_in
set_option maxRecDepth 20000 in
theorem ggX12_taken_X12_over : GoodIn wsX12_taken wsX12_over := goodIn_r _ [13] rfl (by decide +kernel)
set_option maxRecDepth 20000 in
theorem gX12_taken_X12_over : GoodIn wsX12_taken (va_wsS RX12 354 yX12_over wsX12_over) := goodIn_app (goodIn_r _ [11, 12, 6] rfl (by decide +kernel)) ggX12_taken_X12_over
theorem dX12_taken_0 : decode cX12_taken 0 = .ok (.iload_n 1, 1) := by decide +kernel
theorem dX12_taken_1 : decode cX12_taken 1 = .ok (.invokestatic 137, 3) := by decide +kernel
theorem dX12_taken_4 : decode cX12_taken 4 = .ok (.ifCond .eq 13, 3) := by decide +kernel
theorem dX12_taken_7 : decode cX12_taken 7 = .ok (.iload_n 2, 1) := by decide +kernel
theorem dX12_taken_8 : decode cX12_taken 8 = .ok (.iconst 0, 1) := by decide +kernel
theorem dX12_taken_9 : decode cX12_taken 9 = .ok (.bipush 7, 2) := by decide +kernel
theorem dX12_taken_11 : decode cX12_taken 11 = .ok (.invokestatic 118, 3) := by decide +kernel
theorem dX12_taken_14 : decode cX12_taken 14 = .ok (.ifCond .ne 5, 3) := by decide +kernel
theorem dX12_taken_17 : decode cX12_taken 17 = .ok (.iconst (-1), 1) := by decide +kernel
theorem dX12_taken_18 : decode cX12_taken 18 = .ok (.ireturn, 1) := by decide +kernel
theorem dX12_taken_19 : decode cX12_taken 19 = .ok (.aload_n 0, 1) := by decide +kernel
theorem dX12_taken_20 : decode cX12_taken 20 = .ok (.getfield 102, 3) := by decide +kernel
theorem dX12_taken_23 : decode cX12_taken 23 = .ok (.iload_n 1, 1) := by decide +kernel
theorem dX12_taken_24 : decode cX12_taken 24 = .ok (.iaload, 1) := by decide +kernel
theorem dX12_taken_25 : decode cX12_taken 25 = .ok (.iconst 5, 1) := by decide +kernel
theorem dX12_taken_26 : decode cX12_taken 26 = .ok (.if_icmp .eq 21, 3) := by decide +kernel
theorem dX12_taken_29 : decode cX12_taken 29 = .ok (.aload_n 0, 1) := by decide +kernel
theorem dX12_taken_30 : decode cX12_taken 30 = .ok (.getfield 102, 3) := by decide +kernel
theorem dX12_taken_33 : decode cX12_taken 33 = .ok (.iload_n 1, 1) := by decide +kernel
theorem dX12_taken_34 : decode cX12_taken 34 = .ok (.iaload, 1) := by decide +kernel
theorem dX12_taken_35 : decode cX12_taken 35 = .ok (.iconst (-1), 1) := by decide +kernel
theorem dX12_taken_36 : decode cX12_taken 36 = .ok (.if_icmp .ne 8, 3) := by decide +kernel
theorem dX12_taken_39 : decode cX12_taken 39 = .ok (.bipush (-11), 2) := by decide +kernel
theorem dX12_taken_41 : decode cX12_taken 41 = .ok (.goto 5, 3) := by decide +kernel
theorem dX12_taken_44 : decode cX12_taken 44 = .ok (.bipush (-12), 2) := by decide +kernel
theorem dX12_taken_46 : decode cX12_taken 46 = .ok (.ireturn, 1) := by decide +kernel
theorem dX12_taken_47 : decode cX12_taken 47 = .ok (.aload_n 0, 1) := by decide +kernel
theorem dX12_taken_48 : decode cX12_taken 48 = .ok (.getfield 96, 3) := by decide +kernel
theorem dX12_taken_51 : decode cX12_taken 51 = .ok (.aload_n 0, 1) := by decide +kernel
theorem dX12_taken_52 : decode cX12_taken 52 = .ok (.getfield 105, 3) := by decide +kernel
theorem dX12_taken_55 : decode cX12_taken 55 = .ok (.iload_n 1, 1) := by decide +kernel
theorem dX12_taken_56 : decode cX12_taken 56 = .ok (.iaload, 1) := by decide +kernel
theorem dX12_taken_57 : decode cX12_taken 57 = .ok (.iaload, 1) := by decide +kernel
theorem dX12_taken_58 : decode cX12_taken 58 = .ok (.istore_n 3, 1) := by decide +kernel
theorem dX12_taken_59 : decode cX12_taken 59 = .ok (.iload_n 3, 1) := by decide +kernel
theorem dX12_taken_60 : decode cX12_taken 60 = .ok (.iload_n 2, 1) := by decide +kernel
theorem dX12_taken_61 : decode cX12_taken 61 = .ok (.if_icmp .eq 16, 3) := by decide +kernel
theorem dX12_taken_64 : decode cX12_taken 64 = .ok (.iload_n 3, 1) := by decide +kernel
theorem dX12_taken_65 : decode cX12_taken 65 = .ok (.iconst (-1), 1) := by decide +kernel
theorem dX12_taken_66 : decode cX12_taken 66 = .ok (.if_icmp .eq 11, 3) := by decide +kernel
theorem dX12_taken_69 : decode cX12_taken 69 = .ok (.iload_n 3, 1) := by decide +kernel
theorem dX12_taken_70 : decode cX12_taken 70 = .ok (.invokestatic 354, 3) := by decide +kernel
theorem dX12_taken_73 : decode cX12_taken 73 = .ok (.istore_n 3, 1) := by decide +kernel
theorem dX12_taken_74 : decode cX12_taken 74 = .ok (.goto (-15), 3) := by decide +kernel
theorem dX12_taken_77 : decode cX12_taken 77 = .ok (.iload_n 3, 1) := by decide +kernel
theorem dX12_taken_78 : decode cX12_taken 78 = .ok (.iconst (-1), 1) := by decide +kernel
theorem dX12_taken_79 : decode cX12_taken 79 = .ok (.if_icmp .ne 8, 3) := by decide +kernel
theorem dX12_taken_82 : decode cX12_taken 82 = .ok (.bipush (-12), 2) := by decide +kernel
theorem dX12_taken_84 : decode cX12_taken 84 = .ok (.goto 14, 3) := by decide +kernel
theorem dX12_taken_87 : decode cX12_taken 87 = .ok (.aload_n 0, 1) := by decide +kernel
theorem dX12_taken_88 : decode cX12_taken 88 = .ok (.getfield 96, 3) := by decide +kernel
theorem dX12_taken_91 : decode cX12_taken 91 = .ok (.aload_n 0, 1) := by decide +kernel
theorem dX12_taken_92 : decode cX12_taken 92 = .ok (.getfield 105, 3) := by decide +kernel
theorem dX12_taken_95 : decode cX12_taken 95 = .ok (.iload_n 1, 1) := by decide +kernel
theorem dX12_taken_96 : decode cX12_taken 96 = .ok (.iaload, 1) := by decide +kernel
theorem dX12_taken_97 : decode cX12_taken 97 = .ok (.iaload, 1) := by decide +kernel
theorem dX12_taken_98 : decode cX12_taken 98 = .ok (.ireturn, 1) := by decide +kernel
theorem dX12_count_0 : decode cX12_count 0 = .ok (.iconst 0, 1) := by decide +kernel
theorem dX12_count_1 : decode cX12_count 1 = .ok (.istore_n 2, 1) := by decide +kernel
theorem dX12_count_2 : decode cX12_count 2 = .ok (.iconst 0, 1) := by decide +kernel
theorem dX12_count_3 : decode cX12_count 3 = .ok (.istore_n 3, 1) := by decide +kernel
theorem dX12_count_4 : decode cX12_count 4 = .ok (.iload_n 3, 1) := by decide +kernel
theorem dX12_count_5 : decode cX12_count 5 = .ok (.aload_n 0, 1) := by decide +kernel
theorem dX12_count_6 : decode cX12_count 6 = .ok (.getfield 114, 3) := by decide +kernel
theorem dX12_count_9 : decode cX12_count 9 = .ok (.if_icmp .ge 18, 3) := by decide +kernel
theorem dX12_count_12 : decode cX12_count 12 = .ok (.iload_n 2, 1) := by decide +kernel
theorem dX12_count_13 : decode cX12_count 13 = .ok (.aload_n 0, 1) := by decide +kernel
theorem dX12_count_14 : decode cX12_count 14 = .ok (.getfield 22, 3) := by decide +kernel
theorem dX12_count_17 : decode cX12_count 17 = .ok (.iload_n 3, 1) := by decide +kernel
theorem dX12_count_18 : decode cX12_count 18 = .ok (.iaload, 1) := by decide +kernel
theorem dX12_count_19 : decode cX12_count 19 = .ok (.iadd, 1) := by decide +kernel
theorem dX12_count_20 : decode cX12_count 20 = .ok (.istore_n 2, 1) := by decide +kernel
theorem dX12_count_21 : decode cX12_count 21 = .ok (.iinc 3 1, 3) := by decide +kernel
theorem dX12_count_24 : decode cX12_count 24 = .ok (.goto (-20), 3) := by decide +kernel
theorem dX12_count_27 : decode cX12_count 27 = .ok (.iload_n 1, 1) := by decide +kernel
theorem dX12_count_28 : decode cX12_count 28 = .ok (.tableswitch 76 0 6 #[44, 49, 54, 56, 61, 66, 71], 44) := by decide +kernel
theorem dX12_count_72 : decode cX12_count 72 = .ok (.aload_n 0, 1) := by decide +kernel
theorem dX12_count_73 : decode cX12_count 73 = .ok (.getfield 114, 3) := by decide +kernel
theorem dX12_count_76 : decode cX12_count 76 = .ok (.ireturn, 1) := by decide +kernel
theorem dX12_count_77 : decode cX12_count 77 = .ok (.aload_n 0, 1) := by decide +kernel
theorem dX12_count_78 : decode cX12_count 78 = .ok (.getfield 122, 3) := by decide +kernel
theorem dX12_count_81 : decode cX12_count 81 = .ok (.ireturn, 1) := by decide +kernel
theorem dX12_count_82 : decode cX12_count 82 = .ok (.iload_n 2, 1) := by decide +kernel
theorem dX12_count_83 : decode cX12_count 83 = .ok (.ireturn, 1) := by decide +kernel
theorem dX12_count_84 : decode cX12_count 84 = .ok (.aload_n 0, 1) := by decide +kernel
theorem dX12_count_85 : decode cX12_count 85 = .ok (.getfield 172, 3) := by decide +kernel
theorem dX12_count_88 : decode cX12_count 88 = .ok (.ireturn, 1) := by decide +kernel
theorem dX12_count_89 : decode cX12_count 89 = .ok (.aload_n 0, 1) := by decide +kernel
theorem dX12_count_90 : decode cX12_count 90 = .ok (.getfield 158, 3) := by decide +kernel
theorem dX12_count_93 : decode cX12_count 93 = .ok (.ireturn, 1) := by decide +kernel
theorem dX12_count_94 : decode cX12_count 94 = .ok (.aload_n 0, 1) := by decide +kernel
theorem dX12_count_95 : decode cX12_count 95 = .ok (.getfield 372, 3) := by decide +kernel
theorem dX12_count_98 : decode cX12_count 98 = .ok (.ireturn, 1) := by decide +kernel
theorem dX12_count_99 : decode cX12_count 99 = .ok (.aload_n 0, 1) := by decide +kernel
theorem dX12_count_100 : decode cX12_count 100 = .ok (.getfield 348, 3) := by decide +kernel
theorem dX12_count_103 : decode cX12_count 103 = .ok (.ireturn, 1) := by decide +kernel
theorem dX12_count_104 : decode cX12_count 104 = .ok (.iconst (-1), 1) := by decide +kernel
theorem dX12_count_105 : decode cX12_count 105 = .ok (.ireturn, 1) := by decide +kernel

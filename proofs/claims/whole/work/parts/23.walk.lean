/-! printed by wip/whole/gen: functions and their walks -/
-- LetterBrokerModel.<init>()V
theorem dX12_init_0 : decode cX12_init 0 = .ok (.aload_n 0, 1) := by decide +kernel
theorem dX12_init_1 : decode cX12_init 1 = .ok (.invokespecial 1, 3) := by decide +kernel
theorem dX12_init_4 : decode cX12_init 4 = .ok (.aload_n 0, 1) := by decide +kernel
theorem dX12_init_5 : decode cX12_init 5 = .ok (.sipush 320, 3) := by decide +kernel
theorem dX12_init_8 : decode cX12_init 8 = .ok (.newarray .int, 2) := by decide +kernel
theorem dX12_init_10 : decode cX12_init 10 = .ok (.putfield 7, 3) := by decide +kernel
theorem dX12_init_13 : decode cX12_init 13 = .ok (.aload_n 0, 1) := by decide +kernel
theorem dX12_init_14 : decode cX12_init 14 = .ok (.sipush 8192, 3) := by decide +kernel
theorem dX12_init_17 : decode cX12_init 17 = .ok (.newarray .int, 2) := by decide +kernel
theorem dX12_init_19 : decode cX12_init 19 = .ok (.putfield 13, 3) := by decide +kernel
theorem dX12_init_22 : decode cX12_init 22 = .ok (.aload_n 0, 1) := by decide +kernel
theorem dX12_init_23 : decode cX12_init 23 = .ok (.iconst 1, 1) := by decide +kernel
theorem dX12_init_24 : decode cX12_init 24 = .ok (.putfield 16, 3) := by decide +kernel
theorem dX12_init_27 : decode cX12_init 27 = .ok (.aload_n 0, 1) := by decide +kernel
theorem dX12_init_28 : decode cX12_init 28 = .ok (.bipush 6, 2) := by decide +kernel
theorem dX12_init_30 : decode cX12_init 30 = .ok (.newarray .long, 2) := by decide +kernel
theorem dX12_init_32 : decode cX12_init 32 = .ok (.putfield 20, 3) := by decide +kernel
theorem dX12_init_35 : decode cX12_init 35 = .ok (.aload_n 0, 1) := by decide +kernel
theorem dX12_init_36 : decode cX12_init 36 = .ok (.bipush 6, 2) := by decide +kernel
theorem dX12_init_38 : decode cX12_init 38 = .ok (.newarray .int, 2) := by decide +kernel
theorem dX12_init_40 : decode cX12_init 40 = .ok (.putfield 24, 3) := by decide +kernel
theorem dX12_init_43 : decode cX12_init 43 = .ok (.aload_n 0, 1) := by decide +kernel
theorem dX12_init_44 : decode cX12_init 44 = .ok (.iconst 5, 1) := by decide +kernel
theorem dX12_init_45 : decode cX12_init 45 = .ok (.newarray .long, 2) := by decide +kernel
theorem dX12_init_47 : decode cX12_init 47 = .ok (.putfield 27, 3) := by decide +kernel
theorem dX12_init_50 : decode cX12_init 50 = .ok (.aload_n 0, 1) := by decide +kernel
theorem dX12_init_51 : decode cX12_init 51 = .ok (.iconst 5, 1) := by decide +kernel
theorem dX12_init_52 : decode cX12_init 52 = .ok (.newarray .int, 2) := by decide +kernel
theorem dX12_init_54 : decode cX12_init 54 = .ok (.putfield 30, 3) := by decide +kernel
theorem dX12_init_57 : decode cX12_init 57 = .ok (.aload_n 0, 1) := by decide +kernel
theorem dX12_init_58 : decode cX12_init 58 = .ok (.iconst 5, 1) := by decide +kernel
theorem dX12_init_59 : decode cX12_init 59 = .ok (.newarray .int, 2) := by decide +kernel
theorem dX12_init_61 : decode cX12_init 61 = .ok (.putfield 33, 3) := by decide +kernel
theorem dX12_init_64 : decode cX12_init 64 = .ok (.aload_n 0, 1) := by decide +kernel
theorem dX12_init_65 : decode cX12_init 65 = .ok (.bipush 12, 2) := by decide +kernel
theorem dX12_init_67 : decode cX12_init 67 = .ok (.newarray .long, 2) := by decide +kernel
theorem dX12_init_69 : decode cX12_init 69 = .ok (.putfield 36, 3) := by decide +kernel
theorem dX12_init_72 : decode cX12_init 72 = .ok (.aload_n 0, 1) := by decide +kernel
theorem dX12_init_73 : decode cX12_init 73 = .ok (.bipush 12, 2) := by decide +kernel
theorem dX12_init_75 : decode cX12_init 75 = .ok (.newarray .long, 2) := by decide +kernel
theorem dX12_init_77 : decode cX12_init 77 = .ok (.putfield 39, 3) := by decide +kernel
theorem dX12_init_80 : decode cX12_init 80 = .ok (.aload_n 0, 1) := by decide +kernel
theorem dX12_init_81 : decode cX12_init 81 = .ok (.bipush 12, 2) := by decide +kernel
theorem dX12_init_83 : decode cX12_init 83 = .ok (.newarray .long, 2) := by decide +kernel
theorem dX12_init_85 : decode cX12_init 85 = .ok (.putfield 42, 3) := by decide +kernel
theorem dX12_init_88 : decode cX12_init 88 = .ok (.aload_n 0, 1) := by decide +kernel
theorem dX12_init_89 : decode cX12_init 89 = .ok (.bipush 6, 2) := by decide +kernel
theorem dX12_init_91 : decode cX12_init 91 = .ok (.newarray .int, 2) := by decide +kernel
theorem dX12_init_93 : decode cX12_init 93 = .ok (.putfield 45, 3) := by decide +kernel
theorem dX12_init_96 : decode cX12_init 96 = .ok (.aload_n 0, 1) := by decide +kernel
theorem dX12_init_97 : decode cX12_init 97 = .ok (.bipush 6, 2) := by decide +kernel
theorem dX12_init_99 : decode cX12_init 99 = .ok (.newarray .int, 2) := by decide +kernel
theorem dX12_init_101 : decode cX12_init 101 = .ok (.putfield 48, 3) := by decide +kernel
theorem dX12_init_104 : decode cX12_init 104 = .ok (.aload_n 0, 1) := by decide +kernel
theorem dX12_init_105 : decode cX12_init 105 = .ok (.bipush 6, 2) := by decide +kernel
theorem dX12_init_107 : decode cX12_init 107 = .ok (.newarray .long, 2) := by decide +kernel
theorem dX12_init_109 : decode cX12_init 109 = .ok (.putfield 51, 3) := by decide +kernel
theorem dX12_init_112 : decode cX12_init 112 = .ok (.aload_n 0, 1) := by decide +kernel
theorem dX12_init_113 : decode cX12_init 113 = .ok (.bipush 6, 2) := by decide +kernel
theorem dX12_init_115 : decode cX12_init 115 = .ok (.newarray .int, 2) := by decide +kernel
theorem dX12_init_117 : decode cX12_init 117 = .ok (.putfield 54, 3) := by decide +kernel
theorem dX12_init_120 : decode cX12_init 120 = .ok (.aload_n 0, 1) := by decide +kernel
theorem dX12_init_121 : decode cX12_init 121 = .ok (.bipush 6, 2) := by decide +kernel
theorem dX12_init_123 : decode cX12_init 123 = .ok (.newarray .boolean, 2) := by decide +kernel
theorem dX12_init_125 : decode cX12_init 125 = .ok (.putfield 57, 3) := by decide +kernel
theorem dX12_init_128 : decode cX12_init 128 = .ok (.aload_n 0, 1) := by decide +kernel
theorem dX12_init_129 : decode cX12_init 129 = .ok (.bipush 24, 2) := by decide +kernel
theorem dX12_init_131 : decode cX12_init 131 = .ok (.newarray .int, 2) := by decide +kernel
theorem dX12_init_133 : decode cX12_init 133 = .ok (.putfield 61, 3) := by decide +kernel
theorem dX12_init_136 : decode cX12_init 136 = .ok (.aload_n 0, 1) := by decide +kernel
theorem dX12_init_137 : decode cX12_init 137 = .ok (.bipush 24, 2) := by decide +kernel
theorem dX12_init_139 : decode cX12_init 139 = .ok (.newarray .int, 2) := by decide +kernel
theorem dX12_init_141 : decode cX12_init 141 = .ok (.putfield 64, 3) := by decide +kernel
theorem dX12_init_144 : decode cX12_init 144 = .ok (.aload_n 0, 1) := by decide +kernel
theorem dX12_init_145 : decode cX12_init 145 = .ok (.bipush 24, 2) := by decide +kernel
theorem dX12_init_147 : decode cX12_init 147 = .ok (.newarray .int, 2) := by decide +kernel
theorem dX12_init_149 : decode cX12_init 149 = .ok (.putfield 67, 3) := by decide +kernel
theorem dX12_init_152 : decode cX12_init 152 = .ok (.aload_n 0, 1) := by decide +kernel
theorem dX12_init_153 : decode cX12_init 153 = .ok (.bipush 24, 2) := by decide +kernel
theorem dX12_init_155 : decode cX12_init 155 = .ok (.newarray .int, 2) := by decide +kernel
theorem dX12_init_157 : decode cX12_init 157 = .ok (.putfield 70, 3) := by decide +kernel
theorem dX12_init_160 : decode cX12_init 160 = .ok (.aload_n 0, 1) := by decide +kernel
theorem dX12_init_161 : decode cX12_init 161 = .ok (.bipush 24, 2) := by decide +kernel
theorem dX12_init_163 : decode cX12_init 163 = .ok (.newarray .boolean, 2) := by decide +kernel
theorem dX12_init_165 : decode cX12_init 165 = .ok (.putfield 73, 3) := by decide +kernel
theorem dX12_init_168 : decode cX12_init 168 = .ok (.aload_n 0, 1) := by decide +kernel
theorem dX12_init_169 : decode cX12_init 169 = .ok (.bipush 24, 2) := by decide +kernel
theorem dX12_init_171 : decode cX12_init 171 = .ok (.newarray .long, 2) := by decide +kernel
theorem dX12_init_173 : decode cX12_init 173 = .ok (.putfield 76, 3) := by decide +kernel
theorem dX12_init_176 : decode cX12_init 176 = .ok (.aload_n 0, 1) := by decide +kernel
theorem dX12_init_177 : decode cX12_init 177 = .ok (.bipush 24, 2) := by decide +kernel
theorem dX12_init_179 : decode cX12_init 179 = .ok (.newarray .long, 2) := by decide +kernel
theorem dX12_init_181 : decode cX12_init 181 = .ok (.putfield 79, 3) := by decide +kernel
theorem dX12_init_184 : decode cX12_init 184 = .ok (.aload_n 0, 1) := by decide +kernel
theorem dX12_init_185 : decode cX12_init 185 = .ok (.bipush 24, 2) := by decide +kernel
theorem dX12_init_187 : decode cX12_init 187 = .ok (.newarray .int, 2) := by decide +kernel
theorem dX12_init_189 : decode cX12_init 189 = .ok (.putfield 82, 3) := by decide +kernel
theorem dX12_init_192 : decode cX12_init 192 = .ok (.aload_n 0, 1) := by decide +kernel
theorem dX12_init_193 : decode cX12_init 193 = .ok (.bipush 24, 2) := by decide +kernel
theorem dX12_init_195 : decode cX12_init 195 = .ok (.newarray .long, 2) := by decide +kernel
theorem dX12_init_197 : decode cX12_init 197 = .ok (.putfield 85, 3) := by decide +kernel
theorem dX12_init_200 : decode cX12_init 200 = .ok (.aload_n 0, 1) := by decide +kernel
theorem dX12_init_201 : decode cX12_init 201 = .ok (.iconst 4, 1) := by decide +kernel
theorem dX12_init_202 : decode cX12_init 202 = .ok (.newarray .int, 2) := by decide +kernel
theorem dX12_init_204 : decode cX12_init 204 = .ok (.putfield 88, 3) := by decide +kernel
theorem dX12_init_207 : decode cX12_init 207 = .ok (.aload_n 0, 1) := by decide +kernel
theorem dX12_init_208 : decode cX12_init 208 = .ok (.iconst 4, 1) := by decide +kernel
theorem dX12_init_209 : decode cX12_init 209 = .ok (.newarray .int, 2) := by decide +kernel
theorem dX12_init_211 : decode cX12_init 211 = .ok (.putfield 91, 3) := by decide +kernel
theorem dX12_init_214 : decode cX12_init 214 = .ok (.aload_n 0, 1) := by decide +kernel
theorem dX12_init_215 : decode cX12_init 215 = .ok (.iconst 4, 1) := by decide +kernel
theorem dX12_init_216 : decode cX12_init 216 = .ok (.newarray .boolean, 2) := by decide +kernel
theorem dX12_init_218 : decode cX12_init 218 = .ok (.putfield 94, 3) := by decide +kernel
theorem dX12_init_221 : decode cX12_init 221 = .ok (.aload_n 0, 1) := by decide +kernel
theorem dX12_init_222 : decode cX12_init 222 = .ok (.iconst 4, 1) := by decide +kernel
theorem dX12_init_223 : decode cX12_init 223 = .ok (.newarray .int, 2) := by decide +kernel
theorem dX12_init_225 : decode cX12_init 225 = .ok (.putfield 97, 3) := by decide +kernel
theorem dX12_init_228 : decode cX12_init 228 = .ok (.aload_n 0, 1) := by decide +kernel
theorem dX12_init_229 : decode cX12_init 229 = .ok (.iconst 4, 1) := by decide +kernel
theorem dX12_init_230 : decode cX12_init 230 = .ok (.newarray .boolean, 2) := by decide +kernel
theorem dX12_init_232 : decode cX12_init 232 = .ok (.putfield 100, 3) := by decide +kernel
theorem dX12_init_235 : decode cX12_init 235 = .ok (.aload_n 0, 1) := by decide +kernel
theorem dX12_init_236 : decode cX12_init 236 = .ok (.iconst 4, 1) := by decide +kernel
theorem dX12_init_237 : decode cX12_init 237 = .ok (.newarray .int, 2) := by decide +kernel
theorem dX12_init_239 : decode cX12_init 239 = .ok (.putfield 103, 3) := by decide +kernel
theorem dX12_init_242 : decode cX12_init 242 = .ok (.aload_n 0, 1) := by decide +kernel
theorem dX12_init_243 : decode cX12_init 243 = .ok (.iconst 4, 1) := by decide +kernel
theorem dX12_init_244 : decode cX12_init 244 = .ok (.newarray .long, 2) := by decide +kernel
theorem dX12_init_246 : decode cX12_init 246 = .ok (.putfield 106, 3) := by decide +kernel
theorem dX12_init_249 : decode cX12_init 249 = .ok (.aload_n 0, 1) := by decide +kernel
theorem dX12_init_250 : decode cX12_init 250 = .ok (.iconst 4, 1) := by decide +kernel
theorem dX12_init_251 : decode cX12_init 251 = .ok (.newarray .long, 2) := by decide +kernel
theorem dX12_init_253 : decode cX12_init 253 = .ok (.putfield 109, 3) := by decide +kernel
theorem dX12_init_256 : decode cX12_init 256 = .ok (.aload_n 0, 1) := by decide +kernel
theorem dX12_init_257 : decode cX12_init 257 = .ok (.iconst 4, 1) := by decide +kernel
theorem dX12_init_258 : decode cX12_init 258 = .ok (.newarray .boolean, 2) := by decide +kernel
theorem dX12_init_260 : decode cX12_init 260 = .ok (.putfield 112, 3) := by decide +kernel
theorem dX12_init_263 : decode cX12_init 263 = .ok (.aload_n 0, 1) := by decide +kernel
theorem dX12_init_264 : decode cX12_init 264 = .ok (.iconst 4, 1) := by decide +kernel
theorem dX12_init_265 : decode cX12_init 265 = .ok (.newarray .int, 2) := by decide +kernel
theorem dX12_init_267 : decode cX12_init 267 = .ok (.putfield 115, 3) := by decide +kernel
theorem dX12_init_270 : decode cX12_init 270 = .ok (.aload_n 0, 1) := by decide +kernel
theorem dX12_init_271 : decode cX12_init 271 = .ok (.iconst 4, 1) := by decide +kernel
theorem dX12_init_272 : decode cX12_init 272 = .ok (.newarray .int, 2) := by decide +kernel
theorem dX12_init_274 : decode cX12_init 274 = .ok (.putfield 118, 3) := by decide +kernel
theorem dX12_init_277 : decode cX12_init 277 = .ok (.aload_n 0, 1) := by decide +kernel
theorem dX12_init_278 : decode cX12_init 278 = .ok (.iconst 4, 1) := by decide +kernel
theorem dX12_init_279 : decode cX12_init 279 = .ok (.newarray .long, 2) := by decide +kernel
theorem dX12_init_281 : decode cX12_init 281 = .ok (.putfield 121, 3) := by decide +kernel
theorem dX12_init_284 : decode cX12_init 284 = .ok (.aload_n 0, 1) := by decide +kernel
theorem dX12_init_285 : decode cX12_init 285 = .ok (.iconst 4, 1) := by decide +kernel
theorem dX12_init_286 : decode cX12_init 286 = .ok (.newarray .int, 2) := by decide +kernel
theorem dX12_init_288 : decode cX12_init 288 = .ok (.putfield 124, 3) := by decide +kernel
theorem dX12_init_291 : decode cX12_init 291 = .ok (.aload_n 0, 1) := by decide +kernel
theorem dX12_init_292 : decode cX12_init 292 = .ok (.bipush 48, 2) := by decide +kernel
theorem dX12_init_294 : decode cX12_init 294 = .ok (.newarray .int, 2) := by decide +kernel
theorem dX12_init_296 : decode cX12_init 296 = .ok (.putfield 127, 3) := by decide +kernel
theorem dX12_init_299 : decode cX12_init 299 = .ok (.aload_n 0, 1) := by decide +kernel
theorem dX12_init_300 : decode cX12_init 300 = .ok (.bipush 48, 2) := by decide +kernel
theorem dX12_init_302 : decode cX12_init 302 = .ok (.newarray .long, 2) := by decide +kernel
theorem dX12_init_304 : decode cX12_init 304 = .ok (.putfield 130, 3) := by decide +kernel
theorem dX12_init_307 : decode cX12_init 307 = .ok (.aload_n 0, 1) := by decide +kernel
theorem dX12_init_308 : decode cX12_init 308 = .ok (.bipush 48, 2) := by decide +kernel
theorem dX12_init_310 : decode cX12_init 310 = .ok (.newarray .long, 2) := by decide +kernel
theorem dX12_init_312 : decode cX12_init 312 = .ok (.putfield 133, 3) := by decide +kernel
theorem dX12_init_315 : decode cX12_init 315 = .ok (.aload_n 0, 1) := by decide +kernel
theorem dX12_init_316 : decode cX12_init 316 = .ok (.bipush 48, 2) := by decide +kernel
theorem dX12_init_318 : decode cX12_init 318 = .ok (.newarray .boolean, 2) := by decide +kernel
theorem dX12_init_320 : decode cX12_init 320 = .ok (.putfield 136, 3) := by decide +kernel
theorem dX12_init_323 : decode cX12_init 323 = .ok (.aload_n 0, 1) := by decide +kernel
theorem dX12_init_324 : decode cX12_init 324 = .ok (.bipush 48, 2) := by decide +kernel
theorem dX12_init_326 : decode cX12_init 326 = .ok (.newarray .int, 2) := by decide +kernel
theorem dX12_init_328 : decode cX12_init 328 = .ok (.putfield 139, 3) := by decide +kernel
theorem dX12_init_331 : decode cX12_init 331 = .ok (.aload_n 0, 1) := by decide +kernel
theorem dX12_init_332 : decode cX12_init 332 = .ok (.bipush 48, 2) := by decide +kernel
theorem dX12_init_334 : decode cX12_init 334 = .ok (.newarray .long, 2) := by decide +kernel
theorem dX12_init_336 : decode cX12_init 336 = .ok (.putfield 142, 3) := by decide +kernel
theorem dX12_init_339 : decode cX12_init 339 = .ok (.aload_n 0, 1) := by decide +kernel
theorem dX12_init_340 : decode cX12_init 340 = .ok (.bipush 10, 2) := by decide +kernel
theorem dX12_init_342 : decode cX12_init 342 = .ok (.newarray .long, 2) := by decide +kernel
theorem dX12_init_344 : decode cX12_init 344 = .ok (.putfield 145, 3) := by decide +kernel
theorem dX12_init_347 : decode cX12_init 347 = .ok (.aload_n 0, 1) := by decide +kernel
theorem dX12_init_348 : decode cX12_init 348 = .ok (.bipush 10, 2) := by decide +kernel
theorem dX12_init_350 : decode cX12_init 350 = .ok (.newarray .long, 2) := by decide +kernel
theorem dX12_init_352 : decode cX12_init 352 = .ok (.putfield 148, 3) := by decide +kernel
theorem dX12_init_355 : decode cX12_init 355 = .ok (.aload_n 0, 1) := by decide +kernel
theorem dX12_init_356 : decode cX12_init 356 = .ok (.bipush 110, 2) := by decide +kernel
theorem dX12_init_358 : decode cX12_init 358 = .ok (.newarray .boolean, 2) := by decide +kernel
theorem dX12_init_360 : decode cX12_init 360 = .ok (.putfield 151, 3) := by decide +kernel
theorem dX12_init_363 : decode cX12_init 363 = .ok (.return_, 1) := by decide +kernel
def f_X12_init (a0 : Nat) (h : AH) : Option (Unit × AH) := nwA h 100 320 fun a_1 h_2 =>
  wrR h_2 a0 13 1 (some a_1) fun h_3 =>
  nwA h_3 100 8192 fun a_4 h_5 =>
  wrR h_5 a0 13 3 (some a_4) fun h_6 =>
  wrI h_6 a0 13 5 1 fun h_7 =>
  nwA h_7 101 6 fun a_8 h_9 =>
  wrR h_9 a0 13 6 (some a_8) fun h_10 =>
  nwA h_10 100 6 fun a_11 h_12 =>
  wrR h_12 a0 13 7 (some a_11) fun h_13 =>
  nwA h_13 101 5 fun a_14 h_15 =>
  wrR h_15 a0 13 10 (some a_14) fun h_16 =>
  nwA h_16 100 5 fun a_17 h_18 =>
  wrR h_18 a0 13 11 (some a_17) fun h_19 =>
  nwA h_19 100 5 fun a_20 h_21 =>
  wrR h_21 a0 13 12 (some a_20) fun h_22 =>
  nwA h_22 101 12 fun a_23 h_24 =>
  wrR h_24 a0 13 14 (some a_23) fun h_25 =>
  nwA h_25 101 12 fun a_26 h_27 =>
  wrR h_27 a0 13 15 (some a_26) fun h_28 =>
  nwA h_28 101 12 fun a_29 h_30 =>
  wrR h_30 a0 13 16 (some a_29) fun h_31 =>
  nwA h_31 100 6 fun a_32 h_33 =>
  wrR h_33 a0 13 19 (some a_32) fun h_34 =>
  nwA h_34 100 6 fun a_35 h_36 =>
  wrR h_36 a0 13 20 (some a_35) fun h_37 =>
  nwA h_37 101 6 fun a_38 h_39 =>
  wrR h_39 a0 13 21 (some a_38) fun h_40 =>
  nwA h_40 100 6 fun a_41 h_42 =>
  wrR h_42 a0 13 22 (some a_41) fun h_43 =>
  nwA h_43 102 6 fun a_44 h_45 =>
  wrR h_45 a0 13 23 (some a_44) fun h_46 =>
  nwA h_46 100 24 fun a_47 h_48 =>
  wrR h_48 a0 13 26 (some a_47) fun h_49 =>
  nwA h_49 100 24 fun a_50 h_51 =>
  wrR h_51 a0 13 27 (some a_50) fun h_52 =>
  nwA h_52 100 24 fun a_53 h_54 =>
  wrR h_54 a0 13 28 (some a_53) fun h_55 =>
  nwA h_55 100 24 fun a_56 h_57 =>
  wrR h_57 a0 13 29 (some a_56) fun h_58 =>
  nwA h_58 102 24 fun a_59 h_60 =>
  wrR h_60 a0 13 30 (some a_59) fun h_61 =>
  nwA h_61 101 24 fun a_62 h_63 =>
  wrR h_63 a0 13 31 (some a_62) fun h_64 =>
  nwA h_64 101 24 fun a_65 h_66 =>
  wrR h_66 a0 13 32 (some a_65) fun h_67 =>
  nwA h_67 100 24 fun a_68 h_69 =>
  wrR h_69 a0 13 33 (some a_68) fun h_70 =>
  nwA h_70 101 24 fun a_71 h_72 =>
  wrR h_72 a0 13 34 (some a_71) fun h_73 =>
  nwA h_73 100 4 fun a_74 h_75 =>
  wrR h_75 a0 13 35 (some a_74) fun h_76 =>
  nwA h_76 100 4 fun a_77 h_78 =>
  wrR h_78 a0 13 36 (some a_77) fun h_79 =>
  nwA h_79 102 4 fun a_80 h_81 =>
  wrR h_81 a0 13 37 (some a_80) fun h_82 =>
  nwA h_82 100 4 fun a_83 h_84 =>
  wrR h_84 a0 13 38 (some a_83) fun h_85 =>
  nwA h_85 102 4 fun a_86 h_87 =>
  wrR h_87 a0 13 39 (some a_86) fun h_88 =>
  nwA h_88 100 4 fun a_89 h_90 =>
  wrR h_90 a0 13 40 (some a_89) fun h_91 =>
  nwA h_91 101 4 fun a_92 h_93 =>
  wrR h_93 a0 13 41 (some a_92) fun h_94 =>
  nwA h_94 101 4 fun a_95 h_96 =>
  wrR h_96 a0 13 42 (some a_95) fun h_97 =>
  nwA h_97 102 4 fun a_98 h_99 =>
  wrR h_99 a0 13 43 (some a_98) fun h_100 =>
  nwA h_100 100 4 fun a_101 h_102 =>
  wrR h_102 a0 13 44 (some a_101) fun h_103 =>
  nwA h_103 100 4 fun a_104 h_105 =>
  wrR h_105 a0 13 45 (some a_104) fun h_106 =>
  nwA h_106 101 4 fun a_107 h_108 =>
  wrR h_108 a0 13 46 (some a_107) fun h_109 =>
  nwA h_109 100 4 fun a_110 h_111 =>
  wrR h_111 a0 13 47 (some a_110) fun h_112 =>
  nwA h_112 100 48 fun a_113 h_114 =>
  wrR h_114 a0 13 48 (some a_113) fun h_115 =>
  nwA h_115 101 48 fun a_116 h_117 =>
  wrR h_117 a0 13 49 (some a_116) fun h_118 =>
  nwA h_118 101 48 fun a_119 h_120 =>
  wrR h_120 a0 13 50 (some a_119) fun h_121 =>
  nwA h_121 102 48 fun a_122 h_123 =>
  wrR h_123 a0 13 51 (some a_122) fun h_124 =>
  nwA h_124 100 48 fun a_125 h_126 =>
  wrR h_126 a0 13 52 (some a_125) fun h_127 =>
  nwA h_127 101 48 fun a_128 h_129 =>
  wrR h_129 a0 13 53 (some a_128) fun h_130 =>
  nwA h_130 101 10 fun a_131 h_132 =>
  wrR h_132 a0 13 58 (some a_131) fun h_133 =>
  nwA h_133 101 10 fun a_134 h_135 =>
  wrR h_135 a0 13 59 (some a_134) fun h_136 =>
  nwA h_136 102 110 fun a_137 h_138 =>
  wrR h_138 a0 13 60 (some a_137) fun h_139 =>
  some ((), h_139)
set_option maxRecDepth 20000 in
set_option maxHeartbeats 4000000 in
theorem t_X12_init {Ω : Om} (a0 : Nat) (h : AH) (q : Unit × AH) (hf : f_X12_init a0 h = some q) : Go Ω M_X12_init 0 (lv_args 0 [vR Ω (some a0)]) [] h none q.2 := by
  unfold f_X12_init at hf
  rw [la_R, la_0]
  refine go_sub (lv' := [(0, vR Ω (some a0))]) [0] rfl ?_
  refine go_aload_n dX12_init_0 rfl 0 rfl ?_
  refine go_objInit dX12_init_1 w1118 ⟨by decide, cadd (csum (Nat.le_of_ble_eq_true rfl)) (by decide +kernel)⟩ ?_
  refine go_aload_n dX12_init_4 rfl 0 rfl ?_
  refine go_sipush 320 dX12_init_5 (by decide) ?_
  refine go_newI dX12_init_8 hf (fun a_1 h_2 hf => ?_)
  refine go_putR dX12_init_10 fl_1120_0 (fun q hq => by cases hq; exact Or.inr ⟨rfl, rfl, rfl⟩) (fun _ _ => rfl) (Or.inr ⟨_, rfl⟩) hf (fun h_3 hf => ?_)
  refine go_aload_n dX12_init_13 rfl 0 rfl ?_
  refine go_sipush 8192 dX12_init_14 (by decide) ?_
  refine go_newI dX12_init_17 hf (fun a_4 h_5 hf => ?_)
  refine go_putR dX12_init_19 fl_1122_0 (fun q hq => by cases hq; exact Or.inr ⟨rfl, rfl, rfl⟩) (fun _ _ => rfl) (Or.inr ⟨_, rfl⟩) hf (fun h_6 hf => ?_)
  refine go_aload_n dX12_init_22 rfl 0 rfl ?_
  refine go_iconst 1 dX12_init_23 rfl ?_
  refine go_putI dX12_init_24 fl_1124_0 (fun q hq => by cases hq; exact Or.inl rfl) (fun _ _ => rfl) rfl hf (fun h_7 hf => ?_)
  refine go_aload_n dX12_init_27 rfl 0 rfl ?_
  refine go_bipush 6 dX12_init_28 (by decide) ?_
  refine go_newJ dX12_init_30 hf (fun a_8 h_9 hf => ?_)
  refine go_putR dX12_init_32 fl_1125_0 (fun q hq => by cases hq; exact Or.inr ⟨rfl, rfl, rfl⟩) (fun _ _ => rfl) (Or.inr ⟨_, rfl⟩) hf (fun h_10 hf => ?_)
  refine go_aload_n dX12_init_35 rfl 0 rfl ?_
  refine go_bipush 6 dX12_init_36 (by decide) ?_
  refine go_newI dX12_init_38 hf (fun a_11 h_12 hf => ?_)
  refine go_putR dX12_init_40 fl_1126_0 (fun q hq => by cases hq; exact Or.inr ⟨rfl, rfl, rfl⟩) (fun _ _ => rfl) (Or.inr ⟨_, rfl⟩) hf (fun h_13 hf => ?_)
  refine go_aload_n dX12_init_43 rfl 0 rfl ?_
  refine go_iconst 5 dX12_init_44 rfl ?_
  refine go_newJ dX12_init_45 hf (fun a_14 h_15 hf => ?_)
  refine go_putR dX12_init_47 fl_1129_0 (fun q hq => by cases hq; exact Or.inr ⟨rfl, rfl, rfl⟩) (fun _ _ => rfl) (Or.inr ⟨_, rfl⟩) hf (fun h_16 hf => ?_)
  refine go_aload_n dX12_init_50 rfl 0 rfl ?_
  refine go_iconst 5 dX12_init_51 rfl ?_
  refine go_newI dX12_init_52 hf (fun a_17 h_18 hf => ?_)
  refine go_putR dX12_init_54 fl_1130_0 (fun q hq => by cases hq; exact Or.inr ⟨rfl, rfl, rfl⟩) (fun _ _ => rfl) (Or.inr ⟨_, rfl⟩) hf (fun h_19 hf => ?_)
  refine go_aload_n dX12_init_57 rfl 0 rfl ?_
  refine go_iconst 5 dX12_init_58 rfl ?_
  refine go_newI dX12_init_59 hf (fun a_20 h_21 hf => ?_)
  refine go_putR dX12_init_61 fl_1131_0 (fun q hq => by cases hq; exact Or.inr ⟨rfl, rfl, rfl⟩) (fun _ _ => rfl) (Or.inr ⟨_, rfl⟩) hf (fun h_22 hf => ?_)
  refine go_aload_n dX12_init_64 rfl 0 rfl ?_
  refine go_bipush 12 dX12_init_65 (by decide) ?_
  refine go_newJ dX12_init_67 hf (fun a_23 h_24 hf => ?_)
  refine go_putR dX12_init_69 fl_1133_0 (fun q hq => by cases hq; exact Or.inr ⟨rfl, rfl, rfl⟩) (fun _ _ => rfl) (Or.inr ⟨_, rfl⟩) hf (fun h_25 hf => ?_)
  refine go_aload_n dX12_init_72 rfl 0 rfl ?_
  refine go_bipush 12 dX12_init_73 (by decide) ?_
  refine go_newJ dX12_init_75 hf (fun a_26 h_27 hf => ?_)
  refine go_putR dX12_init_77 fl_1134_0 (fun q hq => by cases hq; exact Or.inr ⟨rfl, rfl, rfl⟩) (fun _ _ => rfl) (Or.inr ⟨_, rfl⟩) hf (fun h_28 hf => ?_)
  refine go_aload_n dX12_init_80 rfl 0 rfl ?_
  refine go_bipush 12 dX12_init_81 (by decide) ?_
  refine go_newJ dX12_init_83 hf (fun a_29 h_30 hf => ?_)
  refine go_putR dX12_init_85 fl_1135_0 (fun q hq => by cases hq; exact Or.inr ⟨rfl, rfl, rfl⟩) (fun _ _ => rfl) (Or.inr ⟨_, rfl⟩) hf (fun h_31 hf => ?_)
  refine go_aload_n dX12_init_88 rfl 0 rfl ?_
  refine go_bipush 6 dX12_init_89 (by decide) ?_
  refine go_newI dX12_init_91 hf (fun a_32 h_33 hf => ?_)
  refine go_putR dX12_init_93 fl_1138_0 (fun q hq => by cases hq; exact Or.inr ⟨rfl, rfl, rfl⟩) (fun _ _ => rfl) (Or.inr ⟨_, rfl⟩) hf (fun h_34 hf => ?_)
  refine go_aload_n dX12_init_96 rfl 0 rfl ?_
  refine go_bipush 6 dX12_init_97 (by decide) ?_
  refine go_newI dX12_init_99 hf (fun a_35 h_36 hf => ?_)
  refine go_putR dX12_init_101 fl_1139_0 (fun q hq => by cases hq; exact Or.inr ⟨rfl, rfl, rfl⟩) (fun _ _ => rfl) (Or.inr ⟨_, rfl⟩) hf (fun h_37 hf => ?_)
  refine go_aload_n dX12_init_104 rfl 0 rfl ?_
  refine go_bipush 6 dX12_init_105 (by decide) ?_
  refine go_newJ dX12_init_107 hf (fun a_38 h_39 hf => ?_)
  refine go_putR dX12_init_109 fl_1140_0 (fun q hq => by cases hq; exact Or.inr ⟨rfl, rfl, rfl⟩) (fun _ _ => rfl) (Or.inr ⟨_, rfl⟩) hf (fun h_40 hf => ?_)
  refine go_aload_n dX12_init_112 rfl 0 rfl ?_
  refine go_bipush 6 dX12_init_113 (by decide) ?_
  refine go_newI dX12_init_115 hf (fun a_41 h_42 hf => ?_)
  refine go_putR dX12_init_117 fl_1141_0 (fun q hq => by cases hq; exact Or.inr ⟨rfl, rfl, rfl⟩) (fun _ _ => rfl) (Or.inr ⟨_, rfl⟩) hf (fun h_43 hf => ?_)
  refine go_aload_n dX12_init_120 rfl 0 rfl ?_
  refine go_bipush 6 dX12_init_121 (by decide) ?_
  refine go_newZ dX12_init_123 hf (fun a_44 h_45 hf => ?_)
  refine go_putR dX12_init_125 fl_1142_0 (fun q hq => by cases hq; exact Or.inr ⟨rfl, rfl, rfl⟩) (fun _ _ => rfl) (Or.inr ⟨_, rfl⟩) hf (fun h_46 hf => ?_)
  refine go_aload_n dX12_init_128 rfl 0 rfl ?_
  refine go_bipush 24 dX12_init_129 (by decide) ?_
  refine go_newI dX12_init_131 hf (fun a_47 h_48 hf => ?_)
  refine go_putR dX12_init_133 fl_1145_0 (fun q hq => by cases hq; exact Or.inr ⟨rfl, rfl, rfl⟩) (fun _ _ => rfl) (Or.inr ⟨_, rfl⟩) hf (fun h_49 hf => ?_)
  refine go_aload_n dX12_init_136 rfl 0 rfl ?_
  refine go_bipush 24 dX12_init_137 (by decide) ?_
  refine go_newI dX12_init_139 hf (fun a_50 h_51 hf => ?_)
  refine go_putR dX12_init_141 fl_1146_0 (fun q hq => by cases hq; exact Or.inr ⟨rfl, rfl, rfl⟩) (fun _ _ => rfl) (Or.inr ⟨_, rfl⟩) hf (fun h_52 hf => ?_)
  refine go_aload_n dX12_init_144 rfl 0 rfl ?_
  refine go_bipush 24 dX12_init_145 (by decide) ?_
  refine go_newI dX12_init_147 hf (fun a_53 h_54 hf => ?_)
  refine go_putR dX12_init_149 fl_1147_0 (fun q hq => by cases hq; exact Or.inr ⟨rfl, rfl, rfl⟩) (fun _ _ => rfl) (Or.inr ⟨_, rfl⟩) hf (fun h_55 hf => ?_)
  refine go_aload_n dX12_init_152 rfl 0 rfl ?_
  refine go_bipush 24 dX12_init_153 (by decide) ?_
  refine go_newI dX12_init_155 hf (fun a_56 h_57 hf => ?_)
  refine go_putR dX12_init_157 fl_1148_0 (fun q hq => by cases hq; exact Or.inr ⟨rfl, rfl, rfl⟩) (fun _ _ => rfl) (Or.inr ⟨_, rfl⟩) hf (fun h_58 hf => ?_)
  refine go_aload_n dX12_init_160 rfl 0 rfl ?_
  refine go_bipush 24 dX12_init_161 (by decide) ?_
  refine go_newZ dX12_init_163 hf (fun a_59 h_60 hf => ?_)
  refine go_putR dX12_init_165 fl_1149_0 (fun q hq => by cases hq; exact Or.inr ⟨rfl, rfl, rfl⟩) (fun _ _ => rfl) (Or.inr ⟨_, rfl⟩) hf (fun h_61 hf => ?_)
  refine go_aload_n dX12_init_168 rfl 0 rfl ?_
  refine go_bipush 24 dX12_init_169 (by decide) ?_
  refine go_newJ dX12_init_171 hf (fun a_62 h_63 hf => ?_)
  refine go_putR dX12_init_173 fl_1150_0 (fun q hq => by cases hq; exact Or.inr ⟨rfl, rfl, rfl⟩) (fun _ _ => rfl) (Or.inr ⟨_, rfl⟩) hf (fun h_64 hf => ?_)
  refine go_aload_n dX12_init_176 rfl 0 rfl ?_
  refine go_bipush 24 dX12_init_177 (by decide) ?_
  refine go_newJ dX12_init_179 hf (fun a_65 h_66 hf => ?_)
  refine go_putR dX12_init_181 fl_1151_0 (fun q hq => by cases hq; exact Or.inr ⟨rfl, rfl, rfl⟩) (fun _ _ => rfl) (Or.inr ⟨_, rfl⟩) hf (fun h_67 hf => ?_)
  refine go_aload_n dX12_init_184 rfl 0 rfl ?_
  refine go_bipush 24 dX12_init_185 (by decide) ?_
  refine go_newI dX12_init_187 hf (fun a_68 h_69 hf => ?_)
  refine go_putR dX12_init_189 fl_1152_0 (fun q hq => by cases hq; exact Or.inr ⟨rfl, rfl, rfl⟩) (fun _ _ => rfl) (Or.inr ⟨_, rfl⟩) hf (fun h_70 hf => ?_)
  refine go_aload_n dX12_init_192 rfl 0 rfl ?_
  refine go_bipush 24 dX12_init_193 (by decide) ?_
  refine go_newJ dX12_init_195 hf (fun a_71 h_72 hf => ?_)
  refine go_putR dX12_init_197 fl_1153_0 (fun q hq => by cases hq; exact Or.inr ⟨rfl, rfl, rfl⟩) (fun _ _ => rfl) (Or.inr ⟨_, rfl⟩) hf (fun h_73 hf => ?_)
  refine go_aload_n dX12_init_200 rfl 0 rfl ?_
  refine go_iconst 4 dX12_init_201 rfl ?_
  refine go_newI dX12_init_202 hf (fun a_74 h_75 hf => ?_)
  refine go_putR dX12_init_204 fl_1154_0 (fun q hq => by cases hq; exact Or.inr ⟨rfl, rfl, rfl⟩) (fun _ _ => rfl) (Or.inr ⟨_, rfl⟩) hf (fun h_76 hf => ?_)
  refine go_aload_n dX12_init_207 rfl 0 rfl ?_
  refine go_iconst 4 dX12_init_208 rfl ?_
  refine go_newI dX12_init_209 hf (fun a_77 h_78 hf => ?_)
  refine go_putR dX12_init_211 fl_1155_0 (fun q hq => by cases hq; exact Or.inr ⟨rfl, rfl, rfl⟩) (fun _ _ => rfl) (Or.inr ⟨_, rfl⟩) hf (fun h_79 hf => ?_)
  refine go_aload_n dX12_init_214 rfl 0 rfl ?_
  refine go_iconst 4 dX12_init_215 rfl ?_
  refine go_newZ dX12_init_216 hf (fun a_80 h_81 hf => ?_)
  refine go_putR dX12_init_218 fl_1156_0 (fun q hq => by cases hq; exact Or.inr ⟨rfl, rfl, rfl⟩) (fun _ _ => rfl) (Or.inr ⟨_, rfl⟩) hf (fun h_82 hf => ?_)
  refine go_aload_n dX12_init_221 rfl 0 rfl ?_
  refine go_iconst 4 dX12_init_222 rfl ?_
  refine go_newI dX12_init_223 hf (fun a_83 h_84 hf => ?_)
  refine go_putR dX12_init_225 fl_1157_0 (fun q hq => by cases hq; exact Or.inr ⟨rfl, rfl, rfl⟩) (fun _ _ => rfl) (Or.inr ⟨_, rfl⟩) hf (fun h_85 hf => ?_)
  refine go_aload_n dX12_init_228 rfl 0 rfl ?_
  refine go_iconst 4 dX12_init_229 rfl ?_
  refine go_newZ dX12_init_230 hf (fun a_86 h_87 hf => ?_)
  refine go_putR dX12_init_232 fl_1158_0 (fun q hq => by cases hq; exact Or.inr ⟨rfl, rfl, rfl⟩) (fun _ _ => rfl) (Or.inr ⟨_, rfl⟩) hf (fun h_88 hf => ?_)
  refine go_aload_n dX12_init_235 rfl 0 rfl ?_
  refine go_iconst 4 dX12_init_236 rfl ?_
  refine go_newI dX12_init_237 hf (fun a_89 h_90 hf => ?_)
  refine go_putR dX12_init_239 fl_1159_0 (fun q hq => by cases hq; exact Or.inr ⟨rfl, rfl, rfl⟩) (fun _ _ => rfl) (Or.inr ⟨_, rfl⟩) hf (fun h_91 hf => ?_)
  refine go_aload_n dX12_init_242 rfl 0 rfl ?_
  refine go_iconst 4 dX12_init_243 rfl ?_
  refine go_newJ dX12_init_244 hf (fun a_92 h_93 hf => ?_)
  refine go_putR dX12_init_246 fl_1160_0 (fun q hq => by cases hq; exact Or.inr ⟨rfl, rfl, rfl⟩) (fun _ _ => rfl) (Or.inr ⟨_, rfl⟩) hf (fun h_94 hf => ?_)
  refine go_aload_n dX12_init_249 rfl 0 rfl ?_
  refine go_iconst 4 dX12_init_250 rfl ?_
  refine go_newJ dX12_init_251 hf (fun a_95 h_96 hf => ?_)
  refine go_putR dX12_init_253 fl_1161_0 (fun q hq => by cases hq; exact Or.inr ⟨rfl, rfl, rfl⟩) (fun _ _ => rfl) (Or.inr ⟨_, rfl⟩) hf (fun h_97 hf => ?_)
  refine go_aload_n dX12_init_256 rfl 0 rfl ?_
  refine go_iconst 4 dX12_init_257 rfl ?_
  refine go_newZ dX12_init_258 hf (fun a_98 h_99 hf => ?_)
  refine go_putR dX12_init_260 fl_1162_0 (fun q hq => by cases hq; exact Or.inr ⟨rfl, rfl, rfl⟩) (fun _ _ => rfl) (Or.inr ⟨_, rfl⟩) hf (fun h_100 hf => ?_)
  refine go_aload_n dX12_init_263 rfl 0 rfl ?_
  refine go_iconst 4 dX12_init_264 rfl ?_
  refine go_newI dX12_init_265 hf (fun a_101 h_102 hf => ?_)
  refine go_putR dX12_init_267 fl_1163_0 (fun q hq => by cases hq; exact Or.inr ⟨rfl, rfl, rfl⟩) (fun _ _ => rfl) (Or.inr ⟨_, rfl⟩) hf (fun h_103 hf => ?_)
  refine go_aload_n dX12_init_270 rfl 0 rfl ?_
  refine go_iconst 4 dX12_init_271 rfl ?_
  refine go_newI dX12_init_272 hf (fun a_104 h_105 hf => ?_)
  refine go_putR dX12_init_274 fl_1164_0 (fun q hq => by cases hq; exact Or.inr ⟨rfl, rfl, rfl⟩) (fun _ _ => rfl) (Or.inr ⟨_, rfl⟩) hf (fun h_106 hf => ?_)
  refine go_aload_n dX12_init_277 rfl 0 rfl ?_
  refine go_iconst 4 dX12_init_278 rfl ?_
  refine go_newJ dX12_init_279 hf (fun a_107 h_108 hf => ?_)
  refine go_putR dX12_init_281 fl_1165_0 (fun q hq => by cases hq; exact Or.inr ⟨rfl, rfl, rfl⟩) (fun _ _ => rfl) (Or.inr ⟨_, rfl⟩) hf (fun h_109 hf => ?_)
  refine go_aload_n dX12_init_284 rfl 0 rfl ?_
  refine go_iconst 4 dX12_init_285 rfl ?_
  refine go_newI dX12_init_286 hf (fun a_110 h_111 hf => ?_)
  refine go_putR dX12_init_288 fl_1166_0 (fun q hq => by cases hq; exact Or.inr ⟨rfl, rfl, rfl⟩) (fun _ _ => rfl) (Or.inr ⟨_, rfl⟩) hf (fun h_112 hf => ?_)
  refine go_aload_n dX12_init_291 rfl 0 rfl ?_
  refine go_bipush 48 dX12_init_292 (by decide) ?_
  refine go_newI dX12_init_294 hf (fun a_113 h_114 hf => ?_)
  refine go_putR dX12_init_296 fl_1167_0 (fun q hq => by cases hq; exact Or.inr ⟨rfl, rfl, rfl⟩) (fun _ _ => rfl) (Or.inr ⟨_, rfl⟩) hf (fun h_115 hf => ?_)
  refine go_aload_n dX12_init_299 rfl 0 rfl ?_
  refine go_bipush 48 dX12_init_300 (by decide) ?_
  refine go_newJ dX12_init_302 hf (fun a_116 h_117 hf => ?_)
  refine go_putR dX12_init_304 fl_1168_0 (fun q hq => by cases hq; exact Or.inr ⟨rfl, rfl, rfl⟩) (fun _ _ => rfl) (Or.inr ⟨_, rfl⟩) hf (fun h_118 hf => ?_)
  refine go_aload_n dX12_init_307 rfl 0 rfl ?_
  refine go_bipush 48 dX12_init_308 (by decide) ?_
  refine go_newJ dX12_init_310 hf (fun a_119 h_120 hf => ?_)
  refine go_putR dX12_init_312 fl_1169_0 (fun q hq => by cases hq; exact Or.inr ⟨rfl, rfl, rfl⟩) (fun _ _ => rfl) (Or.inr ⟨_, rfl⟩) hf (fun h_121 hf => ?_)
  refine go_aload_n dX12_init_315 rfl 0 rfl ?_
  refine go_bipush 48 dX12_init_316 (by decide) ?_
  refine go_newZ dX12_init_318 hf (fun a_122 h_123 hf => ?_)
  refine go_putR dX12_init_320 fl_1170_0 (fun q hq => by cases hq; exact Or.inr ⟨rfl, rfl, rfl⟩) (fun _ _ => rfl) (Or.inr ⟨_, rfl⟩) hf (fun h_124 hf => ?_)
  refine go_aload_n dX12_init_323 rfl 0 rfl ?_
  refine go_bipush 48 dX12_init_324 (by decide) ?_
  refine go_newI dX12_init_326 hf (fun a_125 h_126 hf => ?_)
  refine go_putR dX12_init_328 fl_1171_0 (fun q hq => by cases hq; exact Or.inr ⟨rfl, rfl, rfl⟩) (fun _ _ => rfl) (Or.inr ⟨_, rfl⟩) hf (fun h_127 hf => ?_)
  refine go_aload_n dX12_init_331 rfl 0 rfl ?_
  refine go_bipush 48 dX12_init_332 (by decide) ?_
  refine go_newJ dX12_init_334 hf (fun a_128 h_129 hf => ?_)
  refine go_putR dX12_init_336 fl_1172_0 (fun q hq => by cases hq; exact Or.inr ⟨rfl, rfl, rfl⟩) (fun _ _ => rfl) (Or.inr ⟨_, rfl⟩) hf (fun h_130 hf => ?_)
  refine go_aload_n dX12_init_339 rfl 0 rfl ?_
  refine go_bipush 10 dX12_init_340 (by decide) ?_
  refine go_newJ dX12_init_342 hf (fun a_131 h_132 hf => ?_)
  refine go_putR dX12_init_344 fl_1177_0 (fun q hq => by cases hq; exact Or.inr ⟨rfl, rfl, rfl⟩) (fun _ _ => rfl) (Or.inr ⟨_, rfl⟩) hf (fun h_133 hf => ?_)
  refine go_aload_n dX12_init_347 rfl 0 rfl ?_
  refine go_bipush 10 dX12_init_348 (by decide) ?_
  refine go_newJ dX12_init_350 hf (fun a_134 h_135 hf => ?_)
  refine go_putR dX12_init_352 fl_1178_0 (fun q hq => by cases hq; exact Or.inr ⟨rfl, rfl, rfl⟩) (fun _ _ => rfl) (Or.inr ⟨_, rfl⟩) hf (fun h_136 hf => ?_)
  refine go_aload_n dX12_init_355 rfl 0 rfl ?_
  refine go_bipush 110 dX12_init_356 (by decide) ?_
  refine go_newZ dX12_init_358 hf (fun a_137 h_138 hf => ?_)
  refine go_putR dX12_init_360 fl_1179_0 (fun q hq => by cases hq; exact Or.inr ⟨rfl, rfl, rfl⟩) (fun _ _ => rfl) (Or.inr ⟨_, rfl⟩) hf (fun h_139 hf => ?_)
  exact go_return dX12_init_363 rfl hf
-- LetterBrokerModel.line()I
theorem dX12_line_0 : decode cX12_line 0 = .ok (.aload_n 0, 1) := by decide +kernel
theorem dX12_line_1 : decode cX12_line 1 = .ok (.getfield 207, 3) := by decide +kernel
theorem dX12_line_4 : decode cX12_line 4 = .ok (.ireturn, 1) := by decide +kernel
def f_X12_line (a0 : Nat) (h : AH) : Option (Int32 × AH) := rdI h a0 13 0 fun x_1 =>
  some (x_1, h)
set_option maxRecDepth 20000 in
set_option maxHeartbeats 4000000 in
theorem t_X12_line {Ω : Om} (a0 : Nat) (h : AH) (q : Int32 × AH) (hf : f_X12_line a0 h = some q) : Go Ω M_X12_line 0 (lv_args 0 [vR Ω (some a0)]) [] h (some (.int q.1)) q.2 := by
  unfold f_X12_line at hf
  rw [la_R, la_0]
  refine go_sub (lv' := [(0, vR Ω (some a0))]) [0] rfl ?_
  refine go_aload_n dX12_line_0 rfl 0 rfl ?_
  refine go_getI dX12_line_1 fl_1119_0 (fun _ _ => rfl) hf (fun x_1 hf => ?_)
  exact go_ireturn dX12_line_4 rfl hf
-- LetterBrokerModel.consumersOf(I)I
theorem dX12_consumersOf_0 : decode cX12_consumersOf 0 = .ok (.iconst 0, 1) := by decide +kernel
theorem dX12_consumersOf_1 : decode cX12_consumersOf 1 = .ok (.istore_n 2, 1) := by decide +kernel
theorem dX12_consumersOf_2 : decode cX12_consumersOf 2 = .ok (.iconst 0, 1) := by decide +kernel
theorem dX12_consumersOf_3 : decode cX12_consumersOf 3 = .ok (.istore_n 3, 1) := by decide +kernel
theorem dX12_consumersOf_4 : decode cX12_consumersOf 4 = .ok (.iload_n 3, 1) := by decide +kernel
theorem dX12_consumersOf_5 : decode cX12_consumersOf 5 = .ok (.aload_n 0, 1) := by decide +kernel
theorem dX12_consumersOf_6 : decode cX12_consumersOf 6 = .ok (.getfield 198, 3) := by decide +kernel
theorem dX12_consumersOf_9 : decode cX12_consumersOf 9 = .ok (.if_icmp .ge 27, 3) := by decide +kernel
theorem dX12_consumersOf_12 : decode cX12_consumersOf 12 = .ok (.iload_n 2, 1) := by decide +kernel
theorem dX12_consumersOf_13 : decode cX12_consumersOf 13 = .ok (.aload_n 0, 1) := by decide +kernel
theorem dX12_consumersOf_14 : decode cX12_consumersOf 14 = .ok (.getfield 54, 3) := by decide +kernel
theorem dX12_consumersOf_17 : decode cX12_consumersOf 17 = .ok (.iload_n 3, 1) := by decide +kernel
theorem dX12_consumersOf_18 : decode cX12_consumersOf 18 = .ok (.iaload, 1) := by decide +kernel
theorem dX12_consumersOf_19 : decode cX12_consumersOf 19 = .ok (.iload_n 1, 1) := by decide +kernel
theorem dX12_consumersOf_20 : decode cX12_consumersOf 20 = .ok (.if_icmp .ne 7, 3) := by decide +kernel
theorem dX12_consumersOf_23 : decode cX12_consumersOf 23 = .ok (.iconst 1, 1) := by decide +kernel
theorem dX12_consumersOf_24 : decode cX12_consumersOf 24 = .ok (.goto 4, 3) := by decide +kernel
theorem dX12_consumersOf_27 : decode cX12_consumersOf 27 = .ok (.iconst 0, 1) := by decide +kernel
theorem dX12_consumersOf_28 : decode cX12_consumersOf 28 = .ok (.iadd, 1) := by decide +kernel
theorem dX12_consumersOf_29 : decode cX12_consumersOf 29 = .ok (.istore_n 2, 1) := by decide +kernel
theorem dX12_consumersOf_30 : decode cX12_consumersOf 30 = .ok (.iinc 3 1, 3) := by decide +kernel
theorem dX12_consumersOf_33 : decode cX12_consumersOf 33 = .ok (.goto (-29), 3) := by decide +kernel
theorem dX12_consumersOf_36 : decode cX12_consumersOf 36 = .ok (.iload_n 2, 1) := by decide +kernel
theorem dX12_consumersOf_37 : decode cX12_consumersOf 37 = .ok (.ireturn, 1) := by decide +kernel
def f_X12_consumersOf_28 (k4 : Nat → Int32 → Int32 → Int32 → AH → Option (Int32 × AH)) (a0 : Nat) (x1 : Int32) (x3 : Int32) (s0 : Int32) (s1 : Int32) (h : AH) : Option (Int32 × AH) := lt (s1 + s0) fun x_1 =>
  k4 a0 x1 x_1 (x3 + 1) h
set_option maxRecDepth 20000 in
set_option maxHeartbeats 4000000 in
theorem t_X12_consumersOf_28 {Ω : Om} {k4 : Nat → Int32 → Int32 → Int32 → AH → Option (Int32 × AH)} (c4 : ∀ (a0 : Nat) (x1 : Int32) (x2 : Int32) (x3 : Int32) (h : AH) (q : Int32 × AH), k4 a0 x1 x2 x3 h = some q → Go Ω M_X12_consumersOf 4 [(0, vR Ω (some a0)), (1, .int x1), (2, .int x2), (3, .int x3)] [] h (some (.int q.1)) q.2) (a0 : Nat) (x1 : Int32) (x3 : Int32) (s0 : Int32) (s1 : Int32) (h : AH) (q : Int32 × AH) (hf : f_X12_consumersOf_28 k4 a0 x1 x3 s0 s1 h = some q) : Go Ω M_X12_consumersOf 28 [(0, vR Ω (some a0)), (1, .int x1), (3, .int x3)] [.int s0, .int s1] h (some (.int q.1)) q.2 := by
  unfold f_X12_consumersOf_28 at hf
  refine go_iadd dX12_consumersOf_28 ?_
  refine lt_I hf (fun x_1 hf => ?_)
  refine go_istore_n (i := 2) (lv' := [(2, .int x_1), (0, vR Ω (some a0)), (1, .int x1), (3, .int x3)]) dX12_consumersOf_29 rfl (by decide) (by first | rfl | simp [catR, catI, catJ]) ?_
  refine go_iinc (j := 3) (v := x3 + 1) (lv' := [(3, .int (x3 + 1)), (2, .int x_1), (0, vR Ω (some a0)), (1, .int x1)]) dX12_consumersOf_30 rfl rfl (by decide) (by first | rfl | simp [catR, catI, catJ]) ?_
  refine go_goto (tgt := 4) dX12_consumersOf_33 (by decide) ?_
  refine go_sub (lv' := [(0, vR Ω (some a0)), (1, .int x1), (2, .int x_1), (3, .int (x3 + 1))]) [2, 3, 1, 0] rfl ?_
  exact c4 a0 x1 x_1 (x3 + 1) h q hf
def f_X12_consumersOf_4 : Nat → Nat → Int32 → Int32 → Int32 → AH → Option (Int32 × AH)
  | 0, _, _, _, _, _ => none
  | n + 1, a0, x1, x2, x3, h => rdI h a0 13 17 fun x_1 =>
    (if x_1 ≤ x3 then
      some (x2, h)
    else
      rdR h a0 13 22 fun r_2 =>
      nn r_2 fun a_3 =>
      arI h a_3 x3 fun x_4 =>
      (if x_4 = x1 then
        f_X12_consumersOf_28 (fun a0 x1 x2 x3 h => f_X12_consumersOf_4 n a0 x1 x2 x3 h) a0 x1 x3 1 x2 h
      else
        f_X12_consumersOf_28 (fun a0 x1 x2 x3 h => f_X12_consumersOf_4 n a0 x1 x2 x3 h) a0 x1 x3 0 x2 h))
set_option maxRecDepth 20000 in
set_option maxHeartbeats 4000000 in
theorem t_X12_consumersOf_4 {Ω : Om} : ∀ (n : Nat) (a0 : Nat) (x1 : Int32) (x2 : Int32) (x3 : Int32) (h : AH) (q : Int32 × AH), f_X12_consumersOf_4 n a0 x1 x2 x3 h = some q → Go Ω M_X12_consumersOf 4 [(0, vR Ω (some a0)), (1, .int x1), (2, .int x2), (3, .int x3)] [] h (some (.int q.1)) q.2 := by
  intro n
  induction n with
  | zero => intro a0 x1 x2 x3 h q hf; cases hf
  | succ n ih =>
    intro a0 x1 x2 x3 h q hf
    rw [f_X12_consumersOf_4] at hf
    refine go_iload_n dX12_consumersOf_4 rfl 3 rfl ?_
    refine go_aload_n dX12_consumersOf_5 rfl 0 rfl ?_
    refine go_getI dX12_consumersOf_6 fl_1136_0 (fun _ _ => rfl) hf (fun x_1 hf => ?_)
    refine go_icmp_ge (tgt := 36) dX12_consumersOf_9 (by decide) hf (fun hf => ?_) (fun hf => ?_)
    · refine go_iload_n dX12_consumersOf_36 rfl 2 rfl ?_
      exact go_ireturn dX12_consumersOf_37 rfl hf
    · refine go_iload_n dX12_consumersOf_12 rfl 2 rfl ?_
      refine go_aload_n dX12_consumersOf_13 rfl 0 rfl ?_
      refine go_getR dX12_consumersOf_14 fl_1141_0 (fun _ _ => rfl) hf (fun r_2 hf => ?_)
      refine go_iload_n dX12_consumersOf_17 rfl 3 rfl ?_
      obtain ⟨a_3, rfl, hga_3⟩ := nn_some hf
      have hf := hga_3
      refine go_iaload dX12_consumersOf_18 hf (fun x_4 hf => ?_)
      refine go_iload_n dX12_consumersOf_19 rfl 1 rfl ?_
      refine go_icmp_ne (tgt := 27) dX12_consumersOf_20 (by decide) hf (fun hf => ?_) (fun hf => ?_)
      · refine go_iconst 0 dX12_consumersOf_27 rfl ?_
        refine go_sub (lv' := [(0, vR Ω (some a0)), (1, .int x1), (3, .int x3)]) [0, 1, 3] rfl ?_
        exact t_X12_consumersOf_28 ih a0 x1 x3 0 x2 h q hf
      · refine go_iconst 1 dX12_consumersOf_23 rfl ?_
        refine go_goto (tgt := 28) dX12_consumersOf_24 (by decide) ?_
        refine go_sub (lv' := [(0, vR Ω (some a0)), (1, .int x1), (3, .int x3)]) [0, 1, 3] rfl ?_
        exact t_X12_consumersOf_28 ih a0 x1 x3 1 x2 h q hf
def f_X12_consumersOf (a0 : Nat) (x1 : Int32) (h : AH) : Option (Int32 × AH) := f_X12_consumersOf_4 FU a0 x1 0 0 h
set_option maxRecDepth 20000 in
set_option maxHeartbeats 4000000 in
theorem t_X12_consumersOf {Ω : Om} (a0 : Nat) (x1 : Int32) (h : AH) (q : Int32 × AH) (hf : f_X12_consumersOf a0 x1 h = some q) : Go Ω M_X12_consumersOf 0 (lv_args 0 [vR Ω (some a0), .int x1]) [] h (some (.int q.1)) q.2 := by
  unfold f_X12_consumersOf at hf
  rw [la_R, la_I, la_0]
  refine go_sub (lv' := [(0, vR Ω (some a0)), (1, .int x1)]) [0, 1] rfl ?_
  refine go_iconst 0 dX12_consumersOf_0 rfl ?_
  refine go_istore_n (i := 2) (lv' := [(2, .int 0), (0, vR Ω (some a0)), (1, .int x1)]) dX12_consumersOf_1 rfl (by decide) (by first | rfl | simp [catR, catI, catJ]) ?_
  refine go_iconst 0 dX12_consumersOf_2 rfl ?_
  refine go_istore_n (i := 3) (lv' := [(3, .int 0), (2, .int 0), (0, vR Ω (some a0)), (1, .int x1)]) dX12_consumersOf_3 rfl (by decide) (by first | rfl | simp [catR, catI, catJ]) ?_
  refine go_sub (lv' := [(0, vR Ω (some a0)), (1, .int x1), (2, .int 0), (3, .int 0)]) [2, 3, 1, 0] rfl ?_
  exact t_X12_consumersOf_4 FU a0 x1 0 0 h q hf
-- LetterBrokerModel.firstOf(I)I
theorem dX12_firstOf_0 : decode cX12_firstOf 0 = .ok (.iconst 0, 1) := by decide +kernel
theorem dX12_firstOf_1 : decode cX12_firstOf 1 = .ok (.istore_n 2, 1) := by decide +kernel
theorem dX12_firstOf_2 : decode cX12_firstOf 2 = .ok (.iload_n 2, 1) := by decide +kernel
theorem dX12_firstOf_3 : decode cX12_firstOf 3 = .ok (.aload_n 0, 1) := by decide +kernel
theorem dX12_firstOf_4 : decode cX12_firstOf 4 = .ok (.getfield 179, 3) := by decide +kernel
theorem dX12_firstOf_7 : decode cX12_firstOf 7 = .ok (.if_icmp .ge 30, 3) := by decide +kernel
theorem dX12_firstOf_10 : decode cX12_firstOf 10 = .ok (.aload_n 0, 1) := by decide +kernel
theorem dX12_firstOf_11 : decode cX12_firstOf 11 = .ok (.getfield 64, 3) := by decide +kernel
theorem dX12_firstOf_14 : decode cX12_firstOf 14 = .ok (.iload_n 2, 1) := by decide +kernel
theorem dX12_firstOf_15 : decode cX12_firstOf 15 = .ok (.iaload, 1) := by decide +kernel
theorem dX12_firstOf_16 : decode cX12_firstOf 16 = .ok (.iload_n 1, 1) := by decide +kernel
theorem dX12_firstOf_17 : decode cX12_firstOf 17 = .ok (.if_icmp .ne 14, 3) := by decide +kernel
theorem dX12_firstOf_20 : decode cX12_firstOf 20 = .ok (.aload_n 0, 1) := by decide +kernel
theorem dX12_firstOf_21 : decode cX12_firstOf 21 = .ok (.getfield 67, 3) := by decide +kernel
theorem dX12_firstOf_24 : decode cX12_firstOf 24 = .ok (.iload_n 2, 1) := by decide +kernel
theorem dX12_firstOf_25 : decode cX12_firstOf 25 = .ok (.iaload, 1) := by decide +kernel
theorem dX12_firstOf_26 : decode cX12_firstOf 26 = .ok (.ifCond .ne 5, 3) := by decide +kernel
theorem dX12_firstOf_29 : decode cX12_firstOf 29 = .ok (.iload_n 2, 1) := by decide +kernel
theorem dX12_firstOf_30 : decode cX12_firstOf 30 = .ok (.ireturn, 1) := by decide +kernel
theorem dX12_firstOf_31 : decode cX12_firstOf 31 = .ok (.iinc 2 1, 3) := by decide +kernel
theorem dX12_firstOf_34 : decode cX12_firstOf 34 = .ok (.goto (-32), 3) := by decide +kernel
theorem dX12_firstOf_37 : decode cX12_firstOf 37 = .ok (.iconst (-1), 1) := by decide +kernel
theorem dX12_firstOf_38 : decode cX12_firstOf 38 = .ok (.ireturn, 1) := by decide +kernel
def f_X12_firstOf_31 (k2 : Nat → Int32 → Int32 → AH → Option (Int32 × AH)) (a0 : Nat) (x1 : Int32) (x2 : Int32) (h : AH) : Option (Int32 × AH) := k2 a0 x1 (x2 + 1) h
set_option maxRecDepth 20000 in
set_option maxHeartbeats 4000000 in
theorem t_X12_firstOf_31 {Ω : Om} {k2 : Nat → Int32 → Int32 → AH → Option (Int32 × AH)} (c2 : ∀ (a0 : Nat) (x1 : Int32) (x2 : Int32) (h : AH) (q : Int32 × AH), k2 a0 x1 x2 h = some q → Go Ω M_X12_firstOf 2 [(0, vR Ω (some a0)), (1, .int x1), (2, .int x2)] [] h (some (.int q.1)) q.2) (a0 : Nat) (x1 : Int32) (x2 : Int32) (h : AH) (q : Int32 × AH) (hf : f_X12_firstOf_31 k2 a0 x1 x2 h = some q) : Go Ω M_X12_firstOf 31 [(0, vR Ω (some a0)), (1, .int x1), (2, .int x2)] [] h (some (.int q.1)) q.2 := by
  unfold f_X12_firstOf_31 at hf
  refine go_iinc (j := 2) (v := x2 + 1) (lv' := [(2, .int (x2 + 1)), (0, vR Ω (some a0)), (1, .int x1)]) dX12_firstOf_31 rfl rfl (by decide) (by first | rfl | simp [catR, catI, catJ]) ?_
  refine go_goto (tgt := 2) dX12_firstOf_34 (by decide) ?_
  refine go_sub (lv' := [(0, vR Ω (some a0)), (1, .int x1), (2, .int (x2 + 1))]) [1, 2, 0] rfl ?_
  exact c2 a0 x1 (x2 + 1) h q hf
def f_X12_firstOf_2 : Nat → Nat → Int32 → Int32 → AH → Option (Int32 × AH)
  | 0, _, _, _, _ => none
  | n + 1, a0, x1, x2, h => rdI h a0 13 24 fun x_1 =>
    (if x_1 ≤ x2 then
      some (((-1)), h)
    else
      rdR h a0 13 27 fun r_2 =>
      nn r_2 fun a_3 =>
      arI h a_3 x2 fun x_4 =>
      (if x_4 = x1 then
        rdR h a0 13 28 fun r_5 =>
        nn r_5 fun a_6 =>
        arI h a_6 x2 fun x_7 =>
        (if x_7 = 0 then
          some (x2, h)
        else
          f_X12_firstOf_31 (fun a0 x1 x2 h => f_X12_firstOf_2 n a0 x1 x2 h) a0 x1 x2 h)
      else
        f_X12_firstOf_31 (fun a0 x1 x2 h => f_X12_firstOf_2 n a0 x1 x2 h) a0 x1 x2 h))
set_option maxRecDepth 20000 in
set_option maxHeartbeats 4000000 in
theorem t_X12_firstOf_2 {Ω : Om} : ∀ (n : Nat) (a0 : Nat) (x1 : Int32) (x2 : Int32) (h : AH) (q : Int32 × AH), f_X12_firstOf_2 n a0 x1 x2 h = some q → Go Ω M_X12_firstOf 2 [(0, vR Ω (some a0)), (1, .int x1), (2, .int x2)] [] h (some (.int q.1)) q.2 := by
  intro n
  induction n with
  | zero => intro a0 x1 x2 h q hf; cases hf
  | succ n ih =>
    intro a0 x1 x2 h q hf
    rw [f_X12_firstOf_2] at hf
    refine go_iload_n dX12_firstOf_2 rfl 2 rfl ?_
    refine go_aload_n dX12_firstOf_3 rfl 0 rfl ?_
    refine go_getI dX12_firstOf_4 fl_1143_0 (fun _ _ => rfl) hf (fun x_1 hf => ?_)
    refine go_icmp_ge (tgt := 37) dX12_firstOf_7 (by decide) hf (fun hf => ?_) (fun hf => ?_)
    · refine go_iconst (-1) dX12_firstOf_37 rfl ?_
      exact go_ireturn dX12_firstOf_38 rfl hf
    · refine go_aload_n dX12_firstOf_10 rfl 0 rfl ?_
      refine go_getR dX12_firstOf_11 fl_1146_0 (fun _ _ => rfl) hf (fun r_2 hf => ?_)
      refine go_iload_n dX12_firstOf_14 rfl 2 rfl ?_
      obtain ⟨a_3, rfl, hga_3⟩ := nn_some hf
      have hf := hga_3
      refine go_iaload dX12_firstOf_15 hf (fun x_4 hf => ?_)
      refine go_iload_n dX12_firstOf_16 rfl 1 rfl ?_
      refine go_icmp_ne (tgt := 31) dX12_firstOf_17 (by decide) hf (fun hf => ?_) (fun hf => ?_)
      · refine go_sub (lv' := [(0, vR Ω (some a0)), (1, .int x1), (2, .int x2)]) [0, 1, 2] rfl ?_
        exact t_X12_firstOf_31 ih a0 x1 x2 h q hf
      · refine go_aload_n dX12_firstOf_20 rfl 0 rfl ?_
        refine go_getR dX12_firstOf_21 fl_1147_0 (fun _ _ => rfl) hf (fun r_5 hf => ?_)
        refine go_iload_n dX12_firstOf_24 rfl 2 rfl ?_
        obtain ⟨a_6, rfl, hga_6⟩ := nn_some hf
        have hf := hga_6
        refine go_iaload dX12_firstOf_25 hf (fun x_7 hf => ?_)
        refine go_if_ne (tgt := 31) dX12_firstOf_26 (by decide) hf (fun hf => ?_) (fun hf => ?_)
        · refine go_sub (lv' := [(0, vR Ω (some a0)), (1, .int x1), (2, .int x2)]) [0, 1, 2] rfl ?_
          exact t_X12_firstOf_31 ih a0 x1 x2 h q hf
        · refine go_iload_n dX12_firstOf_29 rfl 2 rfl ?_
          exact go_ireturn dX12_firstOf_30 rfl hf
def f_X12_firstOf (a0 : Nat) (x1 : Int32) (h : AH) : Option (Int32 × AH) := f_X12_firstOf_2 FU a0 x1 0 h
set_option maxRecDepth 20000 in
set_option maxHeartbeats 4000000 in
theorem t_X12_firstOf {Ω : Om} (a0 : Nat) (x1 : Int32) (h : AH) (q : Int32 × AH) (hf : f_X12_firstOf a0 x1 h = some q) : Go Ω M_X12_firstOf 0 (lv_args 0 [vR Ω (some a0), .int x1]) [] h (some (.int q.1)) q.2 := by
  unfold f_X12_firstOf at hf
  rw [la_R, la_I, la_0]
  refine go_sub (lv' := [(0, vR Ω (some a0)), (1, .int x1)]) [0, 1] rfl ?_
  refine go_iconst 0 dX12_firstOf_0 rfl ?_
  refine go_istore_n (i := 2) (lv' := [(2, .int 0), (0, vR Ω (some a0)), (1, .int x1)]) dX12_firstOf_1 rfl (by decide) (by first | rfl | simp [catR, catI, catJ]) ?_
  refine go_sub (lv' := [(0, vR Ω (some a0)), (1, .int x1), (2, .int 0)]) [1, 2, 0] rfl ?_
  exact t_X12_firstOf_2 FU a0 x1 0 h q hf
-- LetterBrokerModel.waiting(I)I
theorem dX12_waiting_0 : decode cX12_waiting 0 = .ok (.iconst 0, 1) := by decide +kernel
theorem dX12_waiting_1 : decode cX12_waiting 1 = .ok (.istore_n 2, 1) := by decide +kernel
theorem dX12_waiting_2 : decode cX12_waiting 2 = .ok (.iconst 0, 1) := by decide +kernel
theorem dX12_waiting_3 : decode cX12_waiting 3 = .ok (.istore_n 3, 1) := by decide +kernel
theorem dX12_waiting_4 : decode cX12_waiting 4 = .ok (.iload_n 3, 1) := by decide +kernel
theorem dX12_waiting_5 : decode cX12_waiting 5 = .ok (.aload_n 0, 1) := by decide +kernel
theorem dX12_waiting_6 : decode cX12_waiting 6 = .ok (.getfield 179, 3) := by decide +kernel
theorem dX12_waiting_9 : decode cX12_waiting 9 = .ok (.if_icmp .ge 36, 3) := by decide +kernel
theorem dX12_waiting_12 : decode cX12_waiting 12 = .ok (.iload_n 2, 1) := by decide +kernel
theorem dX12_waiting_13 : decode cX12_waiting 13 = .ok (.aload_n 0, 1) := by decide +kernel
theorem dX12_waiting_14 : decode cX12_waiting 14 = .ok (.getfield 64, 3) := by decide +kernel
theorem dX12_waiting_17 : decode cX12_waiting 17 = .ok (.iload_n 3, 1) := by decide +kernel
theorem dX12_waiting_18 : decode cX12_waiting 18 = .ok (.iaload, 1) := by decide +kernel
theorem dX12_waiting_19 : decode cX12_waiting 19 = .ok (.iload_n 1, 1) := by decide +kernel
theorem dX12_waiting_20 : decode cX12_waiting 20 = .ok (.if_icmp .ne 16, 3) := by decide +kernel
theorem dX12_waiting_23 : decode cX12_waiting 23 = .ok (.aload_n 0, 1) := by decide +kernel
theorem dX12_waiting_24 : decode cX12_waiting 24 = .ok (.getfield 67, 3) := by decide +kernel
theorem dX12_waiting_27 : decode cX12_waiting 27 = .ok (.iload_n 3, 1) := by decide +kernel
theorem dX12_waiting_28 : decode cX12_waiting 28 = .ok (.iaload, 1) := by decide +kernel
theorem dX12_waiting_29 : decode cX12_waiting 29 = .ok (.ifCond .ne 7, 3) := by decide +kernel
theorem dX12_waiting_32 : decode cX12_waiting 32 = .ok (.iconst 1, 1) := by decide +kernel
theorem dX12_waiting_33 : decode cX12_waiting 33 = .ok (.goto 4, 3) := by decide +kernel
theorem dX12_waiting_36 : decode cX12_waiting 36 = .ok (.iconst 0, 1) := by decide +kernel
theorem dX12_waiting_37 : decode cX12_waiting 37 = .ok (.iadd, 1) := by decide +kernel
theorem dX12_waiting_38 : decode cX12_waiting 38 = .ok (.istore_n 2, 1) := by decide +kernel
theorem dX12_waiting_39 : decode cX12_waiting 39 = .ok (.iinc 3 1, 3) := by decide +kernel
theorem dX12_waiting_42 : decode cX12_waiting 42 = .ok (.goto (-38), 3) := by decide +kernel
theorem dX12_waiting_45 : decode cX12_waiting 45 = .ok (.iload_n 2, 1) := by decide +kernel
theorem dX12_waiting_46 : decode cX12_waiting 46 = .ok (.ireturn, 1) := by decide +kernel
def f_X12_waiting_37 (k4 : Nat → Int32 → Int32 → Int32 → AH → Option (Int32 × AH)) (a0 : Nat) (x1 : Int32) (x3 : Int32) (s0 : Int32) (s1 : Int32) (h : AH) : Option (Int32 × AH) := lt (s1 + s0) fun x_1 =>
  k4 a0 x1 x_1 (x3 + 1) h
set_option maxRecDepth 20000 in
set_option maxHeartbeats 4000000 in
theorem t_X12_waiting_37 {Ω : Om} {k4 : Nat → Int32 → Int32 → Int32 → AH → Option (Int32 × AH)} (c4 : ∀ (a0 : Nat) (x1 : Int32) (x2 : Int32) (x3 : Int32) (h : AH) (q : Int32 × AH), k4 a0 x1 x2 x3 h = some q → Go Ω M_X12_waiting 4 [(0, vR Ω (some a0)), (1, .int x1), (2, .int x2), (3, .int x3)] [] h (some (.int q.1)) q.2) (a0 : Nat) (x1 : Int32) (x3 : Int32) (s0 : Int32) (s1 : Int32) (h : AH) (q : Int32 × AH) (hf : f_X12_waiting_37 k4 a0 x1 x3 s0 s1 h = some q) : Go Ω M_X12_waiting 37 [(0, vR Ω (some a0)), (1, .int x1), (3, .int x3)] [.int s0, .int s1] h (some (.int q.1)) q.2 := by
  unfold f_X12_waiting_37 at hf
  refine go_iadd dX12_waiting_37 ?_
  refine lt_I hf (fun x_1 hf => ?_)
  refine go_istore_n (i := 2) (lv' := [(2, .int x_1), (0, vR Ω (some a0)), (1, .int x1), (3, .int x3)]) dX12_waiting_38 rfl (by decide) (by first | rfl | simp [catR, catI, catJ]) ?_
  refine go_iinc (j := 3) (v := x3 + 1) (lv' := [(3, .int (x3 + 1)), (2, .int x_1), (0, vR Ω (some a0)), (1, .int x1)]) dX12_waiting_39 rfl rfl (by decide) (by first | rfl | simp [catR, catI, catJ]) ?_
  refine go_goto (tgt := 4) dX12_waiting_42 (by decide) ?_
  refine go_sub (lv' := [(0, vR Ω (some a0)), (1, .int x1), (2, .int x_1), (3, .int (x3 + 1))]) [2, 3, 1, 0] rfl ?_
  exact c4 a0 x1 x_1 (x3 + 1) h q hf
def f_X12_waiting_4 : Nat → Nat → Int32 → Int32 → Int32 → AH → Option (Int32 × AH)
  | 0, _, _, _, _, _ => none
  | n + 1, a0, x1, x2, x3, h => rdI h a0 13 24 fun x_1 =>
    (if x_1 ≤ x3 then
      some (x2, h)
    else
      rdR h a0 13 27 fun r_2 =>
      nn r_2 fun a_3 =>
      arI h a_3 x3 fun x_4 =>
      (if x_4 = x1 then
        rdR h a0 13 28 fun r_5 =>
        nn r_5 fun a_6 =>
        arI h a_6 x3 fun x_7 =>
        (if x_7 = 0 then
          f_X12_waiting_37 (fun a0 x1 x2 x3 h => f_X12_waiting_4 n a0 x1 x2 x3 h) a0 x1 x3 1 x2 h
        else
          f_X12_waiting_37 (fun a0 x1 x2 x3 h => f_X12_waiting_4 n a0 x1 x2 x3 h) a0 x1 x3 0 x2 h)
      else
        f_X12_waiting_37 (fun a0 x1 x2 x3 h => f_X12_waiting_4 n a0 x1 x2 x3 h) a0 x1 x3 0 x2 h))
set_option maxRecDepth 20000 in
set_option maxHeartbeats 4000000 in
theorem t_X12_waiting_4 {Ω : Om} : ∀ (n : Nat) (a0 : Nat) (x1 : Int32) (x2 : Int32) (x3 : Int32) (h : AH) (q : Int32 × AH), f_X12_waiting_4 n a0 x1 x2 x3 h = some q → Go Ω M_X12_waiting 4 [(0, vR Ω (some a0)), (1, .int x1), (2, .int x2), (3, .int x3)] [] h (some (.int q.1)) q.2 := by
  intro n
  induction n with
  | zero => intro a0 x1 x2 x3 h q hf; cases hf
  | succ n ih =>
    intro a0 x1 x2 x3 h q hf
    rw [f_X12_waiting_4] at hf
    refine go_iload_n dX12_waiting_4 rfl 3 rfl ?_
    refine go_aload_n dX12_waiting_5 rfl 0 rfl ?_
    refine go_getI dX12_waiting_6 fl_1143_0 (fun _ _ => rfl) hf (fun x_1 hf => ?_)
    refine go_icmp_ge (tgt := 45) dX12_waiting_9 (by decide) hf (fun hf => ?_) (fun hf => ?_)
    · refine go_iload_n dX12_waiting_45 rfl 2 rfl ?_
      exact go_ireturn dX12_waiting_46 rfl hf
    · refine go_iload_n dX12_waiting_12 rfl 2 rfl ?_
      refine go_aload_n dX12_waiting_13 rfl 0 rfl ?_
      refine go_getR dX12_waiting_14 fl_1146_0 (fun _ _ => rfl) hf (fun r_2 hf => ?_)
      refine go_iload_n dX12_waiting_17 rfl 3 rfl ?_
      obtain ⟨a_3, rfl, hga_3⟩ := nn_some hf
      have hf := hga_3
      refine go_iaload dX12_waiting_18 hf (fun x_4 hf => ?_)
      refine go_iload_n dX12_waiting_19 rfl 1 rfl ?_
      refine go_icmp_ne (tgt := 36) dX12_waiting_20 (by decide) hf (fun hf => ?_) (fun hf => ?_)
      · refine go_iconst 0 dX12_waiting_36 rfl ?_
        refine go_sub (lv' := [(0, vR Ω (some a0)), (1, .int x1), (3, .int x3)]) [0, 1, 3] rfl ?_
        exact t_X12_waiting_37 ih a0 x1 x3 0 x2 h q hf
      · refine go_aload_n dX12_waiting_23 rfl 0 rfl ?_
        refine go_getR dX12_waiting_24 fl_1147_0 (fun _ _ => rfl) hf (fun r_5 hf => ?_)
        refine go_iload_n dX12_waiting_27 rfl 3 rfl ?_
        obtain ⟨a_6, rfl, hga_6⟩ := nn_some hf
        have hf := hga_6
        refine go_iaload dX12_waiting_28 hf (fun x_7 hf => ?_)
        refine go_if_ne (tgt := 36) dX12_waiting_29 (by decide) hf (fun hf => ?_) (fun hf => ?_)
        · refine go_iconst 0 dX12_waiting_36 rfl ?_
          refine go_sub (lv' := [(0, vR Ω (some a0)), (1, .int x1), (3, .int x3)]) [0, 1, 3] rfl ?_
          exact t_X12_waiting_37 ih a0 x1 x3 0 x2 h q hf
        · refine go_iconst 1 dX12_waiting_32 rfl ?_
          refine go_goto (tgt := 37) dX12_waiting_33 (by decide) ?_
          refine go_sub (lv' := [(0, vR Ω (some a0)), (1, .int x1), (3, .int x3)]) [0, 1, 3] rfl ?_
          exact t_X12_waiting_37 ih a0 x1 x3 1 x2 h q hf
def f_X12_waiting (a0 : Nat) (x1 : Int32) (h : AH) : Option (Int32 × AH) := f_X12_waiting_4 FU a0 x1 0 0 h
set_option maxRecDepth 20000 in
set_option maxHeartbeats 4000000 in
theorem t_X12_waiting {Ω : Om} (a0 : Nat) (x1 : Int32) (h : AH) (q : Int32 × AH) (hf : f_X12_waiting a0 x1 h = some q) : Go Ω M_X12_waiting 0 (lv_args 0 [vR Ω (some a0), .int x1]) [] h (some (.int q.1)) q.2 := by
  unfold f_X12_waiting at hf
  rw [la_R, la_I, la_0]
  refine go_sub (lv' := [(0, vR Ω (some a0)), (1, .int x1)]) [0, 1] rfl ?_
  refine go_iconst 0 dX12_waiting_0 rfl ?_
  refine go_istore_n (i := 2) (lv' := [(2, .int 0), (0, vR Ω (some a0)), (1, .int x1)]) dX12_waiting_1 rfl (by decide) (by first | rfl | simp [catR, catI, catJ]) ?_
  refine go_iconst 0 dX12_waiting_2 rfl ?_
  refine go_istore_n (i := 3) (lv' := [(3, .int 0), (2, .int 0), (0, vR Ω (some a0)), (1, .int x1)]) dX12_waiting_3 rfl (by decide) (by first | rfl | simp [catR, catI, catJ]) ?_
  refine go_sub (lv' := [(0, vR Ω (some a0)), (1, .int x1), (2, .int 0), (3, .int 0)]) [2, 3, 1, 0] rfl ?_
  exact t_X12_waiting_4 FU a0 x1 0 0 h q hf
-- LetterBrokerModel.queue(II)I
theorem dX12_queue_0 : decode cX12_queue 0 = .ok (.iload_n 1, 1) := by decide +kernel
theorem dX12_queue_1 : decode cX12_queue 1 = .ok (.ifCond .lt 11, 3) := by decide +kernel
theorem dX12_queue_4 : decode cX12_queue 4 = .ok (.iload_n 1, 1) := by decide +kernel
theorem dX12_queue_5 : decode cX12_queue 5 = .ok (.aload_n 0, 1) := by decide +kernel
theorem dX12_queue_6 : decode cX12_queue 6 = .ok (.getfield 185, 3) := by decide +kernel
theorem dX12_queue_9 : decode cX12_queue 9 = .ok (.if_icmp .lt 5, 3) := by decide +kernel
theorem dX12_queue_12 : decode cX12_queue 12 = .ok (.iconst (-1), 1) := by decide +kernel
theorem dX12_queue_13 : decode cX12_queue 13 = .ok (.ireturn, 1) := by decide +kernel
theorem dX12_queue_14 : decode cX12_queue 14 = .ok (.iload_n 2, 1) := by decide +kernel
theorem dX12_queue_15 : decode cX12_queue 15 = .ok (.tableswitch 127 0 3 #[29, 40, 51, 98], 29) := by decide +kernel
theorem dX12_queue_44 : decode cX12_queue 44 = .ok (.aload_n 0, 1) := by decide +kernel
theorem dX12_queue_45 : decode cX12_queue 45 = .ok (.aload_n 0, 1) := by decide +kernel
theorem dX12_queue_46 : decode cX12_queue 46 = .ok (.getfield 30, 3) := by decide +kernel
theorem dX12_queue_49 : decode cX12_queue 49 = .ok (.iload_n 1, 1) := by decide +kernel
theorem dX12_queue_50 : decode cX12_queue 50 = .ok (.iaload, 1) := by decide +kernel
theorem dX12_queue_51 : decode cX12_queue 51 = .ok (.invokevirtual 348, 3) := by decide +kernel
theorem dX12_queue_54 : decode cX12_queue 54 = .ok (.ireturn, 1) := by decide +kernel
theorem dX12_queue_55 : decode cX12_queue 55 = .ok (.aload_n 0, 1) := by decide +kernel
theorem dX12_queue_56 : decode cX12_queue 56 = .ok (.aload_n 0, 1) := by decide +kernel
theorem dX12_queue_57 : decode cX12_queue 57 = .ok (.getfield 30, 3) := by decide +kernel
theorem dX12_queue_60 : decode cX12_queue 60 = .ok (.iload_n 1, 1) := by decide +kernel
theorem dX12_queue_61 : decode cX12_queue 61 = .ok (.iaload, 1) := by decide +kernel
theorem dX12_queue_62 : decode cX12_queue 62 = .ok (.invokevirtual 351, 3) := by decide +kernel
theorem dX12_queue_65 : decode cX12_queue 65 = .ok (.ireturn, 1) := by decide +kernel
theorem dX12_queue_66 : decode cX12_queue 66 = .ok (.iconst 0, 1) := by decide +kernel
theorem dX12_queue_67 : decode cX12_queue 67 = .ok (.istore_n 3, 1) := by decide +kernel
theorem dX12_queue_68 : decode cX12_queue 68 = .ok (.iconst 0, 1) := by decide +kernel
theorem dX12_queue_69 : decode cX12_queue 69 = .ok (.istore 4, 2) := by decide +kernel
theorem dX12_queue_71 : decode cX12_queue 71 = .ok (.iload 4, 2) := by decide +kernel
theorem dX12_queue_73 : decode cX12_queue 73 = .ok (.aload_n 0, 1) := by decide +kernel
theorem dX12_queue_74 : decode cX12_queue 74 = .ok (.getfield 222, 3) := by decide +kernel
theorem dX12_queue_77 : decode cX12_queue 77 = .ok (.if_icmp .ge 34, 3) := by decide +kernel
theorem dX12_queue_80 : decode cX12_queue 80 = .ok (.iload_n 3, 1) := by decide +kernel
theorem dX12_queue_81 : decode cX12_queue 81 = .ok (.aload_n 0, 1) := by decide +kernel
theorem dX12_queue_82 : decode cX12_queue 82 = .ok (.getfield 36, 3) := by decide +kernel
theorem dX12_queue_85 : decode cX12_queue 85 = .ok (.iload 4, 2) := by decide +kernel
theorem dX12_queue_87 : decode cX12_queue 87 = .ok (.laload, 1) := by decide +kernel
theorem dX12_queue_88 : decode cX12_queue 88 = .ok (.aload_n 0, 1) := by decide +kernel
theorem dX12_queue_89 : decode cX12_queue 89 = .ok (.getfield 27, 3) := by decide +kernel
theorem dX12_queue_92 : decode cX12_queue 92 = .ok (.iload_n 1, 1) := by decide +kernel
theorem dX12_queue_93 : decode cX12_queue 93 = .ok (.laload, 1) := by decide +kernel
theorem dX12_queue_94 : decode cX12_queue 94 = .ok (.lcmp, 1) := by decide +kernel
theorem dX12_queue_95 : decode cX12_queue 95 = .ok (.ifCond .ne 7, 3) := by decide +kernel
theorem dX12_queue_98 : decode cX12_queue 98 = .ok (.iconst 1, 1) := by decide +kernel
theorem dX12_queue_99 : decode cX12_queue 99 = .ok (.goto 4, 3) := by decide +kernel
theorem dX12_queue_102 : decode cX12_queue 102 = .ok (.iconst 0, 1) := by decide +kernel
theorem dX12_queue_103 : decode cX12_queue 103 = .ok (.iadd, 1) := by decide +kernel
theorem dX12_queue_104 : decode cX12_queue 104 = .ok (.istore_n 3, 1) := by decide +kernel
theorem dX12_queue_105 : decode cX12_queue 105 = .ok (.iinc 4 1, 3) := by decide +kernel
theorem dX12_queue_108 : decode cX12_queue 108 = .ok (.goto (-37), 3) := by decide +kernel
theorem dX12_queue_111 : decode cX12_queue 111 = .ok (.iload_n 3, 1) := by decide +kernel
theorem dX12_queue_112 : decode cX12_queue 112 = .ok (.ireturn, 1) := by decide +kernel
theorem dX12_queue_113 : decode cX12_queue 113 = .ok (.aload_n 0, 1) := by decide +kernel
theorem dX12_queue_114 : decode cX12_queue 114 = .ok (.aload_n 0, 1) := by decide +kernel
theorem dX12_queue_115 : decode cX12_queue 115 = .ok (.getfield 30, 3) := by decide +kernel
theorem dX12_queue_118 : decode cX12_queue 118 = .ok (.iload_n 1, 1) := by decide +kernel
theorem dX12_queue_119 : decode cX12_queue 119 = .ok (.iaload, 1) := by decide +kernel
theorem dX12_queue_120 : decode cX12_queue 120 = .ok (.invokevirtual 288, 3) := by decide +kernel
theorem dX12_queue_123 : decode cX12_queue 123 = .ok (.istore 4, 2) := by decide +kernel
theorem dX12_queue_125 : decode cX12_queue 125 = .ok (.iload 4, 2) := by decide +kernel
theorem dX12_queue_127 : decode cX12_queue 127 = .ok (.ifCond .ge 7, 3) := by decide +kernel
theorem dX12_queue_130 : decode cX12_queue 130 = .ok (.iconst 0, 1) := by decide +kernel
theorem dX12_queue_131 : decode cX12_queue 131 = .ok (.goto 10, 3) := by decide +kernel
theorem dX12_queue_134 : decode cX12_queue 134 = .ok (.aload_n 0, 1) := by decide +kernel
theorem dX12_queue_135 : decode cX12_queue 135 = .ok (.getfield 61, 3) := by decide +kernel
theorem dX12_queue_138 : decode cX12_queue 138 = .ok (.iload 4, 2) := by decide +kernel
theorem dX12_queue_140 : decode cX12_queue 140 = .ok (.iaload, 1) := by decide +kernel
theorem dX12_queue_141 : decode cX12_queue 141 = .ok (.ireturn, 1) := by decide +kernel
theorem dX12_queue_142 : decode cX12_queue 142 = .ok (.iconst (-1), 1) := by decide +kernel
theorem dX12_queue_143 : decode cX12_queue 143 = .ok (.ireturn, 1) := by decide +kernel
def f_X12_queue_103 (k71 : Nat → Int32 → Int32 → Int32 → AH → Option (Int32 × AH)) (a0 : Nat) (x1 : Int32) (x4 : Int32) (s0 : Int32) (s1 : Int32) (h : AH) : Option (Int32 × AH) := lt (s1 + s0) fun x_1 =>
  k71 a0 x1 x_1 (x4 + 1) h
set_option maxRecDepth 20000 in
set_option maxHeartbeats 4000000 in
theorem t_X12_queue_103 {Ω : Om} {k71 : Nat → Int32 → Int32 → Int32 → AH → Option (Int32 × AH)} (c71 : ∀ (a0 : Nat) (x1 : Int32) (x3 : Int32) (x4 : Int32) (h : AH) (q : Int32 × AH), k71 a0 x1 x3 x4 h = some q → Go Ω M_X12_queue 71 [(0, vR Ω (some a0)), (1, .int x1), (3, .int x3), (4, .int x4)] [] h (some (.int q.1)) q.2) (a0 : Nat) (x1 : Int32) (x4 : Int32) (s0 : Int32) (s1 : Int32) (h : AH) (q : Int32 × AH) (hf : f_X12_queue_103 k71 a0 x1 x4 s0 s1 h = some q) : Go Ω M_X12_queue 103 [(0, vR Ω (some a0)), (1, .int x1), (4, .int x4)] [.int s0, .int s1] h (some (.int q.1)) q.2 := by
  unfold f_X12_queue_103 at hf
  refine go_iadd dX12_queue_103 ?_
  refine lt_I hf (fun x_1 hf => ?_)
  refine go_istore_n (i := 3) (lv' := [(3, .int x_1), (0, vR Ω (some a0)), (1, .int x1), (4, .int x4)]) dX12_queue_104 rfl (by decide) (by first | rfl | simp [catR, catI, catJ]) ?_
  refine go_iinc (j := 3) (v := x4 + 1) (lv' := [(4, .int (x4 + 1)), (3, .int x_1), (0, vR Ω (some a0)), (1, .int x1)]) dX12_queue_105 rfl rfl (by decide) (by first | rfl | simp [catR, catI, catJ]) ?_
  refine go_goto (tgt := 71) dX12_queue_108 (by decide) ?_
  refine go_sub (lv' := [(0, vR Ω (some a0)), (1, .int x1), (3, .int x_1), (4, .int (x4 + 1))]) [2, 3, 1, 0] rfl ?_
  exact c71 a0 x1 x_1 (x4 + 1) h q hf
def f_X12_queue_71 : Nat → Nat → Int32 → Int32 → Int32 → AH → Option (Int32 × AH)
  | 0, _, _, _, _, _ => none
  | n + 1, a0, x1, x3, x4, h => rdI h a0 13 13 fun x_1 =>
    (if x_1 ≤ x4 then
      some (x3, h)
    else
      rdR h a0 13 14 fun r_2 =>
      nn r_2 fun a_3 =>
      arJ h a_3 x4 fun x_4 =>
      rdR h a0 13 10 fun r_5 =>
      nn r_5 fun a_6 =>
      arJ h a_6 x1 fun x_7 =>
      (if (lg_cmp x_4 x_7) = 0 then
        f_X12_queue_103 (fun a0 x1 x3 x4 h => f_X12_queue_71 n a0 x1 x3 x4 h) a0 x1 x4 1 x3 h
      else
        f_X12_queue_103 (fun a0 x1 x3 x4 h => f_X12_queue_71 n a0 x1 x3 x4 h) a0 x1 x4 0 x3 h))
set_option maxRecDepth 20000 in
set_option maxHeartbeats 4000000 in
theorem t_X12_queue_71 {Ω : Om} : ∀ (n : Nat) (a0 : Nat) (x1 : Int32) (x3 : Int32) (x4 : Int32) (h : AH) (q : Int32 × AH), f_X12_queue_71 n a0 x1 x3 x4 h = some q → Go Ω M_X12_queue 71 [(0, vR Ω (some a0)), (1, .int x1), (3, .int x3), (4, .int x4)] [] h (some (.int q.1)) q.2 := by
  intro n
  induction n with
  | zero => intro a0 x1 x3 x4 h q hf; cases hf
  | succ n ih =>
    intro a0 x1 x3 x4 h q hf
    rw [f_X12_queue_71] at hf
    refine go_iload dX12_queue_71 3 rfl ?_
    refine go_aload_n dX12_queue_73 rfl 0 rfl ?_
    refine go_getI dX12_queue_74 fl_1132_0 (fun _ _ => rfl) hf (fun x_1 hf => ?_)
    refine go_icmp_ge (tgt := 111) dX12_queue_77 (by decide) hf (fun hf => ?_) (fun hf => ?_)
    · refine go_iload_n dX12_queue_111 rfl 2 rfl ?_
      exact go_ireturn dX12_queue_112 rfl hf
    · refine go_iload_n dX12_queue_80 rfl 2 rfl ?_
      refine go_aload_n dX12_queue_81 rfl 0 rfl ?_
      refine go_getR dX12_queue_82 fl_1133_0 (fun _ _ => rfl) hf (fun r_2 hf => ?_)
      refine go_iload dX12_queue_85 3 rfl ?_
      obtain ⟨a_3, rfl, hga_3⟩ := nn_some hf
      have hf := hga_3
      refine go_laload dX12_queue_87 hf (fun x_4 hf => ?_)
      refine go_aload_n dX12_queue_88 rfl 0 rfl ?_
      refine go_getR dX12_queue_89 fl_1129_0 (fun _ _ => rfl) hf (fun r_5 hf => ?_)
      refine go_iload_n dX12_queue_92 rfl 1 rfl ?_
      obtain ⟨a_6, rfl, hga_6⟩ := nn_some hf
      have hf := hga_6
      refine go_laload dX12_queue_93 hf (fun x_7 hf => ?_)
      refine go_lcmp dX12_queue_94 ?_
      refine go_if_ne (tgt := 102) dX12_queue_95 (by decide) hf (fun hf => ?_) (fun hf => ?_)
      · refine go_iconst 0 dX12_queue_102 rfl ?_
        refine go_sub (lv' := [(0, vR Ω (some a0)), (1, .int x1), (4, .int x4)]) [0, 1, 3] rfl ?_
        exact t_X12_queue_103 ih a0 x1 x4 0 x3 h q hf
      · refine go_iconst 1 dX12_queue_98 rfl ?_
        refine go_goto (tgt := 103) dX12_queue_99 (by decide) ?_
        refine go_sub (lv' := [(0, vR Ω (some a0)), (1, .int x1), (4, .int x4)]) [0, 1, 3] rfl ?_
        exact t_X12_queue_103 ih a0 x1 x4 1 x3 h q hf
def f_X12_queue (a0 : Nat) (x1 : Int32) (x2 : Int32) (h : AH) : Option (Int32 × AH) := (if x1 < 0 then
    some (((-1)), h)
  else
    rdI h a0 13 8 fun x_1 =>
    (if x1 < x_1 then
      (if x2 = 0 then
        rdR h a0 13 11 fun r_2 =>
        nn r_2 fun a_3 =>
        arI h a_3 x1 fun x_4 =>
        kg h a0 13 (bd (f_X12_waiting a0 x_4 h) fun x_7 h_6 =>
        some (x_7, h_6))
      else (if x2 = 1 then
        rdR h a0 13 11 fun r_8 =>
        nn r_8 fun a_9 =>
        arI h a_9 x1 fun x_10 =>
        kg h a0 13 (bd (f_X12_consumersOf a0 x_10 h) fun x_13 h_12 =>
        some (x_13, h_12))
      else (if x2 = 2 then
        f_X12_queue_71 FU a0 x1 0 0 h
      else (if x2 = 3 then
        rdR h a0 13 11 fun r_14 =>
        nn r_14 fun a_15 =>
        arI h a_15 x1 fun x_16 =>
        kg h a0 13 (bd (f_X12_firstOf a0 x_16 h) fun x_19 h_18 =>
        (if 0 ≤ x_19 then
          rdR h_18 a0 13 26 fun r_20 =>
          nn r_20 fun a_21 =>
          arI h_18 a_21 x_19 fun x_22 =>
          some (x_22, h_18)
        else
          some (0, h_18)))
      else some (((-1)), h)))))
    else
      some (((-1)), h)))
set_option maxRecDepth 20000 in
set_option maxHeartbeats 4000000 in
theorem t_X12_queue {Ω : Om} (a0 : Nat) (x1 : Int32) (x2 : Int32) (h : AH) (q : Int32 × AH) (hf : f_X12_queue a0 x1 x2 h = some q) : Go Ω M_X12_queue 0 (lv_args 0 [vR Ω (some a0), .int x1, .int x2]) [] h (some (.int q.1)) q.2 := by
  unfold f_X12_queue at hf
  rw [la_R, la_I, la_I, la_0]
  refine go_sub (lv' := [(0, vR Ω (some a0)), (1, .int x1), (2, .int x2)]) [0, 1, 2] rfl ?_
  refine go_iload_n dX12_queue_0 rfl 1 rfl ?_
  refine go_if_lt (tgt := 12) dX12_queue_1 (by decide) hf (fun hf => ?_) (fun hf => ?_)
  · refine go_iconst (-1) dX12_queue_12 rfl ?_
    exact go_ireturn dX12_queue_13 rfl hf
  · refine go_iload_n dX12_queue_4 rfl 1 rfl ?_
    refine go_aload_n dX12_queue_5 rfl 0 rfl ?_
    refine go_getI dX12_queue_6 fl_1127_0 (fun _ _ => rfl) hf (fun x_1 hf => ?_)
    refine go_icmp_lt (tgt := 14) dX12_queue_9 (by decide) hf (fun hf => ?_) (fun hf => ?_)
    · refine go_iload_n dX12_queue_14 rfl 2 rfl ?_
      by_cases e0 : x2 = 0
      · rw [if_pos e0] at hf
        refine go_tsw1 (off := 29) (tgt := 44) dX12_queue_15 (by rw [e0]; decide) (by rw [e0]; decide) (by rw [e0]; decide) (by decide) ?_
        refine go_aload_n dX12_queue_44 rfl 0 rfl ?_
        refine go_aload_n dX12_queue_45 rfl 0 rfl ?_
        refine go_getR dX12_queue_46 fl_1130_0 (fun _ _ => rfl) hf (fun r_2 hf => ?_)
        refine go_iload_n dX12_queue_49 rfl 1 rfl ?_
        obtain ⟨a_3, rfl, hga_3⟩ := nn_some hf
        have hf := hga_3
        refine go_iaload dX12_queue_50 hf (fun x_4 hf => ?_)
        obtain ⟨hk, hf⟩ := kg_some hf
        obtain ⟨z_5, hc, hf⟩ := bd_some hf
        refine go_callV (y2 := M_X12_waiting) (c2 := 13) dX12_queue_51 mo_X12_waiting ⟨Nat.le_of_ble_eq_true rfl, Nat.le_of_ble_eq_true rfl⟩ na_X12_waiting w1467 w1469 (by decide) rfl w84 hk [.int x_4] rfl (n_X12_waiting (a0) x_4) rfl (csum (Nat.le_of_ble_eq_true rfl)) (t_X12_waiting (a0) x_4 h _ hc) ?_
        obtain ⟨x_7, h_6⟩ := z_5
        exact go_ireturn dX12_queue_54 rfl hf
      rw [if_neg e0] at hf
      by_cases e1 : x2 = 1
      · rw [if_pos e1] at hf
        refine go_tsw1 (off := 40) (tgt := 55) dX12_queue_15 (by rw [e1]; decide) (by rw [e1]; decide) (by rw [e1]; decide) (by decide) ?_
        refine go_aload_n dX12_queue_55 rfl 0 rfl ?_
        refine go_aload_n dX12_queue_56 rfl 0 rfl ?_
        refine go_getR dX12_queue_57 fl_1130_0 (fun _ _ => rfl) hf (fun r_8 hf => ?_)
        refine go_iload_n dX12_queue_60 rfl 1 rfl ?_
        obtain ⟨a_9, rfl, hga_9⟩ := nn_some hf
        have hf := hga_9
        refine go_iaload dX12_queue_61 hf (fun x_10 hf => ?_)
        obtain ⟨hk, hf⟩ := kg_some hf
        obtain ⟨z_11, hc, hf⟩ := bd_some hf
        refine go_callV (y2 := M_X12_consumersOf) (c2 := 13) dX12_queue_62 mo_X12_consumersOf ⟨Nat.le_of_ble_eq_true rfl, Nat.le_of_ble_eq_true rfl⟩ na_X12_consumersOf w1471 w1473 (by decide) rfl w85 hk [.int x_10] rfl (n_X12_consumersOf (a0) x_10) rfl (csum (Nat.le_of_ble_eq_true rfl)) (t_X12_consumersOf (a0) x_10 h _ hc) ?_
        obtain ⟨x_13, h_12⟩ := z_11
        exact go_ireturn dX12_queue_65 rfl hf
      rw [if_neg e1] at hf
      by_cases e2 : x2 = 2
      · rw [if_pos e2] at hf
        refine go_tsw1 (off := 51) (tgt := 66) dX12_queue_15 (by rw [e2]; decide) (by rw [e2]; decide) (by rw [e2]; decide) (by decide) ?_
        refine go_iconst 0 dX12_queue_66 rfl ?_
        refine go_istore_n (i := 3) (lv' := [(3, .int 0), (0, vR Ω (some a0)), (1, .int x1), (2, .int x2)]) dX12_queue_67 rfl (by decide) (by first | rfl | simp [catR, catI, catJ]) ?_
        refine go_iconst 0 dX12_queue_68 rfl ?_
        refine go_istore (i := 4) (lv' := [(4, .int 0), (3, .int 0), (0, vR Ω (some a0)), (1, .int x1), (2, .int x2)]) dX12_queue_69 (by decide) (by first | rfl | simp [catR, catI, catJ]) ?_
        refine go_sub (lv' := [(0, vR Ω (some a0)), (1, .int x1), (3, .int 0), (4, .int 0)]) [2, 3, 1, 0] rfl ?_
        exact t_X12_queue_71 FU a0 x1 0 0 h q hf
      rw [if_neg e2] at hf
      by_cases e3 : x2 = 3
      · rw [if_pos e3] at hf
        refine go_tsw1 (off := 98) (tgt := 113) dX12_queue_15 (by rw [e3]; decide) (by rw [e3]; decide) (by rw [e3]; decide) (by decide) ?_
        refine go_aload_n dX12_queue_113 rfl 0 rfl ?_
        refine go_aload_n dX12_queue_114 rfl 0 rfl ?_
        refine go_getR dX12_queue_115 fl_1130_0 (fun _ _ => rfl) hf (fun r_14 hf => ?_)
        refine go_iload_n dX12_queue_118 rfl 1 rfl ?_
        obtain ⟨a_15, rfl, hga_15⟩ := nn_some hf
        have hf := hga_15
        refine go_iaload dX12_queue_119 hf (fun x_16 hf => ?_)
        obtain ⟨hk, hf⟩ := kg_some hf
        obtain ⟨z_17, hc, hf⟩ := bd_some hf
        refine go_callV (y2 := M_X12_firstOf) (c2 := 13) dX12_queue_120 mo_X12_firstOf ⟨Nat.le_of_ble_eq_true rfl, Nat.le_of_ble_eq_true rfl⟩ na_X12_firstOf w1491 w1493 (by decide) rfl w90 hk [.int x_16] rfl (n_X12_firstOf (a0) x_16) rfl (csum (Nat.le_of_ble_eq_true rfl)) (t_X12_firstOf (a0) x_16 h _ hc) ?_
        obtain ⟨x_19, h_18⟩ := z_17
        refine go_istore (i := 4) (lv' := [(4, .int x_19), (0, vR Ω (some a0)), (1, .int x1), (2, .int x2)]) dX12_queue_123 (by decide) (by first | rfl | simp [catR, catI, catJ]) ?_
        refine go_iload dX12_queue_125 0 rfl ?_
        refine go_if_ge (tgt := 134) dX12_queue_127 (by decide) hf (fun hf => ?_) (fun hf => ?_)
        · refine go_aload_n dX12_queue_134 rfl 1 rfl ?_
          refine go_getR dX12_queue_135 fl_1145_0 (fun _ _ => rfl) hf (fun r_20 hf => ?_)
          refine go_iload dX12_queue_138 0 rfl ?_
          obtain ⟨a_21, rfl, hga_21⟩ := nn_some hf
          have hf := hga_21
          refine go_iaload dX12_queue_140 hf (fun x_22 hf => ?_)
          exact go_ireturn dX12_queue_141 rfl hf
        · refine go_iconst 0 dX12_queue_130 rfl ?_
          refine go_goto (tgt := 141) dX12_queue_131 (by decide) ?_
          exact go_ireturn dX12_queue_141 rfl hf
      rw [if_neg e3] at hf
      have n0 := ti (n := 0) (by decide) e0
      have n1 := ti (n := 1) (by decide) e1
      have n2 := ti (n := 2) (by decide) e2
      have n3 := ti (n := 3) (by decide) e3
      refine go_tsw0 (tgt := 142) dX12_queue_15 (by omega) (by decide) ?_
      refine go_iconst (-1) dX12_queue_142 rfl ?_
      exact go_ireturn dX12_queue_143 rfl hf
    · refine go_iconst (-1) dX12_queue_12 rfl ?_
      exact go_ireturn dX12_queue_13 rfl hf
-- LetterBrokerModel.ready()I
theorem dX12_ready_0 : decode cX12_ready 0 = .ok (.aload_n 0, 1) := by decide +kernel
theorem dX12_ready_1 : decode cX12_ready 1 = .ok (.getfield 154, 3) := by decide +kernel
theorem dX12_ready_4 : decode cX12_ready 4 = .ok (.ireturn, 1) := by decide +kernel
def f_X12_ready (a0 : Nat) (h : AH) : Option (Int32 × AH) := rdI h a0 13 4 fun x_1 =>
  some (x_1, h)
set_option maxRecDepth 20000 in
set_option maxHeartbeats 4000000 in
theorem t_X12_ready {Ω : Om} (a0 : Nat) (h : AH) (q : Int32 × AH) (hf : f_X12_ready a0 h = some q) : Go Ω M_X12_ready 0 (lv_args 0 [vR Ω (some a0)]) [] h (some (.int q.1)) q.2 := by
  unfold f_X12_ready at hf
  rw [la_R, la_0]
  refine go_sub (lv' := [(0, vR Ω (some a0))]) [0] rfl ?_
  refine go_aload_n dX12_ready_0 rfl 0 rfl ?_
  refine go_getI dX12_ready_1 fl_1123_0 (fun _ _ => rfl) hf (fun x_1 hf => ?_)
  exact go_ireturn dX12_ready_4 rfl hf
-- LetterBrokerModel.receive()I
theorem dX12_receive_0 : decode cX12_receive 0 = .ok (.aload_n 0, 1) := by decide +kernel
theorem dX12_receive_1 : decode cX12_receive 1 = .ok (.getfield 154, 3) := by decide +kernel
theorem dX12_receive_4 : decode cX12_receive 4 = .ok (.ifCond .ne 5, 3) := by decide +kernel
theorem dX12_receive_7 : decode cX12_receive 7 = .ok (.iconst (-1), 1) := by decide +kernel
theorem dX12_receive_8 : decode cX12_receive 8 = .ok (.ireturn, 1) := by decide +kernel
theorem dX12_receive_9 : decode cX12_receive 9 = .ok (.aload_n 0, 1) := by decide +kernel
theorem dX12_receive_10 : decode cX12_receive 10 = .ok (.getfield 13, 3) := by decide +kernel
theorem dX12_receive_13 : decode cX12_receive 13 = .ok (.iconst 0, 1) := by decide +kernel
theorem dX12_receive_14 : decode cX12_receive 14 = .ok (.iaload, 1) := by decide +kernel
theorem dX12_receive_15 : decode cX12_receive 15 = .ok (.istore_n 1, 1) := by decide +kernel
theorem dX12_receive_16 : decode cX12_receive 16 = .ok (.aload_n 0, 1) := by decide +kernel
theorem dX12_receive_17 : decode cX12_receive 17 = .ok (.dup, 1) := by decide +kernel
theorem dX12_receive_18 : decode cX12_receive 18 = .ok (.getfield 154, 3) := by decide +kernel
theorem dX12_receive_21 : decode cX12_receive 21 = .ok (.iconst 1, 1) := by decide +kernel
theorem dX12_receive_22 : decode cX12_receive 22 = .ok (.isub, 1) := by decide +kernel
theorem dX12_receive_23 : decode cX12_receive 23 = .ok (.putfield 154, 3) := by decide +kernel
theorem dX12_receive_26 : decode cX12_receive 26 = .ok (.iconst 0, 1) := by decide +kernel
theorem dX12_receive_27 : decode cX12_receive 27 = .ok (.istore_n 2, 1) := by decide +kernel
theorem dX12_receive_28 : decode cX12_receive 28 = .ok (.iload_n 2, 1) := by decide +kernel
theorem dX12_receive_29 : decode cX12_receive 29 = .ok (.aload_n 0, 1) := by decide +kernel
theorem dX12_receive_30 : decode cX12_receive 30 = .ok (.getfield 154, 3) := by decide +kernel
theorem dX12_receive_33 : decode cX12_receive 33 = .ok (.if_icmp .ge 23, 3) := by decide +kernel
theorem dX12_receive_36 : decode cX12_receive 36 = .ok (.aload_n 0, 1) := by decide +kernel
theorem dX12_receive_37 : decode cX12_receive 37 = .ok (.getfield 13, 3) := by decide +kernel
theorem dX12_receive_40 : decode cX12_receive 40 = .ok (.iload_n 2, 1) := by decide +kernel
theorem dX12_receive_41 : decode cX12_receive 41 = .ok (.aload_n 0, 1) := by decide +kernel
theorem dX12_receive_42 : decode cX12_receive 42 = .ok (.getfield 13, 3) := by decide +kernel
theorem dX12_receive_45 : decode cX12_receive 45 = .ok (.iload_n 2, 1) := by decide +kernel
theorem dX12_receive_46 : decode cX12_receive 46 = .ok (.iconst 1, 1) := by decide +kernel
theorem dX12_receive_47 : decode cX12_receive 47 = .ok (.iadd, 1) := by decide +kernel
theorem dX12_receive_48 : decode cX12_receive 48 = .ok (.iaload, 1) := by decide +kernel
theorem dX12_receive_49 : decode cX12_receive 49 = .ok (.iastore, 1) := by decide +kernel
theorem dX12_receive_50 : decode cX12_receive 50 = .ok (.iinc 2 1, 3) := by decide +kernel
theorem dX12_receive_53 : decode cX12_receive 53 = .ok (.goto (-25), 3) := by decide +kernel
theorem dX12_receive_56 : decode cX12_receive 56 = .ok (.iload_n 1, 1) := by decide +kernel
theorem dX12_receive_57 : decode cX12_receive 57 = .ok (.ireturn, 1) := by decide +kernel
def f_X12_receive_28 : Nat → Nat → Int32 → Int32 → AH → Option (Int32 × AH)
  | 0, _, _, _, _ => none
  | n + 1, a0, x1, x2, h => rdI h a0 13 4 fun x_1 =>
    (if x_1 ≤ x2 then
      some (x1, h)
    else
      rdR h a0 13 3 fun r_2 =>
      rdR h a0 13 3 fun r_3 =>
      nn r_3 fun a_4 =>
      arI h a_4 (x2 + 1) fun x_5 =>
      nn r_2 fun a_6 =>
      asI h a_6 x2 x_5 fun h_7 =>
      f_X12_receive_28 n a0 x1 (x2 + 1) h_7)
set_option maxRecDepth 20000 in
set_option maxHeartbeats 4000000 in
theorem t_X12_receive_28 {Ω : Om} : ∀ (n : Nat) (a0 : Nat) (x1 : Int32) (x2 : Int32) (h : AH) (q : Int32 × AH), f_X12_receive_28 n a0 x1 x2 h = some q → Go Ω M_X12_receive 28 [(0, vR Ω (some a0)), (1, .int x1), (2, .int x2)] [] h (some (.int q.1)) q.2 := by
  intro n
  induction n with
  | zero => intro a0 x1 x2 h q hf; cases hf
  | succ n ih =>
    intro a0 x1 x2 h q hf
    rw [f_X12_receive_28] at hf
    refine go_iload_n dX12_receive_28 rfl 2 rfl ?_
    refine go_aload_n dX12_receive_29 rfl 0 rfl ?_
    refine go_getI dX12_receive_30 fl_1123_0 (fun _ _ => rfl) hf (fun x_1 hf => ?_)
    refine go_icmp_ge (tgt := 56) dX12_receive_33 (by decide) hf (fun hf => ?_) (fun hf => ?_)
    · refine go_iload_n dX12_receive_56 rfl 1 rfl ?_
      exact go_ireturn dX12_receive_57 rfl hf
    · refine go_aload_n dX12_receive_36 rfl 0 rfl ?_
      refine go_getR dX12_receive_37 fl_1122_0 (fun _ _ => rfl) hf (fun r_2 hf => ?_)
      refine go_iload_n dX12_receive_40 rfl 2 rfl ?_
      refine go_aload_n dX12_receive_41 rfl 0 rfl ?_
      refine go_getR dX12_receive_42 fl_1122_0 (fun _ _ => rfl) hf (fun r_3 hf => ?_)
      refine go_iload_n dX12_receive_45 rfl 2 rfl ?_
      refine go_iconst 1 dX12_receive_46 rfl ?_
      refine go_iadd dX12_receive_47 ?_
      obtain ⟨a_4, rfl, hga_4⟩ := nn_some hf
      have hf := hga_4
      refine go_iaload dX12_receive_48 hf (fun x_5 hf => ?_)
      obtain ⟨a_6, rfl, hga_6⟩ := nn_some hf
      have hf := hga_6
      refine go_iastore dX12_receive_49 hf (fun h_7 hf => ?_)
      refine go_iinc (j := 2) (v := x2 + 1) (lv' := [(2, .int (x2 + 1)), (0, vR Ω (some a0)), (1, .int x1)]) dX12_receive_50 rfl rfl (by decide) (by first | rfl | simp [catR, catI, catJ]) ?_
      refine go_goto (tgt := 28) dX12_receive_53 (by decide) ?_
      refine go_sub (lv' := [(0, vR Ω (some a0)), (1, .int x1), (2, .int (x2 + 1))]) [1, 2, 0] rfl ?_
      exact ih a0 x1 (x2 + 1) h_7 q hf
def f_X12_receive (a0 : Nat) (h : AH) : Option (Int32 × AH) := rdI h a0 13 4 fun x_1 =>
  (if x_1 = 0 then
    some (((-1)), h)
  else
    rdR h a0 13 3 fun r_2 =>
    nn r_2 fun a_3 =>
    arI h a_3 0 fun x_4 =>
    rdI h a0 13 4 fun x_5 =>
    wrI h a0 13 4 (x_5 - 1) fun h_6 =>
    f_X12_receive_28 FU a0 x_4 0 h_6)
set_option maxRecDepth 20000 in
set_option maxHeartbeats 4000000 in
theorem t_X12_receive {Ω : Om} (a0 : Nat) (h : AH) (q : Int32 × AH) (hf : f_X12_receive a0 h = some q) : Go Ω M_X12_receive 0 (lv_args 0 [vR Ω (some a0)]) [] h (some (.int q.1)) q.2 := by
  unfold f_X12_receive at hf
  rw [la_R, la_0]
  refine go_sub (lv' := [(0, vR Ω (some a0))]) [0] rfl ?_
  refine go_aload_n dX12_receive_0 rfl 0 rfl ?_
  refine go_getI dX12_receive_1 fl_1123_0 (fun _ _ => rfl) hf (fun x_1 hf => ?_)
  refine go_if_ne (tgt := 9) dX12_receive_4 (by decide) hf (fun hf => ?_) (fun hf => ?_)
  · refine go_aload_n dX12_receive_9 rfl 0 rfl ?_
    refine go_getR dX12_receive_10 fl_1122_0 (fun _ _ => rfl) hf (fun r_2 hf => ?_)
    refine go_iconst 0 dX12_receive_13 rfl ?_
    obtain ⟨a_3, rfl, hga_3⟩ := nn_some hf
    have hf := hga_3
    refine go_iaload dX12_receive_14 hf (fun x_4 hf => ?_)
    refine go_istore_n (i := 1) (lv' := [(1, .int x_4), (0, vR Ω (some a0))]) dX12_receive_15 rfl (by decide) (by first | rfl | simp [catR, catI, catJ]) ?_
    refine go_aload_n dX12_receive_16 rfl 1 rfl ?_
    refine go_dup dX12_receive_17 catR ?_
    refine go_getI dX12_receive_18 fl_1123_0 (fun _ _ => rfl) hf (fun x_5 hf => ?_)
    refine go_iconst 1 dX12_receive_21 rfl ?_
    refine go_isub dX12_receive_22 ?_
    refine go_putI dX12_receive_23 fl_1123_0 (fun q hq => by cases hq; exact Or.inl rfl) (fun _ _ => rfl) rfl hf (fun h_6 hf => ?_)
    refine go_iconst 0 dX12_receive_26 rfl ?_
    refine go_istore_n (i := 2) (lv' := [(2, .int 0), (1, .int x_4), (0, vR Ω (some a0))]) dX12_receive_27 rfl (by decide) (by first | rfl | simp [catR, catI, catJ]) ?_
    refine go_sub (lv' := [(0, vR Ω (some a0)), (1, .int x_4), (2, .int 0)]) [2, 1, 0] rfl ?_
    exact t_X12_receive_28 FU a0 x_4 0 h_6 q hf
  · refine go_iconst (-1) dX12_receive_7 rfl ?_
    exact go_ireturn dX12_receive_8 rfl hf

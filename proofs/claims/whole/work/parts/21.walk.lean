/-! printed by wip/whole/gen: functions and their walks -/
-- LetterBroker.doMethod(LLetterBroker$Channel;I)I
theorem dX11_doMethod_0 : decode cX11_doMethod 0 = .ok (.iload_n 2, 1) := by decide +kernel
theorem dX11_doMethod_1 : decode cX11_doMethod 1 = .ok (.sipush 5130, 3) := by decide +kernel
theorem dX11_doMethod_4 : decode cX11_doMethod 4 = .ok (.if_icmp .ne 7, 3) := by decide +kernel
theorem dX11_doMethod_7 : decode cX11_doMethod 7 = .ok (.iconst 1, 1) := by decide +kernel
theorem dX11_doMethod_8 : decode cX11_doMethod 8 = .ok (.goto 4, 3) := by decide +kernel
theorem dX11_doMethod_11 : decode cX11_doMethod 11 = .ok (.iconst 0, 1) := by decide +kernel
theorem dX11_doMethod_12 : decode cX11_doMethod 12 = .ok (.istore_n 3, 1) := by decide +kernel
theorem dX11_doMethod_13 : decode cX11_doMethod 13 = .ok (.aload_n 1, 1) := by decide +kernel
theorem dX11_doMethod_14 : decode cX11_doMethod 14 = .ok (.getfield 80, 3) := by decide +kernel
theorem dX11_doMethod_17 : decode cX11_doMethod 17 = .ok (.iconst 1, 1) := by decide +kernel
theorem dX11_doMethod_18 : decode cX11_doMethod 18 = .ok (.if_icmp .ne 7, 3) := by decide +kernel
theorem dX11_doMethod_21 : decode cX11_doMethod 21 = .ok (.iconst 1, 1) := by decide +kernel
theorem dX11_doMethod_22 : decode cX11_doMethod 22 = .ok (.goto 4, 3) := by decide +kernel
theorem dX11_doMethod_25 : decode cX11_doMethod 25 = .ok (.iconst 0, 1) := by decide +kernel
theorem dX11_doMethod_26 : decode cX11_doMethod 26 = .ok (.istore 4, 2) := by decide +kernel
theorem dX11_doMethod_28 : decode cX11_doMethod 28 = .ok (.aload_n 0, 1) := by decide +kernel
theorem dX11_doMethod_29 : decode cX11_doMethod 29 = .ok (.getfield 39, 3) := by decide +kernel
theorem dX11_doMethod_32 : decode cX11_doMethod 32 = .ok (.iconst 4, 1) := by decide +kernel
theorem dX11_doMethod_33 : decode cX11_doMethod 33 = .ok (.if_icmp .ne 9, 3) := by decide +kernel
theorem dX11_doMethod_36 : decode cX11_doMethod 36 = .ok (.iload_n 3, 1) := by decide +kernel
theorem dX11_doMethod_37 : decode cX11_doMethod 37 = .ok (.iload 4, 2) := by decide +kernel
theorem dX11_doMethod_39 : decode cX11_doMethod 39 = .ok (.if_icmp .ne 7, 3) := by decide +kernel
theorem dX11_doMethod_42 : decode cX11_doMethod 42 = .ok (.sipush 503, 3) := by decide +kernel
theorem dX11_doMethod_45 : decode cX11_doMethod 45 = .ok (.ireturn, 1) := by decide +kernel
theorem dX11_doMethod_46 : decode cX11_doMethod 46 = .ok (.iload_n 2, 1) := by decide +kernel
set_option maxRecDepth 20000 in
theorem dX11_doMethod_47 : decode cX11_doMethod 47 = .ok (.lookupswitch 323 #[(5130, 185), (5140, 191), (5160, 197), (10250, 203), (10260, 209), (12810, 215), (12820, 221), (12830, 230), (12840, 236), (12850, 242), (15370, 251), (15380, 257), (15390, 263), (15400, 269), (15430, 275), (15440, 281), (15450, 287), (15470, 293), (15480, 299), (23050, 305), (23060, 311), (23070, 317)], 185) := by decide +kernel
theorem dX11_doMethod_232 : decode cX11_doMethod 232 = .ok (.aload_n 0, 1) := by decide +kernel
theorem dX11_doMethod_233 : decode cX11_doMethod 233 = .ok (.aload_n 1, 1) := by decide +kernel
theorem dX11_doMethod_234 : decode cX11_doMethod 234 = .ok (.invokevirtual 199, 3) := by decide +kernel
theorem dX11_doMethod_237 : decode cX11_doMethod 237 = .ok (.ireturn, 1) := by decide +kernel
theorem dX11_doMethod_238 : decode cX11_doMethod 238 = .ok (.aload_n 0, 1) := by decide +kernel
theorem dX11_doMethod_239 : decode cX11_doMethod 239 = .ok (.aload_n 1, 1) := by decide +kernel
theorem dX11_doMethod_240 : decode cX11_doMethod 240 = .ok (.invokevirtual 203, 3) := by decide +kernel
theorem dX11_doMethod_243 : decode cX11_doMethod 243 = .ok (.ireturn, 1) := by decide +kernel
theorem dX11_doMethod_244 : decode cX11_doMethod 244 = .ok (.aload_n 0, 1) := by decide +kernel
theorem dX11_doMethod_245 : decode cX11_doMethod 245 = .ok (.aload_n 1, 1) := by decide +kernel
theorem dX11_doMethod_246 : decode cX11_doMethod 246 = .ok (.invokevirtual 206, 3) := by decide +kernel
theorem dX11_doMethod_249 : decode cX11_doMethod 249 = .ok (.ireturn, 1) := by decide +kernel
theorem dX11_doMethod_250 : decode cX11_doMethod 250 = .ok (.aload_n 0, 1) := by decide +kernel
theorem dX11_doMethod_251 : decode cX11_doMethod 251 = .ok (.aload_n 1, 1) := by decide +kernel
theorem dX11_doMethod_252 : decode cX11_doMethod 252 = .ok (.invokevirtual 209, 3) := by decide +kernel
theorem dX11_doMethod_255 : decode cX11_doMethod 255 = .ok (.ireturn, 1) := by decide +kernel
theorem dX11_doMethod_256 : decode cX11_doMethod 256 = .ok (.aload_n 0, 1) := by decide +kernel
theorem dX11_doMethod_257 : decode cX11_doMethod 257 = .ok (.aload_n 1, 1) := by decide +kernel
theorem dX11_doMethod_258 : decode cX11_doMethod 258 = .ok (.invokevirtual 212, 3) := by decide +kernel
theorem dX11_doMethod_261 : decode cX11_doMethod 261 = .ok (.ireturn, 1) := by decide +kernel
theorem dX11_doMethod_262 : decode cX11_doMethod 262 = .ok (.aload_n 0, 1) := by decide +kernel
theorem dX11_doMethod_263 : decode cX11_doMethod 263 = .ok (.aload_n 1, 1) := by decide +kernel
theorem dX11_doMethod_264 : decode cX11_doMethod 264 = .ok (.invokevirtual 215, 3) := by decide +kernel
theorem dX11_doMethod_267 : decode cX11_doMethod 267 = .ok (.ireturn, 1) := by decide +kernel
theorem dX11_doMethod_268 : decode cX11_doMethod 268 = .ok (.aload_n 0, 1) := by decide +kernel
theorem dX11_doMethod_269 : decode cX11_doMethod 269 = .ok (.aload_n 1, 1) := by decide +kernel
theorem dX11_doMethod_270 : decode cX11_doMethod 270 = .ok (.sipush 12820, 3) := by decide +kernel
theorem dX11_doMethod_273 : decode cX11_doMethod 273 = .ok (.invokevirtual 218, 3) := by decide +kernel
theorem dX11_doMethod_276 : decode cX11_doMethod 276 = .ok (.ireturn, 1) := by decide +kernel
theorem dX11_doMethod_277 : decode cX11_doMethod 277 = .ok (.aload_n 0, 1) := by decide +kernel
theorem dX11_doMethod_278 : decode cX11_doMethod 278 = .ok (.aload_n 1, 1) := by decide +kernel
theorem dX11_doMethod_279 : decode cX11_doMethod 279 = .ok (.invokevirtual 221, 3) := by decide +kernel
theorem dX11_doMethod_282 : decode cX11_doMethod 282 = .ok (.ireturn, 1) := by decide +kernel
theorem dX11_doMethod_283 : decode cX11_doMethod 283 = .ok (.aload_n 0, 1) := by decide +kernel
theorem dX11_doMethod_284 : decode cX11_doMethod 284 = .ok (.aload_n 1, 1) := by decide +kernel
theorem dX11_doMethod_285 : decode cX11_doMethod 285 = .ok (.invokevirtual 224, 3) := by decide +kernel
theorem dX11_doMethod_288 : decode cX11_doMethod 288 = .ok (.ireturn, 1) := by decide +kernel
theorem dX11_doMethod_289 : decode cX11_doMethod 289 = .ok (.aload_n 0, 1) := by decide +kernel
theorem dX11_doMethod_290 : decode cX11_doMethod 290 = .ok (.aload_n 1, 1) := by decide +kernel
theorem dX11_doMethod_291 : decode cX11_doMethod 291 = .ok (.sipush 12850, 3) := by decide +kernel
theorem dX11_doMethod_294 : decode cX11_doMethod 294 = .ok (.invokevirtual 218, 3) := by decide +kernel
theorem dX11_doMethod_297 : decode cX11_doMethod 297 = .ok (.ireturn, 1) := by decide +kernel
theorem dX11_doMethod_298 : decode cX11_doMethod 298 = .ok (.aload_n 0, 1) := by decide +kernel
theorem dX11_doMethod_299 : decode cX11_doMethod 299 = .ok (.aload_n 1, 1) := by decide +kernel
theorem dX11_doMethod_300 : decode cX11_doMethod 300 = .ok (.invokevirtual 227, 3) := by decide +kernel
theorem dX11_doMethod_303 : decode cX11_doMethod 303 = .ok (.ireturn, 1) := by decide +kernel
theorem dX11_doMethod_304 : decode cX11_doMethod 304 = .ok (.aload_n 0, 1) := by decide +kernel
theorem dX11_doMethod_305 : decode cX11_doMethod 305 = .ok (.aload_n 1, 1) := by decide +kernel
theorem dX11_doMethod_306 : decode cX11_doMethod 306 = .ok (.invokevirtual 230, 3) := by decide +kernel
theorem dX11_doMethod_309 : decode cX11_doMethod 309 = .ok (.ireturn, 1) := by decide +kernel
theorem dX11_doMethod_310 : decode cX11_doMethod 310 = .ok (.aload_n 0, 1) := by decide +kernel
theorem dX11_doMethod_311 : decode cX11_doMethod 311 = .ok (.aload_n 1, 1) := by decide +kernel
theorem dX11_doMethod_312 : decode cX11_doMethod 312 = .ok (.invokevirtual 233, 3) := by decide +kernel
theorem dX11_doMethod_315 : decode cX11_doMethod 315 = .ok (.ireturn, 1) := by decide +kernel
theorem dX11_doMethod_316 : decode cX11_doMethod 316 = .ok (.aload_n 0, 1) := by decide +kernel
theorem dX11_doMethod_317 : decode cX11_doMethod 317 = .ok (.aload_n 1, 1) := by decide +kernel
theorem dX11_doMethod_318 : decode cX11_doMethod 318 = .ok (.invokevirtual 236, 3) := by decide +kernel
theorem dX11_doMethod_321 : decode cX11_doMethod 321 = .ok (.ireturn, 1) := by decide +kernel
theorem dX11_doMethod_322 : decode cX11_doMethod 322 = .ok (.aload_n 0, 1) := by decide +kernel
theorem dX11_doMethod_323 : decode cX11_doMethod 323 = .ok (.aload_n 1, 1) := by decide +kernel
theorem dX11_doMethod_324 : decode cX11_doMethod 324 = .ok (.invokevirtual 239, 3) := by decide +kernel
theorem dX11_doMethod_327 : decode cX11_doMethod 327 = .ok (.ireturn, 1) := by decide +kernel
theorem dX11_doMethod_328 : decode cX11_doMethod 328 = .ok (.aload_n 0, 1) := by decide +kernel
theorem dX11_doMethod_329 : decode cX11_doMethod 329 = .ok (.aload_n 1, 1) := by decide +kernel
theorem dX11_doMethod_330 : decode cX11_doMethod 330 = .ok (.invokevirtual 241, 3) := by decide +kernel
theorem dX11_doMethod_333 : decode cX11_doMethod 333 = .ok (.ireturn, 1) := by decide +kernel
theorem dX11_doMethod_334 : decode cX11_doMethod 334 = .ok (.aload_n 0, 1) := by decide +kernel
theorem dX11_doMethod_335 : decode cX11_doMethod 335 = .ok (.aload_n 1, 1) := by decide +kernel
theorem dX11_doMethod_336 : decode cX11_doMethod 336 = .ok (.invokevirtual 244, 3) := by decide +kernel
theorem dX11_doMethod_339 : decode cX11_doMethod 339 = .ok (.ireturn, 1) := by decide +kernel
theorem dX11_doMethod_340 : decode cX11_doMethod 340 = .ok (.aload_n 0, 1) := by decide +kernel
theorem dX11_doMethod_341 : decode cX11_doMethod 341 = .ok (.aload_n 1, 1) := by decide +kernel
theorem dX11_doMethod_342 : decode cX11_doMethod 342 = .ok (.invokevirtual 247, 3) := by decide +kernel
theorem dX11_doMethod_345 : decode cX11_doMethod 345 = .ok (.ireturn, 1) := by decide +kernel
theorem dX11_doMethod_346 : decode cX11_doMethod 346 = .ok (.aload_n 0, 1) := by decide +kernel
theorem dX11_doMethod_347 : decode cX11_doMethod 347 = .ok (.aload_n 1, 1) := by decide +kernel
theorem dX11_doMethod_348 : decode cX11_doMethod 348 = .ok (.invokevirtual 250, 3) := by decide +kernel
theorem dX11_doMethod_351 : decode cX11_doMethod 351 = .ok (.ireturn, 1) := by decide +kernel
theorem dX11_doMethod_352 : decode cX11_doMethod 352 = .ok (.aload_n 0, 1) := by decide +kernel
theorem dX11_doMethod_353 : decode cX11_doMethod 353 = .ok (.aload_n 1, 1) := by decide +kernel
theorem dX11_doMethod_354 : decode cX11_doMethod 354 = .ok (.invokevirtual 253, 3) := by decide +kernel
theorem dX11_doMethod_357 : decode cX11_doMethod 357 = .ok (.ireturn, 1) := by decide +kernel
theorem dX11_doMethod_358 : decode cX11_doMethod 358 = .ok (.aload_n 0, 1) := by decide +kernel
theorem dX11_doMethod_359 : decode cX11_doMethod 359 = .ok (.aload_n 1, 1) := by decide +kernel
theorem dX11_doMethod_360 : decode cX11_doMethod 360 = .ok (.invokevirtual 256, 3) := by decide +kernel
theorem dX11_doMethod_363 : decode cX11_doMethod 363 = .ok (.ireturn, 1) := by decide +kernel
theorem dX11_doMethod_364 : decode cX11_doMethod 364 = .ok (.aload_n 0, 1) := by decide +kernel
theorem dX11_doMethod_365 : decode cX11_doMethod 365 = .ok (.aload_n 1, 1) := by decide +kernel
theorem dX11_doMethod_366 : decode cX11_doMethod 366 = .ok (.invokevirtual 259, 3) := by decide +kernel
theorem dX11_doMethod_369 : decode cX11_doMethod 369 = .ok (.ireturn, 1) := by decide +kernel
theorem dX11_doMethod_370 : decode cX11_doMethod 370 = .ok (.sipush 503, 3) := by decide +kernel
theorem dX11_doMethod_373 : decode cX11_doMethod 373 = .ok (.ireturn, 1) := by decide +kernel
def f_X11_doMethod_26 (a0 : Nat) (r1 : Option Nat) (x2 : Int32) (x3 : Int32) (s0 : Int32) (h : AH) : Option (Int32 × AH) := rdI h a0 12 4 fun x_1 =>
  (if x_1 = 4 then
    (if x3 = s0 then
      some (503, h)
    else
      (if x2 = 5130 then
        kg h a0 12 (bd (f_X11_openChannel a0 r1 h) fun x_4 h_3 =>
        some (x_4, h_3))
      else (if x2 = 5140 then
        kg h a0 12 (bd (f_X11_setFlow a0 r1 h) fun x_7 h_6 =>
        some (x_7, h_6))
      else (if x2 = 5160 then
        kg h a0 12 (bd (f_X11_closeChannel a0 r1 h) fun x_10 h_9 =>
        some (x_10, h_9))
      else (if x2 = 10250 then
        kg h a0 12 (bd (f_X11_declareExchange a0 r1 h) fun x_13 h_12 =>
        some (x_13, h_12))
      else (if x2 = 10260 then
        kg h a0 12 (bd (f_X11_deleteExchange a0 r1 h) fun x_16 h_15 =>
        some (x_16, h_15))
      else (if x2 = 12810 then
        kg h a0 12 (bd (f_X11_declareQueue a0 r1 h) fun x_19 h_18 =>
        some (x_19, h_18))
      else (if x2 = 12820 then
        kg h a0 12 (bd (f_X11_changeBinding a0 r1 12820 h) fun x_22 h_21 =>
        some (x_22, h_21))
      else (if x2 = 12830 then
        kg h a0 12 (bd (f_X11_purge a0 r1 h) fun x_25 h_24 =>
        some (x_25, h_24))
      else (if x2 = 12840 then
        kg h a0 12 (bd (f_X11_deleteQueue a0 r1 h) fun x_28 h_27 =>
        some (x_28, h_27))
      else (if x2 = 12850 then
        kg h a0 12 (bd (f_X11_changeBinding a0 r1 12850 h) fun x_31 h_30 =>
        some (x_31, h_30))
      else (if x2 = 15370 then
        kg h a0 12 (bd (f_X11_setLimit a0 r1 h) fun x_34 h_33 =>
        some (x_34, h_33))
      else (if x2 = 15380 then
        kg h a0 12 (bd (f_X11_consume a0 r1 h) fun x_37 h_36 =>
        some (x_37, h_36))
      else (if x2 = 15390 then
        kg h a0 12 (bd (f_X11_cancel a0 r1 h) fun x_40 h_39 =>
        some (x_40, h_39))
      else (if x2 = 15400 then
        kg h a0 12 (bd (f_X11_publish a0 r1 h) fun x_43 h_42 =>
        some (x_43, h_42))
      else (if x2 = 15430 then
        kg h a0 12 (bd (f_X11_get a0 r1 h) fun x_46 h_45 =>
        some (x_46, h_45))
      else (if x2 = 15440 then
        kg h a0 12 (bd (f_X11_acknowledge a0 r1 h) fun x_49 h_48 =>
        some (x_49, h_48))
      else (if x2 = 15450 then
        kg h a0 12 (bd (f_X11_reject a0 r1 h) fun x_52 h_51 =>
        some (x_52, h_51))
      else (if x2 = 15470 then
        kg h a0 12 (bd (f_X11_recover a0 r1 h) fun x_55 h_54 =>
        some (x_55, h_54))
      else (if x2 = 15480 then
        kg h a0 12 (bd (f_X11_refuse a0 r1 h) fun x_58 h_57 =>
        some (x_58, h_57))
      else (if x2 = 23050 then
        kg h a0 12 (bd (f_X11_transact a0 r1 h) fun x_61 h_60 =>
        some (x_61, h_60))
      else (if x2 = 23060 then
        kg h a0 12 (bd (f_X11_commit a0 r1 h) fun x_64 h_63 =>
        some (x_64, h_63))
      else (if x2 = 23070 then
        kg h a0 12 (bd (f_X11_rollBack a0 r1 h) fun x_67 h_66 =>
        some (x_67, h_66))
      else some (503, h))))))))))))))))))))))))
  else
    some (503, h))
set_option maxRecDepth 20000 in
set_option maxHeartbeats 4000000 in
theorem t_X11_doMethod_26 {Ω : Om} (a0 : Nat) (r1 : Option Nat) (x2 : Int32) (x3 : Int32) (s0 : Int32) (h : AH) (q : Int32 × AH) (hf : f_X11_doMethod_26 a0 r1 x2 x3 s0 h = some q) : Go Ω M_X11_doMethod 26 [(0, vR Ω (some a0)), (1, vR Ω r1), (2, .int x2), (3, .int x3)] [.int s0] h (some (.int q.1)) q.2 := by
  unfold f_X11_doMethod_26 at hf
  refine go_istore (i := 4) (lv' := [(4, .int s0), (0, vR Ω (some a0)), (1, vR Ω r1), (2, .int x2), (3, .int x3)]) dX11_doMethod_26 (by decide) (by first | rfl | simp [catR, catI, catJ]) ?_
  refine go_aload_n dX11_doMethod_28 rfl 1 rfl ?_
  refine go_getI dX11_doMethod_29 fl_392_0 (fun _ _ => rfl) hf (fun x_1 hf => ?_)
  refine go_iconst 4 dX11_doMethod_32 rfl ?_
  refine go_icmp_ne (tgt := 42) dX11_doMethod_33 (by decide) hf (fun hf => ?_) (fun hf => ?_)
  · refine go_sipush 503 dX11_doMethod_42 (by decide) ?_
    exact go_ireturn dX11_doMethod_45 rfl hf
  · refine go_iload_n dX11_doMethod_36 rfl 4 rfl ?_
    refine go_iload dX11_doMethod_37 0 rfl ?_
    refine go_icmp_ne (tgt := 46) dX11_doMethod_39 (by decide) hf (fun hf => ?_) (fun hf => ?_)
    · refine go_iload_n dX11_doMethod_46 rfl 3 rfl ?_
      by_cases e0 : x2 = 5130
      · rw [if_pos e0] at hf
        refine go_lsw1 (off := 185) (tgt := 232) dX11_doMethod_47 (by decide) (by rw [e0]; decide) (by decide) ?_
        refine go_aload_n dX11_doMethod_232 rfl 1 rfl ?_
        refine go_aload_n dX11_doMethod_233 rfl 2 rfl ?_
        obtain ⟨hk, hf⟩ := kg_some hf
        obtain ⟨z_2, hc, hf⟩ := bd_some hf
        refine go_callV (y2 := M_X11_openChannel) (c2 := 12) dX11_doMethod_234 mo_X11_openChannel ⟨Nat.le_of_ble_eq_true rfl, Nat.le_of_ble_eq_true rfl⟩ na_X11_openChannel w737 w739 (by decide) rfl w22 hk [vR Ω r1] rfl (n_X11_openChannel (a0) r1) rfl (csum (Nat.le_of_ble_eq_true rfl)) (t_X11_openChannel (a0) r1 h _ hc) ?_
        obtain ⟨x_4, h_3⟩ := z_2
        exact go_ireturn dX11_doMethod_237 rfl hf
      rw [if_neg e0] at hf
      by_cases e1 : x2 = 5140
      · rw [if_pos e1] at hf
        refine go_lsw1 (off := 191) (tgt := 238) dX11_doMethod_47 (by decide) (by rw [e1]; decide) (by decide) ?_
        refine go_aload_n dX11_doMethod_238 rfl 1 rfl ?_
        refine go_aload_n dX11_doMethod_239 rfl 2 rfl ?_
        obtain ⟨hk, hf⟩ := kg_some hf
        obtain ⟨z_5, hc, hf⟩ := bd_some hf
        refine go_callV (y2 := M_X11_setFlow) (c2 := 12) dX11_doMethod_240 mo_X11_setFlow ⟨Nat.le_of_ble_eq_true rfl, Nat.le_of_ble_eq_true rfl⟩ na_X11_setFlow w745 w747 (by decide) rfl w23 hk [vR Ω r1] rfl (n_X11_setFlow (a0) r1) rfl (csum (Nat.le_of_ble_eq_true rfl)) (t_X11_setFlow (a0) r1 h _ hc) ?_
        obtain ⟨x_7, h_6⟩ := z_5
        exact go_ireturn dX11_doMethod_243 rfl hf
      rw [if_neg e1] at hf
      by_cases e2 : x2 = 5160
      · rw [if_pos e2] at hf
        refine go_lsw1 (off := 197) (tgt := 244) dX11_doMethod_47 (by decide) (by rw [e2]; decide) (by decide) ?_
        refine go_aload_n dX11_doMethod_244 rfl 1 rfl ?_
        refine go_aload_n dX11_doMethod_245 rfl 2 rfl ?_
        obtain ⟨hk, hf⟩ := kg_some hf
        obtain ⟨z_8, hc, hf⟩ := bd_some hf
        refine go_callV (y2 := M_X11_closeChannel) (c2 := 12) dX11_doMethod_246 mo_X11_closeChannel ⟨Nat.le_of_ble_eq_true rfl, Nat.le_of_ble_eq_true rfl⟩ na_X11_closeChannel w750 w752 (by decide) rfl w24 hk [vR Ω r1] rfl (n_X11_closeChannel (a0) r1) rfl (csum (Nat.le_of_ble_eq_true rfl)) (t_X11_closeChannel (a0) r1 h _ hc) ?_
        obtain ⟨x_10, h_9⟩ := z_8
        exact go_ireturn dX11_doMethod_249 rfl hf
      rw [if_neg e2] at hf
      by_cases e3 : x2 = 10250
      · rw [if_pos e3] at hf
        refine go_lsw1 (off := 203) (tgt := 250) dX11_doMethod_47 (by decide) (by rw [e3]; decide) (by decide) ?_
        refine go_aload_n dX11_doMethod_250 rfl 1 rfl ?_
        refine go_aload_n dX11_doMethod_251 rfl 2 rfl ?_
        obtain ⟨hk, hf⟩ := kg_some hf
        obtain ⟨z_11, hc, hf⟩ := bd_some hf
        refine go_callV (y2 := M_X11_declareExchange) (c2 := 12) dX11_doMethod_252 mo_X11_declareExchange ⟨Nat.le_of_ble_eq_true rfl, Nat.le_of_ble_eq_true rfl⟩ na_X11_declareExchange w754 w756 (by decide) rfl w25 hk [vR Ω r1] rfl (n_X11_declareExchange (a0) r1) rfl (csum (Nat.le_of_ble_eq_true rfl)) (t_X11_declareExchange (a0) r1 h _ hc) ?_
        obtain ⟨x_13, h_12⟩ := z_11
        exact go_ireturn dX11_doMethod_255 rfl hf
      rw [if_neg e3] at hf
      by_cases e4 : x2 = 10260
      · rw [if_pos e4] at hf
        refine go_lsw1 (off := 209) (tgt := 256) dX11_doMethod_47 (by decide) (by rw [e4]; decide) (by decide) ?_
        refine go_aload_n dX11_doMethod_256 rfl 1 rfl ?_
        refine go_aload_n dX11_doMethod_257 rfl 2 rfl ?_
        obtain ⟨hk, hf⟩ := kg_some hf
        obtain ⟨z_14, hc, hf⟩ := bd_some hf
        refine go_callV (y2 := M_X11_deleteExchange) (c2 := 12) dX11_doMethod_258 mo_X11_deleteExchange ⟨Nat.le_of_ble_eq_true rfl, Nat.le_of_ble_eq_true rfl⟩ na_X11_deleteExchange w772 w774 (by decide) rfl w26 hk [vR Ω r1] rfl (n_X11_deleteExchange (a0) r1) rfl (csum (Nat.le_of_ble_eq_true rfl)) (t_X11_deleteExchange (a0) r1 h _ hc) ?_
        obtain ⟨x_16, h_15⟩ := z_14
        exact go_ireturn dX11_doMethod_261 rfl hf
      rw [if_neg e4] at hf
      by_cases e5 : x2 = 12810
      · rw [if_pos e5] at hf
        refine go_lsw1 (off := 215) (tgt := 262) dX11_doMethod_47 (by decide) (by rw [e5]; decide) (by decide) ?_
        refine go_aload_n dX11_doMethod_262 rfl 1 rfl ?_
        refine go_aload_n dX11_doMethod_263 rfl 2 rfl ?_
        obtain ⟨hk, hf⟩ := kg_some hf
        obtain ⟨z_17, hc, hf⟩ := bd_some hf
        refine go_callV (y2 := M_X11_declareQueue) (c2 := 12) dX11_doMethod_264 mo_X11_declareQueue ⟨Nat.le_of_ble_eq_true rfl, Nat.le_of_ble_eq_true rfl⟩ na_X11_declareQueue w784 w786 (by decide) rfl w27 hk [vR Ω r1] rfl (n_X11_declareQueue (a0) r1) rfl (csum (Nat.le_of_ble_eq_true rfl)) (t_X11_declareQueue (a0) r1 h _ hc) ?_
        obtain ⟨x_19, h_18⟩ := z_17
        exact go_ireturn dX11_doMethod_267 rfl hf
      rw [if_neg e5] at hf
      by_cases e6 : x2 = 12820
      · rw [if_pos e6] at hf
        refine go_lsw1 (off := 221) (tgt := 268) dX11_doMethod_47 (by decide) (by rw [e6]; decide) (by decide) ?_
        refine go_aload_n dX11_doMethod_268 rfl 1 rfl ?_
        refine go_aload_n dX11_doMethod_269 rfl 2 rfl ?_
        refine go_sipush 12820 dX11_doMethod_270 (by decide) ?_
        obtain ⟨hk, hf⟩ := kg_some hf
        obtain ⟨z_20, hc, hf⟩ := bd_some hf
        refine go_callV (y2 := M_X11_changeBinding) (c2 := 12) dX11_doMethod_273 mo_X11_changeBinding ⟨Nat.le_of_ble_eq_true rfl, Nat.le_of_ble_eq_true rfl⟩ na_X11_changeBinding w818 w820 (by decide) rfl w28 hk [vR Ω r1, .int 12820] rfl (n_X11_changeBinding (a0) r1 12820) rfl (csum (Nat.le_of_ble_eq_true rfl)) (t_X11_changeBinding (a0) r1 12820 h _ hc) ?_
        obtain ⟨x_22, h_21⟩ := z_20
        exact go_ireturn dX11_doMethod_276 rfl hf
      rw [if_neg e6] at hf
      by_cases e7 : x2 = 12830
      · rw [if_pos e7] at hf
        refine go_lsw1 (off := 230) (tgt := 277) dX11_doMethod_47 (by decide) (by rw [e7]; decide) (by decide) ?_
        refine go_aload_n dX11_doMethod_277 rfl 1 rfl ?_
        refine go_aload_n dX11_doMethod_278 rfl 2 rfl ?_
        obtain ⟨hk, hf⟩ := kg_some hf
        obtain ⟨z_23, hc, hf⟩ := bd_some hf
        refine go_callV (y2 := M_X11_purge) (c2 := 12) dX11_doMethod_279 mo_X11_purge ⟨Nat.le_of_ble_eq_true rfl, Nat.le_of_ble_eq_true rfl⟩ na_X11_purge w856 w858 (by decide) rfl w29 hk [vR Ω r1] rfl (n_X11_purge (a0) r1) rfl (csum (Nat.le_of_ble_eq_true rfl)) (t_X11_purge (a0) r1 h _ hc) ?_
        obtain ⟨x_25, h_24⟩ := z_23
        exact go_ireturn dX11_doMethod_282 rfl hf
      rw [if_neg e7] at hf
      by_cases e8 : x2 = 12840
      · rw [if_pos e8] at hf
        refine go_lsw1 (off := 236) (tgt := 283) dX11_doMethod_47 (by decide) (by rw [e8]; decide) (by decide) ?_
        refine go_aload_n dX11_doMethod_283 rfl 1 rfl ?_
        refine go_aload_n dX11_doMethod_284 rfl 2 rfl ?_
        obtain ⟨hk, hf⟩ := kg_some hf
        obtain ⟨z_26, hc, hf⟩ := bd_some hf
        refine go_callV (y2 := M_X11_deleteQueue) (c2 := 12) dX11_doMethod_285 mo_X11_deleteQueue ⟨Nat.le_of_ble_eq_true rfl, Nat.le_of_ble_eq_true rfl⟩ na_X11_deleteQueue w862 w864 (by decide) rfl w30 hk [vR Ω r1] rfl (n_X11_deleteQueue (a0) r1) rfl (csum (Nat.le_of_ble_eq_true rfl)) (t_X11_deleteQueue (a0) r1 h _ hc) ?_
        obtain ⟨x_28, h_27⟩ := z_26
        exact go_ireturn dX11_doMethod_288 rfl hf
      rw [if_neg e8] at hf
      by_cases e9 : x2 = 12850
      · rw [if_pos e9] at hf
        refine go_lsw1 (off := 242) (tgt := 289) dX11_doMethod_47 (by decide) (by rw [e9]; decide) (by decide) ?_
        refine go_aload_n dX11_doMethod_289 rfl 1 rfl ?_
        refine go_aload_n dX11_doMethod_290 rfl 2 rfl ?_
        refine go_sipush 12850 dX11_doMethod_291 (by decide) ?_
        obtain ⟨hk, hf⟩ := kg_some hf
        obtain ⟨z_29, hc, hf⟩ := bd_some hf
        refine go_callV (y2 := M_X11_changeBinding) (c2 := 12) dX11_doMethod_294 mo_X11_changeBinding ⟨Nat.le_of_ble_eq_true rfl, Nat.le_of_ble_eq_true rfl⟩ na_X11_changeBinding w818 w820 (by decide) rfl w28 hk [vR Ω r1, .int 12850] rfl (n_X11_changeBinding (a0) r1 12850) rfl (csum (Nat.le_of_ble_eq_true rfl)) (t_X11_changeBinding (a0) r1 12850 h _ hc) ?_
        obtain ⟨x_31, h_30⟩ := z_29
        exact go_ireturn dX11_doMethod_297 rfl hf
      rw [if_neg e9] at hf
      by_cases e10 : x2 = 15370
      · rw [if_pos e10] at hf
        refine go_lsw1 (off := 251) (tgt := 298) dX11_doMethod_47 (by decide) (by rw [e10]; decide) (by decide) ?_
        refine go_aload_n dX11_doMethod_298 rfl 1 rfl ?_
        refine go_aload_n dX11_doMethod_299 rfl 2 rfl ?_
        obtain ⟨hk, hf⟩ := kg_some hf
        obtain ⟨z_32, hc, hf⟩ := bd_some hf
        refine go_callV (y2 := M_X11_setLimit) (c2 := 12) dX11_doMethod_300 mo_X11_setLimit ⟨Nat.le_of_ble_eq_true rfl, Nat.le_of_ble_eq_true rfl⟩ na_X11_setLimit w879 w881 (by decide) rfl w31 hk [vR Ω r1] rfl (n_X11_setLimit (a0) r1) rfl (csum (Nat.le_of_ble_eq_true rfl)) (t_X11_setLimit (a0) r1 h _ hc) ?_
        obtain ⟨x_34, h_33⟩ := z_32
        exact go_ireturn dX11_doMethod_303 rfl hf
      rw [if_neg e10] at hf
      by_cases e11 : x2 = 15380
      · rw [if_pos e11] at hf
        refine go_lsw1 (off := 257) (tgt := 304) dX11_doMethod_47 (by decide) (by rw [e11]; decide) (by decide) ?_
        refine go_aload_n dX11_doMethod_304 rfl 1 rfl ?_
        refine go_aload_n dX11_doMethod_305 rfl 2 rfl ?_
        obtain ⟨hk, hf⟩ := kg_some hf
        obtain ⟨z_35, hc, hf⟩ := bd_some hf
        refine go_callV (y2 := M_X11_consume) (c2 := 12) dX11_doMethod_306 mo_X11_consume ⟨Nat.le_of_ble_eq_true rfl, Nat.le_of_ble_eq_true rfl⟩ na_X11_consume w883 w885 (by decide) rfl w32 hk [vR Ω r1] rfl (n_X11_consume (a0) r1) rfl (csum (Nat.le_of_ble_eq_true rfl)) (t_X11_consume (a0) r1 h _ hc) ?_
        obtain ⟨x_37, h_36⟩ := z_35
        exact go_ireturn dX11_doMethod_309 rfl hf
      rw [if_neg e11] at hf
      by_cases e12 : x2 = 15390
      · rw [if_pos e12] at hf
        refine go_lsw1 (off := 263) (tgt := 310) dX11_doMethod_47 (by decide) (by rw [e12]; decide) (by decide) ?_
        refine go_aload_n dX11_doMethod_310 rfl 1 rfl ?_
        refine go_aload_n dX11_doMethod_311 rfl 2 rfl ?_
        obtain ⟨hk, hf⟩ := kg_some hf
        obtain ⟨z_38, hc, hf⟩ := bd_some hf
        refine go_callV (y2 := M_X11_cancel) (c2 := 12) dX11_doMethod_312 mo_X11_cancel ⟨Nat.le_of_ble_eq_true rfl, Nat.le_of_ble_eq_true rfl⟩ na_X11_cancel w924 w926 (by decide) rfl w33 hk [vR Ω r1] rfl (n_X11_cancel (a0) r1) rfl (csum (Nat.le_of_ble_eq_true rfl)) (t_X11_cancel (a0) r1 h _ hc) ?_
        obtain ⟨x_40, h_39⟩ := z_38
        exact go_ireturn dX11_doMethod_315 rfl hf
      rw [if_neg e12] at hf
      by_cases e13 : x2 = 15400
      · rw [if_pos e13] at hf
        refine go_lsw1 (off := 269) (tgt := 316) dX11_doMethod_47 (by decide) (by rw [e13]; decide) (by decide) ?_
        refine go_aload_n dX11_doMethod_316 rfl 1 rfl ?_
        refine go_aload_n dX11_doMethod_317 rfl 2 rfl ?_
        obtain ⟨hk, hf⟩ := kg_some hf
        obtain ⟨z_41, hc, hf⟩ := bd_some hf
        refine go_callV (y2 := M_X11_publish) (c2 := 12) dX11_doMethod_318 mo_X11_publish ⟨Nat.le_of_ble_eq_true rfl, Nat.le_of_ble_eq_true rfl⟩ na_X11_publish w928 w930 (by decide) rfl w34 hk [vR Ω r1] rfl (n_X11_publish (a0) r1) rfl (csum (Nat.le_of_ble_eq_true rfl)) (t_X11_publish (a0) r1 h _ hc) ?_
        obtain ⟨x_43, h_42⟩ := z_41
        exact go_ireturn dX11_doMethod_321 rfl hf
      rw [if_neg e13] at hf
      by_cases e14 : x2 = 15430
      · rw [if_pos e14] at hf
        refine go_lsw1 (off := 275) (tgt := 322) dX11_doMethod_47 (by decide) (by rw [e14]; decide) (by decide) ?_
        refine go_aload_n dX11_doMethod_322 rfl 1 rfl ?_
        refine go_aload_n dX11_doMethod_323 rfl 2 rfl ?_
        obtain ⟨hk, hf⟩ := kg_some hf
        obtain ⟨z_44, hc, hf⟩ := bd_some hf
        refine go_callV (y2 := M_X11_get) (c2 := 12) dX11_doMethod_324 mo_X11_get ⟨Nat.le_of_ble_eq_true rfl, Nat.le_of_ble_eq_true rfl⟩ na_X11_get w973 w975 (by decide) rfl w35 hk [vR Ω r1] rfl (n_X11_get (a0) r1) rfl (csum (Nat.le_of_ble_eq_true rfl)) (t_X11_get (a0) r1 h _ hc) ?_
        obtain ⟨x_46, h_45⟩ := z_44
        exact go_ireturn dX11_doMethod_327 rfl hf
      rw [if_neg e14] at hf
      by_cases e15 : x2 = 15440
      · rw [if_pos e15] at hf
        refine go_lsw1 (off := 281) (tgt := 328) dX11_doMethod_47 (by decide) (by rw [e15]; decide) (by decide) ?_
        refine go_aload_n dX11_doMethod_328 rfl 1 rfl ?_
        refine go_aload_n dX11_doMethod_329 rfl 2 rfl ?_
        obtain ⟨hk, hf⟩ := kg_some hf
        obtain ⟨z_47, hc, hf⟩ := bd_some hf
        refine go_callV (y2 := M_X11_acknowledge) (c2 := 12) dX11_doMethod_330 mo_X11_acknowledge ⟨Nat.le_of_ble_eq_true rfl, Nat.le_of_ble_eq_true rfl⟩ na_X11_acknowledge w990 w992 (by decide) rfl w36 hk [vR Ω r1] rfl (n_X11_acknowledge (a0) r1) rfl (csum (Nat.le_of_ble_eq_true rfl)) (t_X11_acknowledge (a0) r1 h _ hc) ?_
        obtain ⟨x_49, h_48⟩ := z_47
        exact go_ireturn dX11_doMethod_333 rfl hf
      rw [if_neg e15] at hf
      by_cases e16 : x2 = 15450
      · rw [if_pos e16] at hf
        refine go_lsw1 (off := 287) (tgt := 334) dX11_doMethod_47 (by decide) (by rw [e16]; decide) (by decide) ?_
        refine go_aload_n dX11_doMethod_334 rfl 1 rfl ?_
        refine go_aload_n dX11_doMethod_335 rfl 2 rfl ?_
        obtain ⟨hk, hf⟩ := kg_some hf
        obtain ⟨z_50, hc, hf⟩ := bd_some hf
        refine go_callV (y2 := M_X11_reject) (c2 := 12) dX11_doMethod_336 mo_X11_reject ⟨Nat.le_of_ble_eq_true rfl, Nat.le_of_ble_eq_true rfl⟩ na_X11_reject w1020 w1022 (by decide) rfl w38 hk [vR Ω r1] rfl (n_X11_reject (a0) r1) rfl (csum (Nat.le_of_ble_eq_true rfl)) (t_X11_reject (a0) r1 h _ hc) ?_
        obtain ⟨x_52, h_51⟩ := z_50
        exact go_ireturn dX11_doMethod_339 rfl hf
      rw [if_neg e16] at hf
      by_cases e17 : x2 = 15470
      · rw [if_pos e17] at hf
        refine go_lsw1 (off := 293) (tgt := 340) dX11_doMethod_47 (by decide) (by rw [e17]; decide) (by decide) ?_
        refine go_aload_n dX11_doMethod_340 rfl 1 rfl ?_
        refine go_aload_n dX11_doMethod_341 rfl 2 rfl ?_
        obtain ⟨hk, hf⟩ := kg_some hf
        obtain ⟨z_53, hc, hf⟩ := bd_some hf
        refine go_callV (y2 := M_X11_recover) (c2 := 12) dX11_doMethod_342 mo_X11_recover ⟨Nat.le_of_ble_eq_true rfl, Nat.le_of_ble_eq_true rfl⟩ na_X11_recover w1024 w1026 (by decide) rfl w39 hk [vR Ω r1] rfl (n_X11_recover (a0) r1) rfl (csum (Nat.le_of_ble_eq_true rfl)) (t_X11_recover (a0) r1 h _ hc) ?_
        obtain ⟨x_55, h_54⟩ := z_53
        exact go_ireturn dX11_doMethod_345 rfl hf
      rw [if_neg e17] at hf
      by_cases e18 : x2 = 15480
      · rw [if_pos e18] at hf
        refine go_lsw1 (off := 299) (tgt := 346) dX11_doMethod_47 (by decide) (by rw [e18]; decide) (by decide) ?_
        refine go_aload_n dX11_doMethod_346 rfl 1 rfl ?_
        refine go_aload_n dX11_doMethod_347 rfl 2 rfl ?_
        obtain ⟨hk, hf⟩ := kg_some hf
        obtain ⟨z_56, hc, hf⟩ := bd_some hf
        refine go_callV (y2 := M_X11_refuse) (c2 := 12) dX11_doMethod_348 mo_X11_refuse ⟨Nat.le_of_ble_eq_true rfl, Nat.le_of_ble_eq_true rfl⟩ na_X11_refuse w1028 w1030 (by decide) rfl w40 hk [vR Ω r1] rfl (n_X11_refuse (a0) r1) rfl (csum (Nat.le_of_ble_eq_true rfl)) (t_X11_refuse (a0) r1 h _ hc) ?_
        obtain ⟨x_58, h_57⟩ := z_56
        exact go_ireturn dX11_doMethod_351 rfl hf
      rw [if_neg e18] at hf
      by_cases e19 : x2 = 23050
      · rw [if_pos e19] at hf
        refine go_lsw1 (off := 305) (tgt := 352) dX11_doMethod_47 (by decide) (by rw [e19]; decide) (by decide) ?_
        refine go_aload_n dX11_doMethod_352 rfl 1 rfl ?_
        refine go_aload_n dX11_doMethod_353 rfl 2 rfl ?_
        obtain ⟨hk, hf⟩ := kg_some hf
        obtain ⟨z_59, hc, hf⟩ := bd_some hf
        refine go_callV (y2 := M_X11_transact) (c2 := 12) dX11_doMethod_354 mo_X11_transact ⟨Nat.le_of_ble_eq_true rfl, Nat.le_of_ble_eq_true rfl⟩ na_X11_transact w1032 w1034 (by decide) rfl w41 hk [vR Ω r1] rfl (n_X11_transact (a0) r1) rfl (csum (Nat.le_of_ble_eq_true rfl)) (t_X11_transact (a0) r1 h _ hc) ?_
        obtain ⟨x_61, h_60⟩ := z_59
        exact go_ireturn dX11_doMethod_357 rfl hf
      rw [if_neg e19] at hf
      by_cases e20 : x2 = 23060
      · rw [if_pos e20] at hf
        refine go_lsw1 (off := 311) (tgt := 358) dX11_doMethod_47 (by decide) (by rw [e20]; decide) (by decide) ?_
        refine go_aload_n dX11_doMethod_358 rfl 1 rfl ?_
        refine go_aload_n dX11_doMethod_359 rfl 2 rfl ?_
        obtain ⟨hk, hf⟩ := kg_some hf
        obtain ⟨z_62, hc, hf⟩ := bd_some hf
        refine go_callV (y2 := M_X11_commit) (c2 := 12) dX11_doMethod_360 mo_X11_commit ⟨Nat.le_of_ble_eq_true rfl, Nat.le_of_ble_eq_true rfl⟩ na_X11_commit w1036 w1038 (by decide) rfl w42 hk [vR Ω r1] rfl (n_X11_commit (a0) r1) rfl (csum (Nat.le_of_ble_eq_true rfl)) (t_X11_commit (a0) r1 h _ hc) ?_
        obtain ⟨x_64, h_63⟩ := z_62
        exact go_ireturn dX11_doMethod_363 rfl hf
      rw [if_neg e20] at hf
      by_cases e21 : x2 = 23070
      · rw [if_pos e21] at hf
        refine go_lsw1 (off := 317) (tgt := 364) dX11_doMethod_47 (by decide) (by rw [e21]; decide) (by decide) ?_
        refine go_aload_n dX11_doMethod_364 rfl 1 rfl ?_
        refine go_aload_n dX11_doMethod_365 rfl 2 rfl ?_
        obtain ⟨hk, hf⟩ := kg_some hf
        obtain ⟨z_65, hc, hf⟩ := bd_some hf
        refine go_callV (y2 := M_X11_rollBack) (c2 := 12) dX11_doMethod_366 mo_X11_rollBack ⟨Nat.le_of_ble_eq_true rfl, Nat.le_of_ble_eq_true rfl⟩ na_X11_rollBack w1042 w1044 (by decide) rfl w43 hk [vR Ω r1] rfl (n_X11_rollBack (a0) r1) rfl (csum (Nat.le_of_ble_eq_true rfl)) (t_X11_rollBack (a0) r1 h _ hc) ?_
        obtain ⟨x_67, h_66⟩ := z_65
        exact go_ireturn dX11_doMethod_369 rfl hf
      rw [if_neg e21] at hf
      refine go_lsw1 (off := 323) (tgt := 370) dX11_doMethod_47 (by decide) (lk_c (ti (by decide) e0) (lk_c (ti (by decide) e1) (lk_c (ti (by decide) e2) (lk_c (ti (by decide) e3) (lk_c (ti (by decide) e4) (lk_c (ti (by decide) e5) (lk_c (ti (by decide) e6) (lk_c (ti (by decide) e7) (lk_c (ti (by decide) e8) (lk_c (ti (by decide) e9) (lk_c (ti (by decide) e10) (lk_c (ti (by decide) e11) (lk_c (ti (by decide) e12) (lk_c (ti (by decide) e13) (lk_c (ti (by decide) e14) (lk_c (ti (by decide) e15) (lk_c (ti (by decide) e16) (lk_c (ti (by decide) e17) (lk_c (ti (by decide) e18) (lk_c (ti (by decide) e19) (lk_c (ti (by decide) e20) (lk_c (ti (by decide) e21) rfl)))))))))))))))))))))) (by decide) ?_
      refine go_sipush 503 dX11_doMethod_370 (by decide) ?_
      exact go_ireturn dX11_doMethod_373 rfl hf
    · refine go_sipush 503 dX11_doMethod_42 (by decide) ?_
      exact go_ireturn dX11_doMethod_45 rfl hf
def f_X11_doMethod_12 (a0 : Nat) (r1 : Option Nat) (x2 : Int32) (s0 : Int32) (h : AH) : Option (Int32 × AH) := nn r1 fun a_1 =>
  rdI h a_1 2 3 fun x_2 =>
  (if x_2 = 1 then
    f_X11_doMethod_26 a0 (some a_1) x2 s0 1 h
  else
    f_X11_doMethod_26 a0 (some a_1) x2 s0 0 h)
set_option maxRecDepth 20000 in
set_option maxHeartbeats 4000000 in
theorem t_X11_doMethod_12 {Ω : Om} (a0 : Nat) (r1 : Option Nat) (x2 : Int32) (s0 : Int32) (h : AH) (q : Int32 × AH) (hf : f_X11_doMethod_12 a0 r1 x2 s0 h = some q) : Go Ω M_X11_doMethod 12 [(0, vR Ω (some a0)), (1, vR Ω r1), (2, .int x2)] [.int s0] h (some (.int q.1)) q.2 := by
  unfold f_X11_doMethod_12 at hf
  refine go_istore_n (i := 3) (lv' := [(3, .int s0), (0, vR Ω (some a0)), (1, vR Ω r1), (2, .int x2)]) dX11_doMethod_12 rfl (by decide) (by first | rfl | simp [catR, catI, catJ]) ?_
  refine go_aload_n dX11_doMethod_13 rfl 2 rfl ?_
  obtain ⟨a_1, rfl, hga_1⟩ := nn_some hf
  have hf := hga_1
  refine go_getI dX11_doMethod_14 fl_356_0 (fun _ _ => rfl) hf (fun x_2 hf => ?_)
  refine go_iconst 1 dX11_doMethod_17 rfl ?_
  refine go_icmp_ne (tgt := 25) dX11_doMethod_18 (by decide) hf (fun hf => ?_) (fun hf => ?_)
  · refine go_iconst 0 dX11_doMethod_25 rfl ?_
    refine go_sub (lv' := [(0, vR Ω (some a0)), (1, vR Ω (some a_1)), (2, .int x2), (3, .int s0)]) [1, 2, 3, 0] rfl ?_
    exact t_X11_doMethod_26 a0 (some a_1) x2 s0 0 h q hf
  · refine go_iconst 1 dX11_doMethod_21 rfl ?_
    refine go_goto (tgt := 26) dX11_doMethod_22 (by decide) ?_
    refine go_sub (lv' := [(0, vR Ω (some a0)), (1, vR Ω (some a_1)), (2, .int x2), (3, .int s0)]) [1, 2, 3, 0] rfl ?_
    exact t_X11_doMethod_26 a0 (some a_1) x2 s0 1 h q hf
def f_X11_doMethod (a0 : Nat) (r1 : Option Nat) (x2 : Int32) (h : AH) : Option (Int32 × AH) := (if x2 = 5130 then
    f_X11_doMethod_12 a0 r1 x2 1 h
  else
    f_X11_doMethod_12 a0 r1 x2 0 h)
set_option maxRecDepth 20000 in
set_option maxHeartbeats 4000000 in
theorem t_X11_doMethod {Ω : Om} (a0 : Nat) (r1 : Option Nat) (x2 : Int32) (h : AH) (q : Int32 × AH) (hf : f_X11_doMethod a0 r1 x2 h = some q) : Go Ω M_X11_doMethod 0 (lv_args 0 [vR Ω (some a0), vR Ω r1, .int x2]) [] h (some (.int q.1)) q.2 := by
  unfold f_X11_doMethod at hf
  rw [la_R, la_R, la_I, la_0]
  refine go_sub (lv' := [(0, vR Ω (some a0)), (1, vR Ω r1), (2, .int x2)]) [0, 1, 2] rfl ?_
  refine go_iload_n dX11_doMethod_0 rfl 2 rfl ?_
  refine go_sipush 5130 dX11_doMethod_1 (by decide) ?_
  refine go_icmp_ne (tgt := 11) dX11_doMethod_4 (by decide) hf (fun hf => ?_) (fun hf => ?_)
  · refine go_iconst 0 dX11_doMethod_11 rfl ?_
    refine go_sub (lv' := [(0, vR Ω (some a0)), (1, vR Ω r1), (2, .int x2)]) [0, 1, 2] rfl ?_
    exact t_X11_doMethod_12 a0 r1 x2 0 h q hf
  · refine go_iconst 1 dX11_doMethod_7 rfl ?_
    refine go_goto (tgt := 12) dX11_doMethod_8 (by decide) ?_
    refine go_sub (lv' := [(0, vR Ω (some a0)), (1, vR Ω r1), (2, .int x2)]) [0, 1, 2] rfl ?_
    exact t_X11_doMethod_12 a0 r1 x2 1 h q hf
-- LetterBroker.handleOnLost(LLetterBroker$Channel;I)I
theorem dX11_handleOnLost_0 : decode cX11_handleOnLost 0 = .ok (.iload_n 2, 1) := by decide +kernel
theorem dX11_handleOnLost_1 : decode cX11_handleOnLost 1 = .ok (.iconst 1, 1) := by decide +kernel
theorem dX11_handleOnLost_2 : decode cX11_handleOnLost 2 = .ok (.if_icmp .ne 31, 3) := by decide +kernel
theorem dX11_handleOnLost_5 : decode cX11_handleOnLost 5 = .ok (.aload_n 0, 1) := by decide +kernel
theorem dX11_handleOnLost_6 : decode cX11_handleOnLost 6 = .ok (.getfield 10, 3) := by decide +kernel
theorem dX11_handleOnLost_9 : decode cX11_handleOnLost 9 = .ok (.invokevirtual 189, 3) := by decide +kernel
theorem dX11_handleOnLost_12 : decode cX11_handleOnLost 12 = .ok (.sipush 5161, 3) := by decide +kernel
theorem dX11_handleOnLost_15 : decode cX11_handleOnLost 15 = .ok (.if_icmp .ne 18, 3) := by decide +kernel
theorem dX11_handleOnLost_18 : decode cX11_handleOnLost 18 = .ok (.aload_n 0, 1) := by decide +kernel
theorem dX11_handleOnLost_19 : decode cX11_handleOnLost 19 = .ok (.getfield 10, 3) := by decide +kernel
theorem dX11_handleOnLost_22 : decode cX11_handleOnLost 22 = .ok (.invokevirtual 132, 3) := by decide +kernel
theorem dX11_handleOnLost_25 : decode cX11_handleOnLost 25 = .ok (.ifCond .eq 8, 3) := by decide +kernel
theorem dX11_handleOnLost_28 : decode cX11_handleOnLost 28 = .ok (.aload_n 1, 1) := by decide +kernel
theorem dX11_handleOnLost_29 : decode cX11_handleOnLost 29 = .ok (.iconst 0, 1) := by decide +kernel
theorem dX11_handleOnLost_30 : decode cX11_handleOnLost 30 = .ok (.putfield 80, 3) := by decide +kernel
theorem dX11_handleOnLost_33 : decode cX11_handleOnLost 33 = .ok (.iconst 0, 1) := by decide +kernel
theorem dX11_handleOnLost_34 : decode cX11_handleOnLost 34 = .ok (.ireturn, 1) := by decide +kernel
def f_X11_handleOnLost (a0 : Nat) (r1 : Option Nat) (x2 : Int32) (h : AH) : Option (Int32 × AH) := (if x2 = 1 then
    rdR h a0 12 0 fun r_1 =>
    nn r_1 fun a_2 =>
    kg h a_2 7 (bd (f_X6_readShort a_2 h) fun x_5 h_4 =>
    (if x_5 = 5161 then
      rdR h_4 a0 12 0 fun r_6 =>
      nn r_6 fun a_7 =>
      kg h_4 a_7 7 (bd (f_X6_isJustRead a_7 h_4) fun x_10 h_9 =>
      (if x_10 = 0 then
        some (0, h_9)
      else
        nn r1 fun a_11 =>
        wrI h_9 a_11 2 3 0 fun h_12 =>
        some (0, h_12)))
    else
      some (0, h_4)))
  else
    some (0, h))
set_option maxRecDepth 20000 in
set_option maxHeartbeats 4000000 in
theorem t_X11_handleOnLost {Ω : Om} (a0 : Nat) (r1 : Option Nat) (x2 : Int32) (h : AH) (q : Int32 × AH) (hf : f_X11_handleOnLost a0 r1 x2 h = some q) : Go Ω M_X11_handleOnLost 0 (lv_args 0 [vR Ω (some a0), vR Ω r1, .int x2]) [] h (some (.int q.1)) q.2 := by
  unfold f_X11_handleOnLost at hf
  rw [la_R, la_R, la_I, la_0]
  refine go_sub (lv' := [(0, vR Ω (some a0)), (1, vR Ω r1), (2, .int x2)]) [0, 1, 2] rfl ?_
  refine go_iload_n dX11_handleOnLost_0 rfl 2 rfl ?_
  refine go_iconst 1 dX11_handleOnLost_1 rfl ?_
  refine go_icmp_ne (tgt := 33) dX11_handleOnLost_2 (by decide) hf (fun hf => ?_) (fun hf => ?_)
  · refine go_iconst 0 dX11_handleOnLost_33 rfl ?_
    exact go_ireturn dX11_handleOnLost_34 rfl hf
  · refine go_aload_n dX11_handleOnLost_5 rfl 0 rfl ?_
    refine go_getR dX11_handleOnLost_6 fl_388_0 (fun _ _ => rfl) hf (fun r_1 hf => ?_)
    obtain ⟨a_2, rfl, hga_2⟩ := nn_some hf
    have hf := hga_2
    obtain ⟨hk, hf⟩ := kg_some hf
    obtain ⟨z_3, hc, hf⟩ := bd_some hf
    refine go_callV (y2 := M_X6_readShort) (c2 := 7) dX11_handleOnLost_9 mo_X6_readShort ⟨Nat.le_of_ble_eq_true rfl, Nat.le_of_ble_eq_true rfl⟩ na_X6_readShort w466 w467 (by decide) rfl w468 hk [] rfl (n_X6_readShort (a_2)) rfl (csum (Nat.le_of_ble_eq_true rfl)) (t_X6_readShort (a_2) h _ hc) ?_
    obtain ⟨x_5, h_4⟩ := z_3
    refine go_sipush 5161 dX11_handleOnLost_12 (by decide) ?_
    refine go_icmp_ne (tgt := 33) dX11_handleOnLost_15 (by decide) hf (fun hf => ?_) (fun hf => ?_)
    · refine go_iconst 0 dX11_handleOnLost_33 rfl ?_
      exact go_ireturn dX11_handleOnLost_34 rfl hf
    · refine go_aload_n dX11_handleOnLost_18 rfl 0 rfl ?_
      refine go_getR dX11_handleOnLost_19 fl_388_0 (fun _ _ => rfl) hf (fun r_6 hf => ?_)
      obtain ⟨a_7, rfl, hga_7⟩ := nn_some hf
      have hf := hga_7
      obtain ⟨hk, hf⟩ := kg_some hf
      obtain ⟨z_8, hc, hf⟩ := bd_some hf
      refine go_callV (y2 := M_X6_isJustRead) (c2 := 7) dX11_handleOnLost_22 mo_X6_isJustRead ⟨Nat.le_of_ble_eq_true rfl, Nat.le_of_ble_eq_true rfl⟩ na_X6_isJustRead w474 w475 (by decide) rfl w476 hk [] rfl (n_X6_isJustRead (a_7)) rfl (csum (Nat.le_of_ble_eq_true rfl)) (t_X6_isJustRead (a_7) h_4 _ hc) ?_
      obtain ⟨x_10, h_9⟩ := z_8
      refine go_if_eq (tgt := 33) dX11_handleOnLost_25 (by decide) hf (fun hf => ?_) (fun hf => ?_)
      · refine go_iconst 0 dX11_handleOnLost_33 rfl ?_
        exact go_ireturn dX11_handleOnLost_34 rfl hf
      · refine go_aload_n dX11_handleOnLost_28 rfl 1 rfl ?_
        refine go_iconst 0 dX11_handleOnLost_29 rfl ?_
        obtain ⟨a_11, rfl, hga_11⟩ := nn_some hf
        have hf := hga_11
        refine go_putI dX11_handleOnLost_30 fl_356_0 (fun q hq => by cases hq; exact Or.inl rfl) (fun _ _ => rfl) rfl hf (fun h_12 hf => ?_)
        refine go_iconst 0 dX11_handleOnLost_33 rfl ?_
        exact go_ireturn dX11_handleOnLost_34 rfl hf
-- LetterBroker$Deed.<init>(LLetterBroker$Draft;)V
theorem dX3_init_0 : decode cX3_init 0 = .ok (.aload_n 0, 1) := by decide +kernel
theorem dX3_init_1 : decode cX3_init 1 = .ok (.invokespecial 1, 3) := by decide +kernel
theorem dX3_init_4 : decode cX3_init 4 = .ok (.aload_n 0, 1) := by decide +kernel
theorem dX3_init_5 : decode cX3_init 5 = .ok (.aload_n 1, 1) := by decide +kernel
theorem dX3_init_6 : decode cX3_init 6 = .ok (.putfield 7, 3) := by decide +kernel
theorem dX3_init_9 : decode cX3_init 9 = .ok (.aload_n 0, 1) := by decide +kernel
theorem dX3_init_10 : decode cX3_init 10 = .ok (.iconst 0, 1) := by decide +kernel
theorem dX3_init_11 : decode cX3_init 11 = .ok (.putfield 13, 3) := by decide +kernel
theorem dX3_init_14 : decode cX3_init 14 = .ok (.aload_n 0, 1) := by decide +kernel
theorem dX3_init_15 : decode cX3_init 15 = .ok (.iconst 0, 1) := by decide +kernel
theorem dX3_init_16 : decode cX3_init 16 = .ok (.putfield 17, 3) := by decide +kernel
theorem dX3_init_19 : decode cX3_init 19 = .ok (.aload_n 0, 1) := by decide +kernel
theorem dX3_init_20 : decode cX3_init 20 = .ok (.iconst 0, 1) := by decide +kernel
theorem dX3_init_21 : decode cX3_init 21 = .ok (.putfield 21, 3) := by decide +kernel
theorem dX3_init_24 : decode cX3_init 24 = .ok (.return_, 1) := by decide +kernel
def f_X3_init (a0 : Nat) (r1 : Option Nat) (h : AH) : Option (Unit × AH) := wrR h a0 4 0 r1 fun h_1 =>
  wrI h_1 a0 4 1 0 fun h_2 =>
  wrZ h_2 a0 4 2 0 fun h_3 =>
  wrZ h_3 a0 4 3 0 fun h_4 =>
  some ((), h_4)
set_option maxRecDepth 20000 in
set_option maxHeartbeats 4000000 in
theorem t_X3_init {Ω : Om} (a0 : Nat) (r1 : Option Nat) (h : AH) (q : Unit × AH) (hf : f_X3_init a0 r1 h = some q) : Go Ω M_X3_init 0 (lv_args 0 [vR Ω (some a0), vR Ω r1]) [] h none q.2 := by
  unfold f_X3_init at hf
  rw [la_R, la_R, la_0]
  refine go_sub (lv' := [(0, vR Ω (some a0)), (1, vR Ω r1)]) [0, 1] rfl ?_
  refine go_aload_n dX3_init_0 rfl 0 rfl ?_
  refine go_objInit dX3_init_1 w496 ⟨by decide, cadd (csum (Nat.le_of_ble_eq_true rfl)) (by decide +kernel)⟩ ?_
  refine go_aload_n dX3_init_4 rfl 0 rfl ?_
  refine go_aload_n dX3_init_5 rfl 1 rfl ?_
  refine go_putR dX3_init_6 fl_497_0 (fun q hq => by cases hq; exact Or.inr ⟨rfl, rfl, rfl⟩) (fun _ _ => rfl) (Or.inl ⟨_, rfl⟩) hf (fun h_1 hf => ?_)
  refine go_aload_n dX3_init_9 rfl 0 rfl ?_
  refine go_iconst 0 dX3_init_10 rfl ?_
  refine go_putI dX3_init_11 fl_499_0 (fun q hq => by cases hq; exact Or.inr ⟨rfl, rfl, rfl⟩) (fun _ _ => rfl) rfl hf (fun h_2 hf => ?_)
  refine go_aload_n dX3_init_14 rfl 0 rfl ?_
  refine go_iconst 0 dX3_init_15 rfl ?_
  refine go_putZ dX3_init_16 fl_500_0 (fun q hq => by cases hq; exact Or.inr ⟨rfl, rfl, rfl⟩) (fun _ _ => rfl) rfl hf (fun h_3 hf => ?_)
  refine go_aload_n dX3_init_19 rfl 0 rfl ?_
  refine go_iconst 0 dX3_init_20 rfl ?_
  refine go_putZ dX3_init_21 fl_501_0 (fun q hq => by cases hq; exact Or.inr ⟨rfl, rfl, rfl⟩) (fun _ _ => rfl) rfl hf (fun h_4 hf => ?_)
  exact go_return dX3_init_24 rfl hf
-- LetterBroker.complete(LLetterBroker$Channel;LLetterBroker$Draft;)I
theorem dX11_complete_0 : decode cX11_complete 0 = .ok (.aload_n 1, 1) := by decide +kernel
theorem dX11_complete_1 : decode cX11_complete 1 = .ok (.aconst_null, 1) := by decide +kernel
theorem dX11_complete_2 : decode cX11_complete 2 = .ok (.putfield 170, 3) := by decide +kernel
theorem dX11_complete_5 : decode cX11_complete 5 = .ok (.aload_n 1, 1) := by decide +kernel
theorem dX11_complete_6 : decode cX11_complete 6 = .ok (.getfield 373, 3) := by decide +kernel
theorem dX11_complete_9 : decode cX11_complete 9 = .ok (.ifCond .eq 19, 3) := by decide +kernel
theorem dX11_complete_12 : decode cX11_complete 12 = .ok (.aload_n 0, 1) := by decide +kernel
theorem dX11_complete_13 : decode cX11_complete 13 = .ok (.aload_n 1, 1) := by decide +kernel
theorem dX11_complete_14 : decode cX11_complete 14 = .ok (.new 376, 3) := by decide +kernel
theorem dX11_complete_17 : decode cX11_complete 17 = .ok (.dup, 1) := by decide +kernel
theorem dX11_complete_18 : decode cX11_complete 18 = .ok (.aload_n 2, 1) := by decide +kernel
theorem dX11_complete_19 : decode cX11_complete 19 = .ok (.invokespecial 378, 3) := by decide +kernel
theorem dX11_complete_22 : decode cX11_complete 22 = .ok (.invokevirtual 381, 3) := by decide +kernel
theorem dX11_complete_25 : decode cX11_complete 25 = .ok (.goto 9, 3) := by decide +kernel
theorem dX11_complete_28 : decode cX11_complete 28 = .ok (.aload_n 0, 1) := by decide +kernel
theorem dX11_complete_29 : decode cX11_complete 29 = .ok (.aload_n 1, 1) := by decide +kernel
theorem dX11_complete_30 : decode cX11_complete 30 = .ok (.aload_n 2, 1) := by decide +kernel
theorem dX11_complete_31 : decode cX11_complete 31 = .ok (.invokevirtual 385, 3) := by decide +kernel
theorem dX11_complete_34 : decode cX11_complete 34 = .ok (.ireturn, 1) := by decide +kernel
def f_X11_complete (a0 : Nat) (r1 : Option Nat) (r2 : Option Nat) (h : AH) : Option (Int32 × AH) := nn r1 fun a_1 =>
  wrR h a_1 2 8 none fun h_2 =>
  rdI h_2 a_1 2 6 fun x_3 =>
  (if x_3 = 0 then
    kg h_2 a0 12 (bd (f_X11_post a0 (some a_1) r2 h_2) fun x_6 h_5 =>
    some (x_6, h_5))
  else
    nwO h_2 4 fun a_7 h_8 =>
    bd (f_X3_init a_7 r2 h_8) fun _ h_10 =>
    kg h_10 a0 12 (bd (f_X11_keep a0 (some a_1) (some a_7) h_10) fun x_13 h_12 =>
    some (x_13, h_12)))
set_option maxRecDepth 20000 in
set_option maxHeartbeats 4000000 in
theorem t_X11_complete {Ω : Om} (a0 : Nat) (r1 : Option Nat) (r2 : Option Nat) (h : AH) (q : Int32 × AH) (hf : f_X11_complete a0 r1 r2 h = some q) : Go Ω M_X11_complete 0 (lv_args 0 [vR Ω (some a0), vR Ω r1, vR Ω r2]) [] h (some (.int q.1)) q.2 := by
  unfold f_X11_complete at hf
  rw [la_R, la_R, la_R, la_0]
  refine go_sub (lv' := [(0, vR Ω (some a0)), (1, vR Ω r1), (2, vR Ω r2)]) [0, 1, 2] rfl ?_
  refine go_aload_n dX11_complete_0 rfl 1 rfl ?_
  refine go_null dX11_complete_1 ?_
  obtain ⟨a_1, rfl, hga_1⟩ := nn_some hf
  have hf := hga_1
  refine go_putR dX11_complete_2 fl_368_0 (fun q hq => by cases hq; exact Or.inl rfl) (fun _ _ => rfl) (Or.inl ⟨_, rfl⟩) hf (fun h_2 hf => ?_)
  refine go_aload_n dX11_complete_5 rfl 1 rfl ?_
  refine go_getI dX11_complete_6 fl_364_0 (fun _ _ => rfl) hf (fun x_3 hf => ?_)
  refine go_if_eq (tgt := 28) dX11_complete_9 (by decide) hf (fun hf => ?_) (fun hf => ?_)
  · refine go_aload_n dX11_complete_28 rfl 0 rfl ?_
    refine go_aload_n dX11_complete_29 rfl 1 rfl ?_
    refine go_aload_n dX11_complete_30 rfl 2 rfl ?_
    obtain ⟨hk, hf⟩ := kg_some hf
    obtain ⟨z_4, hc, hf⟩ := bd_some hf
    refine go_callV (y2 := M_X11_post) (c2 := 12) dX11_complete_31 mo_X11_post ⟨Nat.le_of_ble_eq_true rfl, Nat.le_of_ble_eq_true rfl⟩ na_X11_post w527 w529 (by decide) rfl w10 hk [vR Ω (some a_1), vR Ω r2] rfl (n_X11_post (a0) (some a_1) r2) rfl (csum (Nat.le_of_ble_eq_true rfl)) (t_X11_post (a0) (some a_1) r2 h_2 _ hc) ?_
    obtain ⟨x_6, h_5⟩ := z_4
    exact go_ireturn dX11_complete_34 rfl hf
  · refine go_aload_n dX11_complete_12 rfl 0 rfl ?_
    refine go_aload_n dX11_complete_13 rfl 1 rfl ?_
    refine go_new (c := 4) dX11_complete_14 (by decide) rfl w491 hf (fun a_7 h_8 hf => ?_)
    refine go_dup dX11_complete_17 catR ?_
    refine go_aload_n dX11_complete_18 rfl 2 rfl ?_
    obtain ⟨z_9, hc, hf⟩ := bd_some hf
    refine go_callI (y2 := M_X3_init) dX11_complete_19 mo_X3_init ⟨Nat.le_of_ble_eq_true rfl, Nat.le_of_ble_eq_true rfl⟩ na_X3_init w493 w494 rfl rfl [vR Ω r2] rfl (n_X3_init (a_7) r2) rfl (csum (Nat.le_of_ble_eq_true rfl)) (t_X3_init (a_7) r2 h_8 _ hc) ?_
    obtain ⟨_, h_10⟩ := z_9
    obtain ⟨hk, hf⟩ := kg_some hf
    obtain ⟨z_11, hc, hf⟩ := bd_some hf
    refine go_callV (y2 := M_X11_keep) (c2 := 12) dX11_complete_22 mo_X11_keep ⟨Nat.le_of_ble_eq_true rfl, Nat.le_of_ble_eq_true rfl⟩ na_X11_keep w512 w514 (by decide) rfl w9 hk [vR Ω (some a_1), vR Ω (some a_7)] rfl (n_X11_keep (a0) (some a_1) (some a_7)) rfl (csum (Nat.le_of_ble_eq_true rfl)) (t_X11_keep (a0) (some a_1) (some a_7) h_10 _ hc) ?_
    obtain ⟨x_13, h_12⟩ := z_11
    refine go_goto (tgt := 34) dX11_complete_25 (by decide) ?_
    exact go_ireturn dX11_complete_34 rfl hf
-- LetterBroker$Draft.append(I)V
theorem dX4_append_0 : decode cX4_append 0 = .ok (.aload_n 0, 1) := by decide +kernel
theorem dX4_append_1 : decode cX4_append 1 = .ok (.aload_n 0, 1) := by decide +kernel
theorem dX4_append_2 : decode cX4_append 2 = .ok (.getfield 39, 3) := by decide +kernel
theorem dX4_append_5 : decode cX4_append 5 = .ok (.bipush 8, 2) := by decide +kernel
theorem dX4_append_7 : decode cX4_append 7 = .ok (.lshl, 1) := by decide +kernel
theorem dX4_append_8 : decode cX4_append 8 = .ok (.iload_n 1, 1) := by decide +kernel
theorem dX4_append_9 : decode cX4_append 9 = .ok (.i2l, 1) := by decide +kernel
theorem dX4_append_10 : decode cX4_append 10 = .ok (.lor, 1) := by decide +kernel
theorem dX4_append_11 : decode cX4_append 11 = .ok (.putfield 39, 3) := by decide +kernel
theorem dX4_append_14 : decode cX4_append 14 = .ok (.aload_n 0, 1) := by decide +kernel
theorem dX4_append_15 : decode cX4_append 15 = .ok (.dup, 1) := by decide +kernel
theorem dX4_append_16 : decode cX4_append 16 = .ok (.getfield 36, 3) := by decide +kernel
theorem dX4_append_19 : decode cX4_append 19 = .ok (.iconst 1, 1) := by decide +kernel
theorem dX4_append_20 : decode cX4_append 20 = .ok (.iadd, 1) := by decide +kernel
theorem dX4_append_21 : decode cX4_append 21 = .ok (.putfield 36, 3) := by decide +kernel
theorem dX4_append_24 : decode cX4_append 24 = .ok (.return_, 1) := by decide +kernel
def f_X4_append (a0 : Nat) (x1 : Int32) (h : AH) : Option (Unit × AH) := rdJ h a0 5 5 fun x_1 =>
  wrJ h a0 5 5 ((x_1 <<< ((8 : Int32).toInt64 &&& 63)) ||| x1.toInt64) fun h_2 =>
  rdI h_2 a0 5 6 fun x_3 =>
  wrI h_2 a0 5 6 (x_3 + 1) fun h_4 =>
  some ((), h_4)
set_option maxRecDepth 20000 in
set_option maxHeartbeats 4000000 in
theorem t_X4_append {Ω : Om} (a0 : Nat) (x1 : Int32) (h : AH) (q : Unit × AH) (hf : f_X4_append a0 x1 h = some q) : Go Ω M_X4_append 0 (lv_args 0 [vR Ω (some a0), .int x1]) [] h none q.2 := by
  unfold f_X4_append at hf
  rw [la_R, la_I, la_0]
  refine go_sub (lv' := [(0, vR Ω (some a0)), (1, .int x1)]) [0, 1] rfl ?_
  refine go_aload_n dX4_append_0 rfl 0 rfl ?_
  refine go_aload_n dX4_append_1 rfl 0 rfl ?_
  refine go_getJ dX4_append_2 fl_955_0 (fun _ _ => rfl) hf (fun x_1 hf => ?_)
  refine go_bipush 8 dX4_append_5 (by decide) ?_
  refine go_lshl dX4_append_7 ?_
  refine go_iload_n dX4_append_8 rfl 1 rfl ?_
  refine go_i2l dX4_append_9 ?_
  refine go_lor dX4_append_10 ?_
  refine go_putJ dX4_append_11 fl_955_0 (fun q hq => by cases hq; exact Or.inl rfl) (fun _ _ => rfl) rfl hf (fun h_2 hf => ?_)
  refine go_aload_n dX4_append_14 rfl 0 rfl ?_
  refine go_dup dX4_append_15 catR ?_
  refine go_getI dX4_append_16 fl_957_0 (fun _ _ => rfl) hf (fun x_3 hf => ?_)
  refine go_iconst 1 dX4_append_19 rfl ?_
  refine go_iadd dX4_append_20 ?_
  refine go_putI dX4_append_21 fl_957_0 (fun q hq => by cases hq; exact Or.inl rfl) (fun _ _ => rfl) rfl hf (fun h_4 hf => ?_)
  exact go_return dX4_append_24 rfl hf
-- LetterBroker$Draft.lacks()I
theorem dX4_lacks_0 : decode cX4_lacks 0 = .ok (.aload_n 0, 1) := by decide +kernel
theorem dX4_lacks_1 : decode cX4_lacks 1 = .ok (.getfield 11, 3) := by decide +kernel
theorem dX4_lacks_4 : decode cX4_lacks 4 = .ok (.aload_n 0, 1) := by decide +kernel
theorem dX4_lacks_5 : decode cX4_lacks 5 = .ok (.getfield 36, 3) := by decide +kernel
theorem dX4_lacks_8 : decode cX4_lacks 8 = .ok (.isub, 1) := by decide +kernel
theorem dX4_lacks_9 : decode cX4_lacks 9 = .ok (.ireturn, 1) := by decide +kernel
def f_X4_lacks (a0 : Nat) (h : AH) : Option (Int32 × AH) := rdI h a0 5 4 fun x_1 =>
  rdI h a0 5 6 fun x_2 =>
  some ((x_1 - x_2), h)
set_option maxRecDepth 20000 in
set_option maxHeartbeats 4000000 in
theorem t_X4_lacks {Ω : Om} (a0 : Nat) (h : AH) (q : Int32 × AH) (hf : f_X4_lacks a0 h = some q) : Go Ω M_X4_lacks 0 (lv_args 0 [vR Ω (some a0)]) [] h (some (.int q.1)) q.2 := by
  unfold f_X4_lacks at hf
  rw [la_R, la_0]
  refine go_sub (lv' := [(0, vR Ω (some a0))]) [0] rfl ?_
  refine go_aload_n dX4_lacks_0 rfl 0 rfl ?_
  refine go_getI dX4_lacks_1 fl_952_0 (fun _ _ => rfl) hf (fun x_1 hf => ?_)
  refine go_aload_n dX4_lacks_4 rfl 0 rfl ?_
  refine go_getI dX4_lacks_5 fl_957_0 (fun _ _ => rfl) hf (fun x_2 hf => ?_)
  refine go_isub dX4_lacks_8 ?_
  exact go_ireturn dX4_lacks_9 rfl hf
-- LetterBroker$Inbox.unread()I
theorem dX6_unread_0 : decode cX6_unread 0 = .ok (.aload_n 0, 1) := by decide +kernel
theorem dX6_unread_1 : decode cX6_unread 1 = .ok (.getfield 28, 3) := by decide +kernel
theorem dX6_unread_4 : decode cX6_unread 4 = .ok (.aload_n 0, 1) := by decide +kernel
theorem dX6_unread_5 : decode cX6_unread 5 = .ok (.getfield 25, 3) := by decide +kernel
theorem dX6_unread_8 : decode cX6_unread 8 = .ok (.isub, 1) := by decide +kernel
theorem dX6_unread_9 : decode cX6_unread 9 = .ok (.ireturn, 1) := by decide +kernel
def f_X6_unread (a0 : Nat) (h : AH) : Option (Int32 × AH) := rdI h a0 7 4 fun x_1 =>
  rdI h a0 7 3 fun x_2 =>
  some ((x_1 - x_2), h)
set_option maxRecDepth 20000 in
set_option maxHeartbeats 4000000 in
theorem t_X6_unread {Ω : Om} (a0 : Nat) (h : AH) (q : Int32 × AH) (hf : f_X6_unread a0 h = some q) : Go Ω M_X6_unread 0 (lv_args 0 [vR Ω (some a0)]) [] h (some (.int q.1)) q.2 := by
  unfold f_X6_unread at hf
  rw [la_R, la_0]
  refine go_sub (lv' := [(0, vR Ω (some a0))]) [0] rfl ?_
  refine go_aload_n dX6_unread_0 rfl 0 rfl ?_
  refine go_getI dX6_unread_1 fl_161_0 (fun _ _ => rfl) hf (fun x_1 hf => ?_)
  refine go_aload_n dX6_unread_4 rfl 0 rfl ?_
  refine go_getI dX6_unread_5 fl_160_0 (fun _ _ => rfl) hf (fun x_2 hf => ?_)
  refine go_isub dX6_unread_8 ?_
  exact go_ireturn dX6_unread_9 rfl hf
-- LetterBroker.takeBody(LLetterBroker$Channel;LLetterBroker$Draft;)I
theorem dX11_takeBody_0 : decode cX11_takeBody 0 = .ok (.aload_n 0, 1) := by decide +kernel
theorem dX11_takeBody_1 : decode cX11_takeBody 1 = .ok (.getfield 10, 3) := by decide +kernel
theorem dX11_takeBody_4 : decode cX11_takeBody 4 = .ok (.invokevirtual 186, 3) := by decide +kernel
theorem dX11_takeBody_7 : decode cX11_takeBody 7 = .ok (.istore_n 3, 1) := by decide +kernel
theorem dX11_takeBody_8 : decode cX11_takeBody 8 = .ok (.iload_n 3, 1) := by decide +kernel
theorem dX11_takeBody_9 : decode cX11_takeBody 9 = .ok (.ifCond .eq 11, 3) := by decide +kernel
theorem dX11_takeBody_12 : decode cX11_takeBody 12 = .ok (.iload_n 3, 1) := by decide +kernel
theorem dX11_takeBody_13 : decode cX11_takeBody 13 = .ok (.aload_n 2, 1) := by decide +kernel
theorem dX11_takeBody_14 : decode cX11_takeBody 14 = .ok (.invokevirtual 367, 3) := by decide +kernel
theorem dX11_takeBody_17 : decode cX11_takeBody 17 = .ok (.if_icmp .le 7, 3) := by decide +kernel
theorem dX11_takeBody_20 : decode cX11_takeBody 20 = .ok (.sipush 501, 3) := by decide +kernel
theorem dX11_takeBody_23 : decode cX11_takeBody 23 = .ok (.ireturn, 1) := by decide +kernel
theorem dX11_takeBody_24 : decode cX11_takeBody 24 = .ok (.iconst 0, 1) := by decide +kernel
theorem dX11_takeBody_25 : decode cX11_takeBody 25 = .ok (.istore 4, 2) := by decide +kernel
theorem dX11_takeBody_27 : decode cX11_takeBody 27 = .ok (.iload 4, 2) := by decide +kernel
theorem dX11_takeBody_29 : decode cX11_takeBody 29 = .ok (.iload_n 3, 1) := by decide +kernel
theorem dX11_takeBody_30 : decode cX11_takeBody 30 = .ok (.if_icmp .ge 20, 3) := by decide +kernel
theorem dX11_takeBody_33 : decode cX11_takeBody 33 = .ok (.aload_n 2, 1) := by decide +kernel
theorem dX11_takeBody_34 : decode cX11_takeBody 34 = .ok (.aload_n 0, 1) := by decide +kernel
theorem dX11_takeBody_35 : decode cX11_takeBody 35 = .ok (.getfield 10, 3) := by decide +kernel
theorem dX11_takeBody_38 : decode cX11_takeBody 38 = .ok (.invokevirtual 265, 3) := by decide +kernel
theorem dX11_takeBody_41 : decode cX11_takeBody 41 = .ok (.invokevirtual 370, 3) := by decide +kernel
theorem dX11_takeBody_44 : decode cX11_takeBody 44 = .ok (.iinc 4 1, 3) := by decide +kernel
theorem dX11_takeBody_47 : decode cX11_takeBody 47 = .ok (.goto (-20), 3) := by decide +kernel
theorem dX11_takeBody_50 : decode cX11_takeBody 50 = .ok (.aload_n 2, 1) := by decide +kernel
theorem dX11_takeBody_51 : decode cX11_takeBody 51 = .ok (.invokevirtual 367, 3) := by decide +kernel
theorem dX11_takeBody_54 : decode cX11_takeBody 54 = .ok (.ifCond .ne 12, 3) := by decide +kernel
theorem dX11_takeBody_57 : decode cX11_takeBody 57 = .ok (.aload_n 0, 1) := by decide +kernel
theorem dX11_takeBody_58 : decode cX11_takeBody 58 = .ok (.aload_n 1, 1) := by decide +kernel
theorem dX11_takeBody_59 : decode cX11_takeBody 59 = .ok (.aload_n 2, 1) := by decide +kernel
theorem dX11_takeBody_60 : decode cX11_takeBody 60 = .ok (.invokevirtual 364, 3) := by decide +kernel
theorem dX11_takeBody_63 : decode cX11_takeBody 63 = .ok (.goto 4, 3) := by decide +kernel
theorem dX11_takeBody_66 : decode cX11_takeBody 66 = .ok (.iconst 0, 1) := by decide +kernel
theorem dX11_takeBody_67 : decode cX11_takeBody 67 = .ok (.ireturn, 1) := by decide +kernel
def f_X11_takeBody_50 (a0 : Nat) (r1 : Option Nat) (r2 : Option Nat) (h : AH) : Option (Int32 × AH) := nn r2 fun a_1 =>
  kg h a_1 5 (bd (f_X4_lacks a_1 h) fun x_4 h_3 =>
  (if x_4 = 0 then
    kg h_3 a0 12 (bd (f_X11_complete a0 r1 (some a_1) h_3) fun x_7 h_6 =>
    some (x_7, h_6))
  else
    some (0, h_3)))
set_option maxRecDepth 20000 in
set_option maxHeartbeats 4000000 in
theorem t_X11_takeBody_50 {Ω : Om} (a0 : Nat) (r1 : Option Nat) (r2 : Option Nat) (h : AH) (q : Int32 × AH) (hf : f_X11_takeBody_50 a0 r1 r2 h = some q) : Go Ω M_X11_takeBody 50 [(0, vR Ω (some a0)), (1, vR Ω r1), (2, vR Ω r2)] [] h (some (.int q.1)) q.2 := by
  unfold f_X11_takeBody_50 at hf
  refine go_aload_n dX11_takeBody_50 rfl 2 rfl ?_
  obtain ⟨a_1, rfl, hga_1⟩ := nn_some hf
  have hf := hga_1
  obtain ⟨hk, hf⟩ := kg_some hf
  obtain ⟨z_2, hc, hf⟩ := bd_some hf
  refine go_callV (y2 := M_X4_lacks) (c2 := 5) dX11_takeBody_51 mo_X4_lacks ⟨Nat.le_of_ble_eq_true rfl, Nat.le_of_ble_eq_true rfl⟩ na_X4_lacks w642 w643 (by decide) rfl w644 hk [] rfl (n_X4_lacks (a_1)) rfl (csum (Nat.le_of_ble_eq_true rfl)) (t_X4_lacks (a_1) h _ hc) ?_
  obtain ⟨x_4, h_3⟩ := z_2
  refine go_if_ne (tgt := 66) dX11_takeBody_54 (by decide) hf (fun hf => ?_) (fun hf => ?_)
  · refine go_iconst 0 dX11_takeBody_66 rfl ?_
    exact go_ireturn dX11_takeBody_67 rfl hf
  · refine go_aload_n dX11_takeBody_57 rfl 0 rfl ?_
    refine go_aload_n dX11_takeBody_58 rfl 1 rfl ?_
    refine go_aload_n dX11_takeBody_59 rfl 2 rfl ?_
    obtain ⟨hk, hf⟩ := kg_some hf
    obtain ⟨z_5, hc, hf⟩ := bd_some hf
    refine go_callV (y2 := M_X11_complete) (c2 := 12) dX11_takeBody_60 mo_X11_complete ⟨Nat.le_of_ble_eq_true rfl, Nat.le_of_ble_eq_true rfl⟩ na_X11_complete w487 w489 (by decide) rfl w8 hk [vR Ω r1, vR Ω (some a_1)] rfl (n_X11_complete (a0) r1 (some a_1)) rfl (csum (Nat.le_of_ble_eq_true rfl)) (t_X11_complete (a0) r1 (some a_1) h_3 _ hc) ?_
    obtain ⟨x_7, h_6⟩ := z_5
    refine go_goto (tgt := 67) dX11_takeBody_63 (by decide) ?_
    exact go_ireturn dX11_takeBody_67 rfl hf
def f_X11_takeBody_27 : Nat → Nat → Option Nat → Option Nat → Int32 → Int32 → AH → Option (Int32 × AH)
  | 0, _, _, _, _, _, _ => none
  | n + 1, a0, r1, r2, x3, x4, h => (if x3 ≤ x4 then
      f_X11_takeBody_50 a0 r1 r2 h
    else
      rdR h a0 12 0 fun r_1 =>
      nn r_1 fun a_2 =>
      kg h a_2 7 (bd (f_X6_readByte a_2 h) fun x_5 h_4 =>
      nn r2 fun a_6 =>
      kg h_4 a_6 5 (bd (f_X4_append a_6 x_5 h_4) fun _ h_8 =>
      f_X11_takeBody_27 n a0 r1 (some a_6) x3 (x4 + 1) h_8)))
set_option maxRecDepth 20000 in
set_option maxHeartbeats 4000000 in
theorem t_X11_takeBody_27 {Ω : Om} : ∀ (n : Nat) (a0 : Nat) (r1 : Option Nat) (r2 : Option Nat) (x3 : Int32) (x4 : Int32) (h : AH) (q : Int32 × AH), f_X11_takeBody_27 n a0 r1 r2 x3 x4 h = some q → Go Ω M_X11_takeBody 27 [(0, vR Ω (some a0)), (1, vR Ω r1), (2, vR Ω r2), (3, .int x3), (4, .int x4)] [] h (some (.int q.1)) q.2 := by
  intro n
  induction n with
  | zero => intro a0 r1 r2 x3 x4 h q hf; cases hf
  | succ n ih =>
    intro a0 r1 r2 x3 x4 h q hf
    rw [f_X11_takeBody_27] at hf
    refine go_iload dX11_takeBody_27 4 rfl ?_
    refine go_iload_n dX11_takeBody_29 rfl 3 rfl ?_
    refine go_icmp_ge (tgt := 50) dX11_takeBody_30 (by decide) hf (fun hf => ?_) (fun hf => ?_)
    · refine go_sub (lv' := [(0, vR Ω (some a0)), (1, vR Ω r1), (2, vR Ω r2)]) [0, 1, 2] rfl ?_
      exact t_X11_takeBody_50 a0 r1 r2 h q hf
    · refine go_aload_n dX11_takeBody_33 rfl 2 rfl ?_
      refine go_aload_n dX11_takeBody_34 rfl 0 rfl ?_
      refine go_getR dX11_takeBody_35 fl_388_0 (fun _ _ => rfl) hf (fun r_1 hf => ?_)
      obtain ⟨a_2, rfl, hga_2⟩ := nn_some hf
      have hf := hga_2
      obtain ⟨hk, hf⟩ := kg_some hf
      obtain ⟨z_3, hc, hf⟩ := bd_some hf
      refine go_callV (y2 := M_X6_readByte) (c2 := 7) dX11_takeBody_38 mo_X6_readByte ⟨Nat.le_of_ble_eq_true rfl, Nat.le_of_ble_eq_true rfl⟩ na_X6_readByte w486 w471 (by decide) rfl w472 hk [] rfl (n_X6_readByte (a_2)) rfl (csum (Nat.le_of_ble_eq_true rfl)) (t_X6_readByte (a_2) h _ hc) ?_
      obtain ⟨x_5, h_4⟩ := z_3
      obtain ⟨a_6, rfl, hga_6⟩ := nn_some hf
      have hf := hga_6
      obtain ⟨hk, hf⟩ := kg_some hf
      obtain ⟨z_7, hc, hf⟩ := bd_some hf
      refine go_callV (y2 := M_X4_append) (c2 := 5) dX11_takeBody_41 mo_X4_append ⟨Nat.le_of_ble_eq_true rfl, Nat.le_of_ble_eq_true rfl⟩ na_X4_append w646 w647 (by decide) rfl w648 hk [.int x_5] rfl (n_X4_append (a_6) x_5) rfl (csum (Nat.le_of_ble_eq_true rfl)) (t_X4_append (a_6) x_5 h_4 _ hc) ?_
      obtain ⟨_, h_8⟩ := z_7
      refine go_iinc (j := 4) (v := x4 + 1) (lv' := [(4, .int (x4 + 1)), (0, vR Ω (some a0)), (1, vR Ω r1), (2, vR Ω (some a_6)), (3, .int x3)]) dX11_takeBody_44 rfl rfl (by decide) (by first | rfl | simp [catR, catI, catJ]) ?_
      refine go_goto (tgt := 27) dX11_takeBody_47 (by decide) ?_
      refine go_sub (lv' := [(0, vR Ω (some a0)), (1, vR Ω r1), (2, vR Ω (some a_6)), (3, .int x3), (4, .int (x4 + 1))]) [1, 2, 3, 4, 0] rfl ?_
      exact ih a0 r1 (some a_6) x3 (x4 + 1) h_8 q hf
def f_X11_takeBody (a0 : Nat) (r1 : Option Nat) (r2 : Option Nat) (h : AH) : Option (Int32 × AH) := rdR h a0 12 0 fun r_1 =>
  nn r_1 fun a_2 =>
  kg h a_2 7 (bd (f_X6_unread a_2 h) fun x_5 h_4 =>
  (if x_5 = 0 then
    some (501, h_4)
  else
    nn r2 fun a_6 =>
    kg h_4 a_6 5 (bd (f_X4_lacks a_6 h_4) fun x_9 h_8 =>
    (if x_5 ≤ x_9 then
      f_X11_takeBody_27 FU a0 r1 (some a_6) x_5 0 h_8
    else
      some (501, h_8)))))
set_option maxRecDepth 20000 in
set_option maxHeartbeats 4000000 in
theorem t_X11_takeBody {Ω : Om} (a0 : Nat) (r1 : Option Nat) (r2 : Option Nat) (h : AH) (q : Int32 × AH) (hf : f_X11_takeBody a0 r1 r2 h = some q) : Go Ω M_X11_takeBody 0 (lv_args 0 [vR Ω (some a0), vR Ω r1, vR Ω r2]) [] h (some (.int q.1)) q.2 := by
  unfold f_X11_takeBody at hf
  rw [la_R, la_R, la_R, la_0]
  refine go_sub (lv' := [(0, vR Ω (some a0)), (1, vR Ω r1), (2, vR Ω r2)]) [0, 1, 2] rfl ?_
  refine go_aload_n dX11_takeBody_0 rfl 0 rfl ?_
  refine go_getR dX11_takeBody_1 fl_388_0 (fun _ _ => rfl) hf (fun r_1 hf => ?_)
  obtain ⟨a_2, rfl, hga_2⟩ := nn_some hf
  have hf := hga_2
  obtain ⟨hk, hf⟩ := kg_some hf
  obtain ⟨z_3, hc, hf⟩ := bd_some hf
  refine go_callV (y2 := M_X6_unread) (c2 := 7) dX11_takeBody_4 mo_X6_unread ⟨Nat.le_of_ble_eq_true rfl, Nat.le_of_ble_eq_true rfl⟩ na_X6_unread w638 w639 (by decide) rfl w640 hk [] rfl (n_X6_unread (a_2)) rfl (csum (Nat.le_of_ble_eq_true rfl)) (t_X6_unread (a_2) h _ hc) ?_
  obtain ⟨x_5, h_4⟩ := z_3
  refine go_istore_n (i := 3) (lv' := [(3, .int x_5), (0, vR Ω (some a0)), (1, vR Ω r1), (2, vR Ω r2)]) dX11_takeBody_7 rfl (by decide) (by first | rfl | simp [catR, catI, catJ]) ?_
  refine go_iload_n dX11_takeBody_8 rfl 0 rfl ?_
  refine go_if_eq (tgt := 20) dX11_takeBody_9 (by decide) hf (fun hf => ?_) (fun hf => ?_)
  · refine go_sipush 501 dX11_takeBody_20 (by decide) ?_
    exact go_ireturn dX11_takeBody_23 rfl hf
  · refine go_iload_n dX11_takeBody_12 rfl 0 rfl ?_
    refine go_aload_n dX11_takeBody_13 rfl 3 rfl ?_
    obtain ⟨a_6, rfl, hga_6⟩ := nn_some hf
    have hf := hga_6
    obtain ⟨hk, hf⟩ := kg_some hf
    obtain ⟨z_7, hc, hf⟩ := bd_some hf
    refine go_callV (y2 := M_X4_lacks) (c2 := 5) dX11_takeBody_14 mo_X4_lacks ⟨Nat.le_of_ble_eq_true rfl, Nat.le_of_ble_eq_true rfl⟩ na_X4_lacks w642 w643 (by decide) rfl w644 hk [] rfl (n_X4_lacks (a_6)) rfl (csum (Nat.le_of_ble_eq_true rfl)) (t_X4_lacks (a_6) h_4 _ hc) ?_
    obtain ⟨x_9, h_8⟩ := z_7
    refine go_icmp_le (tgt := 24) dX11_takeBody_17 (by decide) hf (fun hf => ?_) (fun hf => ?_)
    · refine go_iconst 0 dX11_takeBody_24 rfl ?_
      refine go_istore (i := 4) (lv' := [(4, .int 0), (3, .int x_5), (0, vR Ω (some a0)), (1, vR Ω r1), (2, vR Ω (some a_6))]) dX11_takeBody_25 (by decide) (by first | rfl | simp [catR, catI, catJ]) ?_
      refine go_sub (lv' := [(0, vR Ω (some a0)), (1, vR Ω r1), (2, vR Ω (some a_6)), (3, .int x_5), (4, .int 0)]) [2, 3, 4, 1, 0] rfl ?_
      exact t_X11_takeBody_27 FU a0 r1 (some a_6) x_5 0 h_8 q hf
    · refine go_sipush 501 dX11_takeBody_20 (by decide) ?_
      exact go_ireturn dX11_takeBody_23 rfl hf
-- LetterBroker.takeHead(LLetterBroker$Channel;LLetterBroker$Draft;)I
theorem dX11_takeHead_0 : decode cX11_takeHead 0 = .ok (.aload_n 0, 1) := by decide +kernel
theorem dX11_takeHead_1 : decode cX11_takeHead 1 = .ok (.getfield 10, 3) := by decide +kernel
theorem dX11_takeHead_4 : decode cX11_takeHead 4 = .ok (.invokevirtual 265, 3) := by decide +kernel
theorem dX11_takeHead_7 : decode cX11_takeHead 7 = .ok (.istore_n 3, 1) := by decide +kernel
theorem dX11_takeHead_8 : decode cX11_takeHead 8 = .ok (.aload_n 0, 1) := by decide +kernel
theorem dX11_takeHead_9 : decode cX11_takeHead 9 = .ok (.getfield 10, 3) := by decide +kernel
theorem dX11_takeHead_12 : decode cX11_takeHead 12 = .ok (.invokevirtual 132, 3) := by decide +kernel
theorem dX11_takeHead_15 : decode cX11_takeHead 15 = .ok (.ifCond .eq 9, 3) := by decide +kernel
theorem dX11_takeHead_18 : decode cX11_takeHead 18 = .ok (.iload_n 3, 1) := by decide +kernel
theorem dX11_takeHead_19 : decode cX11_takeHead 19 = .ok (.bipush 6, 2) := by decide +kernel
theorem dX11_takeHead_21 : decode cX11_takeHead 21 = .ok (.if_icmp .le 7, 3) := by decide +kernel
theorem dX11_takeHead_24 : decode cX11_takeHead 24 = .ok (.sipush 501, 3) := by decide +kernel
theorem dX11_takeHead_27 : decode cX11_takeHead 27 = .ok (.ireturn, 1) := by decide +kernel
theorem dX11_takeHead_28 : decode cX11_takeHead 28 = .ok (.aload_n 2, 1) := by decide +kernel
theorem dX11_takeHead_29 : decode cX11_takeHead 29 = .ok (.iload_n 3, 1) := by decide +kernel
theorem dX11_takeHead_30 : decode cX11_takeHead 30 = .ok (.putfield 361, 3) := by decide +kernel
theorem dX11_takeHead_33 : decode cX11_takeHead 33 = .ok (.iload_n 3, 1) := by decide +kernel
theorem dX11_takeHead_34 : decode cX11_takeHead 34 = .ok (.ifCond .ne 12, 3) := by decide +kernel
theorem dX11_takeHead_37 : decode cX11_takeHead 37 = .ok (.aload_n 0, 1) := by decide +kernel
theorem dX11_takeHead_38 : decode cX11_takeHead 38 = .ok (.aload_n 1, 1) := by decide +kernel
theorem dX11_takeHead_39 : decode cX11_takeHead 39 = .ok (.aload_n 2, 1) := by decide +kernel
theorem dX11_takeHead_40 : decode cX11_takeHead 40 = .ok (.invokevirtual 364, 3) := by decide +kernel
theorem dX11_takeHead_43 : decode cX11_takeHead 43 = .ok (.goto 4, 3) := by decide +kernel
theorem dX11_takeHead_46 : decode cX11_takeHead 46 = .ok (.iconst 0, 1) := by decide +kernel
theorem dX11_takeHead_47 : decode cX11_takeHead 47 = .ok (.ireturn, 1) := by decide +kernel
def f_X11_takeHead (a0 : Nat) (r1 : Option Nat) (r2 : Option Nat) (h : AH) : Option (Int32 × AH) := rdR h a0 12 0 fun r_1 =>
  nn r_1 fun a_2 =>
  kg h a_2 7 (bd (f_X6_readByte a_2 h) fun x_5 h_4 =>
  rdR h_4 a0 12 0 fun r_6 =>
  nn r_6 fun a_7 =>
  kg h_4 a_7 7 (bd (f_X6_isJustRead a_7 h_4) fun x_10 h_9 =>
  (if x_10 = 0 then
    some (501, h_9)
  else
    (if x_5 ≤ 6 then
      nn r2 fun a_11 =>
      wrI h_9 a_11 5 4 x_5 fun h_12 =>
      (if x_5 = 0 then
        kg h_12 a0 12 (bd (f_X11_complete a0 r1 (some a_11) h_12) fun x_15 h_14 =>
        some (x_15, h_14))
      else
        some (0, h_12))
    else
      some (501, h_9)))))
set_option maxRecDepth 20000 in
set_option maxHeartbeats 4000000 in
theorem t_X11_takeHead {Ω : Om} (a0 : Nat) (r1 : Option Nat) (r2 : Option Nat) (h : AH) (q : Int32 × AH) (hf : f_X11_takeHead a0 r1 r2 h = some q) : Go Ω M_X11_takeHead 0 (lv_args 0 [vR Ω (some a0), vR Ω r1, vR Ω r2]) [] h (some (.int q.1)) q.2 := by
  unfold f_X11_takeHead at hf
  rw [la_R, la_R, la_R, la_0]
  refine go_sub (lv' := [(0, vR Ω (some a0)), (1, vR Ω r1), (2, vR Ω r2)]) [0, 1, 2] rfl ?_
  refine go_aload_n dX11_takeHead_0 rfl 0 rfl ?_
  refine go_getR dX11_takeHead_1 fl_388_0 (fun _ _ => rfl) hf (fun r_1 hf => ?_)
  obtain ⟨a_2, rfl, hga_2⟩ := nn_some hf
  have hf := hga_2
  obtain ⟨hk, hf⟩ := kg_some hf
  obtain ⟨z_3, hc, hf⟩ := bd_some hf
  refine go_callV (y2 := M_X6_readByte) (c2 := 7) dX11_takeHead_4 mo_X6_readByte ⟨Nat.le_of_ble_eq_true rfl, Nat.le_of_ble_eq_true rfl⟩ na_X6_readByte w486 w471 (by decide) rfl w472 hk [] rfl (n_X6_readByte (a_2)) rfl (csum (Nat.le_of_ble_eq_true rfl)) (t_X6_readByte (a_2) h _ hc) ?_
  obtain ⟨x_5, h_4⟩ := z_3
  refine go_istore_n (i := 3) (lv' := [(3, .int x_5), (0, vR Ω (some a0)), (1, vR Ω r1), (2, vR Ω r2)]) dX11_takeHead_7 rfl (by decide) (by first | rfl | simp [catR, catI, catJ]) ?_
  refine go_aload_n dX11_takeHead_8 rfl 1 rfl ?_
  refine go_getR dX11_takeHead_9 fl_388_0 (fun _ _ => rfl) hf (fun r_6 hf => ?_)
  obtain ⟨a_7, rfl, hga_7⟩ := nn_some hf
  have hf := hga_7
  obtain ⟨hk, hf⟩ := kg_some hf
  obtain ⟨z_8, hc, hf⟩ := bd_some hf
  refine go_callV (y2 := M_X6_isJustRead) (c2 := 7) dX11_takeHead_12 mo_X6_isJustRead ⟨Nat.le_of_ble_eq_true rfl, Nat.le_of_ble_eq_true rfl⟩ na_X6_isJustRead w474 w475 (by decide) rfl w476 hk [] rfl (n_X6_isJustRead (a_7)) rfl (csum (Nat.le_of_ble_eq_true rfl)) (t_X6_isJustRead (a_7) h_4 _ hc) ?_
  obtain ⟨x_10, h_9⟩ := z_8
  refine go_if_eq (tgt := 24) dX11_takeHead_15 (by decide) hf (fun hf => ?_) (fun hf => ?_)
  · refine go_sipush 501 dX11_takeHead_24 (by decide) ?_
    exact go_ireturn dX11_takeHead_27 rfl hf
  · refine go_iload_n dX11_takeHead_18 rfl 0 rfl ?_
    refine go_bipush 6 dX11_takeHead_19 (by decide) ?_
    refine go_icmp_le (tgt := 28) dX11_takeHead_21 (by decide) hf (fun hf => ?_) (fun hf => ?_)
    · refine go_aload_n dX11_takeHead_28 rfl 3 rfl ?_
      refine go_iload_n dX11_takeHead_29 rfl 0 rfl ?_
      obtain ⟨a_11, rfl, hga_11⟩ := nn_some hf
      have hf := hga_11
      refine go_putI dX11_takeHead_30 fl_954_0 (fun q hq => by cases hq; exact Or.inl rfl) (fun _ _ => rfl) rfl hf (fun h_12 hf => ?_)
      refine go_iload_n dX11_takeHead_33 rfl 0 rfl ?_
      refine go_if_ne (tgt := 46) dX11_takeHead_34 (by decide) hf (fun hf => ?_) (fun hf => ?_)
      · refine go_iconst 0 dX11_takeHead_46 rfl ?_
        exact go_ireturn dX11_takeHead_47 rfl hf
      · refine go_aload_n dX11_takeHead_37 rfl 1 rfl ?_
        refine go_aload_n dX11_takeHead_38 rfl 2 rfl ?_
        refine go_aload_n dX11_takeHead_39 rfl 3 rfl ?_
        obtain ⟨hk, hf⟩ := kg_some hf
        obtain ⟨z_13, hc, hf⟩ := bd_some hf
        refine go_callV (y2 := M_X11_complete) (c2 := 12) dX11_takeHead_40 mo_X11_complete ⟨Nat.le_of_ble_eq_true rfl, Nat.le_of_ble_eq_true rfl⟩ na_X11_complete w487 w489 (by decide) rfl w8 hk [vR Ω r1, vR Ω (some a_11)] rfl (n_X11_complete (a0) r1 (some a_11)) rfl (csum (Nat.le_of_ble_eq_true rfl)) (t_X11_complete (a0) r1 (some a_11) h_12 _ hc) ?_
        obtain ⟨x_15, h_14⟩ := z_13
        refine go_goto (tgt := 47) dX11_takeHead_43 (by decide) ?_
        exact go_ireturn dX11_takeHead_47 rfl hf
    · refine go_sipush 501 dX11_takeHead_24 (by decide) ?_
      exact go_ireturn dX11_takeHead_27 rfl hf
-- LetterBroker$Draft.due()I
theorem dX4_due_0 : decode cX4_due 0 = .ok (.aload_n 0, 1) := by decide +kernel
theorem dX4_due_1 : decode cX4_due 1 = .ok (.getfield 11, 3) := by decide +kernel
theorem dX4_due_4 : decode cX4_due 4 = .ok (.iconst (-1), 1) := by decide +kernel
theorem dX4_due_5 : decode cX4_due 5 = .ok (.if_icmp .ne 7, 3) := by decide +kernel
theorem dX4_due_8 : decode cX4_due 8 = .ok (.iconst 2, 1) := by decide +kernel
theorem dX4_due_9 : decode cX4_due 9 = .ok (.goto 4, 3) := by decide +kernel
theorem dX4_due_12 : decode cX4_due 12 = .ok (.iconst 3, 1) := by decide +kernel
theorem dX4_due_13 : decode cX4_due 13 = .ok (.ireturn, 1) := by decide +kernel
def f_X4_due (a0 : Nat) (h : AH) : Option (Int32 × AH) := rdI h a0 5 4 fun x_1 =>
  (if x_1 = ((-1)) then
    some (2, h)
  else
    some (3, h))
set_option maxRecDepth 20000 in
set_option maxHeartbeats 4000000 in
theorem t_X4_due {Ω : Om} (a0 : Nat) (h : AH) (q : Int32 × AH) (hf : f_X4_due a0 h = some q) : Go Ω M_X4_due 0 (lv_args 0 [vR Ω (some a0)]) [] h (some (.int q.1)) q.2 := by
  unfold f_X4_due at hf
  rw [la_R, la_0]
  refine go_sub (lv' := [(0, vR Ω (some a0))]) [0] rfl ?_
  refine go_aload_n dX4_due_0 rfl 0 rfl ?_
  refine go_getI dX4_due_1 fl_952_0 (fun _ _ => rfl) hf (fun x_1 hf => ?_)
  refine go_iconst (-1) dX4_due_4 rfl ?_
  refine go_icmp_ne (tgt := 12) dX4_due_5 (by decide) hf (fun hf => ?_) (fun hf => ?_)
  · refine go_iconst 3 dX4_due_12 rfl ?_
    exact go_ireturn dX4_due_13 rfl hf
  · refine go_iconst 2 dX4_due_8 rfl ?_
    refine go_goto (tgt := 13) dX4_due_9 (by decide) ?_
    exact go_ireturn dX4_due_13 rfl hf
-- LetterBroker$Inbox.frameChannel()I
theorem dX6_frameChannel_0 : decode cX6_frameChannel 0 = .ok (.aload_n 0, 1) := by decide +kernel
theorem dX6_frameChannel_1 : decode cX6_frameChannel 1 = .ok (.getfield 9, 3) := by decide +kernel
theorem dX6_frameChannel_4 : decode cX6_frameChannel 4 = .ok (.iconst 1, 1) := by decide +kernel
theorem dX6_frameChannel_5 : decode cX6_frameChannel 5 = .ok (.iaload, 1) := by decide +kernel
theorem dX6_frameChannel_6 : decode cX6_frameChannel 6 = .ok (.ireturn, 1) := by decide +kernel
def f_X6_frameChannel (a0 : Nat) (h : AH) : Option (Int32 × AH) := rdR h a0 7 1 fun r_1 =>
  nn r_1 fun a_2 =>
  arI h a_2 1 fun x_3 =>
  some (x_3, h)
set_option maxRecDepth 20000 in
set_option maxHeartbeats 4000000 in
theorem t_X6_frameChannel {Ω : Om} (a0 : Nat) (h : AH) (q : Int32 × AH) (hf : f_X6_frameChannel a0 h = some q) : Go Ω M_X6_frameChannel 0 (lv_args 0 [vR Ω (some a0)]) [] h (some (.int q.1)) q.2 := by
  unfold f_X6_frameChannel at hf
  rw [la_R, la_0]
  refine go_sub (lv' := [(0, vR Ω (some a0))]) [0] rfl ?_
  refine go_aload_n dX6_frameChannel_0 rfl 0 rfl ?_
  refine go_getR dX6_frameChannel_1 fl_158_0 (fun _ _ => rfl) hf (fun r_1 hf => ?_)
  refine go_iconst 1 dX6_frameChannel_4 rfl ?_
  obtain ⟨a_2, rfl, hga_2⟩ := nn_some hf
  have hf := hga_2
  refine go_iaload dX6_frameChannel_5 hf (fun x_3 hf => ?_)
  exact go_ireturn dX6_frameChannel_6 rfl hf
-- LetterBroker$Inbox.frameKind()I
theorem dX6_frameKind_0 : decode cX6_frameKind 0 = .ok (.aload_n 0, 1) := by decide +kernel
theorem dX6_frameKind_1 : decode cX6_frameKind 1 = .ok (.getfield 9, 3) := by decide +kernel
theorem dX6_frameKind_4 : decode cX6_frameKind 4 = .ok (.iconst 0, 1) := by decide +kernel
theorem dX6_frameKind_5 : decode cX6_frameKind 5 = .ok (.iaload, 1) := by decide +kernel
theorem dX6_frameKind_6 : decode cX6_frameKind 6 = .ok (.ireturn, 1) := by decide +kernel
def f_X6_frameKind (a0 : Nat) (h : AH) : Option (Int32 × AH) := rdR h a0 7 1 fun r_1 =>
  nn r_1 fun a_2 =>
  arI h a_2 0 fun x_3 =>
  some (x_3, h)
set_option maxRecDepth 20000 in
set_option maxHeartbeats 4000000 in
theorem t_X6_frameKind {Ω : Om} (a0 : Nat) (h : AH) (q : Int32 × AH) (hf : f_X6_frameKind a0 h = some q) : Go Ω M_X6_frameKind 0 (lv_args 0 [vR Ω (some a0)]) [] h (some (.int q.1)) q.2 := by
  unfold f_X6_frameKind at hf
  rw [la_R, la_0]
  refine go_sub (lv' := [(0, vR Ω (some a0))]) [0] rfl ?_
  refine go_aload_n dX6_frameKind_0 rfl 0 rfl ?_
  refine go_getR dX6_frameKind_1 fl_158_0 (fun _ _ => rfl) hf (fun r_1 hf => ?_)
  refine go_iconst 0 dX6_frameKind_4 rfl ?_
  obtain ⟨a_2, rfl, hga_2⟩ := nn_some hf
  have hf := hga_2
  refine go_iaload dX6_frameKind_5 hf (fun x_3 hf => ?_)
  exact go_ireturn dX6_frameKind_6 rfl hf
-- LetterBroker.handleFrame()I
theorem dX11_handleFrame_0 : decode cX11_handleFrame 0 = .ok (.aload_n 0, 1) := by decide +kernel
theorem dX11_handleFrame_1 : decode cX11_handleFrame 1 = .ok (.getfield 10, 3) := by decide +kernel
theorem dX11_handleFrame_4 : decode cX11_handleFrame 4 = .ok (.invokevirtual 163, 3) := by decide +kernel
theorem dX11_handleFrame_7 : decode cX11_handleFrame 7 = .ok (.istore_n 1, 1) := by decide +kernel
theorem dX11_handleFrame_8 : decode cX11_handleFrame 8 = .ok (.aload_n 0, 1) := by decide +kernel
theorem dX11_handleFrame_9 : decode cX11_handleFrame 9 = .ok (.aload_n 0, 1) := by decide +kernel
theorem dX11_handleFrame_10 : decode cX11_handleFrame 10 = .ok (.getfield 10, 3) := by decide +kernel
theorem dX11_handleFrame_13 : decode cX11_handleFrame 13 = .ok (.invokevirtual 138, 3) := by decide +kernel
theorem dX11_handleFrame_16 : decode cX11_handleFrame 16 = .ok (.invokevirtual 76, 3) := by decide +kernel
theorem dX11_handleFrame_19 : decode cX11_handleFrame 19 = .ok (.astore_n 2, 1) := by decide +kernel
theorem dX11_handleFrame_20 : decode cX11_handleFrame 20 = .ok (.aload_n 2, 1) := by decide +kernel
theorem dX11_handleFrame_21 : decode cX11_handleFrame 21 = .ok (.ifnull 18, 3) := by decide +kernel
theorem dX11_handleFrame_24 : decode cX11_handleFrame 24 = .ok (.aload_n 2, 1) := by decide +kernel
theorem dX11_handleFrame_25 : decode cX11_handleFrame 25 = .ok (.getfield 80, 3) := by decide +kernel
theorem dX11_handleFrame_28 : decode cX11_handleFrame 28 = .ok (.iconst 2, 1) := by decide +kernel
theorem dX11_handleFrame_29 : decode cX11_handleFrame 29 = .ok (.if_icmp .ne 10, 3) := by decide +kernel
theorem dX11_handleFrame_32 : decode cX11_handleFrame 32 = .ok (.aload_n 0, 1) := by decide +kernel
theorem dX11_handleFrame_33 : decode cX11_handleFrame 33 = .ok (.aload_n 2, 1) := by decide +kernel
theorem dX11_handleFrame_34 : decode cX11_handleFrame 34 = .ok (.iload_n 1, 1) := by decide +kernel
theorem dX11_handleFrame_35 : decode cX11_handleFrame 35 = .ok (.invokevirtual 166, 3) := by decide +kernel
theorem dX11_handleFrame_38 : decode cX11_handleFrame 38 = .ok (.ireturn, 1) := by decide +kernel
theorem dX11_handleFrame_39 : decode cX11_handleFrame 39 = .ok (.aload_n 2, 1) := by decide +kernel
theorem dX11_handleFrame_40 : decode cX11_handleFrame 40 = .ok (.ifnonnull 7, 3) := by decide +kernel
theorem dX11_handleFrame_43 : decode cX11_handleFrame 43 = .ok (.aconst_null, 1) := by decide +kernel
theorem dX11_handleFrame_44 : decode cX11_handleFrame 44 = .ok (.goto 7, 3) := by decide +kernel
theorem dX11_handleFrame_47 : decode cX11_handleFrame 47 = .ok (.aload_n 2, 1) := by decide +kernel
theorem dX11_handleFrame_48 : decode cX11_handleFrame 48 = .ok (.getfield 170, 3) := by decide +kernel
theorem dX11_handleFrame_51 : decode cX11_handleFrame 51 = .ok (.astore_n 3, 1) := by decide +kernel
theorem dX11_handleFrame_52 : decode cX11_handleFrame 52 = .ok (.aload_n 3, 1) := by decide +kernel
theorem dX11_handleFrame_53 : decode cX11_handleFrame 53 = .ok (.ifnull 32, 3) := by decide +kernel
theorem dX11_handleFrame_56 : decode cX11_handleFrame 56 = .ok (.iload_n 1, 1) := by decide +kernel
theorem dX11_handleFrame_57 : decode cX11_handleFrame 57 = .ok (.aload_n 3, 1) := by decide +kernel
theorem dX11_handleFrame_58 : decode cX11_handleFrame 58 = .ok (.invokevirtual 174, 3) := by decide +kernel
theorem dX11_handleFrame_61 : decode cX11_handleFrame 61 = .ok (.if_icmp .ne 24, 3) := by decide +kernel
theorem dX11_handleFrame_64 : decode cX11_handleFrame 64 = .ok (.iload_n 1, 1) := by decide +kernel
theorem dX11_handleFrame_65 : decode cX11_handleFrame 65 = .ok (.iconst 2, 1) := by decide +kernel
theorem dX11_handleFrame_66 : decode cX11_handleFrame 66 = .ok (.if_icmp .ne 12, 3) := by decide +kernel
theorem dX11_handleFrame_69 : decode cX11_handleFrame 69 = .ok (.aload_n 0, 1) := by decide +kernel
theorem dX11_handleFrame_70 : decode cX11_handleFrame 70 = .ok (.aload_n 2, 1) := by decide +kernel
theorem dX11_handleFrame_71 : decode cX11_handleFrame 71 = .ok (.aload_n 3, 1) := by decide +kernel
theorem dX11_handleFrame_72 : decode cX11_handleFrame 72 = .ok (.invokevirtual 179, 3) := by decide +kernel
theorem dX11_handleFrame_75 : decode cX11_handleFrame 75 = .ok (.goto 9, 3) := by decide +kernel
theorem dX11_handleFrame_78 : decode cX11_handleFrame 78 = .ok (.aload_n 0, 1) := by decide +kernel
theorem dX11_handleFrame_79 : decode cX11_handleFrame 79 = .ok (.aload_n 2, 1) := by decide +kernel
theorem dX11_handleFrame_80 : decode cX11_handleFrame 80 = .ok (.aload_n 3, 1) := by decide +kernel
theorem dX11_handleFrame_81 : decode cX11_handleFrame 81 = .ok (.invokevirtual 183, 3) := by decide +kernel
theorem dX11_handleFrame_84 : decode cX11_handleFrame 84 = .ok (.ireturn, 1) := by decide +kernel
theorem dX11_handleFrame_85 : decode cX11_handleFrame 85 = .ok (.aload_n 3, 1) := by decide +kernel
theorem dX11_handleFrame_86 : decode cX11_handleFrame 86 = .ok (.ifnonnull 8, 3) := by decide +kernel
theorem dX11_handleFrame_89 : decode cX11_handleFrame 89 = .ok (.iload_n 1, 1) := by decide +kernel
theorem dX11_handleFrame_90 : decode cX11_handleFrame 90 = .ok (.iconst 1, 1) := by decide +kernel
theorem dX11_handleFrame_91 : decode cX11_handleFrame 91 = .ok (.if_icmp .eq 7, 3) := by decide +kernel
theorem dX11_handleFrame_94 : decode cX11_handleFrame 94 = .ok (.sipush 505, 3) := by decide +kernel
theorem dX11_handleFrame_97 : decode cX11_handleFrame 97 = .ok (.ireturn, 1) := by decide +kernel
theorem dX11_handleFrame_98 : decode cX11_handleFrame 98 = .ok (.aload_n 0, 1) := by decide +kernel
theorem dX11_handleFrame_99 : decode cX11_handleFrame 99 = .ok (.getfield 10, 3) := by decide +kernel
theorem dX11_handleFrame_102 : decode cX11_handleFrame 102 = .ok (.invokevirtual 186, 3) := by decide +kernel
theorem dX11_handleFrame_105 : decode cX11_handleFrame 105 = .ok (.iconst 2, 1) := by decide +kernel
theorem dX11_handleFrame_106 : decode cX11_handleFrame 106 = .ok (.if_icmp .ge 7, 3) := by decide +kernel
theorem dX11_handleFrame_109 : decode cX11_handleFrame 109 = .ok (.sipush 501, 3) := by decide +kernel
theorem dX11_handleFrame_112 : decode cX11_handleFrame 112 = .ok (.ireturn, 1) := by decide +kernel
theorem dX11_handleFrame_113 : decode cX11_handleFrame 113 = .ok (.aload_n 0, 1) := by decide +kernel
theorem dX11_handleFrame_114 : decode cX11_handleFrame 114 = .ok (.getfield 10, 3) := by decide +kernel
theorem dX11_handleFrame_117 : decode cX11_handleFrame 117 = .ok (.invokevirtual 189, 3) := by decide +kernel
theorem dX11_handleFrame_120 : decode cX11_handleFrame 120 = .ok (.istore 4, 2) := by decide +kernel
theorem dX11_handleFrame_122 : decode cX11_handleFrame 122 = .ok (.aload_n 2, 1) := by decide +kernel
theorem dX11_handleFrame_123 : decode cX11_handleFrame 123 = .ok (.ifnonnull 12, 3) := by decide +kernel
theorem dX11_handleFrame_126 : decode cX11_handleFrame 126 = .ok (.aload_n 0, 1) := by decide +kernel
theorem dX11_handleFrame_127 : decode cX11_handleFrame 127 = .ok (.iload 4, 2) := by decide +kernel
theorem dX11_handleFrame_129 : decode cX11_handleFrame 129 = .ok (.invokevirtual 192, 3) := by decide +kernel
theorem dX11_handleFrame_132 : decode cX11_handleFrame 132 = .ok (.goto 10, 3) := by decide +kernel
theorem dX11_handleFrame_135 : decode cX11_handleFrame 135 = .ok (.aload_n 0, 1) := by decide +kernel
theorem dX11_handleFrame_136 : decode cX11_handleFrame 136 = .ok (.aload_n 2, 1) := by decide +kernel
theorem dX11_handleFrame_137 : decode cX11_handleFrame 137 = .ok (.iload 4, 2) := by decide +kernel
theorem dX11_handleFrame_139 : decode cX11_handleFrame 139 = .ok (.invokevirtual 196, 3) := by decide +kernel
theorem dX11_handleFrame_142 : decode cX11_handleFrame 142 = .ok (.ireturn, 1) := by decide +kernel
def f_X11_handleFrame_85 (a0 : Nat) (x1 : Int32) (r2 : Option Nat) (r3 : Option Nat) (h : AH) : Option (Int32 × AH) := nb r3
    ((if x1 = 1 then
      rdR h a0 12 0 fun r_2 =>
      nn r_2 fun a_3 =>
      kg h a_3 7 (bd (f_X6_unread a_3 h) fun x_6 h_5 =>
      (if 2 ≤ x_6 then
        rdR h_5 a0 12 0 fun r_7 =>
        nn r_7 fun a_8 =>
        kg h_5 a_8 7 (bd (f_X6_readShort a_8 h_5) fun x_11 h_10 =>
        nb r2
          (kg h_10 a0 12 (bd (f_X11_doLineMethod a0 x_11 h_10) fun x_15 h_14 =>
          some (x_15, h_14)))
          (fun a_12 => kg h_10 a0 12 (bd (f_X11_doMethod a0 (some a_12) x_11 h_10) fun x_18 h_17 =>
          some (x_18, h_17))))
      else
        some (501, h_5)))
    else
      some (505, h)))
    (fun a_1 => some (505, h))
set_option maxRecDepth 20000 in
set_option maxHeartbeats 4000000 in
theorem t_X11_handleFrame_85 {Ω : Om} (a0 : Nat) (x1 : Int32) (r2 : Option Nat) (r3 : Option Nat) (h : AH) (q : Int32 × AH) (hf : f_X11_handleFrame_85 a0 x1 r2 r3 h = some q) : Go Ω M_X11_handleFrame 85 [(0, vR Ω (some a0)), (1, .int x1), (2, vR Ω r2), (3, vR Ω r3)] [] h (some (.int q.1)) q.2 := by
  unfold f_X11_handleFrame_85 at hf
  refine go_aload_n dX11_handleFrame_85 rfl 3 rfl ?_
  refine go_ifnonnull (x := r3) (tgt := 94) dX11_handleFrame_86 (by decide) hf ?_ ?_
  · rintro rfl hf
    refine go_iload_n dX11_handleFrame_89 rfl 1 rfl ?_
    refine go_iconst 1 dX11_handleFrame_90 rfl ?_
    refine go_icmp_eq (tgt := 98) dX11_handleFrame_91 (by decide) hf (fun hf => ?_) (fun hf => ?_)
    · refine go_aload_n dX11_handleFrame_98 rfl 0 rfl ?_
      refine go_getR dX11_handleFrame_99 fl_388_0 (fun _ _ => rfl) hf (fun r_2 hf => ?_)
      obtain ⟨a_3, rfl, hga_3⟩ := nn_some hf
      have hf := hga_3
      obtain ⟨hk, hf⟩ := kg_some hf
      obtain ⟨z_4, hc, hf⟩ := bd_some hf
      refine go_callV (y2 := M_X6_unread) (c2 := 7) dX11_handleFrame_102 mo_X6_unread ⟨Nat.le_of_ble_eq_true rfl, Nat.le_of_ble_eq_true rfl⟩ na_X6_unread w638 w639 (by decide) rfl w640 hk [] rfl (n_X6_unread (a_3)) rfl (csum (Nat.le_of_ble_eq_true rfl)) (t_X6_unread (a_3) h _ hc) ?_
      obtain ⟨x_6, h_5⟩ := z_4
      refine go_iconst 2 dX11_handleFrame_105 rfl ?_
      refine go_icmp_ge (tgt := 113) dX11_handleFrame_106 (by decide) hf (fun hf => ?_) (fun hf => ?_)
      · refine go_aload_n dX11_handleFrame_113 rfl 0 rfl ?_
        refine go_getR dX11_handleFrame_114 fl_388_0 (fun _ _ => rfl) hf (fun r_7 hf => ?_)
        obtain ⟨a_8, rfl, hga_8⟩ := nn_some hf
        have hf := hga_8
        obtain ⟨hk, hf⟩ := kg_some hf
        obtain ⟨z_9, hc, hf⟩ := bd_some hf
        refine go_callV (y2 := M_X6_readShort) (c2 := 7) dX11_handleFrame_117 mo_X6_readShort ⟨Nat.le_of_ble_eq_true rfl, Nat.le_of_ble_eq_true rfl⟩ na_X6_readShort w466 w467 (by decide) rfl w468 hk [] rfl (n_X6_readShort (a_8)) rfl (csum (Nat.le_of_ble_eq_true rfl)) (t_X6_readShort (a_8) h_5 _ hc) ?_
        obtain ⟨x_11, h_10⟩ := z_9
        refine go_istore (i := 4) (lv' := [(4, .int x_11), (0, vR Ω (some a0)), (1, .int x1), (2, vR Ω r2), (3, vR Ω none)]) dX11_handleFrame_120 (by decide) (by first | rfl | simp [catR, catI, catJ]) ?_
        refine go_aload_n dX11_handleFrame_122 rfl 3 rfl ?_
        refine go_ifnonnull (x := r2) (tgt := 135) dX11_handleFrame_123 (by decide) hf ?_ ?_
        · rintro rfl hf
          refine go_aload_n dX11_handleFrame_126 rfl 1 rfl ?_
          refine go_iload dX11_handleFrame_127 0 rfl ?_
          obtain ⟨hk, hf⟩ := kg_some hf
          obtain ⟨z_13, hc, hf⟩ := bd_some hf
          refine go_callV (y2 := M_X11_doLineMethod) (c2 := 12) dX11_handleFrame_129 mo_X11_doLineMethod ⟨Nat.le_of_ble_eq_true rfl, Nat.le_of_ble_eq_true rfl⟩ na_X11_doLineMethod w650 w652 (by decide) rfl w15 hk [.int x_11] rfl (n_X11_doLineMethod (a0) x_11) rfl (csum (Nat.le_of_ble_eq_true rfl)) (t_X11_doLineMethod (a0) x_11 h_10 _ hc) ?_
          obtain ⟨x_15, h_14⟩ := z_13
          refine go_goto (tgt := 142) dX11_handleFrame_132 (by decide) ?_
          exact go_ireturn dX11_handleFrame_142 rfl hf
        · rintro a_12 rfl hf
          refine go_aload_n dX11_handleFrame_135 rfl 1 rfl ?_
          refine go_aload_n dX11_handleFrame_136 rfl 3 rfl ?_
          refine go_iload dX11_handleFrame_137 0 rfl ?_
          obtain ⟨hk, hf⟩ := kg_some hf
          obtain ⟨z_16, hc, hf⟩ := bd_some hf
          refine go_callV (y2 := M_X11_doMethod) (c2 := 12) dX11_handleFrame_139 mo_X11_doMethod ⟨Nat.le_of_ble_eq_true rfl, Nat.le_of_ble_eq_true rfl⟩ na_X11_doMethod w733 w735 (by decide) rfl w21 hk [vR Ω (some a_12), .int x_11] rfl (n_X11_doMethod (a0) (some a_12) x_11) rfl (csum (Nat.le_of_ble_eq_true rfl)) (t_X11_doMethod (a0) (some a_12) x_11 h_10 _ hc) ?_
          obtain ⟨x_18, h_17⟩ := z_16
          exact go_ireturn dX11_handleFrame_142 rfl hf
      · refine go_sipush 501 dX11_handleFrame_109 (by decide) ?_
        exact go_ireturn dX11_handleFrame_112 rfl hf
    · refine go_sipush 505 dX11_handleFrame_94 (by decide) ?_
      exact go_ireturn dX11_handleFrame_97 rfl hf
  · rintro a_1 rfl hf
    refine go_sipush 505 dX11_handleFrame_94 (by decide) ?_
    exact go_ireturn dX11_handleFrame_97 rfl hf
def f_X11_handleFrame_51 (a0 : Nat) (x1 : Int32) (r2 : Option Nat) (s0 : Option Nat) (h : AH) : Option (Int32 × AH) := nb s0
    (f_X11_handleFrame_85 a0 x1 r2 none h)
    (fun a_1 => kg h a_1 5 (bd (f_X4_due a_1 h) fun x_4 h_3 =>
    (if x1 = x_4 then
      (if x1 = 2 then
        kg h_3 a0 12 (bd (f_X11_takeHead a0 r2 (some a_1) h_3) fun x_10 h_9 =>
        some (x_10, h_9))
      else
        kg h_3 a0 12 (bd (f_X11_takeBody a0 r2 (some a_1) h_3) fun x_7 h_6 =>
        some (x_7, h_6)))
    else
      f_X11_handleFrame_85 a0 x1 r2 (some a_1) h_3)))
set_option maxRecDepth 20000 in
set_option maxHeartbeats 4000000 in
theorem t_X11_handleFrame_51 {Ω : Om} (a0 : Nat) (x1 : Int32) (r2 : Option Nat) (s0 : Option Nat) (h : AH) (q : Int32 × AH) (hf : f_X11_handleFrame_51 a0 x1 r2 s0 h = some q) : Go Ω M_X11_handleFrame 51 [(0, vR Ω (some a0)), (1, .int x1), (2, vR Ω r2)] [vR Ω s0] h (some (.int q.1)) q.2 := by
  unfold f_X11_handleFrame_51 at hf
  refine go_astore_n (i := 3) (lv' := [(3, vR Ω s0), (0, vR Ω (some a0)), (1, .int x1), (2, vR Ω r2)]) dX11_handleFrame_51 rfl (by decide) (by first | rfl | simp [catR, catI, catJ]) ?_
  refine go_aload_n dX11_handleFrame_52 rfl 0 rfl ?_
  refine go_ifnull (x := s0) (tgt := 85) dX11_handleFrame_53 (by decide) hf ?_ ?_
  · rintro rfl hf
    refine go_sub (lv' := [(0, vR Ω (some a0)), (1, .int x1), (2, vR Ω r2), (3, vR Ω none)]) [1, 2, 3, 0] rfl ?_
    exact t_X11_handleFrame_85 a0 x1 r2 none h q hf
  · rintro a_1 rfl hf
    refine go_iload_n dX11_handleFrame_56 rfl 2 rfl ?_
    refine go_aload_n dX11_handleFrame_57 rfl 0 rfl ?_
    obtain ⟨hk, hf⟩ := kg_some hf
    obtain ⟨z_2, hc, hf⟩ := bd_some hf
    refine go_callV (y2 := M_X4_due) (c2 := 5) dX11_handleFrame_58 mo_X4_due ⟨Nat.le_of_ble_eq_true rfl, Nat.le_of_ble_eq_true rfl⟩ na_X4_due w478 w479 (by decide) rfl w480 hk [] rfl (n_X4_due (a_1)) rfl (csum (Nat.le_of_ble_eq_true rfl)) (t_X4_due (a_1) h _ hc) ?_
    obtain ⟨x_4, h_3⟩ := z_2
    refine go_icmp_ne (tgt := 85) dX11_handleFrame_61 (by decide) hf (fun hf => ?_) (fun hf => ?_)
    · refine go_sub (lv' := [(0, vR Ω (some a0)), (1, .int x1), (2, vR Ω r2), (3, vR Ω (some a_1))]) [1, 2, 3, 0] rfl ?_
      exact t_X11_handleFrame_85 a0 x1 r2 (some a_1) h_3 q hf
    · refine go_iload_n dX11_handleFrame_64 rfl 2 rfl ?_
      refine go_iconst 2 dX11_handleFrame_65 rfl ?_
      refine go_icmp_ne (tgt := 78) dX11_handleFrame_66 (by decide) hf (fun hf => ?_) (fun hf => ?_)
      · refine go_aload_n dX11_handleFrame_78 rfl 1 rfl ?_
        refine go_aload_n dX11_handleFrame_79 rfl 3 rfl ?_
        refine go_aload_n dX11_handleFrame_80 rfl 0 rfl ?_
        obtain ⟨hk, hf⟩ := kg_some hf
        obtain ⟨z_5, hc, hf⟩ := bd_some hf
        refine go_callV (y2 := M_X11_takeBody) (c2 := 12) dX11_handleFrame_81 mo_X11_takeBody ⟨Nat.le_of_ble_eq_true rfl, Nat.le_of_ble_eq_true rfl⟩ na_X11_takeBody w634 w636 (by decide) rfl w14 hk [vR Ω r2, vR Ω (some a_1)] rfl (n_X11_takeBody (a0) r2 (some a_1)) rfl (csum (Nat.le_of_ble_eq_true rfl)) (t_X11_takeBody (a0) r2 (some a_1) h_3 _ hc) ?_
        obtain ⟨x_7, h_6⟩ := z_5
        exact go_ireturn dX11_handleFrame_84 rfl hf
      · refine go_aload_n dX11_handleFrame_69 rfl 1 rfl ?_
        refine go_aload_n dX11_handleFrame_70 rfl 3 rfl ?_
        refine go_aload_n dX11_handleFrame_71 rfl 0 rfl ?_
        obtain ⟨hk, hf⟩ := kg_some hf
        obtain ⟨z_8, hc, hf⟩ := bd_some hf
        refine go_callV (y2 := M_X11_takeHead) (c2 := 12) dX11_handleFrame_72 mo_X11_takeHead ⟨Nat.le_of_ble_eq_true rfl, Nat.le_of_ble_eq_true rfl⟩ na_X11_takeHead w482 w484 (by decide) rfl w7 hk [vR Ω r2, vR Ω (some a_1)] rfl (n_X11_takeHead (a0) r2 (some a_1)) rfl (csum (Nat.le_of_ble_eq_true rfl)) (t_X11_takeHead (a0) r2 (some a_1) h_3 _ hc) ?_
        obtain ⟨x_10, h_9⟩ := z_8
        refine go_goto (tgt := 84) dX11_handleFrame_75 (by decide) ?_
        exact go_ireturn dX11_handleFrame_84 rfl hf
def f_X11_handleFrame_39 (a0 : Nat) (x1 : Int32) (r2 : Option Nat) (h : AH) : Option (Int32 × AH) := nb r2
    (f_X11_handleFrame_51 a0 x1 none none h)
    (fun a_1 => rdR h a_1 2 8 fun r_2 =>
    f_X11_handleFrame_51 a0 x1 (some a_1) r_2 h)
set_option maxRecDepth 20000 in
set_option maxHeartbeats 4000000 in
theorem t_X11_handleFrame_39 {Ω : Om} (a0 : Nat) (x1 : Int32) (r2 : Option Nat) (h : AH) (q : Int32 × AH) (hf : f_X11_handleFrame_39 a0 x1 r2 h = some q) : Go Ω M_X11_handleFrame 39 [(0, vR Ω (some a0)), (1, .int x1), (2, vR Ω r2)] [] h (some (.int q.1)) q.2 := by
  unfold f_X11_handleFrame_39 at hf
  refine go_aload_n dX11_handleFrame_39 rfl 2 rfl ?_
  refine go_ifnonnull (x := r2) (tgt := 47) dX11_handleFrame_40 (by decide) hf ?_ ?_
  · rintro rfl hf
    refine go_null dX11_handleFrame_43 ?_
    refine go_goto (tgt := 51) dX11_handleFrame_44 (by decide) ?_
    refine go_sub (lv' := [(0, vR Ω (some a0)), (1, .int x1), (2, vR Ω none)]) [0, 1, 2] rfl ?_
    exact t_X11_handleFrame_51 a0 x1 none none h q hf
  · rintro a_1 rfl hf
    refine go_aload_n dX11_handleFrame_47 rfl 2 rfl ?_
    refine go_getR dX11_handleFrame_48 fl_368_0 (fun _ _ => rfl) hf (fun r_2 hf => ?_)
    refine go_sub (lv' := [(0, vR Ω (some a0)), (1, .int x1), (2, vR Ω (some a_1))]) [0, 1, 2] rfl ?_
    exact t_X11_handleFrame_51 a0 x1 (some a_1) r_2 h q hf
def f_X11_handleFrame (a0 : Nat) (h : AH) : Option (Int32 × AH) := rdR h a0 12 0 fun r_1 =>
  nn r_1 fun a_2 =>
  kg h a_2 7 (bd (f_X6_frameKind a_2 h) fun x_5 h_4 =>
  rdR h_4 a0 12 0 fun r_6 =>
  nn r_6 fun a_7 =>
  kg h_4 a_7 7 (bd (f_X6_frameChannel a_7 h_4) fun x_10 h_9 =>
  kg h_9 a0 12 (bd (f_X11_channelNumbered a0 x_10 h_9) fun r_13 h_12 =>
  nb r_13
    (f_X11_handleFrame_39 a0 x_5 none h_12)
    (fun a_14 => rdI h_12 a_14 2 3 fun x_15 =>
    (if x_15 = 2 then
      kg h_12 a0 12 (bd (f_X11_handleOnLost a0 (some a_14) x_5 h_12) fun x_18 h_17 =>
      some (x_18, h_17))
    else
      f_X11_handleFrame_39 a0 x_5 (some a_14) h_12)))))
set_option maxRecDepth 20000 in
set_option maxHeartbeats 4000000 in
theorem t_X11_handleFrame {Ω : Om} (a0 : Nat) (h : AH) (q : Int32 × AH) (hf : f_X11_handleFrame a0 h = some q) : Go Ω M_X11_handleFrame 0 (lv_args 0 [vR Ω (some a0)]) [] h (some (.int q.1)) q.2 := by
  unfold f_X11_handleFrame at hf
  rw [la_R, la_0]
  refine go_sub (lv' := [(0, vR Ω (some a0))]) [0] rfl ?_
  refine go_aload_n dX11_handleFrame_0 rfl 0 rfl ?_
  refine go_getR dX11_handleFrame_1 fl_388_0 (fun _ _ => rfl) hf (fun r_1 hf => ?_)
  obtain ⟨a_2, rfl, hga_2⟩ := nn_some hf
  have hf := hga_2
  obtain ⟨hk, hf⟩ := kg_some hf
  obtain ⟨z_3, hc, hf⟩ := bd_some hf
  refine go_callV (y2 := M_X6_frameKind) (c2 := 7) dX11_handleFrame_4 mo_X6_frameKind ⟨Nat.le_of_ble_eq_true rfl, Nat.le_of_ble_eq_true rfl⟩ na_X6_frameKind w450 w451 (by decide) rfl w452 hk [] rfl (n_X6_frameKind (a_2)) rfl (csum (Nat.le_of_ble_eq_true rfl)) (t_X6_frameKind (a_2) h _ hc) ?_
  obtain ⟨x_5, h_4⟩ := z_3
  refine go_istore_n (i := 1) (lv' := [(1, .int x_5), (0, vR Ω (some a0))]) dX11_handleFrame_7 rfl (by decide) (by first | rfl | simp [catR, catI, catJ]) ?_
  refine go_aload_n dX11_handleFrame_8 rfl 1 rfl ?_
  refine go_aload_n dX11_handleFrame_9 rfl 1 rfl ?_
  refine go_getR dX11_handleFrame_10 fl_388_0 (fun _ _ => rfl) hf (fun r_6 hf => ?_)
  obtain ⟨a_7, rfl, hga_7⟩ := nn_some hf
  have hf := hga_7
  obtain ⟨hk, hf⟩ := kg_some hf
  obtain ⟨z_8, hc, hf⟩ := bd_some hf
  refine go_callV (y2 := M_X6_frameChannel) (c2 := 7) dX11_handleFrame_13 mo_X6_frameChannel ⟨Nat.le_of_ble_eq_true rfl, Nat.le_of_ble_eq_true rfl⟩ na_X6_frameChannel w454 w455 (by decide) rfl w456 hk [] rfl (n_X6_frameChannel (a_7)) rfl (csum (Nat.le_of_ble_eq_true rfl)) (t_X6_frameChannel (a_7) h_4 _ hc) ?_
  obtain ⟨x_10, h_9⟩ := z_8
  obtain ⟨hk, hf⟩ := kg_some hf
  obtain ⟨z_11, hc, hf⟩ := bd_some hf
  refine go_callV (y2 := M_X11_channelNumbered) (c2 := 12) dX11_handleFrame_16 mo_X11_channelNumbered ⟨Nat.le_of_ble_eq_true rfl, Nat.le_of_ble_eq_true rfl⟩ na_X11_channelNumbered w458 w460 (by decide) rfl w5 hk [.int x_10] rfl (n_X11_channelNumbered (a0) x_10) rfl (csum (Nat.le_of_ble_eq_true rfl)) (t_X11_channelNumbered (a0) x_10 h_9 _ hc) ?_
  obtain ⟨r_13, h_12⟩ := z_11
  refine go_astore_n (i := 2) (lv' := [(2, vR Ω r_13), (1, .int x_5), (0, vR Ω (some a0))]) dX11_handleFrame_19 rfl (by decide) (by first | rfl | simp [catR, catI, catJ]) ?_
  refine go_aload_n dX11_handleFrame_20 rfl 0 rfl ?_
  refine go_ifnull (x := r_13) (tgt := 39) dX11_handleFrame_21 (by decide) hf ?_ ?_
  · rintro rfl hf
    refine go_sub (lv' := [(0, vR Ω (some a0)), (1, .int x_5), (2, vR Ω none)]) [2, 1, 0] rfl ?_
    exact t_X11_handleFrame_39 a0 x_5 none h_12 q hf
  · rintro a_14 rfl hf
    refine go_aload_n dX11_handleFrame_24 rfl 0 rfl ?_
    refine go_getI dX11_handleFrame_25 fl_356_0 (fun _ _ => rfl) hf (fun x_15 hf => ?_)
    refine go_iconst 2 dX11_handleFrame_28 rfl ?_
    refine go_icmp_ne (tgt := 39) dX11_handleFrame_29 (by decide) hf (fun hf => ?_) (fun hf => ?_)
    · refine go_sub (lv' := [(0, vR Ω (some a0)), (1, .int x_5), (2, vR Ω (some a_14))]) [2, 1, 0] rfl ?_
      exact t_X11_handleFrame_39 a0 x_5 (some a_14) h_12 q hf
    · refine go_aload_n dX11_handleFrame_32 rfl 2 rfl ?_
      refine go_aload_n dX11_handleFrame_33 rfl 0 rfl ?_
      refine go_iload_n dX11_handleFrame_34 rfl 1 rfl ?_
      obtain ⟨hk, hf⟩ := kg_some hf
      obtain ⟨z_16, hc, hf⟩ := bd_some hf
      refine go_callV (y2 := M_X11_handleOnLost) (c2 := 12) dX11_handleFrame_35 mo_X11_handleOnLost ⟨Nat.le_of_ble_eq_true rfl, Nat.le_of_ble_eq_true rfl⟩ na_X11_handleOnLost w462 w464 (by decide) rfl w6 hk [vR Ω (some a_14), .int x_5] rfl (n_X11_handleOnLost (a0) (some a_14) x_5) rfl (csum (Nat.le_of_ble_eq_true rfl)) (t_X11_handleOnLost (a0) (some a_14) x_5 h_12 _ hc) ?_
      obtain ⟨x_18, h_17⟩ := z_16
      exact go_ireturn dX11_handleFrame_38 rfl hf
-- LetterBroker$Outbox.tellMistake(III)V
theorem dX9_tellMistake_0 : decode cX9_tellMistake 0 = .ok (.aload_n 0, 1) := by decide +kernel
theorem dX9_tellMistake_1 : decode cX9_tellMistake 1 = .ok (.iload_n 1, 1) := by decide +kernel
theorem dX9_tellMistake_2 : decode cX9_tellMistake 2 = .ok (.iload_n 2, 1) := by decide +kernel
theorem dX9_tellMistake_3 : decode cX9_tellMistake 3 = .ok (.invokevirtual 32, 3) := by decide +kernel
theorem dX9_tellMistake_6 : decode cX9_tellMistake 6 = .ok (.aload_n 0, 1) := by decide +kernel
theorem dX9_tellMistake_7 : decode cX9_tellMistake 7 = .ok (.iload_n 3, 1) := by decide +kernel
theorem dX9_tellMistake_8 : decode cX9_tellMistake 8 = .ok (.invokevirtual 39, 3) := by decide +kernel
theorem dX9_tellMistake_11 : decode cX9_tellMistake 11 = .ok (.aload_n 0, 1) := by decide +kernel
theorem dX9_tellMistake_12 : decode cX9_tellMistake 12 = .ok (.invokevirtual 36, 3) := by decide +kernel
theorem dX9_tellMistake_15 : decode cX9_tellMistake 15 = .ok (.return_, 1) := by decide +kernel
def f_X9_tellMistake (a0 : Nat) (x1 : Int32) (x2 : Int32) (x3 : Int32) (h : AH) : Option (Unit × AH) := kg h a0 10 (bd (f_X9_begin a0 x1 x2 h) fun _ h_2 =>
  kg h_2 a0 10 (bd (f_X9_putShort a0 x3 h_2) fun _ h_4 =>
  kg h_4 a0 10 (bd (f_X9_end a0 h_4) fun _ h_6 =>
  some ((), h_6))))
set_option maxRecDepth 20000 in
set_option maxHeartbeats 4000000 in
theorem t_X9_tellMistake {Ω : Om} (a0 : Nat) (x1 : Int32) (x2 : Int32) (x3 : Int32) (h : AH) (q : Unit × AH) (hf : f_X9_tellMistake a0 x1 x2 x3 h = some q) : Go Ω M_X9_tellMistake 0 (lv_args 0 [vR Ω (some a0), .int x1, .int x2, .int x3]) [] h none q.2 := by
  unfold f_X9_tellMistake at hf
  rw [la_R, la_I, la_I, la_I, la_0]
  refine go_sub (lv' := [(0, vR Ω (some a0)), (1, .int x1), (2, .int x2), (3, .int x3)]) [0, 1, 2, 3] rfl ?_
  refine go_aload_n dX9_tellMistake_0 rfl 0 rfl ?_
  refine go_iload_n dX9_tellMistake_1 rfl 1 rfl ?_
  refine go_iload_n dX9_tellMistake_2 rfl 2 rfl ?_
  obtain ⟨hk, hf⟩ := kg_some hf
  obtain ⟨z_1, hc, hf⟩ := bd_some hf
  refine go_callV (y2 := M_X9_begin) (c2 := 10) dX9_tellMistake_3 mo_X9_begin ⟨Nat.le_of_ble_eq_true rfl, Nat.le_of_ble_eq_true rfl⟩ na_X9_begin w434 w435 (by decide) rfl w436 hk [.int x1, .int x2] rfl (n_X9_begin (a0) x1 x2) rfl (csum (Nat.le_of_ble_eq_true rfl)) (t_X9_begin (a0) x1 x2 h _ hc) ?_
  obtain ⟨_, h_2⟩ := z_1
  refine go_aload_n dX9_tellMistake_6 rfl 0 rfl ?_
  refine go_iload_n dX9_tellMistake_7 rfl 3 rfl ?_
  obtain ⟨hk, hf⟩ := kg_some hf
  obtain ⟨z_3, hc, hf⟩ := bd_some hf
  refine go_callV (y2 := M_X9_putShort) (c2 := 10) dX9_tellMistake_8 mo_X9_putShort ⟨Nat.le_of_ble_eq_true rfl, Nat.le_of_ble_eq_true rfl⟩ na_X9_putShort w988 w588 (by decide) rfl w589 hk [.int x3] rfl (n_X9_putShort (a0) x3) rfl (csum (Nat.le_of_ble_eq_true rfl)) (t_X9_putShort (a0) x3 h_2 _ hc) ?_
  obtain ⟨_, h_4⟩ := z_3
  refine go_aload_n dX9_tellMistake_11 rfl 0 rfl ?_
  obtain ⟨hk, hf⟩ := kg_some hf
  obtain ⟨z_5, hc, hf⟩ := bd_some hf
  refine go_callV (y2 := M_X9_end) (c2 := 10) dX9_tellMistake_12 mo_X9_end ⟨Nat.le_of_ble_eq_true rfl, Nat.le_of_ble_eq_true rfl⟩ na_X9_end w442 w443 (by decide) rfl w444 hk [] rfl (n_X9_end (a0)) rfl (csum (Nat.le_of_ble_eq_true rfl)) (t_X9_end (a0) h_4 _ hc) ?_
  obtain ⟨_, h_6⟩ := z_5
  exact go_return dX9_tellMistake_15 rfl hf
-- LetterBroker.settleMistake(I)V
theorem dX11_settleMistake_0 : decode cX11_settleMistake 0 = .ok (.iload_n 1, 1) := by decide +kernel
theorem dX11_settleMistake_1 : decode cX11_settleMistake 1 = .ok (.ifCond .ne 4, 3) := by decide +kernel
theorem dX11_settleMistake_4 : decode cX11_settleMistake 4 = .ok (.return_, 1) := by decide +kernel
theorem dX11_settleMistake_5 : decode cX11_settleMistake 5 = .ok (.aload_n 0, 1) := by decide +kernel
theorem dX11_settleMistake_6 : decode cX11_settleMistake 6 = .ok (.aload_n 0, 1) := by decide +kernel
theorem dX11_settleMistake_7 : decode cX11_settleMistake 7 = .ok (.getfield 10, 3) := by decide +kernel
theorem dX11_settleMistake_10 : decode cX11_settleMistake 10 = .ok (.invokevirtual 138, 3) := by decide +kernel
theorem dX11_settleMistake_13 : decode cX11_settleMistake 13 = .ok (.invokevirtual 76, 3) := by decide +kernel
theorem dX11_settleMistake_16 : decode cX11_settleMistake 16 = .ok (.astore_n 2, 1) := by decide +kernel
theorem dX11_settleMistake_17 : decode cX11_settleMistake 17 = .ok (.iload_n 1, 1) := by decide +kernel
theorem dX11_settleMistake_18 : decode cX11_settleMistake 18 = .ok (.sipush 501, 3) := by decide +kernel
theorem dX11_settleMistake_21 : decode cX11_settleMistake 21 = .ok (.if_icmp .eq 21, 3) := by decide +kernel
theorem dX11_settleMistake_24 : decode cX11_settleMistake 24 = .ok (.iload_n 1, 1) := by decide +kernel
theorem dX11_settleMistake_25 : decode cX11_settleMistake 25 = .ok (.sipush 503, 3) := by decide +kernel
theorem dX11_settleMistake_28 : decode cX11_settleMistake 28 = .ok (.if_icmp .eq 14, 3) := by decide +kernel
theorem dX11_settleMistake_31 : decode cX11_settleMistake 31 = .ok (.iload_n 1, 1) := by decide +kernel
theorem dX11_settleMistake_32 : decode cX11_settleMistake 32 = .ok (.sipush 505, 3) := by decide +kernel
theorem dX11_settleMistake_35 : decode cX11_settleMistake 35 = .ok (.if_icmp .eq 7, 3) := by decide +kernel
theorem dX11_settleMistake_38 : decode cX11_settleMistake 38 = .ok (.aload_n 2, 1) := by decide +kernel
theorem dX11_settleMistake_39 : decode cX11_settleMistake 39 = .ok (.ifnonnull 22, 3) := by decide +kernel
theorem dX11_settleMistake_42 : decode cX11_settleMistake 42 = .ok (.aload_n 0, 1) := by decide +kernel
theorem dX11_settleMistake_43 : decode cX11_settleMistake 43 = .ok (.getfield 19, 3) := by decide +kernel
theorem dX11_settleMistake_46 : decode cX11_settleMistake 46 = .ok (.iconst 0, 1) := by decide +kernel
theorem dX11_settleMistake_47 : decode cX11_settleMistake 47 = .ok (.sipush 2610, 3) := by decide +kernel
theorem dX11_settleMistake_50 : decode cX11_settleMistake 50 = .ok (.iload_n 1, 1) := by decide +kernel
theorem dX11_settleMistake_51 : decode cX11_settleMistake 51 = .ok (.invokevirtual 141, 3) := by decide +kernel
theorem dX11_settleMistake_54 : decode cX11_settleMistake 54 = .ok (.aload_n 0, 1) := by decide +kernel
theorem dX11_settleMistake_55 : decode cX11_settleMistake 55 = .ok (.invokevirtual 135, 3) := by decide +kernel
theorem dX11_settleMistake_58 : decode cX11_settleMistake 58 = .ok (.goto 24, 3) := by decide +kernel
theorem dX11_settleMistake_61 : decode cX11_settleMistake 61 = .ok (.aload_n 0, 1) := by decide +kernel
theorem dX11_settleMistake_62 : decode cX11_settleMistake 62 = .ok (.getfield 19, 3) := by decide +kernel
theorem dX11_settleMistake_65 : decode cX11_settleMistake 65 = .ok (.aload_n 2, 1) := by decide +kernel
theorem dX11_settleMistake_66 : decode cX11_settleMistake 66 = .ok (.getfield 145, 3) := by decide +kernel
theorem dX11_settleMistake_69 : decode cX11_settleMistake 69 = .ok (.sipush 5160, 3) := by decide +kernel
theorem dX11_settleMistake_72 : decode cX11_settleMistake 72 = .ok (.iload_n 1, 1) := by decide +kernel
theorem dX11_settleMistake_73 : decode cX11_settleMistake 73 = .ok (.invokevirtual 141, 3) := by decide +kernel
theorem dX11_settleMistake_76 : decode cX11_settleMistake 76 = .ok (.aload_n 0, 1) := by decide +kernel
theorem dX11_settleMistake_77 : decode cX11_settleMistake 77 = .ok (.aload_n 2, 1) := by decide +kernel
theorem dX11_settleMistake_78 : decode cX11_settleMistake 78 = .ok (.iconst 2, 1) := by decide +kernel
theorem dX11_settleMistake_79 : decode cX11_settleMistake 79 = .ok (.invokevirtual 146, 3) := by decide +kernel
theorem dX11_settleMistake_82 : decode cX11_settleMistake 82 = .ok (.return_, 1) := by decide +kernel
def f_X11_settleMistake_42 (a0 : Nat) (x1 : Int32) (h : AH) : Option (Unit × AH) := rdR h a0 12 1 fun r_1 =>
  nn r_1 fun a_2 =>
  kg h a_2 10 (bd (f_X9_tellMistake a_2 0 2610 x1 h) fun _ h_4 =>
  kg h_4 a0 12 (bd (f_X11_shutLine a0 h_4) fun _ h_6 =>
  some ((), h_6)))
set_option maxRecDepth 20000 in
set_option maxHeartbeats 4000000 in
theorem t_X11_settleMistake_42 {Ω : Om} (a0 : Nat) (x1 : Int32) (h : AH) (q : Unit × AH) (hf : f_X11_settleMistake_42 a0 x1 h = some q) : Go Ω M_X11_settleMistake 42 [(0, vR Ω (some a0)), (1, .int x1)] [] h none q.2 := by
  unfold f_X11_settleMistake_42 at hf
  refine go_aload_n dX11_settleMistake_42 rfl 0 rfl ?_
  refine go_getR dX11_settleMistake_43 fl_389_0 (fun _ _ => rfl) hf (fun r_1 hf => ?_)
  refine go_iconst 0 dX11_settleMistake_46 rfl ?_
  refine go_sipush 2610 dX11_settleMistake_47 (by decide) ?_
  refine go_iload_n dX11_settleMistake_50 rfl 1 rfl ?_
  obtain ⟨a_2, rfl, hga_2⟩ := nn_some hf
  have hf := hga_2
  obtain ⟨hk, hf⟩ := kg_some hf
  obtain ⟨z_3, hc, hf⟩ := bd_some hf
  refine go_callV (y2 := M_X9_tellMistake) (c2 := 10) dX11_settleMistake_51 mo_X9_tellMistake ⟨Nat.le_of_ble_eq_true rfl, Nat.le_of_ble_eq_true rfl⟩ na_X9_tellMistake w1050 w1051 (by decide) rfl w1052 hk [.int 0, .int 2610, .int x1] rfl (n_X9_tellMistake (a_2) 0 2610 x1) rfl (csum (Nat.le_of_ble_eq_true rfl)) (t_X9_tellMistake (a_2) 0 2610 x1 h _ hc) ?_
  obtain ⟨_, h_4⟩ := z_3
  refine go_aload_n dX11_settleMistake_54 rfl 0 rfl ?_
  obtain ⟨hk, hf⟩ := kg_some hf
  obtain ⟨z_5, hc, hf⟩ := bd_some hf
  refine go_callV (y2 := M_X11_shutLine) (c2 := 12) dX11_settleMistake_55 mo_X11_shutLine ⟨Nat.le_of_ble_eq_true rfl, Nat.le_of_ble_eq_true rfl⟩ na_X11_shutLine w658 w660 (by decide) rfl w17 hk [] rfl (n_X11_shutLine (a0)) rfl (csum (Nat.le_of_ble_eq_true rfl)) (t_X11_shutLine (a0) h_4 _ hc) ?_
  obtain ⟨_, h_6⟩ := z_5
  refine go_goto (tgt := 82) dX11_settleMistake_58 (by decide) ?_
  exact go_return dX11_settleMistake_82 rfl hf
def f_X11_settleMistake (a0 : Nat) (x1 : Int32) (h : AH) : Option (Unit × AH) := (if x1 = 0 then
    some ((), h)
  else
    rdR h a0 12 0 fun r_1 =>
    nn r_1 fun a_2 =>
    kg h a_2 7 (bd (f_X6_frameChannel a_2 h) fun x_5 h_4 =>
    kg h_4 a0 12 (bd (f_X11_channelNumbered a0 x_5 h_4) fun r_8 h_7 =>
    (if x1 = 501 then
      f_X11_settleMistake_42 a0 x1 h_7
    else
      (if x1 = 503 then
        f_X11_settleMistake_42 a0 x1 h_7
      else
        (if x1 = 505 then
          f_X11_settleMistake_42 a0 x1 h_7
        else
          nb r_8
            (f_X11_settleMistake_42 a0 x1 h_7)
            (fun a_9 => rdR h_7 a0 12 1 fun r_10 =>
            rdI h_7 a_9 2 0 fun x_11 =>
            nn r_10 fun a_12 =>
            kg h_7 a_12 10 (bd (f_X9_tellMistake a_12 x_11 5160 x1 h_7) fun _ h_14 =>
            kg h_14 a0 12 (bd (f_X11_leaveChannel a0 (some a_9) 2 h_14) fun _ h_16 =>
            some ((), h_16))))))))))
set_option maxRecDepth 20000 in
set_option maxHeartbeats 4000000 in
theorem t_X11_settleMistake {Ω : Om} (a0 : Nat) (x1 : Int32) (h : AH) (q : Unit × AH) (hf : f_X11_settleMistake a0 x1 h = some q) : Go Ω M_X11_settleMistake 0 (lv_args 0 [vR Ω (some a0), .int x1]) [] h none q.2 := by
  unfold f_X11_settleMistake at hf
  rw [la_R, la_I, la_0]
  refine go_sub (lv' := [(0, vR Ω (some a0)), (1, .int x1)]) [0, 1] rfl ?_
  refine go_iload_n dX11_settleMistake_0 rfl 1 rfl ?_
  refine go_if_ne (tgt := 5) dX11_settleMistake_1 (by decide) hf (fun hf => ?_) (fun hf => ?_)
  · refine go_aload_n dX11_settleMistake_5 rfl 0 rfl ?_
    refine go_aload_n dX11_settleMistake_6 rfl 0 rfl ?_
    refine go_getR dX11_settleMistake_7 fl_388_0 (fun _ _ => rfl) hf (fun r_1 hf => ?_)
    obtain ⟨a_2, rfl, hga_2⟩ := nn_some hf
    have hf := hga_2
    obtain ⟨hk, hf⟩ := kg_some hf
    obtain ⟨z_3, hc, hf⟩ := bd_some hf
    refine go_callV (y2 := M_X6_frameChannel) (c2 := 7) dX11_settleMistake_10 mo_X6_frameChannel ⟨Nat.le_of_ble_eq_true rfl, Nat.le_of_ble_eq_true rfl⟩ na_X6_frameChannel w454 w455 (by decide) rfl w456 hk [] rfl (n_X6_frameChannel (a_2)) rfl (csum (Nat.le_of_ble_eq_true rfl)) (t_X6_frameChannel (a_2) h _ hc) ?_
    obtain ⟨x_5, h_4⟩ := z_3
    obtain ⟨hk, hf⟩ := kg_some hf
    obtain ⟨z_6, hc, hf⟩ := bd_some hf
    refine go_callV (y2 := M_X11_channelNumbered) (c2 := 12) dX11_settleMistake_13 mo_X11_channelNumbered ⟨Nat.le_of_ble_eq_true rfl, Nat.le_of_ble_eq_true rfl⟩ na_X11_channelNumbered w458 w460 (by decide) rfl w5 hk [.int x_5] rfl (n_X11_channelNumbered (a0) x_5) rfl (csum (Nat.le_of_ble_eq_true rfl)) (t_X11_channelNumbered (a0) x_5 h_4 _ hc) ?_
    obtain ⟨r_8, h_7⟩ := z_6
    refine go_astore_n (i := 2) (lv' := [(2, vR Ω r_8), (0, vR Ω (some a0)), (1, .int x1)]) dX11_settleMistake_16 rfl (by decide) (by first | rfl | simp [catR, catI, catJ]) ?_
    refine go_iload_n dX11_settleMistake_17 rfl 2 rfl ?_
    refine go_sipush 501 dX11_settleMistake_18 (by decide) ?_
    refine go_icmp_eq (tgt := 42) dX11_settleMistake_21 (by decide) hf (fun hf => ?_) (fun hf => ?_)
    · refine go_sub (lv' := [(0, vR Ω (some a0)), (1, .int x1)]) [1, 2] rfl ?_
      exact t_X11_settleMistake_42 a0 x1 h_7 q hf
    · refine go_iload_n dX11_settleMistake_24 rfl 2 rfl ?_
      refine go_sipush 503 dX11_settleMistake_25 (by decide) ?_
      refine go_icmp_eq (tgt := 42) dX11_settleMistake_28 (by decide) hf (fun hf => ?_) (fun hf => ?_)
      · refine go_sub (lv' := [(0, vR Ω (some a0)), (1, .int x1)]) [1, 2] rfl ?_
        exact t_X11_settleMistake_42 a0 x1 h_7 q hf
      · refine go_iload_n dX11_settleMistake_31 rfl 2 rfl ?_
        refine go_sipush 505 dX11_settleMistake_32 (by decide) ?_
        refine go_icmp_eq (tgt := 42) dX11_settleMistake_35 (by decide) hf (fun hf => ?_) (fun hf => ?_)
        · refine go_sub (lv' := [(0, vR Ω (some a0)), (1, .int x1)]) [1, 2] rfl ?_
          exact t_X11_settleMistake_42 a0 x1 h_7 q hf
        · refine go_aload_n dX11_settleMistake_38 rfl 0 rfl ?_
          refine go_ifnonnull (x := r_8) (tgt := 61) dX11_settleMistake_39 (by decide) hf ?_ ?_
          · rintro rfl hf
            refine go_sub (lv' := [(0, vR Ω (some a0)), (1, .int x1)]) [1, 2] rfl ?_
            exact t_X11_settleMistake_42 a0 x1 h_7 q hf
          · rintro a_9 rfl hf
            refine go_aload_n dX11_settleMistake_61 rfl 1 rfl ?_
            refine go_getR dX11_settleMistake_62 fl_389_0 (fun _ _ => rfl) hf (fun r_10 hf => ?_)
            refine go_aload_n dX11_settleMistake_65 rfl 0 rfl ?_
            refine go_getI dX11_settleMistake_66 fl_349_0 (fun _ _ => rfl) hf (fun x_11 hf => ?_)
            refine go_sipush 5160 dX11_settleMistake_69 (by decide) ?_
            refine go_iload_n dX11_settleMistake_72 rfl 2 rfl ?_
            obtain ⟨a_12, rfl, hga_12⟩ := nn_some hf
            have hf := hga_12
            obtain ⟨hk, hf⟩ := kg_some hf
            obtain ⟨z_13, hc, hf⟩ := bd_some hf
            refine go_callV (y2 := M_X9_tellMistake) (c2 := 10) dX11_settleMistake_73 mo_X9_tellMistake ⟨Nat.le_of_ble_eq_true rfl, Nat.le_of_ble_eq_true rfl⟩ na_X9_tellMistake w1050 w1051 (by decide) rfl w1052 hk [.int x_11, .int 5160, .int x1] rfl (n_X9_tellMistake (a_12) x_11 5160 x1) rfl (csum (Nat.le_of_ble_eq_true rfl)) (t_X9_tellMistake (a_12) x_11 5160 x1 h_7 _ hc) ?_
            obtain ⟨_, h_14⟩ := z_13
            refine go_aload_n dX11_settleMistake_76 rfl 1 rfl ?_
            refine go_aload_n dX11_settleMistake_77 rfl 0 rfl ?_
            refine go_iconst 2 dX11_settleMistake_78 rfl ?_
            obtain ⟨hk, hf⟩ := kg_some hf
            obtain ⟨z_15, hc, hf⟩ := bd_some hf
            refine go_callV (y2 := M_X11_leaveChannel) (c2 := 12) dX11_settleMistake_79 mo_X11_leaveChannel ⟨Nat.le_of_ble_eq_true rfl, Nat.le_of_ble_eq_true rfl⟩ na_X11_leaveChannel w666 w668 (by decide) rfl w18 hk [vR Ω (some a_9), .int 2] rfl (n_X11_leaveChannel (a0) (some a_9) 2) rfl (csum (Nat.le_of_ble_eq_true rfl)) (t_X11_leaveChannel (a0) (some a_9) 2 h_14 _ hc) ?_
            obtain ⟨_, h_16⟩ := z_15
            exact go_return dX11_settleMistake_82 rfl hf
  · exact go_return dX11_settleMistake_4 rfl hf

/-! printed by wip/whole/gen: functions and their walks -/
-- LetterBrokerModel.transactionMethod(I)V
theorem dX12_transactionMethod_0 : decode cX12_transactionMethod 0 = .ok (.aload_n 0, 1) := by decide +kernel
theorem dX12_transactionMethod_1 : decode cX12_transactionMethod 1 = .ok (.getfield 318, 3) := by decide +kernel
theorem dX12_transactionMethod_4 : decode cX12_transactionMethod 4 = .ok (.istore_n 2, 1) := by decide +kernel
theorem dX12_transactionMethod_5 : decode cX12_transactionMethod 5 = .ok (.aload_n 0, 1) := by decide +kernel
theorem dX12_transactionMethod_6 : decode cX12_transactionMethod 6 = .ok (.invokevirtual 329, 3) := by decide +kernel
theorem dX12_transactionMethod_9 : decode cX12_transactionMethod 9 = .ok (.ifCond .ne 4, 3) := by decide +kernel
theorem dX12_transactionMethod_12 : decode cX12_transactionMethod 12 = .ok (.return_, 1) := by decide +kernel
theorem dX12_transactionMethod_13 : decode cX12_transactionMethod 13 = .ok (.iload_n 1, 1) := by decide +kernel
theorem dX12_transactionMethod_14 : decode cX12_transactionMethod 14 = .ok (.bipush 10, 2) := by decide +kernel
theorem dX12_transactionMethod_16 : decode cX12_transactionMethod 16 = .ok (.if_icmp .ne 22, 3) := by decide +kernel
theorem dX12_transactionMethod_19 : decode cX12_transactionMethod 19 = .ok (.aload_n 0, 1) := by decide +kernel
theorem dX12_transactionMethod_20 : decode cX12_transactionMethod 20 = .ok (.getfield 100, 3) := by decide +kernel
theorem dX12_transactionMethod_23 : decode cX12_transactionMethod 23 = .ok (.iload_n 2, 1) := by decide +kernel
theorem dX12_transactionMethod_24 : decode cX12_transactionMethod 24 = .ok (.iconst 1, 1) := by decide +kernel
theorem dX12_transactionMethod_25 : decode cX12_transactionMethod 25 = .ok (.bastore, 1) := by decide +kernel
theorem dX12_transactionMethod_26 : decode cX12_transactionMethod 26 = .ok (.aload_n 0, 1) := by decide +kernel
theorem dX12_transactionMethod_27 : decode cX12_transactionMethod 27 = .ok (.iload_n 2, 1) := by decide +kernel
theorem dX12_transactionMethod_28 : decode cX12_transactionMethod 28 = .ok (.bipush 90, 2) := by decide +kernel
theorem dX12_transactionMethod_30 : decode cX12_transactionMethod 30 = .ok (.bipush 11, 2) := by decide +kernel
theorem dX12_transactionMethod_32 : decode cX12_transactionMethod 32 = .ok (.invokevirtual 278, 3) := by decide +kernel
theorem dX12_transactionMethod_35 : decode cX12_transactionMethod 35 = .ok (.goto 53, 3) := by decide +kernel
theorem dX12_transactionMethod_38 : decode cX12_transactionMethod 38 = .ok (.aload_n 0, 1) := by decide +kernel
theorem dX12_transactionMethod_39 : decode cX12_transactionMethod 39 = .ok (.getfield 100, 3) := by decide +kernel
theorem dX12_transactionMethod_42 : decode cX12_transactionMethod 42 = .ok (.iload_n 2, 1) := by decide +kernel
theorem dX12_transactionMethod_43 : decode cX12_transactionMethod 43 = .ok (.baload, 1) := by decide +kernel
theorem dX12_transactionMethod_44 : decode cX12_transactionMethod 44 = .ok (.ifCond .ne 14, 3) := by decide +kernel
theorem dX12_transactionMethod_47 : decode cX12_transactionMethod 47 = .ok (.aload_n 0, 1) := by decide +kernel
theorem dX12_transactionMethod_48 : decode cX12_transactionMethod 48 = .ok (.iload_n 2, 1) := by decide +kernel
theorem dX12_transactionMethod_49 : decode cX12_transactionMethod 49 = .ok (.sipush 406, 3) := by decide +kernel
theorem dX12_transactionMethod_52 : decode cX12_transactionMethod 52 = .ok (.invokevirtual 252, 3) := by decide +kernel
theorem dX12_transactionMethod_55 : decode cX12_transactionMethod 55 = .ok (.goto 33, 3) := by decide +kernel
theorem dX12_transactionMethod_58 : decode cX12_transactionMethod 58 = .ok (.iload_n 1, 1) := by decide +kernel
theorem dX12_transactionMethod_59 : decode cX12_transactionMethod 59 = .ok (.bipush 20, 2) := by decide +kernel
theorem dX12_transactionMethod_61 : decode cX12_transactionMethod 61 = .ok (.if_icmp .ne 11, 3) := by decide +kernel
theorem dX12_transactionMethod_64 : decode cX12_transactionMethod 64 = .ok (.aload_n 0, 1) := by decide +kernel
theorem dX12_transactionMethod_65 : decode cX12_transactionMethod 65 = .ok (.iload_n 2, 1) := by decide +kernel
theorem dX12_transactionMethod_66 : decode cX12_transactionMethod 66 = .ok (.invokevirtual 398, 3) := by decide +kernel
theorem dX12_transactionMethod_69 : decode cX12_transactionMethod 69 = .ok (.goto 19, 3) := by decide +kernel
theorem dX12_transactionMethod_72 : decode cX12_transactionMethod 72 = .ok (.aload_n 0, 1) := by decide +kernel
theorem dX12_transactionMethod_73 : decode cX12_transactionMethod 73 = .ok (.getfield 124, 3) := by decide +kernel
theorem dX12_transactionMethod_76 : decode cX12_transactionMethod 76 = .ok (.iload_n 2, 1) := by decide +kernel
theorem dX12_transactionMethod_77 : decode cX12_transactionMethod 77 = .ok (.iconst 0, 1) := by decide +kernel
theorem dX12_transactionMethod_78 : decode cX12_transactionMethod 78 = .ok (.iastore, 1) := by decide +kernel
theorem dX12_transactionMethod_79 : decode cX12_transactionMethod 79 = .ok (.aload_n 0, 1) := by decide +kernel
theorem dX12_transactionMethod_80 : decode cX12_transactionMethod 80 = .ok (.iload_n 2, 1) := by decide +kernel
theorem dX12_transactionMethod_81 : decode cX12_transactionMethod 81 = .ok (.bipush 90, 2) := by decide +kernel
theorem dX12_transactionMethod_83 : decode cX12_transactionMethod 83 = .ok (.bipush 31, 2) := by decide +kernel
theorem dX12_transactionMethod_85 : decode cX12_transactionMethod 85 = .ok (.invokevirtual 278, 3) := by decide +kernel
theorem dX12_transactionMethod_88 : decode cX12_transactionMethod 88 = .ok (.return_, 1) := by decide +kernel
def f_X12_transactionMethod (a0 : Nat) (x1 : Int32) (h : AH) : Option (Unit × AH) := rdI h a0 13 54 fun x_1 =>
  kg h a0 13 (bd (f_X12_isJust a0 h) fun x_4 h_3 =>
  (if x_4 = 0 then
    some ((), h_3)
  else
    (if x1 = 10 then
      rdR h_3 a0 13 39 fun r_17 =>
      nn r_17 fun a_18 =>
      asZ h_3 a_18 x_1 1 fun h_19 =>
      kg h_19 a0 13 (bd (f_X12_say a0 x_1 90 11 h_19) fun _ h_21 =>
      some ((), h_21))
    else
      rdR h_3 a0 13 39 fun r_5 =>
      nn r_5 fun a_6 =>
      arZ h_3 a_6 x_1 fun x_7 =>
      (if x_7 = 0 then
        kg h_3 a0 13 (bd (f_X12_soft a0 x_1 406 h_3) fun _ h_16 =>
        some ((), h_16))
      else
        (if x1 = 20 then
          kg h_3 a0 13 (bd (f_X12_commit a0 x_1 h_3) fun _ h_14 =>
          some ((), h_14))
        else
          rdR h_3 a0 13 47 fun r_8 =>
          nn r_8 fun a_9 =>
          asI h_3 a_9 x_1 0 fun h_10 =>
          kg h_10 a0 13 (bd (f_X12_say a0 x_1 90 31 h_10) fun _ h_12 =>
          some ((), h_12)))))))
set_option maxRecDepth 20000 in
set_option maxHeartbeats 4000000 in
theorem t_X12_transactionMethod {Ω : Om} (a0 : Nat) (x1 : Int32) (h : AH) (q : Unit × AH) (hf : f_X12_transactionMethod a0 x1 h = some q) : Go Ω M_X12_transactionMethod 0 (lv_args 0 [vR Ω (some a0), .int x1]) [] h none q.2 := by
  unfold f_X12_transactionMethod at hf
  rw [la_R, la_I, la_0]
  refine go_sub (lv' := [(0, vR Ω (some a0)), (1, .int x1)]) [0, 1] rfl ?_
  refine go_aload_n dX12_transactionMethod_0 rfl 0 rfl ?_
  refine go_getI dX12_transactionMethod_1 fl_1173_0 (fun _ _ => rfl) hf (fun x_1 hf => ?_)
  refine go_istore_n (i := 2) (lv' := [(2, .int x_1), (0, vR Ω (some a0)), (1, .int x1)]) dX12_transactionMethod_4 rfl (by decide) (by first | rfl | simp [catR, catI, catJ]) ?_
  refine go_aload_n dX12_transactionMethod_5 rfl 1 rfl ?_
  obtain ⟨hk, hf⟩ := kg_some hf
  obtain ⟨z_2, hc, hf⟩ := bd_some hf
  refine go_callV (y2 := M_X12_isJust) (c2 := 13) dX12_transactionMethod_6 mo_X12_isJust ⟨Nat.le_of_ble_eq_true rfl, Nat.le_of_ble_eq_true rfl⟩ na_X12_isJust w1405 w1407 (by decide) rfl w70 hk [] rfl (n_X12_isJust (a0)) rfl (csum (Nat.le_of_ble_eq_true rfl)) (t_X12_isJust (a0) h _ hc) ?_
  obtain ⟨x_4, h_3⟩ := z_2
  refine go_if_ne (tgt := 13) dX12_transactionMethod_9 (by decide) hf (fun hf => ?_) (fun hf => ?_)
  · refine go_iload_n dX12_transactionMethod_13 rfl 2 rfl ?_
    refine go_bipush 10 dX12_transactionMethod_14 (by decide) ?_
    refine go_icmp_ne (tgt := 38) dX12_transactionMethod_16 (by decide) hf (fun hf => ?_) (fun hf => ?_)
    · refine go_aload_n dX12_transactionMethod_38 rfl 1 rfl ?_
      refine go_getR dX12_transactionMethod_39 fl_1158_0 (fun _ _ => rfl) hf (fun r_5 hf => ?_)
      refine go_iload_n dX12_transactionMethod_42 rfl 0 rfl ?_
      obtain ⟨a_6, rfl, hga_6⟩ := nn_some hf
      have hf := hga_6
      refine go_zaload dX12_transactionMethod_43 hf (fun x_7 hf => ?_)
      refine go_if_ne (tgt := 58) dX12_transactionMethod_44 (by decide) hf (fun hf => ?_) (fun hf => ?_)
      · refine go_iload_n dX12_transactionMethod_58 rfl 2 rfl ?_
        refine go_bipush 20 dX12_transactionMethod_59 (by decide) ?_
        refine go_icmp_ne (tgt := 72) dX12_transactionMethod_61 (by decide) hf (fun hf => ?_) (fun hf => ?_)
        · refine go_aload_n dX12_transactionMethod_72 rfl 1 rfl ?_
          refine go_getR dX12_transactionMethod_73 fl_1166_0 (fun _ _ => rfl) hf (fun r_8 hf => ?_)
          refine go_iload_n dX12_transactionMethod_76 rfl 0 rfl ?_
          refine go_iconst 0 dX12_transactionMethod_77 rfl ?_
          obtain ⟨a_9, rfl, hga_9⟩ := nn_some hf
          have hf := hga_9
          refine go_iastore dX12_transactionMethod_78 hf (fun h_10 hf => ?_)
          refine go_aload_n dX12_transactionMethod_79 rfl 1 rfl ?_
          refine go_iload_n dX12_transactionMethod_80 rfl 0 rfl ?_
          refine go_bipush 90 dX12_transactionMethod_81 (by decide) ?_
          refine go_bipush 31 dX12_transactionMethod_83 (by decide) ?_
          obtain ⟨hk, hf⟩ := kg_some hf
          obtain ⟨z_11, hc, hf⟩ := bd_some hf
          refine go_callV (y2 := M_X12_say) (c2 := 13) dX12_transactionMethod_85 mo_X12_say ⟨Nat.le_of_ble_eq_true rfl, Nat.le_of_ble_eq_true rfl⟩ na_X12_say w1381 w1383 (by decide) rfl w64 hk [.int x_1, .int 90, .int 31] rfl (n_X12_say (a0) x_1 90 31) rfl (csum (Nat.le_of_ble_eq_true rfl)) (t_X12_say (a0) x_1 90 31 h_10 _ hc) ?_
          obtain ⟨_, h_12⟩ := z_11
          exact go_return dX12_transactionMethod_88 rfl hf
        · refine go_aload_n dX12_transactionMethod_64 rfl 1 rfl ?_
          refine go_iload_n dX12_transactionMethod_65 rfl 0 rfl ?_
          obtain ⟨hk, hf⟩ := kg_some hf
          obtain ⟨z_13, hc, hf⟩ := bd_some hf
          refine go_callV (y2 := M_X12_commit) (c2 := 13) dX12_transactionMethod_66 mo_X12_commit ⟨Nat.le_of_ble_eq_true rfl, Nat.le_of_ble_eq_true rfl⟩ na_X12_commit w1555 w1557 (by decide) rfl w106 hk [.int x_1] rfl (n_X12_commit (a0) x_1) rfl (csum (Nat.le_of_ble_eq_true rfl)) (t_X12_commit (a0) x_1 h_3 _ hc) ?_
          obtain ⟨_, h_14⟩ := z_13
          refine go_goto (tgt := 88) dX12_transactionMethod_69 (by decide) ?_
          exact go_return dX12_transactionMethod_88 rfl hf
      · refine go_aload_n dX12_transactionMethod_47 rfl 1 rfl ?_
        refine go_iload_n dX12_transactionMethod_48 rfl 0 rfl ?_
        refine go_sipush 406 dX12_transactionMethod_49 (by decide) ?_
        obtain ⟨hk, hf⟩ := kg_some hf
        obtain ⟨z_15, hc, hf⟩ := bd_some hf
        refine go_callV (y2 := M_X12_soft) (c2 := 13) dX12_transactionMethod_52 mo_X12_soft ⟨Nat.le_of_ble_eq_true rfl, Nat.le_of_ble_eq_true rfl⟩ na_X12_soft w1432 w1434 (by decide) rfl w76 hk [.int x_1, .int 406] rfl (n_X12_soft (a0) x_1 406) rfl (csum (Nat.le_of_ble_eq_true rfl)) (t_X12_soft (a0) x_1 406 h_3 _ hc) ?_
        obtain ⟨_, h_16⟩ := z_15
        refine go_goto (tgt := 88) dX12_transactionMethod_55 (by decide) ?_
        exact go_return dX12_transactionMethod_88 rfl hf
    · refine go_aload_n dX12_transactionMethod_19 rfl 1 rfl ?_
      refine go_getR dX12_transactionMethod_20 fl_1158_0 (fun _ _ => rfl) hf (fun r_17 hf => ?_)
      refine go_iload_n dX12_transactionMethod_23 rfl 0 rfl ?_
      refine go_iconst 1 dX12_transactionMethod_24 rfl ?_
      obtain ⟨a_18, rfl, hga_18⟩ := nn_some hf
      have hf := hga_18
      refine go_zastore dX12_transactionMethod_25 hf (fun h_19 hf => ?_)
      refine go_aload_n dX12_transactionMethod_26 rfl 1 rfl ?_
      refine go_iload_n dX12_transactionMethod_27 rfl 0 rfl ?_
      refine go_bipush 90 dX12_transactionMethod_28 (by decide) ?_
      refine go_bipush 11 dX12_transactionMethod_30 (by decide) ?_
      obtain ⟨hk, hf⟩ := kg_some hf
      obtain ⟨z_20, hc, hf⟩ := bd_some hf
      refine go_callV (y2 := M_X12_say) (c2 := 13) dX12_transactionMethod_32 mo_X12_say ⟨Nat.le_of_ble_eq_true rfl, Nat.le_of_ble_eq_true rfl⟩ na_X12_say w1381 w1383 (by decide) rfl w64 hk [.int x_1, .int 90, .int 11] rfl (n_X12_say (a0) x_1 90 11) rfl (csum (Nat.le_of_ble_eq_true rfl)) (t_X12_say (a0) x_1 90 11 h_19 _ hc) ?_
      obtain ⟨_, h_21⟩ := z_20
      refine go_goto (tgt := 88) dX12_transactionMethod_35 (by decide) ?_
      exact go_return dX12_transactionMethod_88 rfl hf
  · exact go_return dX12_transactionMethod_12 rfl hf
-- LetterBrokerModel.doMethod()V
theorem dX12_doMethod_0 : decode cX12_doMethod 0 = .ok (.aload_n 0, 1) := by decide +kernel
theorem dX12_doMethod_1 : decode cX12_doMethod 1 = .ok (.getfield 304, 3) := by decide +kernel
theorem dX12_doMethod_4 : decode cX12_doMethod 4 = .ok (.aload_n 0, 1) := by decide +kernel
theorem dX12_doMethod_5 : decode cX12_doMethod 5 = .ok (.getfield 301, 3) := by decide +kernel
theorem dX12_doMethod_8 : decode cX12_doMethod 8 = .ok (.isub, 1) := by decide +kernel
theorem dX12_doMethod_9 : decode cX12_doMethod 9 = .ok (.iconst 2, 1) := by decide +kernel
theorem dX12_doMethod_10 : decode cX12_doMethod 10 = .ok (.if_icmp .ge 11, 3) := by decide +kernel
theorem dX12_doMethod_13 : decode cX12_doMethod 13 = .ok (.aload_n 0, 1) := by decide +kernel
theorem dX12_doMethod_14 : decode cX12_doMethod 14 = .ok (.sipush 501, 3) := by decide +kernel
theorem dX12_doMethod_17 : decode cX12_doMethod 17 = .ok (.invokevirtual 315, 3) := by decide +kernel
theorem dX12_doMethod_20 : decode cX12_doMethod 20 = .ok (.return_, 1) := by decide +kernel
theorem dX12_doMethod_21 : decode cX12_doMethod 21 = .ok (.aload_n 0, 1) := by decide +kernel
theorem dX12_doMethod_22 : decode cX12_doMethod 22 = .ok (.invokevirtual 311, 3) := by decide +kernel
theorem dX12_doMethod_25 : decode cX12_doMethod 25 = .ok (.istore_n 1, 1) := by decide +kernel
theorem dX12_doMethod_26 : decode cX12_doMethod 26 = .ok (.aload_n 0, 1) := by decide +kernel
theorem dX12_doMethod_27 : decode cX12_doMethod 27 = .ok (.invokevirtual 311, 3) := by decide +kernel
theorem dX12_doMethod_30 : decode cX12_doMethod 30 = .ok (.istore_n 2, 1) := by decide +kernel
theorem dX12_doMethod_31 : decode cX12_doMethod 31 = .ok (.aload_n 0, 1) := by decide +kernel
theorem dX12_doMethod_32 : decode cX12_doMethod 32 = .ok (.getfield 318, 3) := by decide +kernel
theorem dX12_doMethod_35 : decode cX12_doMethod 35 = .ok (.ifCond .ne 10, 3) := by decide +kernel
theorem dX12_doMethod_38 : decode cX12_doMethod 38 = .ok (.aload_n 0, 1) := by decide +kernel
theorem dX12_doMethod_39 : decode cX12_doMethod 39 = .ok (.iload_n 1, 1) := by decide +kernel
theorem dX12_doMethod_40 : decode cX12_doMethod 40 = .ok (.iload_n 2, 1) := by decide +kernel
theorem dX12_doMethod_41 : decode cX12_doMethod 41 = .ok (.invokevirtual 401, 3) := by decide +kernel
theorem dX12_doMethod_44 : decode cX12_doMethod 44 = .ok (.return_, 1) := by decide +kernel
theorem dX12_doMethod_45 : decode cX12_doMethod 45 = .ok (.aload_n 0, 1) := by decide +kernel
theorem dX12_doMethod_46 : decode cX12_doMethod 46 = .ok (.getfield 207, 3) := by decide +kernel
theorem dX12_doMethod_49 : decode cX12_doMethod 49 = .ok (.iconst 4, 1) := by decide +kernel
theorem dX12_doMethod_50 : decode cX12_doMethod 50 = .ok (.if_icmp .ne 43, 3) := by decide +kernel
theorem dX12_doMethod_53 : decode cX12_doMethod 53 = .ok (.aload_n 0, 1) := by decide +kernel
theorem dX12_doMethod_54 : decode cX12_doMethod 54 = .ok (.getfield 88, 3) := by decide +kernel
theorem dX12_doMethod_57 : decode cX12_doMethod 57 = .ok (.aload_n 0, 1) := by decide +kernel
theorem dX12_doMethod_58 : decode cX12_doMethod 58 = .ok (.getfield 318, 3) := by decide +kernel
theorem dX12_doMethod_61 : decode cX12_doMethod 61 = .ok (.iaload, 1) := by decide +kernel
theorem dX12_doMethod_62 : decode cX12_doMethod 62 = .ok (.iconst 1, 1) := by decide +kernel
theorem dX12_doMethod_63 : decode cX12_doMethod 63 = .ok (.if_icmp .ne 14, 3) := by decide +kernel
theorem dX12_doMethod_66 : decode cX12_doMethod 66 = .ok (.iload_n 1, 1) := by decide +kernel
theorem dX12_doMethod_67 : decode cX12_doMethod 67 = .ok (.iload_n 2, 1) := by decide +kernel
theorem dX12_doMethod_68 : decode cX12_doMethod 68 = .ok (.invokestatic 404, 3) := by decide +kernel
theorem dX12_doMethod_71 : decode cX12_doMethod 71 = .ok (.ifCond .eq 22, 3) := by decide +kernel
theorem dX12_doMethod_74 : decode cX12_doMethod 74 = .ok (.goto 15, 3) := by decide +kernel
theorem dX12_doMethod_77 : decode cX12_doMethod 77 = .ok (.iload_n 1, 1) := by decide +kernel
theorem dX12_doMethod_78 : decode cX12_doMethod 78 = .ok (.bipush 20, 2) := by decide +kernel
theorem dX12_doMethod_80 : decode cX12_doMethod 80 = .ok (.if_icmp .ne 13, 3) := by decide +kernel
theorem dX12_doMethod_83 : decode cX12_doMethod 83 = .ok (.iload_n 2, 1) := by decide +kernel
theorem dX12_doMethod_84 : decode cX12_doMethod 84 = .ok (.bipush 10, 2) := by decide +kernel
theorem dX12_doMethod_86 : decode cX12_doMethod 86 = .ok (.if_icmp .ne 7, 3) := by decide +kernel
theorem dX12_doMethod_89 : decode cX12_doMethod 89 = .ok (.iconst 1, 1) := by decide +kernel
theorem dX12_doMethod_90 : decode cX12_doMethod 90 = .ok (.goto 4, 3) := by decide +kernel
theorem dX12_doMethod_93 : decode cX12_doMethod 93 = .ok (.iconst 0, 1) := by decide +kernel
theorem dX12_doMethod_94 : decode cX12_doMethod 94 = .ok (.istore_n 3, 1) := by decide +kernel
theorem dX12_doMethod_95 : decode cX12_doMethod 95 = .ok (.iload_n 3, 1) := by decide +kernel
theorem dX12_doMethod_96 : decode cX12_doMethod 96 = .ok (.ifCond .ne 11, 3) := by decide +kernel
theorem dX12_doMethod_99 : decode cX12_doMethod 99 = .ok (.aload_n 0, 1) := by decide +kernel
theorem dX12_doMethod_100 : decode cX12_doMethod 100 = .ok (.sipush 503, 3) := by decide +kernel
theorem dX12_doMethod_103 : decode cX12_doMethod 103 = .ok (.invokevirtual 315, 3) := by decide +kernel
theorem dX12_doMethod_106 : decode cX12_doMethod 106 = .ok (.return_, 1) := by decide +kernel
theorem dX12_doMethod_107 : decode cX12_doMethod 107 = .ok (.iload_n 1, 1) := by decide +kernel
theorem dX12_doMethod_108 : decode cX12_doMethod 108 = .ok (.lookupswitch 76 #[(20, 44), (40, 52), (50, 60), (60, 68)], 44) := by decide +kernel
theorem dX12_doMethod_152 : decode cX12_doMethod 152 = .ok (.aload_n 0, 1) := by decide +kernel
theorem dX12_doMethod_153 : decode cX12_doMethod 153 = .ok (.iload_n 2, 1) := by decide +kernel
theorem dX12_doMethod_154 : decode cX12_doMethod 154 = .ok (.invokevirtual 408, 3) := by decide +kernel
theorem dX12_doMethod_157 : decode cX12_doMethod 157 = .ok (.goto 32, 3) := by decide +kernel
theorem dX12_doMethod_160 : decode cX12_doMethod 160 = .ok (.aload_n 0, 1) := by decide +kernel
theorem dX12_doMethod_161 : decode cX12_doMethod 161 = .ok (.iload_n 2, 1) := by decide +kernel
theorem dX12_doMethod_162 : decode cX12_doMethod 162 = .ok (.invokevirtual 411, 3) := by decide +kernel
theorem dX12_doMethod_165 : decode cX12_doMethod 165 = .ok (.goto 24, 3) := by decide +kernel
theorem dX12_doMethod_168 : decode cX12_doMethod 168 = .ok (.aload_n 0, 1) := by decide +kernel
theorem dX12_doMethod_169 : decode cX12_doMethod 169 = .ok (.iload_n 2, 1) := by decide +kernel
theorem dX12_doMethod_170 : decode cX12_doMethod 170 = .ok (.invokevirtual 414, 3) := by decide +kernel
theorem dX12_doMethod_173 : decode cX12_doMethod 173 = .ok (.goto 16, 3) := by decide +kernel
theorem dX12_doMethod_176 : decode cX12_doMethod 176 = .ok (.aload_n 0, 1) := by decide +kernel
theorem dX12_doMethod_177 : decode cX12_doMethod 177 = .ok (.iload_n 2, 1) := by decide +kernel
theorem dX12_doMethod_178 : decode cX12_doMethod 178 = .ok (.invokevirtual 417, 3) := by decide +kernel
theorem dX12_doMethod_181 : decode cX12_doMethod 181 = .ok (.goto 8, 3) := by decide +kernel
theorem dX12_doMethod_184 : decode cX12_doMethod 184 = .ok (.aload_n 0, 1) := by decide +kernel
theorem dX12_doMethod_185 : decode cX12_doMethod 185 = .ok (.iload_n 2, 1) := by decide +kernel
theorem dX12_doMethod_186 : decode cX12_doMethod 186 = .ok (.invokevirtual 420, 3) := by decide +kernel
theorem dX12_doMethod_189 : decode cX12_doMethod 189 = .ok (.return_, 1) := by decide +kernel
def f_X12_doMethod_94 (a0 : Nat) (x1 : Int32) (x2 : Int32) (s0 : Int32) (h : AH) : Option (Unit × AH) := (if s0 = 0 then
    kg h a0 13 (bd (f_X12_hard a0 503 h) fun _ h_12 =>
    some ((), h_12))
  else
    (if x1 = 20 then
      kg h a0 13 (bd (f_X12_channelMethod a0 x2 h) fun _ h_2 =>
      some ((), h_2))
    else (if x1 = 40 then
      kg h a0 13 (bd (f_X12_exchangeMethod a0 x2 h) fun _ h_4 =>
      some ((), h_4))
    else (if x1 = 50 then
      kg h a0 13 (bd (f_X12_queueMethod a0 x2 h) fun _ h_6 =>
      some ((), h_6))
    else (if x1 = 60 then
      kg h a0 13 (bd (f_X12_letterMethod a0 x2 h) fun _ h_8 =>
      some ((), h_8))
    else kg h a0 13 (bd (f_X12_transactionMethod a0 x2 h) fun _ h_10 =>
    some ((), h_10)))))))
set_option maxRecDepth 20000 in
set_option maxHeartbeats 4000000 in
theorem t_X12_doMethod_94 {Ω : Om} (a0 : Nat) (x1 : Int32) (x2 : Int32) (s0 : Int32) (h : AH) (q : Unit × AH) (hf : f_X12_doMethod_94 a0 x1 x2 s0 h = some q) : Go Ω M_X12_doMethod 94 [(0, vR Ω (some a0)), (1, .int x1), (2, .int x2)] [.int s0] h none q.2 := by
  unfold f_X12_doMethod_94 at hf
  refine go_istore_n (i := 3) (lv' := [(3, .int s0), (0, vR Ω (some a0)), (1, .int x1), (2, .int x2)]) dX12_doMethod_94 rfl (by decide) (by first | rfl | simp [catR, catI, catJ]) ?_
  refine go_iload_n dX12_doMethod_95 rfl 0 rfl ?_
  refine go_if_ne (tgt := 107) dX12_doMethod_96 (by decide) hf (fun hf => ?_) (fun hf => ?_)
  · refine go_iload_n dX12_doMethod_107 rfl 2 rfl ?_
    by_cases e0 : x1 = 20
    · rw [if_pos e0] at hf
      refine go_lsw1 (off := 44) (tgt := 152) dX12_doMethod_108 (by decide) (by rw [e0]; decide) (by decide) ?_
      refine go_aload_n dX12_doMethod_152 rfl 1 rfl ?_
      refine go_iload_n dX12_doMethod_153 rfl 3 rfl ?_
      obtain ⟨hk, hf⟩ := kg_some hf
      obtain ⟨z_1, hc, hf⟩ := bd_some hf
      refine go_callV (y2 := M_X12_channelMethod) (c2 := 13) dX12_doMethod_154 mo_X12_channelMethod ⟨Nat.le_of_ble_eq_true rfl, Nat.le_of_ble_eq_true rfl⟩ na_X12_channelMethod w1412 w1414 (by decide) rfl w71 hk [.int x2] rfl (n_X12_channelMethod (a0) x2) rfl (csum (Nat.le_of_ble_eq_true rfl)) (t_X12_channelMethod (a0) x2 h _ hc) ?_
      obtain ⟨_, h_2⟩ := z_1
      refine go_goto (tgt := 189) dX12_doMethod_157 (by decide) ?_
      exact go_return dX12_doMethod_189 rfl hf
    rw [if_neg e0] at hf
    by_cases e1 : x1 = 40
    · rw [if_pos e1] at hf
      refine go_lsw1 (off := 52) (tgt := 160) dX12_doMethod_108 (by decide) (by rw [e1]; decide) (by decide) ?_
      refine go_aload_n dX12_doMethod_160 rfl 1 rfl ?_
      refine go_iload_n dX12_doMethod_161 rfl 3 rfl ?_
      obtain ⟨hk, hf⟩ := kg_some hf
      obtain ⟨z_3, hc, hf⟩ := bd_some hf
      refine go_callV (y2 := M_X12_exchangeMethod) (c2 := 13) dX12_doMethod_162 mo_X12_exchangeMethod ⟨Nat.le_of_ble_eq_true rfl, Nat.le_of_ble_eq_true rfl⟩ na_X12_exchangeMethod w1416 w1418 (by decide) rfl w72 hk [.int x2] rfl (n_X12_exchangeMethod (a0) x2) rfl (csum (Nat.le_of_ble_eq_true rfl)) (t_X12_exchangeMethod (a0) x2 h _ hc) ?_
      obtain ⟨_, h_4⟩ := z_3
      refine go_goto (tgt := 189) dX12_doMethod_165 (by decide) ?_
      exact go_return dX12_doMethod_189 rfl hf
    rw [if_neg e1] at hf
    by_cases e2 : x1 = 50
    · rw [if_pos e2] at hf
      refine go_lsw1 (off := 60) (tgt := 168) dX12_doMethod_108 (by decide) (by rw [e2]; decide) (by decide) ?_
      refine go_aload_n dX12_doMethod_168 rfl 1 rfl ?_
      refine go_iload_n dX12_doMethod_169 rfl 3 rfl ?_
      obtain ⟨hk, hf⟩ := kg_some hf
      obtain ⟨z_5, hc, hf⟩ := bd_some hf
      refine go_callV (y2 := M_X12_queueMethod) (c2 := 13) dX12_doMethod_170 mo_X12_queueMethod ⟨Nat.le_of_ble_eq_true rfl, Nat.le_of_ble_eq_true rfl⟩ na_X12_queueMethod w1448 w1450 (by decide) rfl w80 hk [.int x2] rfl (n_X12_queueMethod (a0) x2) rfl (csum (Nat.le_of_ble_eq_true rfl)) (t_X12_queueMethod (a0) x2 h _ hc) ?_
      obtain ⟨_, h_6⟩ := z_5
      refine go_goto (tgt := 189) dX12_doMethod_173 (by decide) ?_
      exact go_return dX12_doMethod_189 rfl hf
    rw [if_neg e2] at hf
    by_cases e3 : x1 = 60
    · rw [if_pos e3] at hf
      refine go_lsw1 (off := 68) (tgt := 176) dX12_doMethod_108 (by decide) (by rw [e3]; decide) (by decide) ?_
      refine go_aload_n dX12_doMethod_176 rfl 1 rfl ?_
      refine go_iload_n dX12_doMethod_177 rfl 3 rfl ?_
      obtain ⟨hk, hf⟩ := kg_some hf
      obtain ⟨z_7, hc, hf⟩ := bd_some hf
      refine go_callV (y2 := M_X12_letterMethod) (c2 := 13) dX12_doMethod_178 mo_X12_letterMethod ⟨Nat.le_of_ble_eq_true rfl, Nat.le_of_ble_eq_true rfl⟩ na_X12_letterMethod w1499 w1501 (by decide) rfl w92 hk [.int x2] rfl (n_X12_letterMethod (a0) x2) rfl (csum (Nat.le_of_ble_eq_true rfl)) (t_X12_letterMethod (a0) x2 h _ hc) ?_
      obtain ⟨_, h_8⟩ := z_7
      refine go_goto (tgt := 189) dX12_doMethod_181 (by decide) ?_
      exact go_return dX12_doMethod_189 rfl hf
    rw [if_neg e3] at hf
    refine go_lsw1 (off := 76) (tgt := 184) dX12_doMethod_108 (by decide) (lk_c (ti (by decide) e0) (lk_c (ti (by decide) e1) (lk_c (ti (by decide) e2) (lk_c (ti (by decide) e3) rfl)))) (by decide) ?_
    refine go_aload_n dX12_doMethod_184 rfl 1 rfl ?_
    refine go_iload_n dX12_doMethod_185 rfl 3 rfl ?_
    obtain ⟨hk, hf⟩ := kg_some hf
    obtain ⟨z_9, hc, hf⟩ := bd_some hf
    refine go_callV (y2 := M_X12_transactionMethod) (c2 := 13) dX12_doMethod_186 mo_X12_transactionMethod ⟨Nat.le_of_ble_eq_true rfl, Nat.le_of_ble_eq_true rfl⟩ na_X12_transactionMethod w1551 w1553 (by decide) rfl w105 hk [.int x2] rfl (n_X12_transactionMethod (a0) x2) rfl (csum (Nat.le_of_ble_eq_true rfl)) (t_X12_transactionMethod (a0) x2 h _ hc) ?_
    obtain ⟨_, h_10⟩ := z_9
    exact go_return dX12_doMethod_189 rfl hf
  · refine go_aload_n dX12_doMethod_99 rfl 1 rfl ?_
    refine go_sipush 503 dX12_doMethod_100 (by decide) ?_
    obtain ⟨hk, hf⟩ := kg_some hf
    obtain ⟨z_11, hc, hf⟩ := bd_some hf
    refine go_callV (y2 := M_X12_hard) (c2 := 13) dX12_doMethod_103 mo_X12_hard ⟨Nat.le_of_ble_eq_true rfl, Nat.le_of_ble_eq_true rfl⟩ na_X12_hard w1321 w1323 (by decide) rfl w49 hk [.int 503] rfl (n_X12_hard (a0) 503) rfl (csum (Nat.le_of_ble_eq_true rfl)) (t_X12_hard (a0) 503 h _ hc) ?_
    obtain ⟨_, h_12⟩ := z_11
    exact go_return dX12_doMethod_106 rfl hf
def f_X12_doMethod (a0 : Nat) (h : AH) : Option (Unit × AH) := rdI h a0 13 56 fun x_1 =>
  rdI h a0 13 55 fun x_2 =>
  (if 2 ≤ (x_1 - x_2) then
    kg h a0 13 (bd (f_X12_next a0 h) fun x_5 h_4 =>
    kg h_4 a0 13 (bd (f_X12_next a0 h_4) fun x_8 h_7 =>
    rdI h_7 a0 13 54 fun x_9 =>
    (if x_9 = 0 then
      kg h_7 a0 13 (bd (f_X12_lineMethod a0 x_5 x_8 h_7) fun _ h_19 =>
      some ((), h_19))
    else
      rdI h_7 a0 13 0 fun x_10 =>
      (if x_10 = 4 then
        rdR h_7 a0 13 35 fun r_11 =>
        rdI h_7 a0 13 54 fun x_12 =>
        nn r_11 fun a_13 =>
        arI h_7 a_13 x_12 fun x_14 =>
        (if x_14 = 1 then
          bd (f_X12_isMethod x_5 x_8 h_7) fun x_17 h_16 =>
          (if x_17 = 0 then
            f_X12_doMethod_94 a0 x_5 x_8 0 h_16
          else
            f_X12_doMethod_94 a0 x_5 x_8 1 h_16)
        else
          (if x_5 = 20 then
            (if x_8 = 10 then
              f_X12_doMethod_94 a0 x_5 x_8 1 h_7
            else
              f_X12_doMethod_94 a0 x_5 x_8 0 h_7)
          else
            f_X12_doMethod_94 a0 x_5 x_8 0 h_7))
      else
        f_X12_doMethod_94 a0 x_5 x_8 0 h_7))))
  else
    kg h a0 13 (bd (f_X12_hard a0 501 h) fun _ h_21 =>
    some ((), h_21)))
set_option maxRecDepth 20000 in
set_option maxHeartbeats 4000000 in
theorem t_X12_doMethod {Ω : Om} (a0 : Nat) (h : AH) (q : Unit × AH) (hf : f_X12_doMethod a0 h = some q) : Go Ω M_X12_doMethod 0 (lv_args 0 [vR Ω (some a0)]) [] h none q.2 := by
  unfold f_X12_doMethod at hf
  rw [la_R, la_0]
  refine go_sub (lv' := [(0, vR Ω (some a0))]) [0] rfl ?_
  refine go_aload_n dX12_doMethod_0 rfl 0 rfl ?_
  refine go_getI dX12_doMethod_1 fl_1175_0 (fun _ _ => rfl) hf (fun x_1 hf => ?_)
  refine go_aload_n dX12_doMethod_4 rfl 0 rfl ?_
  refine go_getI dX12_doMethod_5 fl_1174_0 (fun _ _ => rfl) hf (fun x_2 hf => ?_)
  refine go_isub dX12_doMethod_8 ?_
  refine go_iconst 2 dX12_doMethod_9 rfl ?_
  refine go_icmp_ge (tgt := 21) dX12_doMethod_10 (by decide) hf (fun hf => ?_) (fun hf => ?_)
  · refine go_aload_n dX12_doMethod_21 rfl 0 rfl ?_
    obtain ⟨hk, hf⟩ := kg_some hf
    obtain ⟨z_3, hc, hf⟩ := bd_some hf
    refine go_callV (y2 := M_X12_next) (c2 := 13) dX12_doMethod_22 mo_X12_next ⟨Nat.le_of_ble_eq_true rfl, Nat.le_of_ble_eq_true rfl⟩ na_X12_next w1397 w1399 (by decide) rfl w68 hk [] rfl (n_X12_next (a0)) rfl (csum (Nat.le_of_ble_eq_true rfl)) (t_X12_next (a0) h _ hc) ?_
    obtain ⟨x_5, h_4⟩ := z_3
    refine go_istore_n (i := 1) (lv' := [(1, .int x_5), (0, vR Ω (some a0))]) dX12_doMethod_25 rfl (by decide) (by first | rfl | simp [catR, catI, catJ]) ?_
    refine go_aload_n dX12_doMethod_26 rfl 1 rfl ?_
    obtain ⟨hk, hf⟩ := kg_some hf
    obtain ⟨z_6, hc, hf⟩ := bd_some hf
    refine go_callV (y2 := M_X12_next) (c2 := 13) dX12_doMethod_27 mo_X12_next ⟨Nat.le_of_ble_eq_true rfl, Nat.le_of_ble_eq_true rfl⟩ na_X12_next w1397 w1399 (by decide) rfl w68 hk [] rfl (n_X12_next (a0)) rfl (csum (Nat.le_of_ble_eq_true rfl)) (t_X12_next (a0) h_4 _ hc) ?_
    obtain ⟨x_8, h_7⟩ := z_6
    refine go_istore_n (i := 2) (lv' := [(2, .int x_8), (1, .int x_5), (0, vR Ω (some a0))]) dX12_doMethod_30 rfl (by decide) (by first | rfl | simp [catR, catI, catJ]) ?_
    refine go_aload_n dX12_doMethod_31 rfl 2 rfl ?_
    refine go_getI dX12_doMethod_32 fl_1173_0 (fun _ _ => rfl) hf (fun x_9 hf => ?_)
    refine go_if_ne (tgt := 45) dX12_doMethod_35 (by decide) hf (fun hf => ?_) (fun hf => ?_)
    · refine go_aload_n dX12_doMethod_45 rfl 2 rfl ?_
      refine go_getI dX12_doMethod_46 fl_1119_0 (fun _ _ => rfl) hf (fun x_10 hf => ?_)
      refine go_iconst 4 dX12_doMethod_49 rfl ?_
      refine go_icmp_ne (tgt := 93) dX12_doMethod_50 (by decide) hf (fun hf => ?_) (fun hf => ?_)
      · refine go_iconst 0 dX12_doMethod_93 rfl ?_
        refine go_sub (lv' := [(0, vR Ω (some a0)), (1, .int x_5), (2, .int x_8)]) [2, 1, 0] rfl ?_
        exact t_X12_doMethod_94 a0 x_5 x_8 0 h_7 q hf
      · refine go_aload_n dX12_doMethod_53 rfl 2 rfl ?_
        refine go_getR dX12_doMethod_54 fl_1154_0 (fun _ _ => rfl) hf (fun r_11 hf => ?_)
        refine go_aload_n dX12_doMethod_57 rfl 2 rfl ?_
        refine go_getI dX12_doMethod_58 fl_1173_0 (fun _ _ => rfl) hf (fun x_12 hf => ?_)
        obtain ⟨a_13, rfl, hga_13⟩ := nn_some hf
        have hf := hga_13
        refine go_iaload dX12_doMethod_61 hf (fun x_14 hf => ?_)
        refine go_iconst 1 dX12_doMethod_62 rfl ?_
        refine go_icmp_ne (tgt := 77) dX12_doMethod_63 (by decide) hf (fun hf => ?_) (fun hf => ?_)
        · refine go_iload_n dX12_doMethod_77 rfl 1 rfl ?_
          refine go_bipush 20 dX12_doMethod_78 (by decide) ?_
          refine go_icmp_ne (tgt := 93) dX12_doMethod_80 (by decide) hf (fun hf => ?_) (fun hf => ?_)
          · refine go_iconst 0 dX12_doMethod_93 rfl ?_
            refine go_sub (lv' := [(0, vR Ω (some a0)), (1, .int x_5), (2, .int x_8)]) [2, 1, 0] rfl ?_
            exact t_X12_doMethod_94 a0 x_5 x_8 0 h_7 q hf
          · refine go_iload_n dX12_doMethod_83 rfl 0 rfl ?_
            refine go_bipush 10 dX12_doMethod_84 (by decide) ?_
            refine go_icmp_ne (tgt := 93) dX12_doMethod_86 (by decide) hf (fun hf => ?_) (fun hf => ?_)
            · refine go_iconst 0 dX12_doMethod_93 rfl ?_
              refine go_sub (lv' := [(0, vR Ω (some a0)), (1, .int x_5), (2, .int x_8)]) [2, 1, 0] rfl ?_
              exact t_X12_doMethod_94 a0 x_5 x_8 0 h_7 q hf
            · refine go_iconst 1 dX12_doMethod_89 rfl ?_
              refine go_goto (tgt := 94) dX12_doMethod_90 (by decide) ?_
              refine go_sub (lv' := [(0, vR Ω (some a0)), (1, .int x_5), (2, .int x_8)]) [2, 1, 0] rfl ?_
              exact t_X12_doMethod_94 a0 x_5 x_8 1 h_7 q hf
        · refine go_iload_n dX12_doMethod_66 rfl 1 rfl ?_
          refine go_iload_n dX12_doMethod_67 rfl 0 rfl ?_
          obtain ⟨z_15, hc, hf⟩ := bd_some hf
          refine go_callS (y2 := M_X12_isMethod) dX12_doMethod_68 mo_X12_isMethod ⟨Nat.le_of_ble_eq_true rfl, Nat.le_of_ble_eq_true rfl⟩ na_X12_isMethod w1409 w1410 [.int x_5, .int x_8] rfl (n_X12_isMethod x_5 x_8) rfl (csum (Nat.le_of_ble_eq_true rfl)) (t_X12_isMethod x_5 x_8 h_7 _ hc) ?_
          obtain ⟨x_17, h_16⟩ := z_15
          refine go_if_eq (tgt := 93) dX12_doMethod_71 (by decide) hf (fun hf => ?_) (fun hf => ?_)
          · refine go_iconst 0 dX12_doMethod_93 rfl ?_
            refine go_sub (lv' := [(0, vR Ω (some a0)), (1, .int x_5), (2, .int x_8)]) [2, 1, 0] rfl ?_
            exact t_X12_doMethod_94 a0 x_5 x_8 0 h_16 q hf
          · refine go_goto (tgt := 89) dX12_doMethod_74 (by decide) ?_
            refine go_iconst 1 dX12_doMethod_89 rfl ?_
            refine go_goto (tgt := 94) dX12_doMethod_90 (by decide) ?_
            refine go_sub (lv' := [(0, vR Ω (some a0)), (1, .int x_5), (2, .int x_8)]) [2, 1, 0] rfl ?_
            exact t_X12_doMethod_94 a0 x_5 x_8 1 h_16 q hf
    · refine go_aload_n dX12_doMethod_38 rfl 2 rfl ?_
      refine go_iload_n dX12_doMethod_39 rfl 1 rfl ?_
      refine go_iload_n dX12_doMethod_40 rfl 0 rfl ?_
      obtain ⟨hk, hf⟩ := kg_some hf
      obtain ⟨z_18, hc, hf⟩ := bd_some hf
      refine go_callV (y2 := M_X12_lineMethod) (c2 := 13) dX12_doMethod_41 mo_X12_lineMethod ⟨Nat.le_of_ble_eq_true rfl, Nat.le_of_ble_eq_true rfl⟩ na_X12_lineMethod w1401 w1403 (by decide) rfl w69 hk [.int x_5, .int x_8] rfl (n_X12_lineMethod (a0) x_5 x_8) rfl (csum (Nat.le_of_ble_eq_true rfl)) (t_X12_lineMethod (a0) x_5 x_8 h_7 _ hc) ?_
      obtain ⟨_, h_19⟩ := z_18
      exact go_return dX12_doMethod_44 rfl hf
  · refine go_aload_n dX12_doMethod_13 rfl 0 rfl ?_
    refine go_sipush 501 dX12_doMethod_14 (by decide) ?_
    obtain ⟨hk, hf⟩ := kg_some hf
    obtain ⟨z_20, hc, hf⟩ := bd_some hf
    refine go_callV (y2 := M_X12_hard) (c2 := 13) dX12_doMethod_17 mo_X12_hard ⟨Nat.le_of_ble_eq_true rfl, Nat.le_of_ble_eq_true rfl⟩ na_X12_hard w1321 w1323 (by decide) rfl w49 hk [.int 501] rfl (n_X12_hard (a0) 501) rfl (csum (Nat.le_of_ble_eq_true rfl)) (t_X12_hard (a0) 501 h _ hc) ?_
    obtain ⟨_, h_21⟩ := z_20
    exact go_return dX12_doMethod_20 rfl hf
-- LetterBrokerModel.head()V
theorem dX12_head_0 : decode cX12_head 0 = .ok (.aload_n 0, 1) := by decide +kernel
theorem dX12_head_1 : decode cX12_head 1 = .ok (.getfield 318, 3) := by decide +kernel
theorem dX12_head_4 : decode cX12_head 4 = .ok (.istore_n 1, 1) := by decide +kernel
theorem dX12_head_5 : decode cX12_head 5 = .ok (.aload_n 0, 1) := by decide +kernel
theorem dX12_head_6 : decode cX12_head 6 = .ok (.getfield 304, 3) := by decide +kernel
theorem dX12_head_9 : decode cX12_head 9 = .ok (.aload_n 0, 1) := by decide +kernel
theorem dX12_head_10 : decode cX12_head 10 = .ok (.getfield 301, 3) := by decide +kernel
theorem dX12_head_13 : decode cX12_head 13 = .ok (.isub, 1) := by decide +kernel
theorem dX12_head_14 : decode cX12_head 14 = .ok (.iconst 1, 1) := by decide +kernel
theorem dX12_head_15 : decode cX12_head 15 = .ok (.if_icmp .ne 17, 3) := by decide +kernel
theorem dX12_head_18 : decode cX12_head 18 = .ok (.aload_n 0, 1) := by decide +kernel
theorem dX12_head_19 : decode cX12_head 19 = .ok (.getfield 7, 3) := by decide +kernel
theorem dX12_head_22 : decode cX12_head 22 = .ok (.aload_n 0, 1) := by decide +kernel
theorem dX12_head_23 : decode cX12_head 23 = .ok (.getfield 301, 3) := by decide +kernel
theorem dX12_head_26 : decode cX12_head 26 = .ok (.iaload, 1) := by decide +kernel
theorem dX12_head_27 : decode cX12_head 27 = .ok (.bipush 6, 2) := by decide +kernel
theorem dX12_head_29 : decode cX12_head 29 = .ok (.if_icmp .le 11, 3) := by decide +kernel
theorem dX12_head_32 : decode cX12_head 32 = .ok (.aload_n 0, 1) := by decide +kernel
theorem dX12_head_33 : decode cX12_head 33 = .ok (.sipush 501, 3) := by decide +kernel
theorem dX12_head_36 : decode cX12_head 36 = .ok (.invokevirtual 315, 3) := by decide +kernel
theorem dX12_head_39 : decode cX12_head 39 = .ok (.return_, 1) := by decide +kernel
theorem dX12_head_40 : decode cX12_head 40 = .ok (.aload_n 0, 1) := by decide +kernel
theorem dX12_head_41 : decode cX12_head 41 = .ok (.getfield 115, 3) := by decide +kernel
theorem dX12_head_44 : decode cX12_head 44 = .ok (.iload_n 1, 1) := by decide +kernel
theorem dX12_head_45 : decode cX12_head 45 = .ok (.aload_n 0, 1) := by decide +kernel
theorem dX12_head_46 : decode cX12_head 46 = .ok (.getfield 7, 3) := by decide +kernel
theorem dX12_head_49 : decode cX12_head 49 = .ok (.aload_n 0, 1) := by decide +kernel
theorem dX12_head_50 : decode cX12_head 50 = .ok (.getfield 301, 3) := by decide +kernel
theorem dX12_head_53 : decode cX12_head 53 = .ok (.iaload, 1) := by decide +kernel
theorem dX12_head_54 : decode cX12_head 54 = .ok (.iastore, 1) := by decide +kernel
theorem dX12_head_55 : decode cX12_head 55 = .ok (.aload_n 0, 1) := by decide +kernel
theorem dX12_head_56 : decode cX12_head 56 = .ok (.getfield 118, 3) := by decide +kernel
theorem dX12_head_59 : decode cX12_head 59 = .ok (.iload_n 1, 1) := by decide +kernel
theorem dX12_head_60 : decode cX12_head 60 = .ok (.aload_n 0, 1) := by decide +kernel
theorem dX12_head_61 : decode cX12_head 61 = .ok (.getfield 7, 3) := by decide +kernel
theorem dX12_head_64 : decode cX12_head 64 = .ok (.aload_n 0, 1) := by decide +kernel
theorem dX12_head_65 : decode cX12_head 65 = .ok (.getfield 301, 3) := by decide +kernel
theorem dX12_head_68 : decode cX12_head 68 = .ok (.iaload, 1) := by decide +kernel
theorem dX12_head_69 : decode cX12_head 69 = .ok (.iastore, 1) := by decide +kernel
theorem dX12_head_70 : decode cX12_head 70 = .ok (.aload_n 0, 1) := by decide +kernel
theorem dX12_head_71 : decode cX12_head 71 = .ok (.getfield 121, 3) := by decide +kernel
theorem dX12_head_74 : decode cX12_head 74 = .ok (.iload_n 1, 1) := by decide +kernel
theorem dX12_head_75 : decode cX12_head 75 = .ok (.lconst 0, 1) := by decide +kernel
theorem dX12_head_76 : decode cX12_head 76 = .ok (.lastore, 1) := by decide +kernel
theorem dX12_head_77 : decode cX12_head 77 = .ok (.aload_n 0, 1) := by decide +kernel
theorem dX12_head_78 : decode cX12_head 78 = .ok (.getfield 103, 3) := by decide +kernel
theorem dX12_head_81 : decode cX12_head 81 = .ok (.iload_n 1, 1) := by decide +kernel
theorem dX12_head_82 : decode cX12_head 82 = .ok (.iconst 2, 1) := by decide +kernel
theorem dX12_head_83 : decode cX12_head 83 = .ok (.iastore, 1) := by decide +kernel
theorem dX12_head_84 : decode cX12_head 84 = .ok (.aload_n 0, 1) := by decide +kernel
theorem dX12_head_85 : decode cX12_head 85 = .ok (.getfield 115, 3) := by decide +kernel
theorem dX12_head_88 : decode cX12_head 88 = .ok (.iload_n 1, 1) := by decide +kernel
theorem dX12_head_89 : decode cX12_head 89 = .ok (.iaload, 1) := by decide +kernel
theorem dX12_head_90 : decode cX12_head 90 = .ok (.ifCond .ne 8, 3) := by decide +kernel
theorem dX12_head_93 : decode cX12_head 93 = .ok (.aload_n 0, 1) := by decide +kernel
theorem dX12_head_94 : decode cX12_head 94 = .ok (.iload_n 1, 1) := by decide +kernel
theorem dX12_head_95 : decode cX12_head 95 = .ok (.invokevirtual 423, 3) := by decide +kernel
theorem dX12_head_98 : decode cX12_head 98 = .ok (.return_, 1) := by decide +kernel
def f_X12_head_32 (a0 : Nat) (h : AH) : Option (Unit × AH) := kg h a0 13 (bd (f_X12_hard a0 501 h) fun _ h_2 =>
  some ((), h_2))
set_option maxRecDepth 20000 in
set_option maxHeartbeats 4000000 in
theorem t_X12_head_32 {Ω : Om} (a0 : Nat) (h : AH) (q : Unit × AH) (hf : f_X12_head_32 a0 h = some q) : Go Ω M_X12_head 32 [(0, vR Ω (some a0))] [] h none q.2 := by
  unfold f_X12_head_32 at hf
  refine go_aload_n dX12_head_32 rfl 0 rfl ?_
  refine go_sipush 501 dX12_head_33 (by decide) ?_
  obtain ⟨hk, hf⟩ := kg_some hf
  obtain ⟨z_1, hc, hf⟩ := bd_some hf
  refine go_callV (y2 := M_X12_hard) (c2 := 13) dX12_head_36 mo_X12_hard ⟨Nat.le_of_ble_eq_true rfl, Nat.le_of_ble_eq_true rfl⟩ na_X12_hard w1321 w1323 (by decide) rfl w49 hk [.int 501] rfl (n_X12_hard (a0) 501) rfl (csum (Nat.le_of_ble_eq_true rfl)) (t_X12_hard (a0) 501 h _ hc) ?_
  obtain ⟨_, h_2⟩ := z_1
  exact go_return dX12_head_39 rfl hf
def f_X12_head (a0 : Nat) (h : AH) : Option (Unit × AH) := rdI h a0 13 54 fun x_1 =>
  rdI h a0 13 56 fun x_2 =>
  rdI h a0 13 55 fun x_3 =>
  (if (x_2 - x_3) = 1 then
    rdR h a0 13 1 fun r_4 =>
    rdI h a0 13 55 fun x_5 =>
    nn r_4 fun a_6 =>
    arI h a_6 x_5 fun x_7 =>
    (if x_7 ≤ 6 then
      rdR h a0 13 44 fun r_8 =>
      rdR h a0 13 1 fun r_9 =>
      rdI h a0 13 55 fun x_10 =>
      nn r_9 fun a_11 =>
      arI h a_11 x_10 fun x_12 =>
      nn r_8 fun a_13 =>
      asI h a_13 x_1 x_12 fun h_14 =>
      rdR h_14 a0 13 45 fun r_15 =>
      rdR h_14 a0 13 1 fun r_16 =>
      rdI h_14 a0 13 55 fun x_17 =>
      nn r_16 fun a_18 =>
      arI h_14 a_18 x_17 fun x_19 =>
      nn r_15 fun a_20 =>
      asI h_14 a_20 x_1 x_19 fun h_21 =>
      rdR h_21 a0 13 46 fun r_22 =>
      nn r_22 fun a_23 =>
      asJ h_21 a_23 x_1 0 fun h_24 =>
      rdR h_24 a0 13 40 fun r_25 =>
      nn r_25 fun a_26 =>
      asI h_24 a_26 x_1 2 fun h_27 =>
      rdR h_27 a0 13 44 fun r_28 =>
      nn r_28 fun a_29 =>
      arI h_27 a_29 x_1 fun x_30 =>
      (if x_30 = 0 then
        kg h_27 a0 13 (bd (f_X12_complete a0 x_1 h_27) fun _ h_32 =>
        some ((), h_32))
      else
        some ((), h_27))
    else
      f_X12_head_32 a0 h)
  else
    f_X12_head_32 a0 h)
set_option maxRecDepth 20000 in
set_option maxHeartbeats 4000000 in
theorem t_X12_head {Ω : Om} (a0 : Nat) (h : AH) (q : Unit × AH) (hf : f_X12_head a0 h = some q) : Go Ω M_X12_head 0 (lv_args 0 [vR Ω (some a0)]) [] h none q.2 := by
  unfold f_X12_head at hf
  rw [la_R, la_0]
  refine go_sub (lv' := [(0, vR Ω (some a0))]) [0] rfl ?_
  refine go_aload_n dX12_head_0 rfl 0 rfl ?_
  refine go_getI dX12_head_1 fl_1173_0 (fun _ _ => rfl) hf (fun x_1 hf => ?_)
  refine go_istore_n (i := 1) (lv' := [(1, .int x_1), (0, vR Ω (some a0))]) dX12_head_4 rfl (by decide) (by first | rfl | simp [catR, catI, catJ]) ?_
  refine go_aload_n dX12_head_5 rfl 1 rfl ?_
  refine go_getI dX12_head_6 fl_1175_0 (fun _ _ => rfl) hf (fun x_2 hf => ?_)
  refine go_aload_n dX12_head_9 rfl 1 rfl ?_
  refine go_getI dX12_head_10 fl_1174_0 (fun _ _ => rfl) hf (fun x_3 hf => ?_)
  refine go_isub dX12_head_13 ?_
  refine go_iconst 1 dX12_head_14 rfl ?_
  refine go_icmp_ne (tgt := 32) dX12_head_15 (by decide) hf (fun hf => ?_) (fun hf => ?_)
  · refine go_sub (lv' := [(0, vR Ω (some a0))]) [1] rfl ?_
    exact t_X12_head_32 a0 h q hf
  · refine go_aload_n dX12_head_18 rfl 1 rfl ?_
    refine go_getR dX12_head_19 fl_1120_0 (fun _ _ => rfl) hf (fun r_4 hf => ?_)
    refine go_aload_n dX12_head_22 rfl 1 rfl ?_
    refine go_getI dX12_head_23 fl_1174_0 (fun _ _ => rfl) hf (fun x_5 hf => ?_)
    obtain ⟨a_6, rfl, hga_6⟩ := nn_some hf
    have hf := hga_6
    refine go_iaload dX12_head_26 hf (fun x_7 hf => ?_)
    refine go_bipush 6 dX12_head_27 (by decide) ?_
    refine go_icmp_le (tgt := 40) dX12_head_29 (by decide) hf (fun hf => ?_) (fun hf => ?_)
    · refine go_aload_n dX12_head_40 rfl 1 rfl ?_
      refine go_getR dX12_head_41 fl_1163_0 (fun _ _ => rfl) hf (fun r_8 hf => ?_)
      refine go_iload_n dX12_head_44 rfl 0 rfl ?_
      refine go_aload_n dX12_head_45 rfl 1 rfl ?_
      refine go_getR dX12_head_46 fl_1120_0 (fun _ _ => rfl) hf (fun r_9 hf => ?_)
      refine go_aload_n dX12_head_49 rfl 1 rfl ?_
      refine go_getI dX12_head_50 fl_1174_0 (fun _ _ => rfl) hf (fun x_10 hf => ?_)
      obtain ⟨a_11, rfl, hga_11⟩ := nn_some hf
      have hf := hga_11
      refine go_iaload dX12_head_53 hf (fun x_12 hf => ?_)
      obtain ⟨a_13, rfl, hga_13⟩ := nn_some hf
      have hf := hga_13
      refine go_iastore dX12_head_54 hf (fun h_14 hf => ?_)
      refine go_aload_n dX12_head_55 rfl 1 rfl ?_
      refine go_getR dX12_head_56 fl_1164_0 (fun _ _ => rfl) hf (fun r_15 hf => ?_)
      refine go_iload_n dX12_head_59 rfl 0 rfl ?_
      refine go_aload_n dX12_head_60 rfl 1 rfl ?_
      refine go_getR dX12_head_61 fl_1120_0 (fun _ _ => rfl) hf (fun r_16 hf => ?_)
      refine go_aload_n dX12_head_64 rfl 1 rfl ?_
      refine go_getI dX12_head_65 fl_1174_0 (fun _ _ => rfl) hf (fun x_17 hf => ?_)
      obtain ⟨a_18, rfl, hga_18⟩ := nn_some hf
      have hf := hga_18
      refine go_iaload dX12_head_68 hf (fun x_19 hf => ?_)
      obtain ⟨a_20, rfl, hga_20⟩ := nn_some hf
      have hf := hga_20
      refine go_iastore dX12_head_69 hf (fun h_21 hf => ?_)
      refine go_aload_n dX12_head_70 rfl 1 rfl ?_
      refine go_getR dX12_head_71 fl_1165_0 (fun _ _ => rfl) hf (fun r_22 hf => ?_)
      refine go_iload_n dX12_head_74 rfl 0 rfl ?_
      refine go_lconst 0 dX12_head_75 rfl ?_
      obtain ⟨a_23, rfl, hga_23⟩ := nn_some hf
      have hf := hga_23
      refine go_lastore dX12_head_76 hf (fun h_24 hf => ?_)
      refine go_aload_n dX12_head_77 rfl 1 rfl ?_
      refine go_getR dX12_head_78 fl_1159_0 (fun _ _ => rfl) hf (fun r_25 hf => ?_)
      refine go_iload_n dX12_head_81 rfl 0 rfl ?_
      refine go_iconst 2 dX12_head_82 rfl ?_
      obtain ⟨a_26, rfl, hga_26⟩ := nn_some hf
      have hf := hga_26
      refine go_iastore dX12_head_83 hf (fun h_27 hf => ?_)
      refine go_aload_n dX12_head_84 rfl 1 rfl ?_
      refine go_getR dX12_head_85 fl_1163_0 (fun _ _ => rfl) hf (fun r_28 hf => ?_)
      refine go_iload_n dX12_head_88 rfl 0 rfl ?_
      obtain ⟨a_29, rfl, hga_29⟩ := nn_some hf
      have hf := hga_29
      refine go_iaload dX12_head_89 hf (fun x_30 hf => ?_)
      refine go_if_ne (tgt := 98) dX12_head_90 (by decide) hf (fun hf => ?_) (fun hf => ?_)
      · exact go_return dX12_head_98 rfl hf
      · refine go_aload_n dX12_head_93 rfl 1 rfl ?_
        refine go_iload_n dX12_head_94 rfl 0 rfl ?_
        obtain ⟨hk, hf⟩ := kg_some hf
        obtain ⟨z_31, hc, hf⟩ := bd_some hf
        refine go_callV (y2 := M_X12_complete) (c2 := 13) dX12_head_95 mo_X12_complete ⟨Nat.le_of_ble_eq_true rfl, Nat.le_of_ble_eq_true rfl⟩ na_X12_complete w1585 w1587 (by decide) rfl w112 hk [.int x_1] rfl (n_X12_complete (a0) x_1) rfl (csum (Nat.le_of_ble_eq_true rfl)) (t_X12_complete (a0) x_1 h_27 _ hc) ?_
        obtain ⟨_, h_32⟩ := z_31
        exact go_return dX12_head_98 rfl hf
    · refine go_sub (lv' := [(0, vR Ω (some a0))]) [1] rfl ?_
      exact t_X12_head_32 a0 h q hf
-- LetterBrokerModel.frame(I)V
theorem dX12_frame_0 : decode cX12_frame 0 = .ok (.aload_n 0, 1) := by decide +kernel
theorem dX12_frame_1 : decode cX12_frame 1 = .ok (.getfield 318, 3) := by decide +kernel
theorem dX12_frame_4 : decode cX12_frame 4 = .ok (.istore_n 2, 1) := by decide +kernel
theorem dX12_frame_5 : decode cX12_frame 5 = .ok (.aload_n 0, 1) := by decide +kernel
theorem dX12_frame_6 : decode cX12_frame 6 = .ok (.getfield 88, 3) := by decide +kernel
theorem dX12_frame_9 : decode cX12_frame 9 = .ok (.iload_n 2, 1) := by decide +kernel
theorem dX12_frame_10 : decode cX12_frame 10 = .ok (.iaload, 1) := by decide +kernel
theorem dX12_frame_11 : decode cX12_frame 11 = .ok (.iconst 2, 1) := by decide +kernel
theorem dX12_frame_12 : decode cX12_frame 12 = .ok (.if_icmp .ne 59, 3) := by decide +kernel
theorem dX12_frame_15 : decode cX12_frame 15 = .ok (.iload_n 1, 1) := by decide +kernel
theorem dX12_frame_16 : decode cX12_frame 16 = .ok (.iconst 1, 1) := by decide +kernel
theorem dX12_frame_17 : decode cX12_frame 17 = .ok (.if_icmp .ne 53, 3) := by decide +kernel
theorem dX12_frame_20 : decode cX12_frame 20 = .ok (.aload_n 0, 1) := by decide +kernel
theorem dX12_frame_21 : decode cX12_frame 21 = .ok (.getfield 304, 3) := by decide +kernel
theorem dX12_frame_24 : decode cX12_frame 24 = .ok (.aload_n 0, 1) := by decide +kernel
theorem dX12_frame_25 : decode cX12_frame 25 = .ok (.getfield 301, 3) := by decide +kernel
theorem dX12_frame_28 : decode cX12_frame 28 = .ok (.isub, 1) := by decide +kernel
theorem dX12_frame_29 : decode cX12_frame 29 = .ok (.iconst 2, 1) := by decide +kernel
theorem dX12_frame_30 : decode cX12_frame 30 = .ok (.if_icmp .ne 40, 3) := by decide +kernel
theorem dX12_frame_33 : decode cX12_frame 33 = .ok (.aload_n 0, 1) := by decide +kernel
theorem dX12_frame_34 : decode cX12_frame 34 = .ok (.getfield 7, 3) := by decide +kernel
theorem dX12_frame_37 : decode cX12_frame 37 = .ok (.aload_n 0, 1) := by decide +kernel
theorem dX12_frame_38 : decode cX12_frame 38 = .ok (.getfield 301, 3) := by decide +kernel
theorem dX12_frame_41 : decode cX12_frame 41 = .ok (.iaload, 1) := by decide +kernel
theorem dX12_frame_42 : decode cX12_frame 42 = .ok (.bipush 20, 2) := by decide +kernel
theorem dX12_frame_44 : decode cX12_frame 44 = .ok (.if_icmp .ne 26, 3) := by decide +kernel
theorem dX12_frame_47 : decode cX12_frame 47 = .ok (.aload_n 0, 1) := by decide +kernel
theorem dX12_frame_48 : decode cX12_frame 48 = .ok (.getfield 7, 3) := by decide +kernel
theorem dX12_frame_51 : decode cX12_frame 51 = .ok (.aload_n 0, 1) := by decide +kernel
theorem dX12_frame_52 : decode cX12_frame 52 = .ok (.getfield 301, 3) := by decide +kernel
theorem dX12_frame_55 : decode cX12_frame 55 = .ok (.iconst 1, 1) := by decide +kernel
theorem dX12_frame_56 : decode cX12_frame 56 = .ok (.iadd, 1) := by decide +kernel
theorem dX12_frame_57 : decode cX12_frame 57 = .ok (.iaload, 1) := by decide +kernel
theorem dX12_frame_58 : decode cX12_frame 58 = .ok (.bipush 41, 2) := by decide +kernel
theorem dX12_frame_60 : decode cX12_frame 60 = .ok (.if_icmp .ne 10, 3) := by decide +kernel
theorem dX12_frame_63 : decode cX12_frame 63 = .ok (.aload_n 0, 1) := by decide +kernel
theorem dX12_frame_64 : decode cX12_frame 64 = .ok (.getfield 88, 3) := by decide +kernel
theorem dX12_frame_67 : decode cX12_frame 67 = .ok (.iload_n 2, 1) := by decide +kernel
theorem dX12_frame_68 : decode cX12_frame 68 = .ok (.iconst 0, 1) := by decide +kernel
theorem dX12_frame_69 : decode cX12_frame 69 = .ok (.iastore, 1) := by decide +kernel
theorem dX12_frame_70 : decode cX12_frame 70 = .ok (.return_, 1) := by decide +kernel
theorem dX12_frame_71 : decode cX12_frame 71 = .ok (.aload_n 0, 1) := by decide +kernel
theorem dX12_frame_72 : decode cX12_frame 72 = .ok (.getfield 88, 3) := by decide +kernel
theorem dX12_frame_75 : decode cX12_frame 75 = .ok (.iload_n 2, 1) := by decide +kernel
theorem dX12_frame_76 : decode cX12_frame 76 = .ok (.iaload, 1) := by decide +kernel
theorem dX12_frame_77 : decode cX12_frame 77 = .ok (.iconst 1, 1) := by decide +kernel
theorem dX12_frame_78 : decode cX12_frame 78 = .ok (.if_icmp .ne 12, 3) := by decide +kernel
theorem dX12_frame_81 : decode cX12_frame 81 = .ok (.aload_n 0, 1) := by decide +kernel
theorem dX12_frame_82 : decode cX12_frame 82 = .ok (.getfield 103, 3) := by decide +kernel
theorem dX12_frame_85 : decode cX12_frame 85 = .ok (.iload_n 2, 1) := by decide +kernel
theorem dX12_frame_86 : decode cX12_frame 86 = .ok (.iaload, 1) := by decide +kernel
theorem dX12_frame_87 : decode cX12_frame 87 = .ok (.goto 4, 3) := by decide +kernel
theorem dX12_frame_90 : decode cX12_frame 90 = .ok (.iconst 0, 1) := by decide +kernel
theorem dX12_frame_91 : decode cX12_frame 91 = .ok (.istore_n 3, 1) := by decide +kernel
theorem dX12_frame_92 : decode cX12_frame 92 = .ok (.iload_n 3, 1) := by decide +kernel
theorem dX12_frame_93 : decode cX12_frame 93 = .ok (.ifCond .le 13, 3) := by decide +kernel
theorem dX12_frame_96 : decode cX12_frame 96 = .ok (.iload_n 1, 1) := by decide +kernel
theorem dX12_frame_97 : decode cX12_frame 97 = .ok (.iload_n 3, 1) := by decide +kernel
theorem dX12_frame_98 : decode cX12_frame 98 = .ok (.iconst 1, 1) := by decide +kernel
theorem dX12_frame_99 : decode cX12_frame 99 = .ok (.iadd, 1) := by decide +kernel
theorem dX12_frame_100 : decode cX12_frame 100 = .ok (.if_icmp .eq 21, 3) := by decide +kernel
theorem dX12_frame_103 : decode cX12_frame 103 = .ok (.goto 8, 3) := by decide +kernel
theorem dX12_frame_106 : decode cX12_frame 106 = .ok (.iload_n 1, 1) := by decide +kernel
theorem dX12_frame_107 : decode cX12_frame 107 = .ok (.iconst 1, 1) := by decide +kernel
theorem dX12_frame_108 : decode cX12_frame 108 = .ok (.if_icmp .eq 13, 3) := by decide +kernel
theorem dX12_frame_111 : decode cX12_frame 111 = .ok (.aload_n 0, 1) := by decide +kernel
theorem dX12_frame_112 : decode cX12_frame 112 = .ok (.sipush 505, 3) := by decide +kernel
theorem dX12_frame_115 : decode cX12_frame 115 = .ok (.invokevirtual 315, 3) := by decide +kernel
theorem dX12_frame_118 : decode cX12_frame 118 = .ok (.goto 31, 3) := by decide +kernel
theorem dX12_frame_121 : decode cX12_frame 121 = .ok (.iload_n 1, 1) := by decide +kernel
theorem dX12_frame_122 : decode cX12_frame 122 = .ok (.iconst 1, 1) := by decide +kernel
theorem dX12_frame_123 : decode cX12_frame 123 = .ok (.if_icmp .ne 10, 3) := by decide +kernel
theorem dX12_frame_126 : decode cX12_frame 126 = .ok (.aload_n 0, 1) := by decide +kernel
theorem dX12_frame_127 : decode cX12_frame 127 = .ok (.invokevirtual 426, 3) := by decide +kernel
theorem dX12_frame_130 : decode cX12_frame 130 = .ok (.goto 19, 3) := by decide +kernel
theorem dX12_frame_133 : decode cX12_frame 133 = .ok (.iload_n 1, 1) := by decide +kernel
theorem dX12_frame_134 : decode cX12_frame 134 = .ok (.iconst 2, 1) := by decide +kernel
theorem dX12_frame_135 : decode cX12_frame 135 = .ok (.if_icmp .ne 10, 3) := by decide +kernel
theorem dX12_frame_138 : decode cX12_frame 138 = .ok (.aload_n 0, 1) := by decide +kernel
theorem dX12_frame_139 : decode cX12_frame 139 = .ok (.invokevirtual 429, 3) := by decide +kernel
theorem dX12_frame_142 : decode cX12_frame 142 = .ok (.goto 7, 3) := by decide +kernel
theorem dX12_frame_145 : decode cX12_frame 145 = .ok (.aload_n 0, 1) := by decide +kernel
theorem dX12_frame_146 : decode cX12_frame 146 = .ok (.invokevirtual 432, 3) := by decide +kernel
theorem dX12_frame_149 : decode cX12_frame 149 = .ok (.return_, 1) := by decide +kernel
def f_X12_frame_111 (a0 : Nat) (h : AH) : Option (Unit × AH) := kg h a0 13 (bd (f_X12_hard a0 505 h) fun _ h_2 =>
  some ((), h_2))
set_option maxRecDepth 20000 in
set_option maxHeartbeats 4000000 in
theorem t_X12_frame_111 {Ω : Om} (a0 : Nat) (h : AH) (q : Unit × AH) (hf : f_X12_frame_111 a0 h = some q) : Go Ω M_X12_frame 111 [(0, vR Ω (some a0))] [] h none q.2 := by
  unfold f_X12_frame_111 at hf
  refine go_aload_n dX12_frame_111 rfl 0 rfl ?_
  refine go_sipush 505 dX12_frame_112 (by decide) ?_
  obtain ⟨hk, hf⟩ := kg_some hf
  obtain ⟨z_1, hc, hf⟩ := bd_some hf
  refine go_callV (y2 := M_X12_hard) (c2 := 13) dX12_frame_115 mo_X12_hard ⟨Nat.le_of_ble_eq_true rfl, Nat.le_of_ble_eq_true rfl⟩ na_X12_hard w1321 w1323 (by decide) rfl w49 hk [.int 505] rfl (n_X12_hard (a0) 505) rfl (csum (Nat.le_of_ble_eq_true rfl)) (t_X12_hard (a0) 505 h _ hc) ?_
  obtain ⟨_, h_2⟩ := z_1
  refine go_goto (tgt := 149) dX12_frame_118 (by decide) ?_
  exact go_return dX12_frame_149 rfl hf
def f_X12_frame_121 (a0 : Nat) (x1 : Int32) (h : AH) : Option (Unit × AH) := (if x1 = 1 then
    kg h a0 13 (bd (f_X12_doMethod a0 h) fun _ h_6 =>
    some ((), h_6))
  else
    (if x1 = 2 then
      kg h a0 13 (bd (f_X12_head a0 h) fun _ h_4 =>
      some ((), h_4))
    else
      kg h a0 13 (bd (f_X12_body a0 h) fun _ h_2 =>
      some ((), h_2))))
set_option maxRecDepth 20000 in
set_option maxHeartbeats 4000000 in
theorem t_X12_frame_121 {Ω : Om} (a0 : Nat) (x1 : Int32) (h : AH) (q : Unit × AH) (hf : f_X12_frame_121 a0 x1 h = some q) : Go Ω M_X12_frame 121 [(0, vR Ω (some a0)), (1, .int x1)] [] h none q.2 := by
  unfold f_X12_frame_121 at hf
  refine go_iload_n dX12_frame_121 rfl 1 rfl ?_
  refine go_iconst 1 dX12_frame_122 rfl ?_
  refine go_icmp_ne (tgt := 133) dX12_frame_123 (by decide) hf (fun hf => ?_) (fun hf => ?_)
  · refine go_iload_n dX12_frame_133 rfl 1 rfl ?_
    refine go_iconst 2 dX12_frame_134 rfl ?_
    refine go_icmp_ne (tgt := 145) dX12_frame_135 (by decide) hf (fun hf => ?_) (fun hf => ?_)
    · refine go_aload_n dX12_frame_145 rfl 0 rfl ?_
      obtain ⟨hk, hf⟩ := kg_some hf
      obtain ⟨z_1, hc, hf⟩ := bd_some hf
      refine go_callV (y2 := M_X12_body) (c2 := 13) dX12_frame_146 mo_X12_body ⟨Nat.le_of_ble_eq_true rfl, Nat.le_of_ble_eq_true rfl⟩ na_X12_body w1589 w1591 (by decide) rfl w113 hk [] rfl (n_X12_body (a0)) rfl (csum (Nat.le_of_ble_eq_true rfl)) (t_X12_body (a0) h _ hc) ?_
      obtain ⟨_, h_2⟩ := z_1
      exact go_return dX12_frame_149 rfl hf
    · refine go_aload_n dX12_frame_138 rfl 0 rfl ?_
      obtain ⟨hk, hf⟩ := kg_some hf
      obtain ⟨z_3, hc, hf⟩ := bd_some hf
      refine go_callV (y2 := M_X12_head) (c2 := 13) dX12_frame_139 mo_X12_head ⟨Nat.le_of_ble_eq_true rfl, Nat.le_of_ble_eq_true rfl⟩ na_X12_head w1581 w1583 (by decide) rfl w111 hk [] rfl (n_X12_head (a0)) rfl (csum (Nat.le_of_ble_eq_true rfl)) (t_X12_head (a0) h _ hc) ?_
      obtain ⟨_, h_4⟩ := z_3
      refine go_goto (tgt := 149) dX12_frame_142 (by decide) ?_
      exact go_return dX12_frame_149 rfl hf
  · refine go_aload_n dX12_frame_126 rfl 0 rfl ?_
    obtain ⟨hk, hf⟩ := kg_some hf
    obtain ⟨z_5, hc, hf⟩ := bd_some hf
    refine go_callV (y2 := M_X12_doMethod) (c2 := 13) dX12_frame_127 mo_X12_doMethod ⟨Nat.le_of_ble_eq_true rfl, Nat.le_of_ble_eq_true rfl⟩ na_X12_doMethod w1393 w1395 (by decide) rfl w67 hk [] rfl (n_X12_doMethod (a0)) rfl (csum (Nat.le_of_ble_eq_true rfl)) (t_X12_doMethod (a0) h _ hc) ?_
    obtain ⟨_, h_6⟩ := z_5
    refine go_goto (tgt := 149) dX12_frame_130 (by decide) ?_
    exact go_return dX12_frame_149 rfl hf
def f_X12_frame_91 (a0 : Nat) (x1 : Int32) (s0 : Int32) (h : AH) : Option (Unit × AH) := (if s0 ≤ 0 then
    (if x1 = 1 then
      f_X12_frame_121 a0 x1 h
    else
      f_X12_frame_111 a0 h)
  else
    (if x1 = (s0 + 1) then
      f_X12_frame_121 a0 x1 h
    else
      f_X12_frame_111 a0 h))
set_option maxRecDepth 20000 in
set_option maxHeartbeats 4000000 in
theorem t_X12_frame_91 {Ω : Om} (a0 : Nat) (x1 : Int32) (s0 : Int32) (h : AH) (q : Unit × AH) (hf : f_X12_frame_91 a0 x1 s0 h = some q) : Go Ω M_X12_frame 91 [(0, vR Ω (some a0)), (1, .int x1)] [.int s0] h none q.2 := by
  unfold f_X12_frame_91 at hf
  refine go_istore_n (i := 3) (lv' := [(3, .int s0), (0, vR Ω (some a0)), (1, .int x1)]) dX12_frame_91 rfl (by decide) (by first | rfl | simp [catR, catI, catJ]) ?_
  refine go_iload_n dX12_frame_92 rfl 0 rfl ?_
  refine go_if_le (tgt := 106) dX12_frame_93 (by decide) hf (fun hf => ?_) (fun hf => ?_)
  · refine go_iload_n dX12_frame_106 rfl 2 rfl ?_
    refine go_iconst 1 dX12_frame_107 rfl ?_
    refine go_icmp_eq (tgt := 121) dX12_frame_108 (by decide) hf (fun hf => ?_) (fun hf => ?_)
    · refine go_sub (lv' := [(0, vR Ω (some a0)), (1, .int x1)]) [1, 2] rfl ?_
      exact t_X12_frame_121 a0 x1 h q hf
    · refine go_sub (lv' := [(0, vR Ω (some a0))]) [1] rfl ?_
      exact t_X12_frame_111 a0 h q hf
  · refine go_iload_n dX12_frame_96 rfl 2 rfl ?_
    refine go_iload_n dX12_frame_97 rfl 0 rfl ?_
    refine go_iconst 1 dX12_frame_98 rfl ?_
    refine go_iadd dX12_frame_99 ?_
    refine go_icmp_eq (tgt := 121) dX12_frame_100 (by decide) hf (fun hf => ?_) (fun hf => ?_)
    · refine go_sub (lv' := [(0, vR Ω (some a0)), (1, .int x1)]) [1, 2] rfl ?_
      exact t_X12_frame_121 a0 x1 h q hf
    · refine go_goto (tgt := 111) dX12_frame_103 (by decide) ?_
      refine go_sub (lv' := [(0, vR Ω (some a0))]) [1] rfl ?_
      exact t_X12_frame_111 a0 h q hf
def f_X12_frame (a0 : Nat) (x1 : Int32) (h : AH) : Option (Unit × AH) := rdI h a0 13 54 fun x_1 =>
  rdR h a0 13 35 fun r_2 =>
  nn r_2 fun a_3 =>
  arI h a_3 x_1 fun x_4 =>
  (if x_4 = 2 then
    (if x1 = 1 then
      rdI h a0 13 56 fun x_11 =>
      rdI h a0 13 55 fun x_12 =>
      (if (x_11 - x_12) = 2 then
        rdR h a0 13 1 fun r_13 =>
        rdI h a0 13 55 fun x_14 =>
        nn r_13 fun a_15 =>
        arI h a_15 x_14 fun x_16 =>
        (if x_16 = 20 then
          rdR h a0 13 1 fun r_17 =>
          rdI h a0 13 55 fun x_18 =>
          nn r_17 fun a_19 =>
          arI h a_19 (x_18 + 1) fun x_20 =>
          (if x_20 = 41 then
            rdR h a0 13 35 fun r_21 =>
            nn r_21 fun a_22 =>
            asI h a_22 x_1 0 fun h_23 =>
            some ((), h_23)
          else
            some ((), h))
        else
          some ((), h))
      else
        some ((), h))
    else
      some ((), h))
  else
    rdR h a0 13 35 fun r_5 =>
    nn r_5 fun a_6 =>
    arI h a_6 x_1 fun x_7 =>
    (if x_7 = 1 then
      rdR h a0 13 40 fun r_8 =>
      nn r_8 fun a_9 =>
      arI h a_9 x_1 fun x_10 =>
      f_X12_frame_91 a0 x1 x_10 h
    else
      f_X12_frame_91 a0 x1 0 h))
set_option maxRecDepth 20000 in
set_option maxHeartbeats 4000000 in
theorem t_X12_frame {Ω : Om} (a0 : Nat) (x1 : Int32) (h : AH) (q : Unit × AH) (hf : f_X12_frame a0 x1 h = some q) : Go Ω M_X12_frame 0 (lv_args 0 [vR Ω (some a0), .int x1]) [] h none q.2 := by
  unfold f_X12_frame at hf
  rw [la_R, la_I, la_0]
  refine go_sub (lv' := [(0, vR Ω (some a0)), (1, .int x1)]) [0, 1] rfl ?_
  refine go_aload_n dX12_frame_0 rfl 0 rfl ?_
  refine go_getI dX12_frame_1 fl_1173_0 (fun _ _ => rfl) hf (fun x_1 hf => ?_)
  refine go_istore_n (i := 2) (lv' := [(2, .int x_1), (0, vR Ω (some a0)), (1, .int x1)]) dX12_frame_4 rfl (by decide) (by first | rfl | simp [catR, catI, catJ]) ?_
  refine go_aload_n dX12_frame_5 rfl 1 rfl ?_
  refine go_getR dX12_frame_6 fl_1154_0 (fun _ _ => rfl) hf (fun r_2 hf => ?_)
  refine go_iload_n dX12_frame_9 rfl 0 rfl ?_
  obtain ⟨a_3, rfl, hga_3⟩ := nn_some hf
  have hf := hga_3
  refine go_iaload dX12_frame_10 hf (fun x_4 hf => ?_)
  refine go_iconst 2 dX12_frame_11 rfl ?_
  refine go_icmp_ne (tgt := 71) dX12_frame_12 (by decide) hf (fun hf => ?_) (fun hf => ?_)
  · refine go_aload_n dX12_frame_71 rfl 1 rfl ?_
    refine go_getR dX12_frame_72 fl_1154_0 (fun _ _ => rfl) hf (fun r_5 hf => ?_)
    refine go_iload_n dX12_frame_75 rfl 0 rfl ?_
    obtain ⟨a_6, rfl, hga_6⟩ := nn_some hf
    have hf := hga_6
    refine go_iaload dX12_frame_76 hf (fun x_7 hf => ?_)
    refine go_iconst 1 dX12_frame_77 rfl ?_
    refine go_icmp_ne (tgt := 90) dX12_frame_78 (by decide) hf (fun hf => ?_) (fun hf => ?_)
    · refine go_iconst 0 dX12_frame_90 rfl ?_
      refine go_sub (lv' := [(0, vR Ω (some a0)), (1, .int x1)]) [1, 2] rfl ?_
      exact t_X12_frame_91 a0 x1 0 h q hf
    · refine go_aload_n dX12_frame_81 rfl 1 rfl ?_
      refine go_getR dX12_frame_82 fl_1159_0 (fun _ _ => rfl) hf (fun r_8 hf => ?_)
      refine go_iload_n dX12_frame_85 rfl 0 rfl ?_
      obtain ⟨a_9, rfl, hga_9⟩ := nn_some hf
      have hf := hga_9
      refine go_iaload dX12_frame_86 hf (fun x_10 hf => ?_)
      refine go_goto (tgt := 91) dX12_frame_87 (by decide) ?_
      refine go_sub (lv' := [(0, vR Ω (some a0)), (1, .int x1)]) [1, 2] rfl ?_
      exact t_X12_frame_91 a0 x1 x_10 h q hf
  · refine go_iload_n dX12_frame_15 rfl 2 rfl ?_
    refine go_iconst 1 dX12_frame_16 rfl ?_
    refine go_icmp_ne (tgt := 70) dX12_frame_17 (by decide) hf (fun hf => ?_) (fun hf => ?_)
    · exact go_return dX12_frame_70 rfl hf
    · refine go_aload_n dX12_frame_20 rfl 1 rfl ?_
      refine go_getI dX12_frame_21 fl_1175_0 (fun _ _ => rfl) hf (fun x_11 hf => ?_)
      refine go_aload_n dX12_frame_24 rfl 1 rfl ?_
      refine go_getI dX12_frame_25 fl_1174_0 (fun _ _ => rfl) hf (fun x_12 hf => ?_)
      refine go_isub dX12_frame_28 ?_
      refine go_iconst 2 dX12_frame_29 rfl ?_
      refine go_icmp_ne (tgt := 70) dX12_frame_30 (by decide) hf (fun hf => ?_) (fun hf => ?_)
      · exact go_return dX12_frame_70 rfl hf
      · refine go_aload_n dX12_frame_33 rfl 1 rfl ?_
        refine go_getR dX12_frame_34 fl_1120_0 (fun _ _ => rfl) hf (fun r_13 hf => ?_)
        refine go_aload_n dX12_frame_37 rfl 1 rfl ?_
        refine go_getI dX12_frame_38 fl_1174_0 (fun _ _ => rfl) hf (fun x_14 hf => ?_)
        obtain ⟨a_15, rfl, hga_15⟩ := nn_some hf
        have hf := hga_15
        refine go_iaload dX12_frame_41 hf (fun x_16 hf => ?_)
        refine go_bipush 20 dX12_frame_42 (by decide) ?_
        refine go_icmp_ne (tgt := 70) dX12_frame_44 (by decide) hf (fun hf => ?_) (fun hf => ?_)
        · exact go_return dX12_frame_70 rfl hf
        · refine go_aload_n dX12_frame_47 rfl 1 rfl ?_
          refine go_getR dX12_frame_48 fl_1120_0 (fun _ _ => rfl) hf (fun r_17 hf => ?_)
          refine go_aload_n dX12_frame_51 rfl 1 rfl ?_
          refine go_getI dX12_frame_52 fl_1174_0 (fun _ _ => rfl) hf (fun x_18 hf => ?_)
          refine go_iconst 1 dX12_frame_55 rfl ?_
          refine go_iadd dX12_frame_56 ?_
          obtain ⟨a_19, rfl, hga_19⟩ := nn_some hf
          have hf := hga_19
          refine go_iaload dX12_frame_57 hf (fun x_20 hf => ?_)
          refine go_bipush 41 dX12_frame_58 (by decide) ?_
          refine go_icmp_ne (tgt := 70) dX12_frame_60 (by decide) hf (fun hf => ?_) (fun hf => ?_)
          · exact go_return dX12_frame_70 rfl hf
          · refine go_aload_n dX12_frame_63 rfl 1 rfl ?_
            refine go_getR dX12_frame_64 fl_1154_0 (fun _ _ => rfl) hf (fun r_21 hf => ?_)
            refine go_iload_n dX12_frame_67 rfl 0 rfl ?_
            refine go_iconst 0 dX12_frame_68 rfl ?_
            obtain ⟨a_22, rfl, hga_22⟩ := nn_some hf
            have hf := hga_22
            refine go_iastore dX12_frame_69 hf (fun h_23 hf => ?_)
            exact go_return dX12_frame_70 rfl hf
-- LetterBrokerModel.frameLength()I
theorem dX12_frameLength_0 : decode cX12_frameLength 0 = .ok (.aload_n 0, 1) := by decide +kernel
theorem dX12_frameLength_1 : decode cX12_frameLength 1 = .ok (.getfield 210, 3) := by decide +kernel
theorem dX12_frameLength_4 : decode cX12_frameLength 4 = .ok (.ifCond .le 23, 3) := by decide +kernel
theorem dX12_frameLength_7 : decode cX12_frameLength 7 = .ok (.aload_n 0, 1) := by decide +kernel
theorem dX12_frameLength_8 : decode cX12_frameLength 8 = .ok (.getfield 7, 3) := by decide +kernel
theorem dX12_frameLength_11 : decode cX12_frameLength 11 = .ok (.iconst 0, 1) := by decide +kernel
theorem dX12_frameLength_12 : decode cX12_frameLength 12 = .ok (.iaload, 1) := by decide +kernel
theorem dX12_frameLength_13 : decode cX12_frameLength 13 = .ok (.iconst 1, 1) := by decide +kernel
theorem dX12_frameLength_14 : decode cX12_frameLength 14 = .ok (.if_icmp .lt 50, 3) := by decide +kernel
theorem dX12_frameLength_17 : decode cX12_frameLength 17 = .ok (.aload_n 0, 1) := by decide +kernel
theorem dX12_frameLength_18 : decode cX12_frameLength 18 = .ok (.getfield 7, 3) := by decide +kernel
theorem dX12_frameLength_21 : decode cX12_frameLength 21 = .ok (.iconst 0, 1) := by decide +kernel
theorem dX12_frameLength_22 : decode cX12_frameLength 22 = .ok (.iaload, 1) := by decide +kernel
theorem dX12_frameLength_23 : decode cX12_frameLength 23 = .ok (.iconst 3, 1) := by decide +kernel
theorem dX12_frameLength_24 : decode cX12_frameLength 24 = .ok (.if_icmp .gt 40, 3) := by decide +kernel
theorem dX12_frameLength_27 : decode cX12_frameLength 27 = .ok (.aload_n 0, 1) := by decide +kernel
theorem dX12_frameLength_28 : decode cX12_frameLength 28 = .ok (.getfield 210, 3) := by decide +kernel
theorem dX12_frameLength_31 : decode cX12_frameLength 31 = .ok (.iconst 1, 1) := by decide +kernel
theorem dX12_frameLength_32 : decode cX12_frameLength 32 = .ok (.if_icmp .le 13, 3) := by decide +kernel
theorem dX12_frameLength_35 : decode cX12_frameLength 35 = .ok (.aload_n 0, 1) := by decide +kernel
theorem dX12_frameLength_36 : decode cX12_frameLength 36 = .ok (.getfield 7, 3) := by decide +kernel
theorem dX12_frameLength_39 : decode cX12_frameLength 39 = .ok (.iconst 1, 1) := by decide +kernel
theorem dX12_frameLength_40 : decode cX12_frameLength 40 = .ok (.iaload, 1) := by decide +kernel
theorem dX12_frameLength_41 : decode cX12_frameLength 41 = .ok (.iconst 3, 1) := by decide +kernel
theorem dX12_frameLength_42 : decode cX12_frameLength 42 = .ok (.if_icmp .gt 22, 3) := by decide +kernel
theorem dX12_frameLength_45 : decode cX12_frameLength 45 = .ok (.aload_n 0, 1) := by decide +kernel
theorem dX12_frameLength_46 : decode cX12_frameLength 46 = .ok (.getfield 210, 3) := by decide +kernel
theorem dX12_frameLength_49 : decode cX12_frameLength 49 = .ok (.iconst 2, 1) := by decide +kernel
theorem dX12_frameLength_50 : decode cX12_frameLength 50 = .ok (.if_icmp .le 16, 3) := by decide +kernel
theorem dX12_frameLength_53 : decode cX12_frameLength 53 = .ok (.aload_n 0, 1) := by decide +kernel
theorem dX12_frameLength_54 : decode cX12_frameLength 54 = .ok (.getfield 7, 3) := by decide +kernel
theorem dX12_frameLength_57 : decode cX12_frameLength 57 = .ok (.iconst 2, 1) := by decide +kernel
theorem dX12_frameLength_58 : decode cX12_frameLength 58 = .ok (.iaload, 1) := by decide +kernel
theorem dX12_frameLength_59 : decode cX12_frameLength 59 = .ok (.bipush 40, 2) := by decide +kernel
theorem dX12_frameLength_61 : decode cX12_frameLength 61 = .ok (.if_icmp .le 5, 3) := by decide +kernel
theorem dX12_frameLength_64 : decode cX12_frameLength 64 = .ok (.iconst (-1), 1) := by decide +kernel
theorem dX12_frameLength_65 : decode cX12_frameLength 65 = .ok (.ireturn, 1) := by decide +kernel
theorem dX12_frameLength_66 : decode cX12_frameLength 66 = .ok (.aload_n 0, 1) := by decide +kernel
theorem dX12_frameLength_67 : decode cX12_frameLength 67 = .ok (.getfield 210, 3) := by decide +kernel
theorem dX12_frameLength_70 : decode cX12_frameLength 70 = .ok (.iconst 3, 1) := by decide +kernel
theorem dX12_frameLength_71 : decode cX12_frameLength 71 = .ok (.if_icmp .lt 18, 3) := by decide +kernel
theorem dX12_frameLength_74 : decode cX12_frameLength 74 = .ok (.aload_n 0, 1) := by decide +kernel
theorem dX12_frameLength_75 : decode cX12_frameLength 75 = .ok (.getfield 210, 3) := by decide +kernel
theorem dX12_frameLength_78 : decode cX12_frameLength 78 = .ok (.aload_n 0, 1) := by decide +kernel
theorem dX12_frameLength_79 : decode cX12_frameLength 79 = .ok (.getfield 7, 3) := by decide +kernel
theorem dX12_frameLength_82 : decode cX12_frameLength 82 = .ok (.iconst 2, 1) := by decide +kernel
theorem dX12_frameLength_83 : decode cX12_frameLength 83 = .ok (.iaload, 1) := by decide +kernel
theorem dX12_frameLength_84 : decode cX12_frameLength 84 = .ok (.iconst 4, 1) := by decide +kernel
theorem dX12_frameLength_85 : decode cX12_frameLength 85 = .ok (.iadd, 1) := by decide +kernel
theorem dX12_frameLength_86 : decode cX12_frameLength 86 = .ok (.if_icmp .ge 5, 3) := by decide +kernel
theorem dX12_frameLength_89 : decode cX12_frameLength 89 = .ok (.iconst 0, 1) := by decide +kernel
theorem dX12_frameLength_90 : decode cX12_frameLength 90 = .ok (.ireturn, 1) := by decide +kernel
theorem dX12_frameLength_91 : decode cX12_frameLength 91 = .ok (.aload_n 0, 1) := by decide +kernel
theorem dX12_frameLength_92 : decode cX12_frameLength 92 = .ok (.getfield 7, 3) := by decide +kernel
theorem dX12_frameLength_95 : decode cX12_frameLength 95 = .ok (.aload_n 0, 1) := by decide +kernel
theorem dX12_frameLength_96 : decode cX12_frameLength 96 = .ok (.getfield 7, 3) := by decide +kernel
theorem dX12_frameLength_99 : decode cX12_frameLength 99 = .ok (.iconst 2, 1) := by decide +kernel
theorem dX12_frameLength_100 : decode cX12_frameLength 100 = .ok (.iaload, 1) := by decide +kernel
theorem dX12_frameLength_101 : decode cX12_frameLength 101 = .ok (.iconst 3, 1) := by decide +kernel
theorem dX12_frameLength_102 : decode cX12_frameLength 102 = .ok (.iadd, 1) := by decide +kernel
theorem dX12_frameLength_103 : decode cX12_frameLength 103 = .ok (.iaload, 1) := by decide +kernel
theorem dX12_frameLength_104 : decode cX12_frameLength 104 = .ok (.sipush 206, 3) := by decide +kernel
theorem dX12_frameLength_107 : decode cX12_frameLength 107 = .ok (.if_icmp .ne 14, 3) := by decide +kernel
theorem dX12_frameLength_110 : decode cX12_frameLength 110 = .ok (.aload_n 0, 1) := by decide +kernel
theorem dX12_frameLength_111 : decode cX12_frameLength 111 = .ok (.getfield 7, 3) := by decide +kernel
theorem dX12_frameLength_114 : decode cX12_frameLength 114 = .ok (.iconst 2, 1) := by decide +kernel
theorem dX12_frameLength_115 : decode cX12_frameLength 115 = .ok (.iaload, 1) := by decide +kernel
theorem dX12_frameLength_116 : decode cX12_frameLength 116 = .ok (.iconst 4, 1) := by decide +kernel
theorem dX12_frameLength_117 : decode cX12_frameLength 117 = .ok (.iadd, 1) := by decide +kernel
theorem dX12_frameLength_118 : decode cX12_frameLength 118 = .ok (.goto 4, 3) := by decide +kernel
theorem dX12_frameLength_121 : decode cX12_frameLength 121 = .ok (.iconst (-1), 1) := by decide +kernel
theorem dX12_frameLength_122 : decode cX12_frameLength 122 = .ok (.ireturn, 1) := by decide +kernel
def f_X12_frameLength_66 (a0 : Nat) (h : AH) : Option (Int32 × AH) := rdI h a0 13 2 fun x_1 =>
  (if x_1 < 3 then
    some (0, h)
  else
    rdI h a0 13 2 fun x_2 =>
    rdR h a0 13 1 fun r_3 =>
    nn r_3 fun a_4 =>
    arI h a_4 2 fun x_5 =>
    (if (x_5 + 4) ≤ x_2 then
      rdR h a0 13 1 fun r_6 =>
      rdR h a0 13 1 fun r_7 =>
      nn r_7 fun a_8 =>
      arI h a_8 2 fun x_9 =>
      nn r_6 fun a_10 =>
      arI h a_10 (x_9 + 3) fun x_11 =>
      (if x_11 = 206 then
        rdR h a0 13 1 fun r_12 =>
        nn r_12 fun a_13 =>
        arI h a_13 2 fun x_14 =>
        some ((x_14 + 4), h)
      else
        some (((-1)), h))
    else
      some (0, h)))
set_option maxRecDepth 20000 in
set_option maxHeartbeats 4000000 in
theorem t_X12_frameLength_66 {Ω : Om} (a0 : Nat) (h : AH) (q : Int32 × AH) (hf : f_X12_frameLength_66 a0 h = some q) : Go Ω M_X12_frameLength 66 [(0, vR Ω (some a0))] [] h (some (.int q.1)) q.2 := by
  unfold f_X12_frameLength_66 at hf
  refine go_aload_n dX12_frameLength_66 rfl 0 rfl ?_
  refine go_getI dX12_frameLength_67 fl_1121_0 (fun _ _ => rfl) hf (fun x_1 hf => ?_)
  refine go_iconst 3 dX12_frameLength_70 rfl ?_
  refine go_icmp_lt (tgt := 89) dX12_frameLength_71 (by decide) hf (fun hf => ?_) (fun hf => ?_)
  · refine go_iconst 0 dX12_frameLength_89 rfl ?_
    exact go_ireturn dX12_frameLength_90 rfl hf
  · refine go_aload_n dX12_frameLength_74 rfl 0 rfl ?_
    refine go_getI dX12_frameLength_75 fl_1121_0 (fun _ _ => rfl) hf (fun x_2 hf => ?_)
    refine go_aload_n dX12_frameLength_78 rfl 0 rfl ?_
    refine go_getR dX12_frameLength_79 fl_1120_0 (fun _ _ => rfl) hf (fun r_3 hf => ?_)
    refine go_iconst 2 dX12_frameLength_82 rfl ?_
    obtain ⟨a_4, rfl, hga_4⟩ := nn_some hf
    have hf := hga_4
    refine go_iaload dX12_frameLength_83 hf (fun x_5 hf => ?_)
    refine go_iconst 4 dX12_frameLength_84 rfl ?_
    refine go_iadd dX12_frameLength_85 ?_
    refine go_icmp_ge (tgt := 91) dX12_frameLength_86 (by decide) hf (fun hf => ?_) (fun hf => ?_)
    · refine go_aload_n dX12_frameLength_91 rfl 0 rfl ?_
      refine go_getR dX12_frameLength_92 fl_1120_0 (fun _ _ => rfl) hf (fun r_6 hf => ?_)
      refine go_aload_n dX12_frameLength_95 rfl 0 rfl ?_
      refine go_getR dX12_frameLength_96 fl_1120_0 (fun _ _ => rfl) hf (fun r_7 hf => ?_)
      refine go_iconst 2 dX12_frameLength_99 rfl ?_
      obtain ⟨a_8, rfl, hga_8⟩ := nn_some hf
      have hf := hga_8
      refine go_iaload dX12_frameLength_100 hf (fun x_9 hf => ?_)
      refine go_iconst 3 dX12_frameLength_101 rfl ?_
      refine go_iadd dX12_frameLength_102 ?_
      obtain ⟨a_10, rfl, hga_10⟩ := nn_some hf
      have hf := hga_10
      refine go_iaload dX12_frameLength_103 hf (fun x_11 hf => ?_)
      refine go_sipush 206 dX12_frameLength_104 (by decide) ?_
      refine go_icmp_ne (tgt := 121) dX12_frameLength_107 (by decide) hf (fun hf => ?_) (fun hf => ?_)
      · refine go_iconst (-1) dX12_frameLength_121 rfl ?_
        exact go_ireturn dX12_frameLength_122 rfl hf
      · refine go_aload_n dX12_frameLength_110 rfl 0 rfl ?_
        refine go_getR dX12_frameLength_111 fl_1120_0 (fun _ _ => rfl) hf (fun r_12 hf => ?_)
        refine go_iconst 2 dX12_frameLength_114 rfl ?_
        obtain ⟨a_13, rfl, hga_13⟩ := nn_some hf
        have hf := hga_13
        refine go_iaload dX12_frameLength_115 hf (fun x_14 hf => ?_)
        refine go_iconst 4 dX12_frameLength_116 rfl ?_
        refine go_iadd dX12_frameLength_117 ?_
        refine go_goto (tgt := 122) dX12_frameLength_118 (by decide) ?_
        exact go_ireturn dX12_frameLength_122 rfl hf
    · refine go_iconst 0 dX12_frameLength_89 rfl ?_
      exact go_ireturn dX12_frameLength_90 rfl hf
def f_X12_frameLength_45 (a0 : Nat) (h : AH) : Option (Int32 × AH) := rdI h a0 13 2 fun x_1 =>
  (if x_1 ≤ 2 then
    f_X12_frameLength_66 a0 h
  else
    rdR h a0 13 1 fun r_2 =>
    nn r_2 fun a_3 =>
    arI h a_3 2 fun x_4 =>
    (if x_4 ≤ 40 then
      f_X12_frameLength_66 a0 h
    else
      some (((-1)), h)))
set_option maxRecDepth 20000 in
set_option maxHeartbeats 4000000 in
theorem t_X12_frameLength_45 {Ω : Om} (a0 : Nat) (h : AH) (q : Int32 × AH) (hf : f_X12_frameLength_45 a0 h = some q) : Go Ω M_X12_frameLength 45 [(0, vR Ω (some a0))] [] h (some (.int q.1)) q.2 := by
  unfold f_X12_frameLength_45 at hf
  refine go_aload_n dX12_frameLength_45 rfl 0 rfl ?_
  refine go_getI dX12_frameLength_46 fl_1121_0 (fun _ _ => rfl) hf (fun x_1 hf => ?_)
  refine go_iconst 2 dX12_frameLength_49 rfl ?_
  refine go_icmp_le (tgt := 66) dX12_frameLength_50 (by decide) hf (fun hf => ?_) (fun hf => ?_)
  · refine go_sub (lv' := [(0, vR Ω (some a0))]) [0] rfl ?_
    exact t_X12_frameLength_66 a0 h q hf
  · refine go_aload_n dX12_frameLength_53 rfl 0 rfl ?_
    refine go_getR dX12_frameLength_54 fl_1120_0 (fun _ _ => rfl) hf (fun r_2 hf => ?_)
    refine go_iconst 2 dX12_frameLength_57 rfl ?_
    obtain ⟨a_3, rfl, hga_3⟩ := nn_some hf
    have hf := hga_3
    refine go_iaload dX12_frameLength_58 hf (fun x_4 hf => ?_)
    refine go_bipush 40 dX12_frameLength_59 (by decide) ?_
    refine go_icmp_le (tgt := 66) dX12_frameLength_61 (by decide) hf (fun hf => ?_) (fun hf => ?_)
    · refine go_sub (lv' := [(0, vR Ω (some a0))]) [0] rfl ?_
      exact t_X12_frameLength_66 a0 h q hf
    · refine go_iconst (-1) dX12_frameLength_64 rfl ?_
      exact go_ireturn dX12_frameLength_65 rfl hf
def f_X12_frameLength_27 (a0 : Nat) (h : AH) : Option (Int32 × AH) := rdI h a0 13 2 fun x_1 =>
  (if x_1 ≤ 1 then
    f_X12_frameLength_45 a0 h
  else
    rdR h a0 13 1 fun r_2 =>
    nn r_2 fun a_3 =>
    arI h a_3 1 fun x_4 =>
    (if 3 < x_4 then
      some (((-1)), h)
    else
      f_X12_frameLength_45 a0 h))
set_option maxRecDepth 20000 in
set_option maxHeartbeats 4000000 in
theorem t_X12_frameLength_27 {Ω : Om} (a0 : Nat) (h : AH) (q : Int32 × AH) (hf : f_X12_frameLength_27 a0 h = some q) : Go Ω M_X12_frameLength 27 [(0, vR Ω (some a0))] [] h (some (.int q.1)) q.2 := by
  unfold f_X12_frameLength_27 at hf
  refine go_aload_n dX12_frameLength_27 rfl 0 rfl ?_
  refine go_getI dX12_frameLength_28 fl_1121_0 (fun _ _ => rfl) hf (fun x_1 hf => ?_)
  refine go_iconst 1 dX12_frameLength_31 rfl ?_
  refine go_icmp_le (tgt := 45) dX12_frameLength_32 (by decide) hf (fun hf => ?_) (fun hf => ?_)
  · refine go_sub (lv' := [(0, vR Ω (some a0))]) [0] rfl ?_
    exact t_X12_frameLength_45 a0 h q hf
  · refine go_aload_n dX12_frameLength_35 rfl 0 rfl ?_
    refine go_getR dX12_frameLength_36 fl_1120_0 (fun _ _ => rfl) hf (fun r_2 hf => ?_)
    refine go_iconst 1 dX12_frameLength_39 rfl ?_
    obtain ⟨a_3, rfl, hga_3⟩ := nn_some hf
    have hf := hga_3
    refine go_iaload dX12_frameLength_40 hf (fun x_4 hf => ?_)
    refine go_iconst 3 dX12_frameLength_41 rfl ?_
    refine go_icmp_gt (tgt := 64) dX12_frameLength_42 (by decide) hf (fun hf => ?_) (fun hf => ?_)
    · refine go_iconst (-1) dX12_frameLength_64 rfl ?_
      exact go_ireturn dX12_frameLength_65 rfl hf
    · refine go_sub (lv' := [(0, vR Ω (some a0))]) [0] rfl ?_
      exact t_X12_frameLength_45 a0 h q hf
def f_X12_frameLength (a0 : Nat) (h : AH) : Option (Int32 × AH) := rdI h a0 13 2 fun x_1 =>
  (if x_1 ≤ 0 then
    f_X12_frameLength_27 a0 h
  else
    rdR h a0 13 1 fun r_2 =>
    nn r_2 fun a_3 =>
    arI h a_3 0 fun x_4 =>
    (if x_4 < 1 then
      some (((-1)), h)
    else
      rdR h a0 13 1 fun r_5 =>
      nn r_5 fun a_6 =>
      arI h a_6 0 fun x_7 =>
      (if 3 < x_7 then
        some (((-1)), h)
      else
        f_X12_frameLength_27 a0 h)))
set_option maxRecDepth 20000 in
set_option maxHeartbeats 4000000 in
theorem t_X12_frameLength {Ω : Om} (a0 : Nat) (h : AH) (q : Int32 × AH) (hf : f_X12_frameLength a0 h = some q) : Go Ω M_X12_frameLength 0 (lv_args 0 [vR Ω (some a0)]) [] h (some (.int q.1)) q.2 := by
  unfold f_X12_frameLength at hf
  rw [la_R, la_0]
  refine go_sub (lv' := [(0, vR Ω (some a0))]) [0] rfl ?_
  refine go_aload_n dX12_frameLength_0 rfl 0 rfl ?_
  refine go_getI dX12_frameLength_1 fl_1121_0 (fun _ _ => rfl) hf (fun x_1 hf => ?_)
  refine go_if_le (tgt := 27) dX12_frameLength_4 (by decide) hf (fun hf => ?_) (fun hf => ?_)
  · refine go_sub (lv' := [(0, vR Ω (some a0))]) [0] rfl ?_
    exact t_X12_frameLength_27 a0 h q hf
  · refine go_aload_n dX12_frameLength_7 rfl 0 rfl ?_
    refine go_getR dX12_frameLength_8 fl_1120_0 (fun _ _ => rfl) hf (fun r_2 hf => ?_)
    refine go_iconst 0 dX12_frameLength_11 rfl ?_
    obtain ⟨a_3, rfl, hga_3⟩ := nn_some hf
    have hf := hga_3
    refine go_iaload dX12_frameLength_12 hf (fun x_4 hf => ?_)
    refine go_iconst 1 dX12_frameLength_13 rfl ?_
    refine go_icmp_lt (tgt := 64) dX12_frameLength_14 (by decide) hf (fun hf => ?_) (fun hf => ?_)
    · refine go_iconst (-1) dX12_frameLength_64 rfl ?_
      exact go_ireturn dX12_frameLength_65 rfl hf
    · refine go_aload_n dX12_frameLength_17 rfl 0 rfl ?_
      refine go_getR dX12_frameLength_18 fl_1120_0 (fun _ _ => rfl) hf (fun r_5 hf => ?_)
      refine go_iconst 0 dX12_frameLength_21 rfl ?_
      obtain ⟨a_6, rfl, hga_6⟩ := nn_some hf
      have hf := hga_6
      refine go_iaload dX12_frameLength_22 hf (fun x_7 hf => ?_)
      refine go_iconst 3 dX12_frameLength_23 rfl ?_
      refine go_icmp_gt (tgt := 64) dX12_frameLength_24 (by decide) hf (fun hf => ?_) (fun hf => ?_)
      · refine go_iconst (-1) dX12_frameLength_64 rfl ?_
        exact go_ireturn dX12_frameLength_65 rfl hf
      · refine go_sub (lv' := [(0, vR Ω (some a0))]) [0] rfl ?_
        exact t_X12_frameLength_27 a0 h q hf
-- LetterBrokerModel.greet()I
theorem dX12_greet_0 : decode cX12_greet 0 = .ok (.iconst 0, 1) := by decide +kernel
theorem dX12_greet_1 : decode cX12_greet 1 = .ok (.istore_n 1, 1) := by decide +kernel
theorem dX12_greet_2 : decode cX12_greet 2 = .ok (.iload_n 1, 1) := by decide +kernel
theorem dX12_greet_3 : decode cX12_greet 3 = .ok (.bipush 8, 2) := by decide +kernel
theorem dX12_greet_5 : decode cX12_greet 5 = .ok (.if_icmp .ge 54, 3) := by decide +kernel
theorem dX12_greet_8 : decode cX12_greet 8 = .ok (.iload_n 1, 1) := by decide +kernel
theorem dX12_greet_9 : decode cX12_greet 9 = .ok (.aload_n 0, 1) := by decide +kernel
theorem dX12_greet_10 : decode cX12_greet 10 = .ok (.getfield 210, 3) := by decide +kernel
theorem dX12_greet_13 : decode cX12_greet 13 = .ok (.if_icmp .lt 5, 3) := by decide +kernel
theorem dX12_greet_16 : decode cX12_greet 16 = .ok (.iconst 0, 1) := by decide +kernel
theorem dX12_greet_17 : decode cX12_greet 17 = .ok (.ireturn, 1) := by decide +kernel
theorem dX12_greet_18 : decode cX12_greet 18 = .ok (.aload_n 0, 1) := by decide +kernel
theorem dX12_greet_19 : decode cX12_greet 19 = .ok (.getfield 7, 3) := by decide +kernel
theorem dX12_greet_22 : decode cX12_greet 22 = .ok (.iload_n 1, 1) := by decide +kernel
theorem dX12_greet_23 : decode cX12_greet 23 = .ok (.iaload, 1) := by decide +kernel
theorem dX12_greet_24 : decode cX12_greet 24 = .ok (.i2l, 1) := by decide +kernel
theorem dX12_greet_25 : decode cX12_greet 25 = .ok (.ldc2_w 435, 3) := by decide +kernel
theorem dX12_greet_28 : decode cX12_greet 28 = .ok (.bipush 56, 2) := by decide +kernel
theorem dX12_greet_30 : decode cX12_greet 30 = .ok (.bipush 8, 2) := by decide +kernel
theorem dX12_greet_32 : decode cX12_greet 32 = .ok (.iload_n 1, 1) := by decide +kernel
theorem dX12_greet_33 : decode cX12_greet 33 = .ok (.imul, 1) := by decide +kernel
theorem dX12_greet_34 : decode cX12_greet 34 = .ok (.isub, 1) := by decide +kernel
theorem dX12_greet_35 : decode cX12_greet 35 = .ok (.lshr, 1) := by decide +kernel
theorem dX12_greet_36 : decode cX12_greet 36 = .ok (.ldc2_w 225, 3) := by decide +kernel
theorem dX12_greet_39 : decode cX12_greet 39 = .ok (.land, 1) := by decide +kernel
theorem dX12_greet_40 : decode cX12_greet 40 = .ok (.lcmp, 1) := by decide +kernel
theorem dX12_greet_41 : decode cX12_greet 41 = .ok (.ifCond .eq 12, 3) := by decide +kernel
theorem dX12_greet_44 : decode cX12_greet 44 = .ok (.aload_n 0, 1) := by decide +kernel
theorem dX12_greet_45 : decode cX12_greet 45 = .ok (.sipush 501, 3) := by decide +kernel
theorem dX12_greet_48 : decode cX12_greet 48 = .ok (.invokevirtual 315, 3) := by decide +kernel
theorem dX12_greet_51 : decode cX12_greet 51 = .ok (.iconst 1, 1) := by decide +kernel
theorem dX12_greet_52 : decode cX12_greet 52 = .ok (.ireturn, 1) := by decide +kernel
theorem dX12_greet_53 : decode cX12_greet 53 = .ok (.iinc 1 1, 3) := by decide +kernel
theorem dX12_greet_56 : decode cX12_greet 56 = .ok (.goto (-54), 3) := by decide +kernel
theorem dX12_greet_59 : decode cX12_greet 59 = .ok (.aload_n 0, 1) := by decide +kernel
theorem dX12_greet_60 : decode cX12_greet 60 = .ok (.bipush 8, 2) := by decide +kernel
theorem dX12_greet_62 : decode cX12_greet 62 = .ok (.invokevirtual 437, 3) := by decide +kernel
theorem dX12_greet_65 : decode cX12_greet 65 = .ok (.aload_n 0, 1) := by decide +kernel
theorem dX12_greet_66 : decode cX12_greet 66 = .ok (.iconst 0, 1) := by decide +kernel
theorem dX12_greet_67 : decode cX12_greet 67 = .ok (.bipush 10, 2) := by decide +kernel
theorem dX12_greet_69 : decode cX12_greet 69 = .ok (.bipush 10, 2) := by decide +kernel
theorem dX12_greet_71 : decode cX12_greet 71 = .ok (.invokevirtual 278, 3) := by decide +kernel
theorem dX12_greet_74 : decode cX12_greet 74 = .ok (.aload_n 0, 1) := by decide +kernel
theorem dX12_greet_75 : decode cX12_greet 75 = .ok (.iconst 1, 1) := by decide +kernel
theorem dX12_greet_76 : decode cX12_greet 76 = .ok (.putfield 207, 3) := by decide +kernel
theorem dX12_greet_79 : decode cX12_greet 79 = .ok (.iconst 1, 1) := by decide +kernel
theorem dX12_greet_80 : decode cX12_greet 80 = .ok (.ireturn, 1) := by decide +kernel
def f_X12_greet_44 (a0 : Nat) (h : AH) : Option (Int32 × AH) := kg h a0 13 (bd (f_X12_hard a0 501 h) fun _ h_2 =>
  some (1, h_2))
set_option maxRecDepth 20000 in
set_option maxHeartbeats 4000000 in
theorem t_X12_greet_44 {Ω : Om} (a0 : Nat) (h : AH) (q : Int32 × AH) (hf : f_X12_greet_44 a0 h = some q) : Go Ω M_X12_greet 44 [(0, vR Ω (some a0))] [] h (some (.int q.1)) q.2 := by
  unfold f_X12_greet_44 at hf
  refine go_aload_n dX12_greet_44 rfl 0 rfl ?_
  refine go_sipush 501 dX12_greet_45 (by decide) ?_
  obtain ⟨hk, hf⟩ := kg_some hf
  obtain ⟨z_1, hc, hf⟩ := bd_some hf
  refine go_callV (y2 := M_X12_hard) (c2 := 13) dX12_greet_48 mo_X12_hard ⟨Nat.le_of_ble_eq_true rfl, Nat.le_of_ble_eq_true rfl⟩ na_X12_hard w1321 w1323 (by decide) rfl w49 hk [.int 501] rfl (n_X12_hard (a0) 501) rfl (csum (Nat.le_of_ble_eq_true rfl)) (t_X12_hard (a0) 501 h _ hc) ?_
  obtain ⟨_, h_2⟩ := z_1
  refine go_iconst 1 dX12_greet_51 rfl ?_
  exact go_ireturn dX12_greet_52 rfl hf
def f_X12_greet_59 (a0 : Nat) (h : AH) : Option (Int32 × AH) := kg h a0 13 (bd (f_X12_drop a0 8 h) fun _ h_2 =>
  kg h_2 a0 13 (bd (f_X12_say a0 0 10 10 h_2) fun _ h_4 =>
  wrI h_4 a0 13 0 1 fun h_5 =>
  some (1, h_5)))
set_option maxRecDepth 20000 in
set_option maxHeartbeats 4000000 in
theorem t_X12_greet_59 {Ω : Om} (a0 : Nat) (h : AH) (q : Int32 × AH) (hf : f_X12_greet_59 a0 h = some q) : Go Ω M_X12_greet 59 [(0, vR Ω (some a0))] [] h (some (.int q.1)) q.2 := by
  unfold f_X12_greet_59 at hf
  refine go_aload_n dX12_greet_59 rfl 0 rfl ?_
  refine go_bipush 8 dX12_greet_60 (by decide) ?_
  obtain ⟨hk, hf⟩ := kg_some hf
  obtain ⟨z_1, hc, hf⟩ := bd_some hf
  refine go_callV (y2 := M_X12_drop) (c2 := 13) dX12_greet_62 mo_X12_drop ⟨Nat.le_of_ble_eq_true rfl, Nat.le_of_ble_eq_true rfl⟩ na_X12_drop w1377 w1379 (by decide) rfl w63 hk [.int 8] rfl (n_X12_drop (a0) 8) rfl (csum (Nat.le_of_ble_eq_true rfl)) (t_X12_drop (a0) 8 h _ hc) ?_
  obtain ⟨_, h_2⟩ := z_1
  refine go_aload_n dX12_greet_65 rfl 0 rfl ?_
  refine go_iconst 0 dX12_greet_66 rfl ?_
  refine go_bipush 10 dX12_greet_67 (by decide) ?_
  refine go_bipush 10 dX12_greet_69 (by decide) ?_
  obtain ⟨hk, hf⟩ := kg_some hf
  obtain ⟨z_3, hc, hf⟩ := bd_some hf
  refine go_callV (y2 := M_X12_say) (c2 := 13) dX12_greet_71 mo_X12_say ⟨Nat.le_of_ble_eq_true rfl, Nat.le_of_ble_eq_true rfl⟩ na_X12_say w1381 w1383 (by decide) rfl w64 hk [.int 0, .int 10, .int 10] rfl (n_X12_say (a0) 0 10 10) rfl (csum (Nat.le_of_ble_eq_true rfl)) (t_X12_say (a0) 0 10 10 h_2 _ hc) ?_
  obtain ⟨_, h_4⟩ := z_3
  refine go_aload_n dX12_greet_74 rfl 0 rfl ?_
  refine go_iconst 1 dX12_greet_75 rfl ?_
  refine go_putI dX12_greet_76 fl_1119_0 (fun q hq => by cases hq; exact Or.inl rfl) (fun _ _ => rfl) rfl hf (fun h_5 hf => ?_)
  refine go_iconst 1 dX12_greet_79 rfl ?_
  exact go_ireturn dX12_greet_80 rfl hf
def f_X12_greet_2 : Nat → Nat → Int32 → AH → Option (Int32 × AH)
  | 0, _, _, _ => none
  | n + 1, a0, x1, h => (if 8 ≤ x1 then
      f_X12_greet_59 a0 h
    else
      rdI h a0 13 2 fun x_1 =>
      (if x1 < x_1 then
        rdR h a0 13 1 fun r_2 =>
        nn r_2 fun a_3 =>
        arI h a_3 x1 fun x_4 =>
        (if (lg_cmp x_4.toInt64 (((4705506589711272193 : Int64) >>> ((56 - (8 * x1)).toInt64 &&& 63)) &&& 255)) = 0 then
          f_X12_greet_2 n a0 (x1 + 1) h
        else
          f_X12_greet_44 a0 h)
      else
        some (0, h)))
set_option maxRecDepth 20000 in
set_option maxHeartbeats 4000000 in
theorem t_X12_greet_2 {Ω : Om} : ∀ (n : Nat) (a0 : Nat) (x1 : Int32) (h : AH) (q : Int32 × AH), f_X12_greet_2 n a0 x1 h = some q → Go Ω M_X12_greet 2 [(0, vR Ω (some a0)), (1, .int x1)] [] h (some (.int q.1)) q.2 := by
  intro n
  induction n with
  | zero => intro a0 x1 h q hf; cases hf
  | succ n ih =>
    intro a0 x1 h q hf
    rw [f_X12_greet_2] at hf
    refine go_iload_n dX12_greet_2 rfl 1 rfl ?_
    refine go_bipush 8 dX12_greet_3 (by decide) ?_
    refine go_icmp_ge (tgt := 59) dX12_greet_5 (by decide) hf (fun hf => ?_) (fun hf => ?_)
    · refine go_sub (lv' := [(0, vR Ω (some a0))]) [0] rfl ?_
      exact t_X12_greet_59 a0 h q hf
    · refine go_iload_n dX12_greet_8 rfl 1 rfl ?_
      refine go_aload_n dX12_greet_9 rfl 0 rfl ?_
      refine go_getI dX12_greet_10 fl_1121_0 (fun _ _ => rfl) hf (fun x_1 hf => ?_)
      refine go_icmp_lt (tgt := 18) dX12_greet_13 (by decide) hf (fun hf => ?_) (fun hf => ?_)
      · refine go_aload_n dX12_greet_18 rfl 0 rfl ?_
        refine go_getR dX12_greet_19 fl_1120_0 (fun _ _ => rfl) hf (fun r_2 hf => ?_)
        refine go_iload_n dX12_greet_22 rfl 1 rfl ?_
        obtain ⟨a_3, rfl, hga_3⟩ := nn_some hf
        have hf := hga_3
        refine go_iaload dX12_greet_23 hf (fun x_4 hf => ?_)
        refine go_i2l dX12_greet_24 ?_
        refine go_ldc2 4705506589711272193 dX12_greet_25 w1320 ?_
        refine go_bipush 56 dX12_greet_28 (by decide) ?_
        refine go_bipush 8 dX12_greet_30 (by decide) ?_
        refine go_iload_n dX12_greet_32 rfl 1 rfl ?_
        refine go_imul dX12_greet_33 ?_
        refine go_isub dX12_greet_34 ?_
        refine go_lshr dX12_greet_35 ?_
        refine go_ldc2 255 dX12_greet_36 w1311 ?_
        refine go_land dX12_greet_39 ?_
        refine go_lcmp dX12_greet_40 ?_
        refine go_if_eq (tgt := 53) dX12_greet_41 (by decide) hf (fun hf => ?_) (fun hf => ?_)
        · refine go_iinc (j := 1) (v := x1 + 1) (lv' := [(1, .int (x1 + 1)), (0, vR Ω (some a0))]) dX12_greet_53 rfl rfl (by decide) (by first | rfl | simp [catR, catI, catJ]) ?_
          refine go_goto (tgt := 2) dX12_greet_56 (by decide) ?_
          refine go_sub (lv' := [(0, vR Ω (some a0)), (1, .int (x1 + 1))]) [1, 0] rfl ?_
          exact ih a0 (x1 + 1) h q hf
        · refine go_sub (lv' := [(0, vR Ω (some a0))]) [0] rfl ?_
          exact t_X12_greet_44 a0 h q hf
      · refine go_iconst 0 dX12_greet_16 rfl ?_
        exact go_ireturn dX12_greet_17 rfl hf
def f_X12_greet (a0 : Nat) (h : AH) : Option (Int32 × AH) := f_X12_greet_2 FU a0 0 h
set_option maxRecDepth 20000 in
set_option maxHeartbeats 4000000 in
theorem t_X12_greet {Ω : Om} (a0 : Nat) (h : AH) (q : Int32 × AH) (hf : f_X12_greet a0 h = some q) : Go Ω M_X12_greet 0 (lv_args 0 [vR Ω (some a0)]) [] h (some (.int q.1)) q.2 := by
  unfold f_X12_greet at hf
  rw [la_R, la_0]
  refine go_sub (lv' := [(0, vR Ω (some a0))]) [0] rfl ?_
  refine go_iconst 0 dX12_greet_0 rfl ?_
  refine go_istore_n (i := 1) (lv' := [(1, .int 0), (0, vR Ω (some a0))]) dX12_greet_1 rfl (by decide) (by first | rfl | simp [catR, catI, catJ]) ?_
  refine go_sub (lv' := [(0, vR Ω (some a0)), (1, .int 0)]) [1, 0] rfl ?_
  exact t_X12_greet_2 FU a0 0 h q hf

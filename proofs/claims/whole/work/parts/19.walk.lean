/-! printed by wip/whole/gen: functions and their walks -/
-- LetterBroker.consume(LLetterBroker$Channel;)I
theorem dX11_consume_0 : decode cX11_consume 0 = .ok (.aload_n 0, 1) := by decide +kernel
theorem dX11_consume_1 : decode cX11_consume 1 = .ok (.getfield 26, 3) := by decide +kernel
theorem dX11_consume_4 : decode cX11_consume 4 = .ok (.aload_n 0, 1) := by decide +kernel
theorem dX11_consume_5 : decode cX11_consume 5 = .ok (.getfield 10, 3) := by decide +kernel
theorem dX11_consume_8 : decode cX11_consume 8 = .ok (.invokevirtual 283, 3) := by decide +kernel
theorem dX11_consume_11 : decode cX11_consume 11 = .ok (.invokevirtual 315, 3) := by decide +kernel
theorem dX11_consume_14 : decode cX11_consume 14 = .ok (.astore_n 2, 1) := by decide +kernel
theorem dX11_consume_15 : decode cX11_consume 15 = .ok (.aload_n 0, 1) := by decide +kernel
theorem dX11_consume_16 : decode cX11_consume 16 = .ok (.getfield 10, 3) := by decide +kernel
theorem dX11_consume_19 : decode cX11_consume 19 = .ok (.invokevirtual 283, 3) := by decide +kernel
theorem dX11_consume_22 : decode cX11_consume 22 = .ok (.lstore_n 3, 1) := by decide +kernel
theorem dX11_consume_23 : decode cX11_consume 23 = .ok (.aload_n 0, 1) := by decide +kernel
theorem dX11_consume_24 : decode cX11_consume 24 = .ok (.getfield 10, 3) := by decide +kernel
theorem dX11_consume_27 : decode cX11_consume 27 = .ok (.invokevirtual 287, 3) := by decide +kernel
theorem dX11_consume_30 : decode cX11_consume 30 = .ok (.istore 5, 2) := by decide +kernel
theorem dX11_consume_32 : decode cX11_consume 32 = .ok (.aload_n 0, 1) := by decide +kernel
theorem dX11_consume_33 : decode cX11_consume 33 = .ok (.getfield 10, 3) := by decide +kernel
theorem dX11_consume_36 : decode cX11_consume 36 = .ok (.invokevirtual 132, 3) := by decide +kernel
theorem dX11_consume_39 : decode cX11_consume 39 = .ok (.ifCond .ne 7, 3) := by decide +kernel
theorem dX11_consume_42 : decode cX11_consume 42 = .ok (.sipush 501, 3) := by decide +kernel
theorem dX11_consume_45 : decode cX11_consume 45 = .ok (.ireturn, 1) := by decide +kernel
theorem dX11_consume_46 : decode cX11_consume 46 = .ok (.aload_n 2, 1) := by decide +kernel
theorem dX11_consume_47 : decode cX11_consume 47 = .ok (.ifnonnull 7, 3) := by decide +kernel
theorem dX11_consume_50 : decode cX11_consume 50 = .ok (.sipush 404, 3) := by decide +kernel
theorem dX11_consume_53 : decode cX11_consume 53 = .ok (.ireturn, 1) := by decide +kernel
theorem dX11_consume_54 : decode cX11_consume 54 = .ok (.aload_n 0, 1) := by decide +kernel
theorem dX11_consume_55 : decode cX11_consume 55 = .ok (.getfield 26, 3) := by decide +kernel
theorem dX11_consume_58 : decode cX11_consume 58 = .ok (.aload_n 1, 1) := by decide +kernel
theorem dX11_consume_59 : decode cX11_consume 59 = .ok (.lload_n 3, 1) := by decide +kernel
theorem dX11_consume_60 : decode cX11_consume 60 = .ok (.invokevirtual 347, 3) := by decide +kernel
theorem dX11_consume_63 : decode cX11_consume 63 = .ok (.ifCond .lt 7, 3) := by decide +kernel
theorem dX11_consume_66 : decode cX11_consume 66 = .ok (.sipush 530, 3) := by decide +kernel
theorem dX11_consume_69 : decode cX11_consume 69 = .ok (.ireturn, 1) := by decide +kernel
theorem dX11_consume_70 : decode cX11_consume 70 = .ok (.aload_n 0, 1) := by decide +kernel
theorem dX11_consume_71 : decode cX11_consume 71 = .ok (.getfield 26, 3) := by decide +kernel
theorem dX11_consume_74 : decode cX11_consume 74 = .ok (.getfield 351, 3) := by decide +kernel
theorem dX11_consume_77 : decode cX11_consume 77 = .ok (.invokeinterface 87 1, 5) := by decide +kernel
theorem dX11_consume_82 : decode cX11_consume 82 = .ok (.bipush 6, 2) := by decide +kernel
theorem dX11_consume_84 : decode cX11_consume 84 = .ok (.if_icmp .lt 7, 3) := by decide +kernel
theorem dX11_consume_87 : decode cX11_consume 87 = .ok (.sipush 506, 3) := by decide +kernel
theorem dX11_consume_90 : decode cX11_consume 90 = .ok (.ireturn, 1) := by decide +kernel
theorem dX11_consume_91 : decode cX11_consume 91 = .ok (.aload_n 0, 1) := by decide +kernel
theorem dX11_consume_92 : decode cX11_consume 92 = .ok (.getfield 26, 3) := by decide +kernel
theorem dX11_consume_95 : decode cX11_consume 95 = .ok (.aload_n 2, 1) := by decide +kernel
theorem dX11_consume_96 : decode cX11_consume 96 = .ok (.aload_n 1, 1) := by decide +kernel
theorem dX11_consume_97 : decode cX11_consume 97 = .ok (.lload_n 3, 1) := by decide +kernel
theorem dX11_consume_98 : decode cX11_consume 98 = .ok (.iload 5, 2) := by decide +kernel
theorem dX11_consume_100 : decode cX11_consume 100 = .ok (.invokevirtual 354, 3) := by decide +kernel
theorem dX11_consume_103 : decode cX11_consume 103 = .ok (.aload_n 0, 1) := by decide +kernel
theorem dX11_consume_104 : decode cX11_consume 104 = .ok (.getfield 19, 3) := by decide +kernel
theorem dX11_consume_107 : decode cX11_consume 107 = .ok (.aload_n 1, 1) := by decide +kernel
theorem dX11_consume_108 : decode cX11_consume 108 = .ok (.getfield 145, 3) := by decide +kernel
theorem dX11_consume_111 : decode cX11_consume 111 = .ok (.sipush 15381, 3) := by decide +kernel
theorem dX11_consume_114 : decode cX11_consume 114 = .ok (.invokevirtual 272, 3) := by decide +kernel
theorem dX11_consume_117 : decode cX11_consume 117 = .ok (.aload_n 0, 1) := by decide +kernel
theorem dX11_consume_118 : decode cX11_consume 118 = .ok (.getfield 19, 3) := by decide +kernel
theorem dX11_consume_121 : decode cX11_consume 121 = .ok (.lload_n 3, 1) := by decide +kernel
theorem dX11_consume_122 : decode cX11_consume 122 = .ok (.invokevirtual 322, 3) := by decide +kernel
theorem dX11_consume_125 : decode cX11_consume 125 = .ok (.aload_n 0, 1) := by decide +kernel
theorem dX11_consume_126 : decode cX11_consume 126 = .ok (.getfield 19, 3) := by decide +kernel
theorem dX11_consume_129 : decode cX11_consume 129 = .ok (.invokevirtual 277, 3) := by decide +kernel
theorem dX11_consume_132 : decode cX11_consume 132 = .ok (.iconst 0, 1) := by decide +kernel
theorem dX11_consume_133 : decode cX11_consume 133 = .ok (.ireturn, 1) := by decide +kernel
def f_X11_consume (a0 : Nat) (r1 : Option Nat) (h : AH) : Option (Int32 × AH) := rdR h a0 12 2 fun r_1 =>
  rdR h a0 12 0 fun r_2 =>
  nn r_2 fun a_3 =>
  kg h a_3 7 (bd (f_X6_readName a_3 h) fun x_6 h_5 =>
  nn r_1 fun a_7 =>
  kg h_5 a_7 9 (bd (f_X8_queueNamed a_7 x_6 h_5) fun r_10 h_9 =>
  rdR h_9 a0 12 0 fun r_11 =>
  nn r_11 fun a_12 =>
  kg h_9 a_12 7 (bd (f_X6_readName a_12 h_9) fun x_15 h_14 =>
  rdR h_14 a0 12 0 fun r_16 =>
  nn r_16 fun a_17 =>
  kg h_14 a_17 7 (bd (f_X6_readFlag a_17 h_14) fun x_20 h_19 =>
  rdR h_19 a0 12 0 fun r_21 =>
  nn r_21 fun a_22 =>
  kg h_19 a_22 7 (bd (f_X6_isJustRead a_22 h_19) fun x_25 h_24 =>
  (if x_25 = 0 then
    some (501, h_24)
  else
    nb r_10
      (some (404, h_24))
      (fun a_26 => rdR h_24 a0 12 2 fun r_27 =>
      nn r_27 fun a_28 =>
      kg h_24 a_28 9 (bd (f_X8_consumerAt a_28 r1 x_15 h_24) fun x_31 h_30 =>
      (if x_31 < 0 then
        rdR h_30 a0 12 2 fun r_32 =>
        nn r_32 fun a_33 =>
        rdR h_30 a_33 9 3 fun r_34 =>
        nn r_34 fun a_35 =>
        kg h_30 a_35 0 (bd (f_Jx4a65c_size_8abf5 a_35 h_30) fun x_38 h_37 =>
        (if x_38 < 6 then
          rdR h_37 a0 12 2 fun r_39 =>
          nn r_39 fun a_40 =>
          kg h_37 a_40 9 (bd (f_X8_addConsumer a_40 (some a_26) r1 x_15 x_20 h_37) fun _ h_42 =>
          rdR h_42 a0 12 1 fun r_43 =>
          nn r1 fun a_44 =>
          rdI h_42 a_44 2 0 fun x_45 =>
          nn r_43 fun a_46 =>
          kg h_42 a_46 10 (bd (f_X9_begin a_46 x_45 15381 h_42) fun _ h_48 =>
          rdR h_48 a0 12 1 fun r_49 =>
          nn r_49 fun a_50 =>
          kg h_48 a_50 10 (bd (f_X9_putName a_50 x_15 h_48) fun _ h_52 =>
          rdR h_52 a0 12 1 fun r_53 =>
          nn r_53 fun a_54 =>
          kg h_52 a_54 10 (bd (f_X9_end a_54 h_52) fun _ h_56 =>
          some (0, h_56)))))
        else
          some (506, h_37)))
      else
        some (530, h_30))))))))))
set_option maxRecDepth 20000 in
set_option maxHeartbeats 4000000 in
theorem t_X11_consume {Ω : Om} (a0 : Nat) (r1 : Option Nat) (h : AH) (q : Int32 × AH) (hf : f_X11_consume a0 r1 h = some q) : Go Ω M_X11_consume 0 (lv_args 0 [vR Ω (some a0), vR Ω r1]) [] h (some (.int q.1)) q.2 := by
  unfold f_X11_consume at hf
  rw [la_R, la_R, la_0]
  refine go_sub (lv' := [(0, vR Ω (some a0)), (1, vR Ω r1)]) [0, 1] rfl ?_
  refine go_aload_n dX11_consume_0 rfl 0 rfl ?_
  refine go_getR dX11_consume_1 fl_390_0 (fun _ _ => rfl) hf (fun r_1 hf => ?_)
  refine go_aload_n dX11_consume_4 rfl 0 rfl ?_
  refine go_getR dX11_consume_5 fl_388_0 (fun _ _ => rfl) hf (fun r_2 hf => ?_)
  obtain ⟨a_3, rfl, hga_3⟩ := nn_some hf
  have hf := hga_3
  obtain ⟨hk, hf⟩ := kg_some hf
  obtain ⟨z_4, hc, hf⟩ := bd_some hf
  refine go_callV (y2 := M_X6_readName) (c2 := 7) dX11_consume_8 mo_X6_readName ⟨Nat.le_of_ble_eq_true rfl, Nat.le_of_ble_eq_true rfl⟩ na_X6_readName w758 w759 (by decide) rfl w760 hk [] rfl (n_X6_readName (a_3)) rfl (csum (Nat.le_of_ble_eq_true rfl)) (t_X6_readName (a_3) h _ hc) ?_
  obtain ⟨x_6, h_5⟩ := z_4
  obtain ⟨a_7, rfl, hga_7⟩ := nn_some hf
  have hf := hga_7
  obtain ⟨hk, hf⟩ := kg_some hf
  obtain ⟨z_8, hc, hf⟩ := bd_some hf
  refine go_callV (y2 := M_X8_queueNamed) (c2 := 9) dX11_consume_11 mo_X8_queueNamed ⟨Nat.le_of_ble_eq_true rfl, Nat.le_of_ble_eq_true rfl⟩ na_X8_queueNamed w788 w789 (by decide) rfl w790 hk [.long x_6] rfl (n_X8_queueNamed (a_7) x_6) rfl (csum (Nat.le_of_ble_eq_true rfl)) (t_X8_queueNamed (a_7) x_6 h_5 _ hc) ?_
  obtain ⟨r_10, h_9⟩ := z_8
  refine go_astore_n (i := 2) (lv' := [(2, vR Ω r_10), (0, vR Ω (some a0)), (1, vR Ω r1)]) dX11_consume_14 rfl (by decide) (by first | rfl | simp [catR, catI, catJ]) ?_
  refine go_aload_n dX11_consume_15 rfl 1 rfl ?_
  refine go_getR dX11_consume_16 fl_388_0 (fun _ _ => rfl) hf (fun r_11 hf => ?_)
  obtain ⟨a_12, rfl, hga_12⟩ := nn_some hf
  have hf := hga_12
  obtain ⟨hk, hf⟩ := kg_some hf
  obtain ⟨z_13, hc, hf⟩ := bd_some hf
  refine go_callV (y2 := M_X6_readName) (c2 := 7) dX11_consume_19 mo_X6_readName ⟨Nat.le_of_ble_eq_true rfl, Nat.le_of_ble_eq_true rfl⟩ na_X6_readName w758 w759 (by decide) rfl w760 hk [] rfl (n_X6_readName (a_12)) rfl (csum (Nat.le_of_ble_eq_true rfl)) (t_X6_readName (a_12) h_9 _ hc) ?_
  obtain ⟨x_15, h_14⟩ := z_13
  refine go_lstore_n (i := 3) (lv' := [(3, .long x_15), (2, vR Ω r_10), (0, vR Ω (some a0)), (1, vR Ω r1)]) dX11_consume_22 rfl (by decide) (by first | rfl | simp [catR, catI, catJ]) ?_
  refine go_aload_n dX11_consume_23 rfl 2 rfl ?_
  refine go_getR dX11_consume_24 fl_388_0 (fun _ _ => rfl) hf (fun r_16 hf => ?_)
  obtain ⟨a_17, rfl, hga_17⟩ := nn_some hf
  have hf := hga_17
  obtain ⟨hk, hf⟩ := kg_some hf
  obtain ⟨z_18, hc, hf⟩ := bd_some hf
  refine go_callV (y2 := M_X6_readFlag) (c2 := 7) dX11_consume_27 mo_X6_readFlag ⟨Nat.le_of_ble_eq_true rfl, Nat.le_of_ble_eq_true rfl⟩ na_X6_readFlag w762 w763 (by decide) rfl w764 hk [] rfl (n_X6_readFlag (a_17)) rfl (csum (Nat.le_of_ble_eq_true rfl)) (t_X6_readFlag (a_17) h_14 _ hc) ?_
  obtain ⟨x_20, h_19⟩ := z_18
  refine go_istore (i := 5) (lv' := [(5, .int x_20), (3, .long x_15), (2, vR Ω r_10), (0, vR Ω (some a0)), (1, vR Ω r1)]) dX11_consume_30 (by decide) (by first | rfl | simp [catR, catI, catJ]) ?_
  refine go_aload_n dX11_consume_32 rfl 3 rfl ?_
  refine go_getR dX11_consume_33 fl_388_0 (fun _ _ => rfl) hf (fun r_21 hf => ?_)
  obtain ⟨a_22, rfl, hga_22⟩ := nn_some hf
  have hf := hga_22
  obtain ⟨hk, hf⟩ := kg_some hf
  obtain ⟨z_23, hc, hf⟩ := bd_some hf
  refine go_callV (y2 := M_X6_isJustRead) (c2 := 7) dX11_consume_36 mo_X6_isJustRead ⟨Nat.le_of_ble_eq_true rfl, Nat.le_of_ble_eq_true rfl⟩ na_X6_isJustRead w474 w475 (by decide) rfl w476 hk [] rfl (n_X6_isJustRead (a_22)) rfl (csum (Nat.le_of_ble_eq_true rfl)) (t_X6_isJustRead (a_22) h_19 _ hc) ?_
  obtain ⟨x_25, h_24⟩ := z_23
  refine go_if_ne (tgt := 46) dX11_consume_39 (by decide) hf (fun hf => ?_) (fun hf => ?_)
  · refine go_aload_n dX11_consume_46 rfl 2 rfl ?_
    refine go_ifnonnull (x := r_10) (tgt := 54) dX11_consume_47 (by decide) hf ?_ ?_
    · rintro rfl hf
      refine go_sipush 404 dX11_consume_50 (by decide) ?_
      exact go_ireturn dX11_consume_53 rfl hf
    · rintro a_26 rfl hf
      refine go_aload_n dX11_consume_54 rfl 3 rfl ?_
      refine go_getR dX11_consume_55 fl_390_0 (fun _ _ => rfl) hf (fun r_27 hf => ?_)
      refine go_aload_n dX11_consume_58 rfl 4 rfl ?_
      refine go_lload_n dX11_consume_59 rfl 1 rfl ?_
      obtain ⟨a_28, rfl, hga_28⟩ := nn_some hf
      have hf := hga_28
      obtain ⟨hk, hf⟩ := kg_some hf
      obtain ⟨z_29, hc, hf⟩ := bd_some hf
      refine go_callV (y2 := M_X8_consumerAt) (c2 := 9) dX11_consume_60 mo_X8_consumerAt ⟨Nat.le_of_ble_eq_true rfl, Nat.le_of_ble_eq_true rfl⟩ na_X8_consumerAt w887 w888 (by decide) rfl w889 hk [vR Ω r1, .long x_15] rfl (n_X8_consumerAt (a_28) r1 x_15) rfl (csum (Nat.le_of_ble_eq_true rfl)) (t_X8_consumerAt (a_28) r1 x_15 h_24 _ hc) ?_
      obtain ⟨x_31, h_30⟩ := z_29
      refine go_if_lt (tgt := 70) dX11_consume_63 (by decide) hf (fun hf => ?_) (fun hf => ?_)
      · refine go_aload_n dX11_consume_70 rfl 3 rfl ?_
        refine go_getR dX11_consume_71 fl_390_0 (fun _ _ => rfl) hf (fun r_32 hf => ?_)
        obtain ⟨a_33, rfl, hga_33⟩ := nn_some hf
        have hf := hga_33
        refine go_getR dX11_consume_74 fl_323_0 (fun _ _ => rfl) hf (fun r_34 hf => ?_)
        obtain ⟨a_35, rfl, hga_35⟩ := nn_some hf
        have hf := hga_35
        obtain ⟨hk, hf⟩ := kg_some hf
        obtain ⟨z_36, hc, hf⟩ := bd_some hf
        refine go_callF (y2 := M_Jx4a65c_size_8abf5) (x2 := ⟨"java/util/List", "size", "()I"⟩) dX11_consume_77 mo_Jx4a65c_size_8abf5 ⟨Nat.le_of_ble_eq_true rfl, Nat.le_of_ble_eq_true rfl⟩ na_Jx4a65c_size_8abf5 w517 w522 w520 (by decide) (fun U hU => hU.2.2.2.2.1) hk [] rfl (n_Jx4a65c_size_8abf5 (a_35)) rfl (csum (Nat.le_of_ble_eq_true rfl)) (t_Jx4a65c_size_8abf5 (a_35) h_30 _ hc) ?_
        obtain ⟨x_38, h_37⟩ := z_36
        refine go_bipush 6 dX11_consume_82 (by decide) ?_
        refine go_icmp_lt (tgt := 91) dX11_consume_84 (by decide) hf (fun hf => ?_) (fun hf => ?_)
        · refine go_aload_n dX11_consume_91 rfl 3 rfl ?_
          refine go_getR dX11_consume_92 fl_390_0 (fun _ _ => rfl) hf (fun r_39 hf => ?_)
          refine go_aload_n dX11_consume_95 rfl 2 rfl ?_
          refine go_aload_n dX11_consume_96 rfl 4 rfl ?_
          refine go_lload_n dX11_consume_97 rfl 1 rfl ?_
          refine go_iload dX11_consume_98 0 rfl ?_
          obtain ⟨a_40, rfl, hga_40⟩ := nn_some hf
          have hf := hga_40
          obtain ⟨hk, hf⟩ := kg_some hf
          obtain ⟨z_41, hc, hf⟩ := bd_some hf
          refine go_callV (y2 := M_X8_addConsumer) (c2 := 9) dX11_consume_100 mo_X8_addConsumer ⟨Nat.le_of_ble_eq_true rfl, Nat.le_of_ble_eq_true rfl⟩ na_X8_addConsumer w891 w892 (by decide) rfl w893 hk [vR Ω (some a_26), vR Ω r1, .long x_15, .int x_20] rfl (n_X8_addConsumer (a_40) (some a_26) r1 x_15 x_20) rfl (csum (Nat.le_of_ble_eq_true rfl)) (t_X8_addConsumer (a_40) (some a_26) r1 x_15 x_20 h_37 _ hc) ?_
          obtain ⟨_, h_42⟩ := z_41
          refine go_aload_n dX11_consume_103 rfl 3 rfl ?_
          refine go_getR dX11_consume_104 fl_389_0 (fun _ _ => rfl) hf (fun r_43 hf => ?_)
          refine go_aload_n dX11_consume_107 rfl 4 rfl ?_
          obtain ⟨a_44, rfl, hga_44⟩ := nn_some hf
          have hf := hga_44
          refine go_getI dX11_consume_108 fl_349_0 (fun _ _ => rfl) hf (fun x_45 hf => ?_)
          refine go_sipush 15381 dX11_consume_111 (by decide) ?_
          obtain ⟨a_46, rfl, hga_46⟩ := nn_some hf
          have hf := hga_46
          obtain ⟨hk, hf⟩ := kg_some hf
          obtain ⟨z_47, hc, hf⟩ := bd_some hf
          refine go_callV (y2 := M_X9_begin) (c2 := 10) dX11_consume_114 mo_X9_begin ⟨Nat.le_of_ble_eq_true rfl, Nat.le_of_ble_eq_true rfl⟩ na_X9_begin w586 w435 (by decide) rfl w436 hk [.int x_45, .int 15381] rfl (n_X9_begin (a_46) x_45 15381) rfl (csum (Nat.le_of_ble_eq_true rfl)) (t_X9_begin (a_46) x_45 15381 h_42 _ hc) ?_
          obtain ⟨_, h_48⟩ := z_47
          refine go_aload_n dX11_consume_117 rfl 3 rfl ?_
          refine go_getR dX11_consume_118 fl_389_0 (fun _ _ => rfl) hf (fun r_49 hf => ?_)
          refine go_lload_n dX11_consume_121 rfl 1 rfl ?_
          obtain ⟨a_50, rfl, hga_50⟩ := nn_some hf
          have hf := hga_50
          obtain ⟨hk, hf⟩ := kg_some hf
          obtain ⟨z_51, hc, hf⟩ := bd_some hf
          refine go_callV (y2 := M_X9_putName) (c2 := 10) dX11_consume_122 mo_X9_putName ⟨Nat.le_of_ble_eq_true rfl, Nat.le_of_ble_eq_true rfl⟩ na_X9_putName w591 w592 (by decide) rfl w593 hk [.long x_15] rfl (n_X9_putName (a_50) x_15) rfl (csum (Nat.le_of_ble_eq_true rfl)) (t_X9_putName (a_50) x_15 h_48 _ hc) ?_
          obtain ⟨_, h_52⟩ := z_51
          refine go_aload_n dX11_consume_125 rfl 3 rfl ?_
          refine go_getR dX11_consume_126 fl_389_0 (fun _ _ => rfl) hf (fun r_53 hf => ?_)
          obtain ⟨a_54, rfl, hga_54⟩ := nn_some hf
          have hf := hga_54
          obtain ⟨hk, hf⟩ := kg_some hf
          obtain ⟨z_55, hc, hf⟩ := bd_some hf
          refine go_callV (y2 := M_X9_end) (c2 := 10) dX11_consume_129 mo_X9_end ⟨Nat.le_of_ble_eq_true rfl, Nat.le_of_ble_eq_true rfl⟩ na_X9_end w595 w443 (by decide) rfl w444 hk [] rfl (n_X9_end (a_54)) rfl (csum (Nat.le_of_ble_eq_true rfl)) (t_X9_end (a_54) h_52 _ hc) ?_
          obtain ⟨_, h_56⟩ := z_55
          refine go_iconst 0 dX11_consume_132 rfl ?_
          exact go_ireturn dX11_consume_133 rfl hf
        · refine go_sipush 506 dX11_consume_87 (by decide) ?_
          exact go_ireturn dX11_consume_90 rfl hf
      · refine go_sipush 530 dX11_consume_66 (by decide) ?_
        exact go_ireturn dX11_consume_69 rfl hf
  · refine go_sipush 501 dX11_consume_42 (by decide) ?_
    exact go_ireturn dX11_consume_45 rfl hf
-- LetterBroker.declareExchange(LLetterBroker$Channel;)I
theorem dX11_declareExchange_0 : decode cX11_declareExchange 0 = .ok (.aload_n 0, 1) := by decide +kernel
theorem dX11_declareExchange_1 : decode cX11_declareExchange 1 = .ok (.getfield 10, 3) := by decide +kernel
theorem dX11_declareExchange_4 : decode cX11_declareExchange 4 = .ok (.invokevirtual 283, 3) := by decide +kernel
theorem dX11_declareExchange_7 : decode cX11_declareExchange 7 = .ok (.lstore_n 2, 1) := by decide +kernel
theorem dX11_declareExchange_8 : decode cX11_declareExchange 8 = .ok (.aload_n 0, 1) := by decide +kernel
theorem dX11_declareExchange_9 : decode cX11_declareExchange 9 = .ok (.getfield 10, 3) := by decide +kernel
theorem dX11_declareExchange_12 : decode cX11_declareExchange 12 = .ok (.invokevirtual 265, 3) := by decide +kernel
theorem dX11_declareExchange_15 : decode cX11_declareExchange 15 = .ok (.istore 4, 2) := by decide +kernel
theorem dX11_declareExchange_17 : decode cX11_declareExchange 17 = .ok (.aload_n 0, 1) := by decide +kernel
theorem dX11_declareExchange_18 : decode cX11_declareExchange 18 = .ok (.getfield 10, 3) := by decide +kernel
theorem dX11_declareExchange_21 : decode cX11_declareExchange 21 = .ok (.invokevirtual 287, 3) := by decide +kernel
theorem dX11_declareExchange_24 : decode cX11_declareExchange 24 = .ok (.istore 5, 2) := by decide +kernel
theorem dX11_declareExchange_26 : decode cX11_declareExchange 26 = .ok (.aload_n 0, 1) := by decide +kernel
theorem dX11_declareExchange_27 : decode cX11_declareExchange 27 = .ok (.getfield 10, 3) := by decide +kernel
theorem dX11_declareExchange_30 : decode cX11_declareExchange 30 = .ok (.invokevirtual 132, 3) := by decide +kernel
theorem dX11_declareExchange_33 : decode cX11_declareExchange 33 = .ok (.ifCond .eq 9, 3) := by decide +kernel
theorem dX11_declareExchange_36 : decode cX11_declareExchange 36 = .ok (.iload 4, 2) := by decide +kernel
theorem dX11_declareExchange_38 : decode cX11_declareExchange 38 = .ok (.iconst 2, 1) := by decide +kernel
theorem dX11_declareExchange_39 : decode cX11_declareExchange 39 = .ok (.if_icmp .le 7, 3) := by decide +kernel
theorem dX11_declareExchange_42 : decode cX11_declareExchange 42 = .ok (.sipush 501, 3) := by decide +kernel
theorem dX11_declareExchange_45 : decode cX11_declareExchange 45 = .ok (.ireturn, 1) := by decide +kernel
theorem dX11_declareExchange_46 : decode cX11_declareExchange 46 = .ok (.aload_n 0, 1) := by decide +kernel
theorem dX11_declareExchange_47 : decode cX11_declareExchange 47 = .ok (.getfield 26, 3) := by decide +kernel
theorem dX11_declareExchange_50 : decode cX11_declareExchange 50 = .ok (.lload_n 2, 1) := by decide +kernel
theorem dX11_declareExchange_51 : decode cX11_declareExchange 51 = .ok (.invokevirtual 290, 3) := by decide +kernel
theorem dX11_declareExchange_54 : decode cX11_declareExchange 54 = .ok (.astore 6, 2) := by decide +kernel
theorem dX11_declareExchange_56 : decode cX11_declareExchange 56 = .ok (.aload 6, 2) := by decide +kernel
theorem dX11_declareExchange_58 : decode cX11_declareExchange 58 = .ok (.ifnonnull 12, 3) := by decide +kernel
theorem dX11_declareExchange_61 : decode cX11_declareExchange 61 = .ok (.iload 5, 2) := by decide +kernel
theorem dX11_declareExchange_63 : decode cX11_declareExchange 63 = .ok (.ifCond .eq 7, 3) := by decide +kernel
theorem dX11_declareExchange_66 : decode cX11_declareExchange 66 = .ok (.sipush 404, 3) := by decide +kernel
theorem dX11_declareExchange_69 : decode cX11_declareExchange 69 = .ok (.ireturn, 1) := by decide +kernel
theorem dX11_declareExchange_70 : decode cX11_declareExchange 70 = .ok (.lload_n 2, 1) := by decide +kernel
theorem dX11_declareExchange_71 : decode cX11_declareExchange 71 = .ok (.lconst 0, 1) := by decide +kernel
theorem dX11_declareExchange_72 : decode cX11_declareExchange 72 = .ok (.lcmp, 1) := by decide +kernel
theorem dX11_declareExchange_73 : decode cX11_declareExchange 73 = .ok (.ifCond .ne 7, 3) := by decide +kernel
theorem dX11_declareExchange_76 : decode cX11_declareExchange 76 = .ok (.sipush 403, 3) := by decide +kernel
theorem dX11_declareExchange_79 : decode cX11_declareExchange 79 = .ok (.ireturn, 1) := by decide +kernel
theorem dX11_declareExchange_80 : decode cX11_declareExchange 80 = .ok (.aload 6, 2) := by decide +kernel
theorem dX11_declareExchange_82 : decode cX11_declareExchange 82 = .ok (.ifnull 17, 3) := by decide +kernel
theorem dX11_declareExchange_85 : decode cX11_declareExchange 85 = .ok (.aload 6, 2) := by decide +kernel
theorem dX11_declareExchange_87 : decode cX11_declareExchange 87 = .ok (.getfield 294, 3) := by decide +kernel
theorem dX11_declareExchange_90 : decode cX11_declareExchange 90 = .ok (.iload 4, 2) := by decide +kernel
theorem dX11_declareExchange_92 : decode cX11_declareExchange 92 = .ok (.if_icmp .eq 7, 3) := by decide +kernel
theorem dX11_declareExchange_95 : decode cX11_declareExchange 95 = .ok (.sipush 406, 3) := by decide +kernel
theorem dX11_declareExchange_98 : decode cX11_declareExchange 98 = .ok (.ireturn, 1) := by decide +kernel
theorem dX11_declareExchange_99 : decode cX11_declareExchange 99 = .ok (.aload 6, 2) := by decide +kernel
theorem dX11_declareExchange_101 : decode cX11_declareExchange 101 = .ok (.ifnonnull 47, 3) := by decide +kernel
theorem dX11_declareExchange_104 : decode cX11_declareExchange 104 = .ok (.aload_n 0, 1) := by decide +kernel
theorem dX11_declareExchange_105 : decode cX11_declareExchange 105 = .ok (.getfield 26, 3) := by decide +kernel
theorem dX11_declareExchange_108 : decode cX11_declareExchange 108 = .ok (.getfield 299, 3) := by decide +kernel
theorem dX11_declareExchange_111 : decode cX11_declareExchange 111 = .ok (.invokeinterface 87 1, 5) := by decide +kernel
theorem dX11_declareExchange_116 : decode cX11_declareExchange 116 = .ok (.bipush 6, 2) := by decide +kernel
theorem dX11_declareExchange_118 : decode cX11_declareExchange 118 = .ok (.if_icmp .lt 7, 3) := by decide +kernel
theorem dX11_declareExchange_121 : decode cX11_declareExchange 121 = .ok (.sipush 506, 3) := by decide +kernel
theorem dX11_declareExchange_124 : decode cX11_declareExchange 124 = .ok (.ireturn, 1) := by decide +kernel
theorem dX11_declareExchange_125 : decode cX11_declareExchange 125 = .ok (.aload_n 0, 1) := by decide +kernel
theorem dX11_declareExchange_126 : decode cX11_declareExchange 126 = .ok (.getfield 26, 3) := by decide +kernel
theorem dX11_declareExchange_129 : decode cX11_declareExchange 129 = .ok (.getfield 299, 3) := by decide +kernel
theorem dX11_declareExchange_132 : decode cX11_declareExchange 132 = .ok (.new 295, 3) := by decide +kernel
theorem dX11_declareExchange_135 : decode cX11_declareExchange 135 = .ok (.dup, 1) := by decide +kernel
theorem dX11_declareExchange_136 : decode cX11_declareExchange 136 = .ok (.lload_n 2, 1) := by decide +kernel
theorem dX11_declareExchange_137 : decode cX11_declareExchange 137 = .ok (.iload 4, 2) := by decide +kernel
theorem dX11_declareExchange_139 : decode cX11_declareExchange 139 = .ok (.invokespecial 302, 3) := by decide +kernel
theorem dX11_declareExchange_142 : decode cX11_declareExchange 142 = .ok (.invokeinterface 304 2, 5) := by decide +kernel
theorem dX11_declareExchange_147 : decode cX11_declareExchange 147 = .ok (.pop, 1) := by decide +kernel
theorem dX11_declareExchange_148 : decode cX11_declareExchange 148 = .ok (.aload_n 0, 1) := by decide +kernel
theorem dX11_declareExchange_149 : decode cX11_declareExchange 149 = .ok (.getfield 19, 3) := by decide +kernel
theorem dX11_declareExchange_152 : decode cX11_declareExchange 152 = .ok (.aload_n 1, 1) := by decide +kernel
theorem dX11_declareExchange_153 : decode cX11_declareExchange 153 = .ok (.getfield 145, 3) := by decide +kernel
theorem dX11_declareExchange_156 : decode cX11_declareExchange 156 = .ok (.sipush 10251, 3) := by decide +kernel
theorem dX11_declareExchange_159 : decode cX11_declareExchange 159 = .ok (.invokevirtual 125, 3) := by decide +kernel
theorem dX11_declareExchange_162 : decode cX11_declareExchange 162 = .ok (.iconst 0, 1) := by decide +kernel
theorem dX11_declareExchange_163 : decode cX11_declareExchange 163 = .ok (.ireturn, 1) := by decide +kernel
def f_X11_declareExchange_148 (a0 : Nat) (r1 : Option Nat) (h : AH) : Option (Int32 × AH) := rdR h a0 12 1 fun r_1 =>
  nn r1 fun a_2 =>
  rdI h a_2 2 0 fun x_3 =>
  nn r_1 fun a_4 =>
  kg h a_4 10 (bd (f_X9_tell a_4 x_3 10251 h) fun _ h_6 =>
  some (0, h_6))
set_option maxRecDepth 20000 in
set_option maxHeartbeats 4000000 in
theorem t_X11_declareExchange_148 {Ω : Om} (a0 : Nat) (r1 : Option Nat) (h : AH) (q : Int32 × AH) (hf : f_X11_declareExchange_148 a0 r1 h = some q) : Go Ω M_X11_declareExchange 148 [(0, vR Ω (some a0)), (1, vR Ω r1)] [] h (some (.int q.1)) q.2 := by
  unfold f_X11_declareExchange_148 at hf
  refine go_aload_n dX11_declareExchange_148 rfl 0 rfl ?_
  refine go_getR dX11_declareExchange_149 fl_389_0 (fun _ _ => rfl) hf (fun r_1 hf => ?_)
  refine go_aload_n dX11_declareExchange_152 rfl 1 rfl ?_
  obtain ⟨a_2, rfl, hga_2⟩ := nn_some hf
  have hf := hga_2
  refine go_getI dX11_declareExchange_153 fl_349_0 (fun _ _ => rfl) hf (fun x_3 hf => ?_)
  refine go_sipush 10251 dX11_declareExchange_156 (by decide) ?_
  obtain ⟨a_4, rfl, hga_4⟩ := nn_some hf
  have hf := hga_4
  obtain ⟨hk, hf⟩ := kg_some hf
  obtain ⟨z_5, hc, hf⟩ := bd_some hf
  refine go_callV (y2 := M_X9_tell) (c2 := 10) dX11_declareExchange_159 mo_X9_tell ⟨Nat.le_of_ble_eq_true rfl, Nat.le_of_ble_eq_true rfl⟩ na_X9_tell w430 w431 (by decide) rfl w432 hk [.int x_3, .int 10251] rfl (n_X9_tell (a_4) x_3 10251) rfl (csum (Nat.le_of_ble_eq_true rfl)) (t_X9_tell (a_4) x_3 10251 h _ hc) ?_
  obtain ⟨_, h_6⟩ := z_5
  refine go_iconst 0 dX11_declareExchange_162 rfl ?_
  exact go_ireturn dX11_declareExchange_163 rfl hf
def f_X11_declareExchange_99 (a0 : Nat) (r1 : Option Nat) (x2 : Int64) (x4 : Int32) (r6 : Option Nat) (h : AH) : Option (Int32 × AH) := nb r6
    (rdR h a0 12 2 fun r_2 =>
    nn r_2 fun a_3 =>
    rdR h a_3 9 0 fun r_4 =>
    nn r_4 fun a_5 =>
    kg h a_5 0 (bd (f_Jx4a65c_size_8abf5 a_5 h) fun x_8 h_7 =>
    (if x_8 < 6 then
      rdR h_7 a0 12 2 fun r_9 =>
      nn r_9 fun a_10 =>
      rdR h_7 a_10 9 0 fun r_11 =>
      nwO h_7 6 fun a_12 h_13 =>
      bd (f_X5_init a_12 x2 x4 h_13) fun _ h_15 =>
      nn r_11 fun a_16 =>
      kg h_15 a_16 0 (bd (f_Jx4a65c_add_9ea2d a_16 (some a_12) h_15) fun x_19 h_18 =>
      f_X11_declareExchange_148 a0 r1 h_18)
    else
      some (506, h_7))))
    (fun a_1 => f_X11_declareExchange_148 a0 r1 h)
set_option maxRecDepth 20000 in
set_option maxHeartbeats 4000000 in
theorem t_X11_declareExchange_99 {Ω : Om} (a0 : Nat) (r1 : Option Nat) (x2 : Int64) (x4 : Int32) (r6 : Option Nat) (h : AH) (q : Int32 × AH) (hf : f_X11_declareExchange_99 a0 r1 x2 x4 r6 h = some q) : Go Ω M_X11_declareExchange 99 [(0, vR Ω (some a0)), (1, vR Ω r1), (2, .long x2), (4, .int x4), (6, vR Ω r6)] [] h (some (.int q.1)) q.2 := by
  unfold f_X11_declareExchange_99 at hf
  refine go_aload dX11_declareExchange_99 4 rfl ?_
  refine go_ifnonnull (x := r6) (tgt := 148) dX11_declareExchange_101 (by decide) hf ?_ ?_
  · rintro rfl hf
    refine go_aload_n dX11_declareExchange_104 rfl 0 rfl ?_
    refine go_getR dX11_declareExchange_105 fl_390_0 (fun _ _ => rfl) hf (fun r_2 hf => ?_)
    obtain ⟨a_3, rfl, hga_3⟩ := nn_some hf
    have hf := hga_3
    refine go_getR dX11_declareExchange_108 fl_317_0 (fun _ _ => rfl) hf (fun r_4 hf => ?_)
    obtain ⟨a_5, rfl, hga_5⟩ := nn_some hf
    have hf := hga_5
    obtain ⟨hk, hf⟩ := kg_some hf
    obtain ⟨z_6, hc, hf⟩ := bd_some hf
    refine go_callF (y2 := M_Jx4a65c_size_8abf5) (x2 := ⟨"java/util/List", "size", "()I"⟩) dX11_declareExchange_111 mo_Jx4a65c_size_8abf5 ⟨Nat.le_of_ble_eq_true rfl, Nat.le_of_ble_eq_true rfl⟩ na_Jx4a65c_size_8abf5 w517 w522 w520 (by decide) (fun U hU => hU.2.2.2.2.1) hk [] rfl (n_Jx4a65c_size_8abf5 (a_5)) rfl (csum (Nat.le_of_ble_eq_true rfl)) (t_Jx4a65c_size_8abf5 (a_5) h _ hc) ?_
    obtain ⟨x_8, h_7⟩ := z_6
    refine go_bipush 6 dX11_declareExchange_116 (by decide) ?_
    refine go_icmp_lt (tgt := 125) dX11_declareExchange_118 (by decide) hf (fun hf => ?_) (fun hf => ?_)
    · refine go_aload_n dX11_declareExchange_125 rfl 0 rfl ?_
      refine go_getR dX11_declareExchange_126 fl_390_0 (fun _ _ => rfl) hf (fun r_9 hf => ?_)
      obtain ⟨a_10, rfl, hga_10⟩ := nn_some hf
      have hf := hga_10
      refine go_getR dX11_declareExchange_129 fl_317_0 (fun _ _ => rfl) hf (fun r_11 hf => ?_)
      refine go_new (c := 6) dX11_declareExchange_132 (by decide) rfl w770 hf (fun a_12 h_13 hf => ?_)
      refine go_dup dX11_declareExchange_135 catR ?_
      refine go_lload_n dX11_declareExchange_136 rfl 2 rfl ?_
      refine go_iload dX11_declareExchange_137 3 rfl ?_
      obtain ⟨z_14, hc, hf⟩ := bd_some hf
      refine go_callI (y2 := M_X5_init) dX11_declareExchange_139 mo_X5_init ⟨Nat.le_of_ble_eq_true rfl, Nat.le_of_ble_eq_true rfl⟩ na_X5_init w771 w235 rfl rfl [.long x2, .int x4] rfl (n_X5_init (a_12) x2 x4) rfl (csum (Nat.le_of_ble_eq_true rfl)) (t_X5_init (a_12) x2 x4 h_13 _ hc) ?_
      obtain ⟨_, h_15⟩ := z_14
      obtain ⟨a_16, rfl, hga_16⟩ := nn_some hf
      have hf := hga_16
      obtain ⟨hk, hf⟩ := kg_some hf
      obtain ⟨z_17, hc, hf⟩ := bd_some hf
      refine go_callF (y2 := M_Jx4a65c_add_9ea2d) (x2 := ⟨"java/util/List", "add", "(Ljava/lang/Object;)Z"⟩) dX11_declareExchange_142 mo_Jx4a65c_add_9ea2d ⟨Nat.le_of_ble_eq_true rfl, Nat.le_of_ble_eq_true rfl⟩ na_Jx4a65c_add_9ea2d w526 w256 w254 (by decide) (fun U hU => hU.1) hk [vR Ω (some a_12)] rfl (n_Jx4a65c_add_9ea2d (a_16) (some a_12)) rfl (csum (Nat.le_of_ble_eq_true rfl)) (t_Jx4a65c_add_9ea2d (a_16) (some a_12) h_15 _ hc) ?_
      obtain ⟨x_19, h_18⟩ := z_17
      refine go_pop dX11_declareExchange_147 rfl ?_
      refine go_sub (lv' := [(0, vR Ω (some a0)), (1, vR Ω r1)]) [0, 1] rfl ?_
      exact t_X11_declareExchange_148 a0 r1 h_18 q hf
    · refine go_sipush 506 dX11_declareExchange_121 (by decide) ?_
      exact go_ireturn dX11_declareExchange_124 rfl hf
  · rintro a_1 rfl hf
    refine go_sub (lv' := [(0, vR Ω (some a0)), (1, vR Ω r1)]) [0, 1] rfl ?_
    exact t_X11_declareExchange_148 a0 r1 h q hf
def f_X11_declareExchange_70 (a0 : Nat) (r1 : Option Nat) (x2 : Int64) (x4 : Int32) (r6 : Option Nat) (h : AH) : Option (Int32 × AH) := (if (lg_cmp x2 0) = 0 then
    some (403, h)
  else
    nb r6
      (f_X11_declareExchange_99 a0 r1 x2 x4 none h)
      (fun a_1 => rdI h a_1 6 1 fun x_2 =>
      (if x_2 = x4 then
        f_X11_declareExchange_99 a0 r1 x2 x4 (some a_1) h
      else
        some (406, h))))
set_option maxRecDepth 20000 in
set_option maxHeartbeats 4000000 in
theorem t_X11_declareExchange_70 {Ω : Om} (a0 : Nat) (r1 : Option Nat) (x2 : Int64) (x4 : Int32) (r6 : Option Nat) (h : AH) (q : Int32 × AH) (hf : f_X11_declareExchange_70 a0 r1 x2 x4 r6 h = some q) : Go Ω M_X11_declareExchange 70 [(0, vR Ω (some a0)), (1, vR Ω r1), (2, .long x2), (4, .int x4), (6, vR Ω r6)] [] h (some (.int q.1)) q.2 := by
  unfold f_X11_declareExchange_70 at hf
  refine go_lload_n dX11_declareExchange_70 rfl 2 rfl ?_
  refine go_lconst 0 dX11_declareExchange_71 rfl ?_
  refine go_lcmp dX11_declareExchange_72 ?_
  refine go_if_ne (tgt := 80) dX11_declareExchange_73 (by decide) hf (fun hf => ?_) (fun hf => ?_)
  · refine go_aload dX11_declareExchange_80 4 rfl ?_
    refine go_ifnull (x := r6) (tgt := 99) dX11_declareExchange_82 (by decide) hf ?_ ?_
    · rintro rfl hf
      refine go_sub (lv' := [(0, vR Ω (some a0)), (1, vR Ω r1), (2, .long x2), (4, .int x4), (6, vR Ω none)]) [0, 1, 2, 3, 4] rfl ?_
      exact t_X11_declareExchange_99 a0 r1 x2 x4 none h q hf
    · rintro a_1 rfl hf
      refine go_aload dX11_declareExchange_85 4 rfl ?_
      refine go_getI dX11_declareExchange_87 fl_243_0 (fun _ _ => rfl) hf (fun x_2 hf => ?_)
      refine go_iload dX11_declareExchange_90 3 rfl ?_
      refine go_icmp_eq (tgt := 99) dX11_declareExchange_92 (by decide) hf (fun hf => ?_) (fun hf => ?_)
      · refine go_sub (lv' := [(0, vR Ω (some a0)), (1, vR Ω r1), (2, .long x2), (4, .int x4), (6, vR Ω (some a_1))]) [0, 1, 2, 3, 4] rfl ?_
        exact t_X11_declareExchange_99 a0 r1 x2 x4 (some a_1) h q hf
      · refine go_sipush 406 dX11_declareExchange_95 (by decide) ?_
        exact go_ireturn dX11_declareExchange_98 rfl hf
  · refine go_sipush 403 dX11_declareExchange_76 (by decide) ?_
    exact go_ireturn dX11_declareExchange_79 rfl hf
def f_X11_declareExchange (a0 : Nat) (r1 : Option Nat) (h : AH) : Option (Int32 × AH) := rdR h a0 12 0 fun r_1 =>
  nn r_1 fun a_2 =>
  kg h a_2 7 (bd (f_X6_readName a_2 h) fun x_5 h_4 =>
  rdR h_4 a0 12 0 fun r_6 =>
  nn r_6 fun a_7 =>
  kg h_4 a_7 7 (bd (f_X6_readByte a_7 h_4) fun x_10 h_9 =>
  rdR h_9 a0 12 0 fun r_11 =>
  nn r_11 fun a_12 =>
  kg h_9 a_12 7 (bd (f_X6_readFlag a_12 h_9) fun x_15 h_14 =>
  rdR h_14 a0 12 0 fun r_16 =>
  nn r_16 fun a_17 =>
  kg h_14 a_17 7 (bd (f_X6_isJustRead a_17 h_14) fun x_20 h_19 =>
  (if x_20 = 0 then
    some (501, h_19)
  else
    (if x_10 ≤ 2 then
      rdR h_19 a0 12 2 fun r_21 =>
      nn r_21 fun a_22 =>
      kg h_19 a_22 9 (bd (f_X8_exchangeNamed a_22 x_5 h_19) fun r_25 h_24 =>
      nb r_25
        ((if x_15 = 0 then
          f_X11_declareExchange_70 a0 r1 x_5 x_10 none h_24
        else
          some (404, h_24)))
        (fun a_26 => f_X11_declareExchange_70 a0 r1 x_5 x_10 (some a_26) h_24))
    else
      some (501, h_19)))))))
set_option maxRecDepth 20000 in
set_option maxHeartbeats 4000000 in
theorem t_X11_declareExchange {Ω : Om} (a0 : Nat) (r1 : Option Nat) (h : AH) (q : Int32 × AH) (hf : f_X11_declareExchange a0 r1 h = some q) : Go Ω M_X11_declareExchange 0 (lv_args 0 [vR Ω (some a0), vR Ω r1]) [] h (some (.int q.1)) q.2 := by
  unfold f_X11_declareExchange at hf
  rw [la_R, la_R, la_0]
  refine go_sub (lv' := [(0, vR Ω (some a0)), (1, vR Ω r1)]) [0, 1] rfl ?_
  refine go_aload_n dX11_declareExchange_0 rfl 0 rfl ?_
  refine go_getR dX11_declareExchange_1 fl_388_0 (fun _ _ => rfl) hf (fun r_1 hf => ?_)
  obtain ⟨a_2, rfl, hga_2⟩ := nn_some hf
  have hf := hga_2
  obtain ⟨hk, hf⟩ := kg_some hf
  obtain ⟨z_3, hc, hf⟩ := bd_some hf
  refine go_callV (y2 := M_X6_readName) (c2 := 7) dX11_declareExchange_4 mo_X6_readName ⟨Nat.le_of_ble_eq_true rfl, Nat.le_of_ble_eq_true rfl⟩ na_X6_readName w758 w759 (by decide) rfl w760 hk [] rfl (n_X6_readName (a_2)) rfl (csum (Nat.le_of_ble_eq_true rfl)) (t_X6_readName (a_2) h _ hc) ?_
  obtain ⟨x_5, h_4⟩ := z_3
  refine go_lstore_n (i := 2) (lv' := [(2, .long x_5), (0, vR Ω (some a0)), (1, vR Ω r1)]) dX11_declareExchange_7 rfl (by decide) (by first | rfl | simp [catR, catI, catJ]) ?_
  refine go_aload_n dX11_declareExchange_8 rfl 1 rfl ?_
  refine go_getR dX11_declareExchange_9 fl_388_0 (fun _ _ => rfl) hf (fun r_6 hf => ?_)
  obtain ⟨a_7, rfl, hga_7⟩ := nn_some hf
  have hf := hga_7
  obtain ⟨hk, hf⟩ := kg_some hf
  obtain ⟨z_8, hc, hf⟩ := bd_some hf
  refine go_callV (y2 := M_X6_readByte) (c2 := 7) dX11_declareExchange_12 mo_X6_readByte ⟨Nat.le_of_ble_eq_true rfl, Nat.le_of_ble_eq_true rfl⟩ na_X6_readByte w486 w471 (by decide) rfl w472 hk [] rfl (n_X6_readByte (a_7)) rfl (csum (Nat.le_of_ble_eq_true rfl)) (t_X6_readByte (a_7) h_4 _ hc) ?_
  obtain ⟨x_10, h_9⟩ := z_8
  refine go_istore (i := 4) (lv' := [(4, .int x_10), (2, .long x_5), (0, vR Ω (some a0)), (1, vR Ω r1)]) dX11_declareExchange_15 (by decide) (by first | rfl | simp [catR, catI, catJ]) ?_
  refine go_aload_n dX11_declareExchange_17 rfl 2 rfl ?_
  refine go_getR dX11_declareExchange_18 fl_388_0 (fun _ _ => rfl) hf (fun r_11 hf => ?_)
  obtain ⟨a_12, rfl, hga_12⟩ := nn_some hf
  have hf := hga_12
  obtain ⟨hk, hf⟩ := kg_some hf
  obtain ⟨z_13, hc, hf⟩ := bd_some hf
  refine go_callV (y2 := M_X6_readFlag) (c2 := 7) dX11_declareExchange_21 mo_X6_readFlag ⟨Nat.le_of_ble_eq_true rfl, Nat.le_of_ble_eq_true rfl⟩ na_X6_readFlag w762 w763 (by decide) rfl w764 hk [] rfl (n_X6_readFlag (a_12)) rfl (csum (Nat.le_of_ble_eq_true rfl)) (t_X6_readFlag (a_12) h_9 _ hc) ?_
  obtain ⟨x_15, h_14⟩ := z_13
  refine go_istore (i := 5) (lv' := [(5, .int x_15), (4, .int x_10), (2, .long x_5), (0, vR Ω (some a0)), (1, vR Ω r1)]) dX11_declareExchange_24 (by decide) (by first | rfl | simp [catR, catI, catJ]) ?_
  refine go_aload_n dX11_declareExchange_26 rfl 3 rfl ?_
  refine go_getR dX11_declareExchange_27 fl_388_0 (fun _ _ => rfl) hf (fun r_16 hf => ?_)
  obtain ⟨a_17, rfl, hga_17⟩ := nn_some hf
  have hf := hga_17
  obtain ⟨hk, hf⟩ := kg_some hf
  obtain ⟨z_18, hc, hf⟩ := bd_some hf
  refine go_callV (y2 := M_X6_isJustRead) (c2 := 7) dX11_declareExchange_30 mo_X6_isJustRead ⟨Nat.le_of_ble_eq_true rfl, Nat.le_of_ble_eq_true rfl⟩ na_X6_isJustRead w474 w475 (by decide) rfl w476 hk [] rfl (n_X6_isJustRead (a_17)) rfl (csum (Nat.le_of_ble_eq_true rfl)) (t_X6_isJustRead (a_17) h_14 _ hc) ?_
  obtain ⟨x_20, h_19⟩ := z_18
  refine go_if_eq (tgt := 42) dX11_declareExchange_33 (by decide) hf (fun hf => ?_) (fun hf => ?_)
  · refine go_sipush 501 dX11_declareExchange_42 (by decide) ?_
    exact go_ireturn dX11_declareExchange_45 rfl hf
  · refine go_iload dX11_declareExchange_36 1 rfl ?_
    refine go_iconst 2 dX11_declareExchange_38 rfl ?_
    refine go_icmp_le (tgt := 46) dX11_declareExchange_39 (by decide) hf (fun hf => ?_) (fun hf => ?_)
    · refine go_aload_n dX11_declareExchange_46 rfl 3 rfl ?_
      refine go_getR dX11_declareExchange_47 fl_390_0 (fun _ _ => rfl) hf (fun r_21 hf => ?_)
      refine go_lload_n dX11_declareExchange_50 rfl 2 rfl ?_
      obtain ⟨a_22, rfl, hga_22⟩ := nn_some hf
      have hf := hga_22
      obtain ⟨hk, hf⟩ := kg_some hf
      obtain ⟨z_23, hc, hf⟩ := bd_some hf
      refine go_callV (y2 := M_X8_exchangeNamed) (c2 := 9) dX11_declareExchange_51 mo_X8_exchangeNamed ⟨Nat.le_of_ble_eq_true rfl, Nat.le_of_ble_eq_true rfl⟩ na_X8_exchangeNamed w766 w767 (by decide) rfl w768 hk [.long x_5] rfl (n_X8_exchangeNamed (a_22) x_5) rfl (csum (Nat.le_of_ble_eq_true rfl)) (t_X8_exchangeNamed (a_22) x_5 h_19 _ hc) ?_
      obtain ⟨r_25, h_24⟩ := z_23
      refine go_astore (i := 6) (lv' := [(6, vR Ω r_25), (5, .int x_15), (4, .int x_10), (2, .long x_5), (0, vR Ω (some a0)), (1, vR Ω r1)]) dX11_declareExchange_54 (by decide) (by first | rfl | simp [catR, catI, catJ]) ?_
      refine go_aload dX11_declareExchange_56 0 rfl ?_
      refine go_ifnonnull (x := r_25) (tgt := 70) dX11_declareExchange_58 (by decide) hf ?_ ?_
      · rintro rfl hf
        refine go_iload dX11_declareExchange_61 1 rfl ?_
        refine go_if_eq (tgt := 70) dX11_declareExchange_63 (by decide) hf (fun hf => ?_) (fun hf => ?_)
        · refine go_sub (lv' := [(0, vR Ω (some a0)), (1, vR Ω r1), (2, .long x_5), (4, .int x_10), (6, vR Ω none)]) [4, 5, 3, 2, 0] rfl ?_
          exact t_X11_declareExchange_70 a0 r1 x_5 x_10 none h_24 q hf
        · refine go_sipush 404 dX11_declareExchange_66 (by decide) ?_
          exact go_ireturn dX11_declareExchange_69 rfl hf
      · rintro a_26 rfl hf
        refine go_sub (lv' := [(0, vR Ω (some a0)), (1, vR Ω r1), (2, .long x_5), (4, .int x_10), (6, vR Ω (some a_26))]) [4, 5, 3, 2, 0] rfl ?_
        exact t_X11_declareExchange_70 a0 r1 x_5 x_10 (some a_26) h_24 q hf
    · refine go_sipush 501 dX11_declareExchange_42 (by decide) ?_
      exact go_ireturn dX11_declareExchange_45 rfl hf
-- LetterBroker$Queue.<init>(J)V
theorem dX10_init_0 : decode cX10_init 0 = .ok (.aload_n 0, 1) := by decide +kernel
theorem dX10_init_1 : decode cX10_init 1 = .ok (.invokespecial 1, 3) := by decide +kernel
theorem dX10_init_4 : decode cX10_init 4 = .ok (.aload_n 0, 1) := by decide +kernel
theorem dX10_init_5 : decode cX10_init 5 = .ok (.new 7, 3) := by decide +kernel
theorem dX10_init_8 : decode cX10_init 8 = .ok (.dup, 1) := by decide +kernel
theorem dX10_init_9 : decode cX10_init 9 = .ok (.invokespecial 9, 3) := by decide +kernel
theorem dX10_init_12 : decode cX10_init 12 = .ok (.putfield 10, 3) := by decide +kernel
theorem dX10_init_15 : decode cX10_init 15 = .ok (.aload_n 0, 1) := by decide +kernel
theorem dX10_init_16 : decode cX10_init 16 = .ok (.lload_n 1, 1) := by decide +kernel
theorem dX10_init_17 : decode cX10_init 17 = .ok (.putfield 16, 3) := by decide +kernel
theorem dX10_init_20 : decode cX10_init 20 = .ok (.return_, 1) := by decide +kernel
def f_X10_init (a0 : Nat) (x1 : Int64) (h : AH) : Option (Unit × AH) := nwO h 0 fun a_1 h_2 =>
  bd (f_Jx4a65c_init_da8c8 a_1 h_2) fun _ h_4 =>
  wrR h_4 a0 11 1 (some a_1) fun h_5 =>
  wrJ h_5 a0 11 0 x1 fun h_6 =>
  some ((), h_6)
set_option maxRecDepth 20000 in
set_option maxHeartbeats 4000000 in
theorem t_X10_init {Ω : Om} (a0 : Nat) (x1 : Int64) (h : AH) (q : Unit × AH) (hf : f_X10_init a0 x1 h = some q) : Go Ω M_X10_init 0 (lv_args 0 [vR Ω (some a0), .long x1]) [] h none q.2 := by
  unfold f_X10_init at hf
  rw [la_R, la_J, la_0]
  refine go_sub (lv' := [(0, vR Ω (some a0)), (1, .long x1)]) [0, 1] rfl ?_
  refine go_aload_n dX10_init_0 rfl 0 rfl ?_
  refine go_objInit dX10_init_1 w797 ⟨by decide, cadd (csum (Nat.le_of_ble_eq_true rfl)) (by decide +kernel)⟩ ?_
  refine go_aload_n dX10_init_4 rfl 0 rfl ?_
  refine go_new (c := 0) dX10_init_5 (by decide) rfl w798 hf (fun a_1 h_2 hf => ?_)
  refine go_dup dX10_init_8 catR ?_
  obtain ⟨z_3, hc, hf⟩ := bd_some hf
  refine go_callI (y2 := M_Jx4a65c_init_da8c8) dX10_init_9 mo_Jx4a65c_init_da8c8 ⟨Nat.le_of_ble_eq_true rfl, Nat.le_of_ble_eq_true rfl⟩ na_Jx4a65c_init_da8c8 w799 w209 rfl rfl [] rfl (n_Jx4a65c_init_da8c8 (a_1)) rfl (csum (Nat.le_of_ble_eq_true rfl)) (t_Jx4a65c_init_da8c8 (a_1) h_2 _ hc) ?_
  obtain ⟨_, h_4⟩ := z_3
  refine go_putR dX10_init_12 fl_802_0 (fun q hq => by cases hq; exact Or.inr ⟨rfl, rfl, rfl⟩) (fun _ _ => rfl) (Or.inl ⟨_, rfl⟩) hf (fun h_5 hf => ?_)
  refine go_aload_n dX10_init_15 rfl 0 rfl ?_
  refine go_lload_n dX10_init_16 rfl 1 rfl ?_
  refine go_putJ dX10_init_17 fl_800_0 (fun q hq => by cases hq; exact Or.inr ⟨rfl, rfl, rfl⟩) (fun _ _ => rfl) rfl hf (fun h_6 hf => ?_)
  exact go_return dX10_init_20 rfl hf
-- LetterBroker.declareQueue(LLetterBroker$Channel;)I
theorem dX11_declareQueue_0 : decode cX11_declareQueue 0 = .ok (.aload_n 0, 1) := by decide +kernel
theorem dX11_declareQueue_1 : decode cX11_declareQueue 1 = .ok (.getfield 10, 3) := by decide +kernel
theorem dX11_declareQueue_4 : decode cX11_declareQueue 4 = .ok (.invokevirtual 283, 3) := by decide +kernel
theorem dX11_declareQueue_7 : decode cX11_declareQueue 7 = .ok (.lstore_n 2, 1) := by decide +kernel
theorem dX11_declareQueue_8 : decode cX11_declareQueue 8 = .ok (.aload_n 0, 1) := by decide +kernel
theorem dX11_declareQueue_9 : decode cX11_declareQueue 9 = .ok (.getfield 10, 3) := by decide +kernel
theorem dX11_declareQueue_12 : decode cX11_declareQueue 12 = .ok (.invokevirtual 287, 3) := by decide +kernel
theorem dX11_declareQueue_15 : decode cX11_declareQueue 15 = .ok (.istore 4, 2) := by decide +kernel
theorem dX11_declareQueue_17 : decode cX11_declareQueue 17 = .ok (.aload_n 0, 1) := by decide +kernel
theorem dX11_declareQueue_18 : decode cX11_declareQueue 18 = .ok (.getfield 10, 3) := by decide +kernel
theorem dX11_declareQueue_21 : decode cX11_declareQueue 21 = .ok (.invokevirtual 132, 3) := by decide +kernel
theorem dX11_declareQueue_24 : decode cX11_declareQueue 24 = .ok (.ifCond .ne 7, 3) := by decide +kernel
theorem dX11_declareQueue_27 : decode cX11_declareQueue 27 = .ok (.sipush 501, 3) := by decide +kernel
theorem dX11_declareQueue_30 : decode cX11_declareQueue 30 = .ok (.ireturn, 1) := by decide +kernel
theorem dX11_declareQueue_31 : decode cX11_declareQueue 31 = .ok (.aload_n 0, 1) := by decide +kernel
theorem dX11_declareQueue_32 : decode cX11_declareQueue 32 = .ok (.getfield 26, 3) := by decide +kernel
theorem dX11_declareQueue_35 : decode cX11_declareQueue 35 = .ok (.lload_n 2, 1) := by decide +kernel
theorem dX11_declareQueue_36 : decode cX11_declareQueue 36 = .ok (.invokevirtual 315, 3) := by decide +kernel
theorem dX11_declareQueue_39 : decode cX11_declareQueue 39 = .ok (.astore 5, 2) := by decide +kernel
theorem dX11_declareQueue_41 : decode cX11_declareQueue 41 = .ok (.aload 5, 2) := by decide +kernel
theorem dX11_declareQueue_43 : decode cX11_declareQueue 43 = .ok (.ifnonnull 12, 3) := by decide +kernel
theorem dX11_declareQueue_46 : decode cX11_declareQueue 46 = .ok (.iload 4, 2) := by decide +kernel
theorem dX11_declareQueue_48 : decode cX11_declareQueue 48 = .ok (.ifCond .eq 7, 3) := by decide +kernel
theorem dX11_declareQueue_51 : decode cX11_declareQueue 51 = .ok (.sipush 404, 3) := by decide +kernel
theorem dX11_declareQueue_54 : decode cX11_declareQueue 54 = .ok (.ireturn, 1) := by decide +kernel
theorem dX11_declareQueue_55 : decode cX11_declareQueue 55 = .ok (.lload_n 2, 1) := by decide +kernel
theorem dX11_declareQueue_56 : decode cX11_declareQueue 56 = .ok (.lconst 0, 1) := by decide +kernel
theorem dX11_declareQueue_57 : decode cX11_declareQueue 57 = .ok (.lcmp, 1) := by decide +kernel
theorem dX11_declareQueue_58 : decode cX11_declareQueue 58 = .ok (.ifCond .ne 7, 3) := by decide +kernel
theorem dX11_declareQueue_61 : decode cX11_declareQueue 61 = .ok (.sipush 403, 3) := by decide +kernel
theorem dX11_declareQueue_64 : decode cX11_declareQueue 64 = .ok (.ireturn, 1) := by decide +kernel
theorem dX11_declareQueue_65 : decode cX11_declareQueue 65 = .ok (.aload 5, 2) := by decide +kernel
theorem dX11_declareQueue_67 : decode cX11_declareQueue 67 = .ok (.ifnonnull 48, 3) := by decide +kernel
theorem dX11_declareQueue_70 : decode cX11_declareQueue 70 = .ok (.aload_n 0, 1) := by decide +kernel
theorem dX11_declareQueue_71 : decode cX11_declareQueue 71 = .ok (.getfield 26, 3) := by decide +kernel
theorem dX11_declareQueue_74 : decode cX11_declareQueue 74 = .ok (.getfield 97, 3) := by decide +kernel
theorem dX11_declareQueue_77 : decode cX11_declareQueue 77 = .ok (.invokeinterface 87 1, 5) := by decide +kernel
theorem dX11_declareQueue_82 : decode cX11_declareQueue 82 = .ok (.iconst 5, 1) := by decide +kernel
theorem dX11_declareQueue_83 : decode cX11_declareQueue 83 = .ok (.if_icmp .lt 7, 3) := by decide +kernel
theorem dX11_declareQueue_86 : decode cX11_declareQueue 86 = .ok (.sipush 506, 3) := by decide +kernel
theorem dX11_declareQueue_89 : decode cX11_declareQueue 89 = .ok (.ireturn, 1) := by decide +kernel
theorem dX11_declareQueue_90 : decode cX11_declareQueue 90 = .ok (.new 104, 3) := by decide +kernel
theorem dX11_declareQueue_93 : decode cX11_declareQueue 93 = .ok (.dup, 1) := by decide +kernel
theorem dX11_declareQueue_94 : decode cX11_declareQueue 94 = .ok (.lload_n 2, 1) := by decide +kernel
theorem dX11_declareQueue_95 : decode cX11_declareQueue 95 = .ok (.invokespecial 319, 3) := by decide +kernel
theorem dX11_declareQueue_98 : decode cX11_declareQueue 98 = .ok (.astore 5, 2) := by decide +kernel
theorem dX11_declareQueue_100 : decode cX11_declareQueue 100 = .ok (.aload_n 0, 1) := by decide +kernel
theorem dX11_declareQueue_101 : decode cX11_declareQueue 101 = .ok (.getfield 26, 3) := by decide +kernel
theorem dX11_declareQueue_104 : decode cX11_declareQueue 104 = .ok (.getfield 97, 3) := by decide +kernel
theorem dX11_declareQueue_107 : decode cX11_declareQueue 107 = .ok (.aload 5, 2) := by decide +kernel
theorem dX11_declareQueue_109 : decode cX11_declareQueue 109 = .ok (.invokeinterface 304 2, 5) := by decide +kernel
theorem dX11_declareQueue_114 : decode cX11_declareQueue 114 = .ok (.pop, 1) := by decide +kernel
theorem dX11_declareQueue_115 : decode cX11_declareQueue 115 = .ok (.aload_n 0, 1) := by decide +kernel
theorem dX11_declareQueue_116 : decode cX11_declareQueue 116 = .ok (.getfield 19, 3) := by decide +kernel
theorem dX11_declareQueue_119 : decode cX11_declareQueue 119 = .ok (.aload_n 1, 1) := by decide +kernel
theorem dX11_declareQueue_120 : decode cX11_declareQueue 120 = .ok (.getfield 145, 3) := by decide +kernel
theorem dX11_declareQueue_123 : decode cX11_declareQueue 123 = .ok (.sipush 12811, 3) := by decide +kernel
theorem dX11_declareQueue_126 : decode cX11_declareQueue 126 = .ok (.invokevirtual 272, 3) := by decide +kernel
theorem dX11_declareQueue_129 : decode cX11_declareQueue 129 = .ok (.aload_n 0, 1) := by decide +kernel
theorem dX11_declareQueue_130 : decode cX11_declareQueue 130 = .ok (.getfield 19, 3) := by decide +kernel
theorem dX11_declareQueue_133 : decode cX11_declareQueue 133 = .ok (.lload_n 2, 1) := by decide +kernel
theorem dX11_declareQueue_134 : decode cX11_declareQueue 134 = .ok (.invokevirtual 322, 3) := by decide +kernel
theorem dX11_declareQueue_137 : decode cX11_declareQueue 137 = .ok (.aload_n 0, 1) := by decide +kernel
theorem dX11_declareQueue_138 : decode cX11_declareQueue 138 = .ok (.getfield 19, 3) := by decide +kernel
theorem dX11_declareQueue_141 : decode cX11_declareQueue 141 = .ok (.aload 5, 2) := by decide +kernel
theorem dX11_declareQueue_143 : decode cX11_declareQueue 143 = .ok (.getfield 106, 3) := by decide +kernel
theorem dX11_declareQueue_146 : decode cX11_declareQueue 146 = .ok (.invokeinterface 87 1, 5) := by decide +kernel
theorem dX11_declareQueue_151 : decode cX11_declareQueue 151 = .ok (.invokevirtual 274, 3) := by decide +kernel
theorem dX11_declareQueue_154 : decode cX11_declareQueue 154 = .ok (.aload_n 0, 1) := by decide +kernel
theorem dX11_declareQueue_155 : decode cX11_declareQueue 155 = .ok (.getfield 19, 3) := by decide +kernel
theorem dX11_declareQueue_158 : decode cX11_declareQueue 158 = .ok (.aload_n 0, 1) := by decide +kernel
theorem dX11_declareQueue_159 : decode cX11_declareQueue 159 = .ok (.getfield 26, 3) := by decide +kernel
theorem dX11_declareQueue_162 : decode cX11_declareQueue 162 = .ok (.aload 5, 2) := by decide +kernel
theorem dX11_declareQueue_164 : decode cX11_declareQueue 164 = .ok (.invokevirtual 109, 3) := by decide +kernel
theorem dX11_declareQueue_167 : decode cX11_declareQueue 167 = .ok (.invokevirtual 274, 3) := by decide +kernel
theorem dX11_declareQueue_170 : decode cX11_declareQueue 170 = .ok (.aload_n 0, 1) := by decide +kernel
theorem dX11_declareQueue_171 : decode cX11_declareQueue 171 = .ok (.getfield 19, 3) := by decide +kernel
theorem dX11_declareQueue_174 : decode cX11_declareQueue 174 = .ok (.invokevirtual 277, 3) := by decide +kernel
theorem dX11_declareQueue_177 : decode cX11_declareQueue 177 = .ok (.iconst 0, 1) := by decide +kernel
theorem dX11_declareQueue_178 : decode cX11_declareQueue 178 = .ok (.ireturn, 1) := by decide +kernel
def f_X11_declareQueue_115 (a0 : Nat) (r1 : Option Nat) (x2 : Int64) (r5 : Option Nat) (h : AH) : Option (Int32 × AH) := rdR h a0 12 1 fun r_1 =>
  nn r1 fun a_2 =>
  rdI h a_2 2 0 fun x_3 =>
  nn r_1 fun a_4 =>
  kg h a_4 10 (bd (f_X9_begin a_4 x_3 12811 h) fun _ h_6 =>
  rdR h_6 a0 12 1 fun r_7 =>
  nn r_7 fun a_8 =>
  kg h_6 a_8 10 (bd (f_X9_putName a_8 x2 h_6) fun _ h_10 =>
  rdR h_10 a0 12 1 fun r_11 =>
  nn r5 fun a_12 =>
  rdR h_10 a_12 11 1 fun r_13 =>
  nn r_13 fun a_14 =>
  kg h_10 a_14 0 (bd (f_Jx4a65c_size_8abf5 a_14 h_10) fun x_17 h_16 =>
  nn r_11 fun a_18 =>
  kg h_16 a_18 10 (bd (f_X9_put a_18 x_17 h_16) fun _ h_20 =>
  rdR h_20 a0 12 1 fun r_21 =>
  rdR h_20 a0 12 2 fun r_22 =>
  nn r_22 fun a_23 =>
  kg h_20 a_23 9 (bd (f_X8_consumersOf a_23 (some a_12) h_20) fun x_26 h_25 =>
  nn r_21 fun a_27 =>
  kg h_25 a_27 10 (bd (f_X9_put a_27 x_26 h_25) fun _ h_29 =>
  rdR h_29 a0 12 1 fun r_30 =>
  nn r_30 fun a_31 =>
  kg h_29 a_31 10 (bd (f_X9_end a_31 h_29) fun _ h_33 =>
  some (0, h_33))))))))
set_option maxRecDepth 20000 in
set_option maxHeartbeats 4000000 in
theorem t_X11_declareQueue_115 {Ω : Om} (a0 : Nat) (r1 : Option Nat) (x2 : Int64) (r5 : Option Nat) (h : AH) (q : Int32 × AH) (hf : f_X11_declareQueue_115 a0 r1 x2 r5 h = some q) : Go Ω M_X11_declareQueue 115 [(0, vR Ω (some a0)), (1, vR Ω r1), (2, .long x2), (5, vR Ω r5)] [] h (some (.int q.1)) q.2 := by
  unfold f_X11_declareQueue_115 at hf
  refine go_aload_n dX11_declareQueue_115 rfl 0 rfl ?_
  refine go_getR dX11_declareQueue_116 fl_389_0 (fun _ _ => rfl) hf (fun r_1 hf => ?_)
  refine go_aload_n dX11_declareQueue_119 rfl 1 rfl ?_
  obtain ⟨a_2, rfl, hga_2⟩ := nn_some hf
  have hf := hga_2
  refine go_getI dX11_declareQueue_120 fl_349_0 (fun _ _ => rfl) hf (fun x_3 hf => ?_)
  refine go_sipush 12811 dX11_declareQueue_123 (by decide) ?_
  obtain ⟨a_4, rfl, hga_4⟩ := nn_some hf
  have hf := hga_4
  obtain ⟨hk, hf⟩ := kg_some hf
  obtain ⟨z_5, hc, hf⟩ := bd_some hf
  refine go_callV (y2 := M_X9_begin) (c2 := 10) dX11_declareQueue_126 mo_X9_begin ⟨Nat.le_of_ble_eq_true rfl, Nat.le_of_ble_eq_true rfl⟩ na_X9_begin w586 w435 (by decide) rfl w436 hk [.int x_3, .int 12811] rfl (n_X9_begin (a_4) x_3 12811) rfl (csum (Nat.le_of_ble_eq_true rfl)) (t_X9_begin (a_4) x_3 12811 h _ hc) ?_
  obtain ⟨_, h_6⟩ := z_5
  refine go_aload_n dX11_declareQueue_129 rfl 0 rfl ?_
  refine go_getR dX11_declareQueue_130 fl_389_0 (fun _ _ => rfl) hf (fun r_7 hf => ?_)
  refine go_lload_n dX11_declareQueue_133 rfl 2 rfl ?_
  obtain ⟨a_8, rfl, hga_8⟩ := nn_some hf
  have hf := hga_8
  obtain ⟨hk, hf⟩ := kg_some hf
  obtain ⟨z_9, hc, hf⟩ := bd_some hf
  refine go_callV (y2 := M_X9_putName) (c2 := 10) dX11_declareQueue_134 mo_X9_putName ⟨Nat.le_of_ble_eq_true rfl, Nat.le_of_ble_eq_true rfl⟩ na_X9_putName w591 w592 (by decide) rfl w593 hk [.long x2] rfl (n_X9_putName (a_8) x2) rfl (csum (Nat.le_of_ble_eq_true rfl)) (t_X9_putName (a_8) x2 h_6 _ hc) ?_
  obtain ⟨_, h_10⟩ := z_9
  refine go_aload_n dX11_declareQueue_137 rfl 0 rfl ?_
  refine go_getR dX11_declareQueue_138 fl_389_0 (fun _ _ => rfl) hf (fun r_11 hf => ?_)
  refine go_aload dX11_declareQueue_141 3 rfl ?_
  obtain ⟨a_12, rfl, hga_12⟩ := nn_some hf
  have hf := hga_12
  refine go_getR dX11_declareQueue_143 fl_804_0 (fun _ _ => rfl) hf (fun r_13 hf => ?_)
  obtain ⟨a_14, rfl, hga_14⟩ := nn_some hf
  have hf := hga_14
  obtain ⟨hk, hf⟩ := kg_some hf
  obtain ⟨z_15, hc, hf⟩ := bd_some hf
  refine go_callF (y2 := M_Jx4a65c_size_8abf5) (x2 := ⟨"java/util/List", "size", "()I"⟩) dX11_declareQueue_146 mo_Jx4a65c_size_8abf5 ⟨Nat.le_of_ble_eq_true rfl, Nat.le_of_ble_eq_true rfl⟩ na_Jx4a65c_size_8abf5 w517 w522 w520 (by decide) (fun U hU => hU.2.2.2.2.1) hk [] rfl (n_Jx4a65c_size_8abf5 (a_14)) rfl (csum (Nat.le_of_ble_eq_true rfl)) (t_Jx4a65c_size_8abf5 (a_14) h_10 _ hc) ?_
  obtain ⟨x_17, h_16⟩ := z_15
  obtain ⟨a_18, rfl, hga_18⟩ := nn_some hf
  have hf := hga_18
  obtain ⟨hk, hf⟩ := kg_some hf
  obtain ⟨z_19, hc, hf⟩ := bd_some hf
  refine go_callV (y2 := M_X9_put) (c2 := 10) dX11_declareQueue_151 mo_X9_put ⟨Nat.le_of_ble_eq_true rfl, Nat.le_of_ble_eq_true rfl⟩ na_X9_put w749 w439 (by decide) rfl w440 hk [.int x_17] rfl (n_X9_put (a_18) x_17) rfl (csum (Nat.le_of_ble_eq_true rfl)) (t_X9_put (a_18) x_17 h_16 _ hc) ?_
  obtain ⟨_, h_20⟩ := z_19
  refine go_aload_n dX11_declareQueue_154 rfl 0 rfl ?_
  refine go_getR dX11_declareQueue_155 fl_389_0 (fun _ _ => rfl) hf (fun r_21 hf => ?_)
  refine go_aload_n dX11_declareQueue_158 rfl 0 rfl ?_
  refine go_getR dX11_declareQueue_159 fl_390_0 (fun _ _ => rfl) hf (fun r_22 hf => ?_)
  refine go_aload dX11_declareQueue_162 3 rfl ?_
  obtain ⟨a_23, rfl, hga_23⟩ := nn_some hf
  have hf := hga_23
  obtain ⟨hk, hf⟩ := kg_some hf
  obtain ⟨z_24, hc, hf⟩ := bd_some hf
  refine go_callV (y2 := M_X8_consumersOf) (c2 := 9) dX11_declareQueue_164 mo_X8_consumersOf ⟨Nat.le_of_ble_eq_true rfl, Nat.le_of_ble_eq_true rfl⟩ na_X8_consumersOf w814 w815 (by decide) rfl w816 hk [vR Ω (some a_12)] rfl (n_X8_consumersOf (a_23) (some a_12)) rfl (csum (Nat.le_of_ble_eq_true rfl)) (t_X8_consumersOf (a_23) (some a_12) h_20 _ hc) ?_
  obtain ⟨x_26, h_25⟩ := z_24
  obtain ⟨a_27, rfl, hga_27⟩ := nn_some hf
  have hf := hga_27
  obtain ⟨hk, hf⟩ := kg_some hf
  obtain ⟨z_28, hc, hf⟩ := bd_some hf
  refine go_callV (y2 := M_X9_put) (c2 := 10) dX11_declareQueue_167 mo_X9_put ⟨Nat.le_of_ble_eq_true rfl, Nat.le_of_ble_eq_true rfl⟩ na_X9_put w749 w439 (by decide) rfl w440 hk [.int x_26] rfl (n_X9_put (a_27) x_26) rfl (csum (Nat.le_of_ble_eq_true rfl)) (t_X9_put (a_27) x_26 h_25 _ hc) ?_
  obtain ⟨_, h_29⟩ := z_28
  refine go_aload_n dX11_declareQueue_170 rfl 0 rfl ?_
  refine go_getR dX11_declareQueue_171 fl_389_0 (fun _ _ => rfl) hf (fun r_30 hf => ?_)
  obtain ⟨a_31, rfl, hga_31⟩ := nn_some hf
  have hf := hga_31
  obtain ⟨hk, hf⟩ := kg_some hf
  obtain ⟨z_32, hc, hf⟩ := bd_some hf
  refine go_callV (y2 := M_X9_end) (c2 := 10) dX11_declareQueue_174 mo_X9_end ⟨Nat.le_of_ble_eq_true rfl, Nat.le_of_ble_eq_true rfl⟩ na_X9_end w595 w443 (by decide) rfl w444 hk [] rfl (n_X9_end (a_31)) rfl (csum (Nat.le_of_ble_eq_true rfl)) (t_X9_end (a_31) h_29 _ hc) ?_
  obtain ⟨_, h_33⟩ := z_32
  refine go_iconst 0 dX11_declareQueue_177 rfl ?_
  exact go_ireturn dX11_declareQueue_178 rfl hf
def f_X11_declareQueue_55 (a0 : Nat) (r1 : Option Nat) (x2 : Int64) (r5 : Option Nat) (h : AH) : Option (Int32 × AH) := (if (lg_cmp x2 0) = 0 then
    some (403, h)
  else
    nb r5
      (rdR h a0 12 2 fun r_2 =>
      nn r_2 fun a_3 =>
      rdR h a_3 9 1 fun r_4 =>
      nn r_4 fun a_5 =>
      kg h a_5 0 (bd (f_Jx4a65c_size_8abf5 a_5 h) fun x_8 h_7 =>
      (if x_8 < 5 then
        nwO h_7 11 fun a_9 h_10 =>
        bd (f_X10_init a_9 x2 h_10) fun _ h_12 =>
        rdR h_12 a0 12 2 fun r_13 =>
        nn r_13 fun a_14 =>
        rdR h_12 a_14 9 1 fun r_15 =>
        nn r_15 fun a_16 =>
        kg h_12 a_16 0 (bd (f_Jx4a65c_add_9ea2d a_16 (some a_9) h_12) fun x_19 h_18 =>
        f_X11_declareQueue_115 a0 r1 x2 (some a_9) h_18)
      else
        some (506, h_7))))
      (fun a_1 => f_X11_declareQueue_115 a0 r1 x2 (some a_1) h))
set_option maxRecDepth 20000 in
set_option maxHeartbeats 4000000 in
theorem t_X11_declareQueue_55 {Ω : Om} (a0 : Nat) (r1 : Option Nat) (x2 : Int64) (r5 : Option Nat) (h : AH) (q : Int32 × AH) (hf : f_X11_declareQueue_55 a0 r1 x2 r5 h = some q) : Go Ω M_X11_declareQueue 55 [(0, vR Ω (some a0)), (1, vR Ω r1), (2, .long x2), (5, vR Ω r5)] [] h (some (.int q.1)) q.2 := by
  unfold f_X11_declareQueue_55 at hf
  refine go_lload_n dX11_declareQueue_55 rfl 2 rfl ?_
  refine go_lconst 0 dX11_declareQueue_56 rfl ?_
  refine go_lcmp dX11_declareQueue_57 ?_
  refine go_if_ne (tgt := 65) dX11_declareQueue_58 (by decide) hf (fun hf => ?_) (fun hf => ?_)
  · refine go_aload dX11_declareQueue_65 3 rfl ?_
    refine go_ifnonnull (x := r5) (tgt := 115) dX11_declareQueue_67 (by decide) hf ?_ ?_
    · rintro rfl hf
      refine go_aload_n dX11_declareQueue_70 rfl 0 rfl ?_
      refine go_getR dX11_declareQueue_71 fl_390_0 (fun _ _ => rfl) hf (fun r_2 hf => ?_)
      obtain ⟨a_3, rfl, hga_3⟩ := nn_some hf
      have hf := hga_3
      refine go_getR dX11_declareQueue_74 fl_319_0 (fun _ _ => rfl) hf (fun r_4 hf => ?_)
      obtain ⟨a_5, rfl, hga_5⟩ := nn_some hf
      have hf := hga_5
      obtain ⟨hk, hf⟩ := kg_some hf
      obtain ⟨z_6, hc, hf⟩ := bd_some hf
      refine go_callF (y2 := M_Jx4a65c_size_8abf5) (x2 := ⟨"java/util/List", "size", "()I"⟩) dX11_declareQueue_77 mo_Jx4a65c_size_8abf5 ⟨Nat.le_of_ble_eq_true rfl, Nat.le_of_ble_eq_true rfl⟩ na_Jx4a65c_size_8abf5 w517 w522 w520 (by decide) (fun U hU => hU.2.2.2.2.1) hk [] rfl (n_Jx4a65c_size_8abf5 (a_5)) rfl (csum (Nat.le_of_ble_eq_true rfl)) (t_Jx4a65c_size_8abf5 (a_5) h _ hc) ?_
      obtain ⟨x_8, h_7⟩ := z_6
      refine go_iconst 5 dX11_declareQueue_82 rfl ?_
      refine go_icmp_lt (tgt := 90) dX11_declareQueue_83 (by decide) hf (fun hf => ?_) (fun hf => ?_)
      · refine go_new (c := 11) dX11_declareQueue_90 (by decide) rfl w792 hf (fun a_9 h_10 hf => ?_)
        refine go_dup dX11_declareQueue_93 catR ?_
        refine go_lload_n dX11_declareQueue_94 rfl 2 rfl ?_
        obtain ⟨z_11, hc, hf⟩ := bd_some hf
        refine go_callI (y2 := M_X10_init) dX11_declareQueue_95 mo_X10_init ⟨Nat.le_of_ble_eq_true rfl, Nat.le_of_ble_eq_true rfl⟩ na_X10_init w794 w795 rfl rfl [.long x2] rfl (n_X10_init (a_9) x2) rfl (csum (Nat.le_of_ble_eq_true rfl)) (t_X10_init (a_9) x2 h_10 _ hc) ?_
        obtain ⟨_, h_12⟩ := z_11
        refine go_astore (i := 5) (lv' := [(5, vR Ω (some a_9)), (0, vR Ω (some a0)), (1, vR Ω r1), (2, .long x2)]) dX11_declareQueue_98 (by decide) (by first | rfl | simp [catR, catI, catJ]) ?_
        refine go_aload_n dX11_declareQueue_100 rfl 1 rfl ?_
        refine go_getR dX11_declareQueue_101 fl_390_0 (fun _ _ => rfl) hf (fun r_13 hf => ?_)
        obtain ⟨a_14, rfl, hga_14⟩ := nn_some hf
        have hf := hga_14
        refine go_getR dX11_declareQueue_104 fl_319_0 (fun _ _ => rfl) hf (fun r_15 hf => ?_)
        refine go_aload dX11_declareQueue_107 0 rfl ?_
        obtain ⟨a_16, rfl, hga_16⟩ := nn_some hf
        have hf := hga_16
        obtain ⟨hk, hf⟩ := kg_some hf
        obtain ⟨z_17, hc, hf⟩ := bd_some hf
        refine go_callF (y2 := M_Jx4a65c_add_9ea2d) (x2 := ⟨"java/util/List", "add", "(Ljava/lang/Object;)Z"⟩) dX11_declareQueue_109 mo_Jx4a65c_add_9ea2d ⟨Nat.le_of_ble_eq_true rfl, Nat.le_of_ble_eq_true rfl⟩ na_Jx4a65c_add_9ea2d w526 w256 w254 (by decide) (fun U hU => hU.1) hk [vR Ω (some a_9)] rfl (n_Jx4a65c_add_9ea2d (a_16) (some a_9)) rfl (csum (Nat.le_of_ble_eq_true rfl)) (t_Jx4a65c_add_9ea2d (a_16) (some a_9) h_12 _ hc) ?_
        obtain ⟨x_19, h_18⟩ := z_17
        refine go_pop dX11_declareQueue_114 rfl ?_
        refine go_sub (lv' := [(0, vR Ω (some a0)), (1, vR Ω r1), (2, .long x2), (5, vR Ω (some a_9))]) [1, 2, 3, 0] rfl ?_
        exact t_X11_declareQueue_115 a0 r1 x2 (some a_9) h_18 q hf
      · refine go_sipush 506 dX11_declareQueue_86 (by decide) ?_
        exact go_ireturn dX11_declareQueue_89 rfl hf
    · rintro a_1 rfl hf
      refine go_sub (lv' := [(0, vR Ω (some a0)), (1, vR Ω r1), (2, .long x2), (5, vR Ω (some a_1))]) [0, 1, 2, 3] rfl ?_
      exact t_X11_declareQueue_115 a0 r1 x2 (some a_1) h q hf
  · refine go_sipush 403 dX11_declareQueue_61 (by decide) ?_
    exact go_ireturn dX11_declareQueue_64 rfl hf
def f_X11_declareQueue (a0 : Nat) (r1 : Option Nat) (h : AH) : Option (Int32 × AH) := rdR h a0 12 0 fun r_1 =>
  nn r_1 fun a_2 =>
  kg h a_2 7 (bd (f_X6_readName a_2 h) fun x_5 h_4 =>
  rdR h_4 a0 12 0 fun r_6 =>
  nn r_6 fun a_7 =>
  kg h_4 a_7 7 (bd (f_X6_readFlag a_7 h_4) fun x_10 h_9 =>
  rdR h_9 a0 12 0 fun r_11 =>
  nn r_11 fun a_12 =>
  kg h_9 a_12 7 (bd (f_X6_isJustRead a_12 h_9) fun x_15 h_14 =>
  (if x_15 = 0 then
    some (501, h_14)
  else
    rdR h_14 a0 12 2 fun r_16 =>
    nn r_16 fun a_17 =>
    kg h_14 a_17 9 (bd (f_X8_queueNamed a_17 x_5 h_14) fun r_20 h_19 =>
    nb r_20
      ((if x_10 = 0 then
        f_X11_declareQueue_55 a0 r1 x_5 none h_19
      else
        some (404, h_19)))
      (fun a_21 => f_X11_declareQueue_55 a0 r1 x_5 (some a_21) h_19))))))
set_option maxRecDepth 20000 in
set_option maxHeartbeats 4000000 in
theorem t_X11_declareQueue {Ω : Om} (a0 : Nat) (r1 : Option Nat) (h : AH) (q : Int32 × AH) (hf : f_X11_declareQueue a0 r1 h = some q) : Go Ω M_X11_declareQueue 0 (lv_args 0 [vR Ω (some a0), vR Ω r1]) [] h (some (.int q.1)) q.2 := by
  unfold f_X11_declareQueue at hf
  rw [la_R, la_R, la_0]
  refine go_sub (lv' := [(0, vR Ω (some a0)), (1, vR Ω r1)]) [0, 1] rfl ?_
  refine go_aload_n dX11_declareQueue_0 rfl 0 rfl ?_
  refine go_getR dX11_declareQueue_1 fl_388_0 (fun _ _ => rfl) hf (fun r_1 hf => ?_)
  obtain ⟨a_2, rfl, hga_2⟩ := nn_some hf
  have hf := hga_2
  obtain ⟨hk, hf⟩ := kg_some hf
  obtain ⟨z_3, hc, hf⟩ := bd_some hf
  refine go_callV (y2 := M_X6_readName) (c2 := 7) dX11_declareQueue_4 mo_X6_readName ⟨Nat.le_of_ble_eq_true rfl, Nat.le_of_ble_eq_true rfl⟩ na_X6_readName w758 w759 (by decide) rfl w760 hk [] rfl (n_X6_readName (a_2)) rfl (csum (Nat.le_of_ble_eq_true rfl)) (t_X6_readName (a_2) h _ hc) ?_
  obtain ⟨x_5, h_4⟩ := z_3
  refine go_lstore_n (i := 2) (lv' := [(2, .long x_5), (0, vR Ω (some a0)), (1, vR Ω r1)]) dX11_declareQueue_7 rfl (by decide) (by first | rfl | simp [catR, catI, catJ]) ?_
  refine go_aload_n dX11_declareQueue_8 rfl 1 rfl ?_
  refine go_getR dX11_declareQueue_9 fl_388_0 (fun _ _ => rfl) hf (fun r_6 hf => ?_)
  obtain ⟨a_7, rfl, hga_7⟩ := nn_some hf
  have hf := hga_7
  obtain ⟨hk, hf⟩ := kg_some hf
  obtain ⟨z_8, hc, hf⟩ := bd_some hf
  refine go_callV (y2 := M_X6_readFlag) (c2 := 7) dX11_declareQueue_12 mo_X6_readFlag ⟨Nat.le_of_ble_eq_true rfl, Nat.le_of_ble_eq_true rfl⟩ na_X6_readFlag w762 w763 (by decide) rfl w764 hk [] rfl (n_X6_readFlag (a_7)) rfl (csum (Nat.le_of_ble_eq_true rfl)) (t_X6_readFlag (a_7) h_4 _ hc) ?_
  obtain ⟨x_10, h_9⟩ := z_8
  refine go_istore (i := 4) (lv' := [(4, .int x_10), (2, .long x_5), (0, vR Ω (some a0)), (1, vR Ω r1)]) dX11_declareQueue_15 (by decide) (by first | rfl | simp [catR, catI, catJ]) ?_
  refine go_aload_n dX11_declareQueue_17 rfl 2 rfl ?_
  refine go_getR dX11_declareQueue_18 fl_388_0 (fun _ _ => rfl) hf (fun r_11 hf => ?_)
  obtain ⟨a_12, rfl, hga_12⟩ := nn_some hf
  have hf := hga_12
  obtain ⟨hk, hf⟩ := kg_some hf
  obtain ⟨z_13, hc, hf⟩ := bd_some hf
  refine go_callV (y2 := M_X6_isJustRead) (c2 := 7) dX11_declareQueue_21 mo_X6_isJustRead ⟨Nat.le_of_ble_eq_true rfl, Nat.le_of_ble_eq_true rfl⟩ na_X6_isJustRead w474 w475 (by decide) rfl w476 hk [] rfl (n_X6_isJustRead (a_12)) rfl (csum (Nat.le_of_ble_eq_true rfl)) (t_X6_isJustRead (a_12) h_9 _ hc) ?_
  obtain ⟨x_15, h_14⟩ := z_13
  refine go_if_ne (tgt := 31) dX11_declareQueue_24 (by decide) hf (fun hf => ?_) (fun hf => ?_)
  · refine go_aload_n dX11_declareQueue_31 rfl 2 rfl ?_
    refine go_getR dX11_declareQueue_32 fl_390_0 (fun _ _ => rfl) hf (fun r_16 hf => ?_)
    refine go_lload_n dX11_declareQueue_35 rfl 1 rfl ?_
    obtain ⟨a_17, rfl, hga_17⟩ := nn_some hf
    have hf := hga_17
    obtain ⟨hk, hf⟩ := kg_some hf
    obtain ⟨z_18, hc, hf⟩ := bd_some hf
    refine go_callV (y2 := M_X8_queueNamed) (c2 := 9) dX11_declareQueue_36 mo_X8_queueNamed ⟨Nat.le_of_ble_eq_true rfl, Nat.le_of_ble_eq_true rfl⟩ na_X8_queueNamed w788 w789 (by decide) rfl w790 hk [.long x_5] rfl (n_X8_queueNamed (a_17) x_5) rfl (csum (Nat.le_of_ble_eq_true rfl)) (t_X8_queueNamed (a_17) x_5 h_14 _ hc) ?_
    obtain ⟨r_20, h_19⟩ := z_18
    refine go_astore (i := 5) (lv' := [(5, vR Ω r_20), (4, .int x_10), (2, .long x_5), (0, vR Ω (some a0)), (1, vR Ω r1)]) dX11_declareQueue_39 (by decide) (by first | rfl | simp [catR, catI, catJ]) ?_
    refine go_aload dX11_declareQueue_41 0 rfl ?_
    refine go_ifnonnull (x := r_20) (tgt := 55) dX11_declareQueue_43 (by decide) hf ?_ ?_
    · rintro rfl hf
      refine go_iload dX11_declareQueue_46 1 rfl ?_
      refine go_if_eq (tgt := 55) dX11_declareQueue_48 (by decide) hf (fun hf => ?_) (fun hf => ?_)
      · refine go_sub (lv' := [(0, vR Ω (some a0)), (1, vR Ω r1), (2, .long x_5), (5, vR Ω none)]) [3, 4, 2, 0] rfl ?_
        exact t_X11_declareQueue_55 a0 r1 x_5 none h_19 q hf
      · refine go_sipush 404 dX11_declareQueue_51 (by decide) ?_
        exact go_ireturn dX11_declareQueue_54 rfl hf
    · rintro a_21 rfl hf
      refine go_sub (lv' := [(0, vR Ω (some a0)), (1, vR Ω r1), (2, .long x_5), (5, vR Ω (some a_21))]) [3, 4, 2, 0] rfl ?_
      exact t_X11_declareQueue_55 a0 r1 x_5 (some a_21) h_19 q hf
  · refine go_sipush 501 dX11_declareQueue_27 (by decide) ?_
    exact go_ireturn dX11_declareQueue_30 rfl hf
-- LetterBroker$Office.isBound(LLetterBroker$Exchange;)Z
theorem dX8_isBound_0 : decode cX8_isBound 0 = .ok (.iconst 0, 1) := by decide +kernel
theorem dX8_isBound_1 : decode cX8_isBound 1 = .ok (.istore_n 2, 1) := by decide +kernel
theorem dX8_isBound_2 : decode cX8_isBound 2 = .ok (.iload_n 2, 1) := by decide +kernel
theorem dX8_isBound_3 : decode cX8_isBound 3 = .ok (.aload_n 0, 1) := by decide +kernel
theorem dX8_isBound_4 : decode cX8_isBound 4 = .ok (.getfield 21, 3) := by decide +kernel
theorem dX8_isBound_7 : decode cX8_isBound 7 = .ok (.invokeinterface 38 1, 5) := by decide +kernel
theorem dX8_isBound_12 : decode cX8_isBound 12 = .ok (.if_icmp .ge 31, 3) := by decide +kernel
theorem dX8_isBound_15 : decode cX8_isBound 15 = .ok (.aload_n 0, 1) := by decide +kernel
theorem dX8_isBound_16 : decode cX8_isBound 16 = .ok (.getfield 21, 3) := by decide +kernel
theorem dX8_isBound_19 : decode cX8_isBound 19 = .ok (.iload_n 2, 1) := by decide +kernel
theorem dX8_isBound_20 : decode cX8_isBound 20 = .ok (.invokeinterface 42 2, 5) := by decide +kernel
theorem dX8_isBound_25 : decode cX8_isBound 25 = .ok (.checkcast 53, 3) := by decide +kernel
theorem dX8_isBound_28 : decode cX8_isBound 28 = .ok (.getfield 59, 3) := by decide +kernel
theorem dX8_isBound_31 : decode cX8_isBound 31 = .ok (.aload_n 1, 1) := by decide +kernel
theorem dX8_isBound_32 : decode cX8_isBound 32 = .ok (.if_acmp .ne 5, 3) := by decide +kernel
theorem dX8_isBound_35 : decode cX8_isBound 35 = .ok (.iconst 1, 1) := by decide +kernel
theorem dX8_isBound_36 : decode cX8_isBound 36 = .ok (.ireturn, 1) := by decide +kernel
theorem dX8_isBound_37 : decode cX8_isBound 37 = .ok (.iinc 2 1, 3) := by decide +kernel
theorem dX8_isBound_40 : decode cX8_isBound 40 = .ok (.goto (-38), 3) := by decide +kernel
theorem dX8_isBound_43 : decode cX8_isBound 43 = .ok (.iconst 0, 1) := by decide +kernel
theorem dX8_isBound_44 : decode cX8_isBound 44 = .ok (.ireturn, 1) := by decide +kernel
def f_X8_isBound_2 : Nat → Nat → Option Nat → Int32 → AH → Option (Int32 × AH)
  | 0, _, _, _, _ => none
  | n + 1, a0, r1, x2, h => rdR h a0 9 2 fun r_1 =>
    nn r_1 fun a_2 =>
    kg h a_2 0 (bd (f_Jx4a65c_size_8abf5 a_2 h) fun x_5 h_4 =>
    (if x_5 ≤ x2 then
      rz 0 (some (0, h_4))
    else
      rdR h_4 a0 9 2 fun r_6 =>
      nn r_6 fun a_7 =>
      kg h_4 a_7 0 (bd (f_Jx4a65c_get_915e3 a_7 x2 h_4) fun r_10 h_9 =>
      ckc h_9 r_10 1 (
      nn r_10 fun a_11 =>
      rdR h_9 a_11 1 1 fun r_12 =>
      aq r_12 r1
        (rz 1 (some (1, h_9)))
        (f_X8_isBound_2 n a0 r1 (x2 + 1) h_9)))))
set_option maxRecDepth 20000 in
set_option maxHeartbeats 4000000 in
theorem t_X8_isBound_2 {Ω : Om} : ∀ (n : Nat) (a0 : Nat) (r1 : Option Nat) (x2 : Int32) (h : AH) (q : Int32 × AH), f_X8_isBound_2 n a0 r1 x2 h = some q → Go Ω M_X8_isBound 2 [(0, vR Ω (some a0)), (1, vR Ω r1), (2, .int x2)] [] h (some (.int q.1)) q.2 := by
  intro n
  induction n with
  | zero => intro a0 r1 x2 h q hf; cases hf
  | succ n ih =>
    intro a0 r1 x2 h q hf
    rw [f_X8_isBound_2] at hf
    refine go_iload_n dX8_isBound_2 rfl 2 rfl ?_
    refine go_aload_n dX8_isBound_3 rfl 0 rfl ?_
    refine go_getR dX8_isBound_4 fl_320_0 (fun _ _ => rfl) hf (fun r_1 hf => ?_)
    obtain ⟨a_2, rfl, hga_2⟩ := nn_some hf
    have hf := hga_2
    obtain ⟨hk, hf⟩ := kg_some hf
    obtain ⟨z_3, hc, hf⟩ := bd_some hf
    refine go_callF (y2 := M_Jx4a65c_size_8abf5) (x2 := ⟨"java/util/List", "size", "()I"⟩) dX8_isBound_7 mo_Jx4a65c_size_8abf5 ⟨Nat.le_of_ble_eq_true rfl, Nat.le_of_ble_eq_true rfl⟩ na_Jx4a65c_size_8abf5 w536 w522 w520 (by decide) (fun U hU => hU.2.2.2.2.1) hk [] rfl (n_Jx4a65c_size_8abf5 (a_2)) rfl (csum (Nat.le_of_ble_eq_true rfl)) (t_Jx4a65c_size_8abf5 (a_2) h _ hc) ?_
    obtain ⟨x_5, h_4⟩ := z_3
    refine go_icmp_ge (tgt := 43) dX8_isBound_12 (by decide) hf (fun hf => ?_) (fun hf => ?_)
    · refine go_iconst 0 dX8_isBound_43 rfl ?_
      exact go_zreturn dX8_isBound_44 rfl hf
    · refine go_aload_n dX8_isBound_15 rfl 0 rfl ?_
      refine go_getR dX8_isBound_16 fl_320_0 (fun _ _ => rfl) hf (fun r_6 hf => ?_)
      refine go_iload_n dX8_isBound_19 rfl 2 rfl ?_
      obtain ⟨a_7, rfl, hga_7⟩ := nn_some hf
      have hf := hga_7
      obtain ⟨hk, hf⟩ := kg_some hf
      obtain ⟨z_8, hc, hf⟩ := bd_some hf
      refine go_callF (y2 := M_Jx4a65c_get_915e3) (x2 := ⟨"java/util/List", "get", "(I)Ljava/lang/Object;"⟩) dX8_isBound_20 mo_Jx4a65c_get_915e3 ⟨Nat.le_of_ble_eq_true rfl, Nat.le_of_ble_eq_true rfl⟩ na_Jx4a65c_get_915e3 w538 w543 w541 (by decide) (fun U hU => hU.2.2.1) hk [.int x2] rfl (n_Jx4a65c_get_915e3 (a_7) x2) rfl (csum (Nat.le_of_ble_eq_true rfl)) (t_Jx4a65c_get_915e3 (a_7) x2 h_4 _ hc) ?_
      obtain ⟨r_10, h_9⟩ := z_8
      refine go_cast (c := 1) dX8_isBound_25 (by decide) rfl w561 hf (fun hf => ?_)
      obtain ⟨a_11, rfl, hga_11⟩ := nn_some hf
      have hf := hga_11
      refine go_getR dX8_isBound_28 fl_842_0 (fun _ _ => rfl) hf (fun r_12 hf => ?_)
      refine go_aload_n dX8_isBound_31 rfl 1 rfl ?_
      refine go_acmp_ne (tgt := 37) dX8_isBound_32 (by decide) hf (fun hf => ?_) (fun hf => ?_)
      · refine go_iinc (j := 2) (v := x2 + 1) (lv' := [(2, .int (x2 + 1)), (0, vR Ω (some a0)), (1, vR Ω r1)]) dX8_isBound_37 rfl rfl (by decide) (by first | rfl | simp [catR, catI, catJ]) ?_
        refine go_goto (tgt := 2) dX8_isBound_40 (by decide) ?_
        refine go_sub (lv' := [(0, vR Ω (some a0)), (1, vR Ω r1), (2, .int (x2 + 1))]) [1, 2, 0] rfl ?_
        exact ih a0 r1 (x2 + 1) h_9 q hf
      · refine go_iconst 1 dX8_isBound_35 rfl ?_
        exact go_zreturn dX8_isBound_36 rfl hf
def f_X8_isBound (a0 : Nat) (r1 : Option Nat) (h : AH) : Option (Int32 × AH) := f_X8_isBound_2 FU a0 r1 0 h
set_option maxRecDepth 20000 in
set_option maxHeartbeats 4000000 in
theorem t_X8_isBound {Ω : Om} (a0 : Nat) (r1 : Option Nat) (h : AH) (q : Int32 × AH) (hf : f_X8_isBound a0 r1 h = some q) : Go Ω M_X8_isBound 0 (lv_args 0 [vR Ω (some a0), vR Ω r1]) [] h (some (.int q.1)) q.2 := by
  unfold f_X8_isBound at hf
  rw [la_R, la_R, la_0]
  refine go_sub (lv' := [(0, vR Ω (some a0)), (1, vR Ω r1)]) [0, 1] rfl ?_
  refine go_iconst 0 dX8_isBound_0 rfl ?_
  refine go_istore_n (i := 2) (lv' := [(2, .int 0), (0, vR Ω (some a0)), (1, vR Ω r1)]) dX8_isBound_1 rfl (by decide) (by first | rfl | simp [catR, catI, catJ]) ?_
  refine go_sub (lv' := [(0, vR Ω (some a0)), (1, vR Ω r1), (2, .int 0)]) [1, 2, 0] rfl ?_
  exact t_X8_isBound_2 FU a0 r1 0 h q hf
-- LetterBroker$Office.remove(LLetterBroker$Exchange;)V
theorem dX8_remove_0 : decode cX8_remove 0 = .ok (.aload_n 0, 1) := by decide +kernel
theorem dX8_remove_1 : decode cX8_remove 1 = .ok (.getfield 21, 3) := by decide +kernel
theorem dX8_remove_4 : decode cX8_remove 4 = .ok (.invokeinterface 38 1, 5) := by decide +kernel
theorem dX8_remove_9 : decode cX8_remove 9 = .ok (.iconst 1, 1) := by decide +kernel
theorem dX8_remove_10 : decode cX8_remove 10 = .ok (.isub, 1) := by decide +kernel
theorem dX8_remove_11 : decode cX8_remove 11 = .ok (.istore_n 2, 1) := by decide +kernel
theorem dX8_remove_12 : decode cX8_remove 12 = .ok (.iload_n 2, 1) := by decide +kernel
theorem dX8_remove_13 : decode cX8_remove 13 = .ok (.ifCond .lt 40, 3) := by decide +kernel
theorem dX8_remove_16 : decode cX8_remove 16 = .ok (.aload_n 0, 1) := by decide +kernel
theorem dX8_remove_17 : decode cX8_remove 17 = .ok (.getfield 21, 3) := by decide +kernel
theorem dX8_remove_20 : decode cX8_remove 20 = .ok (.iload_n 2, 1) := by decide +kernel
theorem dX8_remove_21 : decode cX8_remove 21 = .ok (.invokeinterface 42 2, 5) := by decide +kernel
theorem dX8_remove_26 : decode cX8_remove 26 = .ok (.checkcast 53, 3) := by decide +kernel
theorem dX8_remove_29 : decode cX8_remove 29 = .ok (.getfield 59, 3) := by decide +kernel
theorem dX8_remove_32 : decode cX8_remove 32 = .ok (.aload_n 1, 1) := by decide +kernel
theorem dX8_remove_33 : decode cX8_remove 33 = .ok (.if_acmp .ne 14, 3) := by decide +kernel
theorem dX8_remove_36 : decode cX8_remove 36 = .ok (.aload_n 0, 1) := by decide +kernel
theorem dX8_remove_37 : decode cX8_remove 37 = .ok (.getfield 21, 3) := by decide +kernel
theorem dX8_remove_40 : decode cX8_remove 40 = .ok (.iload_n 2, 1) := by decide +kernel
theorem dX8_remove_41 : decode cX8_remove 41 = .ok (.invokeinterface 86 2, 5) := by decide +kernel
theorem dX8_remove_46 : decode cX8_remove 46 = .ok (.pop, 1) := by decide +kernel
theorem dX8_remove_47 : decode cX8_remove 47 = .ok (.iinc 2 (-1), 3) := by decide +kernel
theorem dX8_remove_50 : decode cX8_remove 50 = .ok (.goto (-38), 3) := by decide +kernel
theorem dX8_remove_53 : decode cX8_remove 53 = .ok (.aload_n 0, 1) := by decide +kernel
theorem dX8_remove_54 : decode cX8_remove 54 = .ok (.getfield 12, 3) := by decide +kernel
theorem dX8_remove_57 : decode cX8_remove 57 = .ok (.invokeinterface 38 1, 5) := by decide +kernel
theorem dX8_remove_62 : decode cX8_remove 62 = .ok (.iconst 1, 1) := by decide +kernel
theorem dX8_remove_63 : decode cX8_remove 63 = .ok (.isub, 1) := by decide +kernel
theorem dX8_remove_64 : decode cX8_remove 64 = .ok (.istore_n 2, 1) := by decide +kernel
theorem dX8_remove_65 : decode cX8_remove 65 = .ok (.iload_n 2, 1) := by decide +kernel
theorem dX8_remove_66 : decode cX8_remove 66 = .ok (.ifCond .lt 34, 3) := by decide +kernel
theorem dX8_remove_69 : decode cX8_remove 69 = .ok (.aload_n 0, 1) := by decide +kernel
theorem dX8_remove_70 : decode cX8_remove 70 = .ok (.getfield 12, 3) := by decide +kernel
theorem dX8_remove_73 : decode cX8_remove 73 = .ok (.iload_n 2, 1) := by decide +kernel
theorem dX8_remove_74 : decode cX8_remove 74 = .ok (.invokeinterface 42 2, 5) := by decide +kernel
theorem dX8_remove_79 : decode cX8_remove 79 = .ok (.aload_n 1, 1) := by decide +kernel
theorem dX8_remove_80 : decode cX8_remove 80 = .ok (.if_acmp .ne 14, 3) := by decide +kernel
theorem dX8_remove_83 : decode cX8_remove 83 = .ok (.aload_n 0, 1) := by decide +kernel
theorem dX8_remove_84 : decode cX8_remove 84 = .ok (.getfield 12, 3) := by decide +kernel
theorem dX8_remove_87 : decode cX8_remove 87 = .ok (.iload_n 2, 1) := by decide +kernel
theorem dX8_remove_88 : decode cX8_remove 88 = .ok (.invokeinterface 86 2, 5) := by decide +kernel
theorem dX8_remove_93 : decode cX8_remove 93 = .ok (.pop, 1) := by decide +kernel
theorem dX8_remove_94 : decode cX8_remove 94 = .ok (.iinc 2 (-1), 3) := by decide +kernel
theorem dX8_remove_97 : decode cX8_remove 97 = .ok (.goto (-32), 3) := by decide +kernel
theorem dX8_remove_100 : decode cX8_remove 100 = .ok (.return_, 1) := by decide +kernel
def f_X8_remove_47 (k12 : Nat → Option Nat → Int32 → AH → Option (Unit × AH)) (a0 : Nat) (r1 : Option Nat) (x2 : Int32) (h : AH) : Option (Unit × AH) := k12 a0 r1 (x2 + (-1)) h
set_option maxRecDepth 20000 in
set_option maxHeartbeats 4000000 in
theorem t_X8_remove_47 {Ω : Om} {k12 : Nat → Option Nat → Int32 → AH → Option (Unit × AH)} (c12 : ∀ (a0 : Nat) (r1 : Option Nat) (x2 : Int32) (h : AH) (q : Unit × AH), k12 a0 r1 x2 h = some q → Go Ω M_X8_remove 12 [(0, vR Ω (some a0)), (1, vR Ω r1), (2, .int x2)] [] h none q.2) (a0 : Nat) (r1 : Option Nat) (x2 : Int32) (h : AH) (q : Unit × AH) (hf : f_X8_remove_47 k12 a0 r1 x2 h = some q) : Go Ω M_X8_remove 47 [(0, vR Ω (some a0)), (1, vR Ω r1), (2, .int x2)] [] h none q.2 := by
  unfold f_X8_remove_47 at hf
  refine go_iinc (j := 2) (v := x2 + (-1)) (lv' := [(2, .int (x2 + (-1))), (0, vR Ω (some a0)), (1, vR Ω r1)]) dX8_remove_47 rfl rfl (by decide) (by first | rfl | simp [catR, catI, catJ]) ?_
  refine go_goto (tgt := 12) dX8_remove_50 (by decide) ?_
  refine go_sub (lv' := [(0, vR Ω (some a0)), (1, vR Ω r1), (2, .int (x2 + (-1)))]) [1, 2, 0] rfl ?_
  exact c12 a0 r1 (x2 + (-1)) h q hf
def f_X8_remove_94 (k65 : Nat → Option Nat → Int32 → AH → Option (Unit × AH)) (a0 : Nat) (r1 : Option Nat) (x2 : Int32) (h : AH) : Option (Unit × AH) := k65 a0 r1 (x2 + (-1)) h
set_option maxRecDepth 20000 in
set_option maxHeartbeats 4000000 in
theorem t_X8_remove_94 {Ω : Om} {k65 : Nat → Option Nat → Int32 → AH → Option (Unit × AH)} (c65 : ∀ (a0 : Nat) (r1 : Option Nat) (x2 : Int32) (h : AH) (q : Unit × AH), k65 a0 r1 x2 h = some q → Go Ω M_X8_remove 65 [(0, vR Ω (some a0)), (1, vR Ω r1), (2, .int x2)] [] h none q.2) (a0 : Nat) (r1 : Option Nat) (x2 : Int32) (h : AH) (q : Unit × AH) (hf : f_X8_remove_94 k65 a0 r1 x2 h = some q) : Go Ω M_X8_remove 94 [(0, vR Ω (some a0)), (1, vR Ω r1), (2, .int x2)] [] h none q.2 := by
  unfold f_X8_remove_94 at hf
  refine go_iinc (j := 2) (v := x2 + (-1)) (lv' := [(2, .int (x2 + (-1))), (0, vR Ω (some a0)), (1, vR Ω r1)]) dX8_remove_94 rfl rfl (by decide) (by first | rfl | simp [catR, catI, catJ]) ?_
  refine go_goto (tgt := 65) dX8_remove_97 (by decide) ?_
  refine go_sub (lv' := [(0, vR Ω (some a0)), (1, vR Ω r1), (2, .int (x2 + (-1)))]) [1, 2, 0] rfl ?_
  exact c65 a0 r1 (x2 + (-1)) h q hf
def f_X8_remove_65 : Nat → Nat → Option Nat → Int32 → AH → Option (Unit × AH)
  | 0, _, _, _, _ => none
  | n + 1, a0, r1, x2, h => (if x2 < 0 then
      some ((), h)
    else
      rdR h a0 9 0 fun r_1 =>
      nn r_1 fun a_2 =>
      kg h a_2 0 (bd (f_Jx4a65c_get_915e3 a_2 x2 h) fun r_5 h_4 =>
      aq r_5 r1
        (rdR h_4 a0 9 0 fun r_6 =>
        nn r_6 fun a_7 =>
        kg h_4 a_7 0 (bd (f_Jx4a65c_remove_915e3 a_7 x2 h_4) fun r_10 h_9 =>
        f_X8_remove_94 (fun a0 r1 x2 h => f_X8_remove_65 n a0 r1 x2 h) a0 r1 x2 h_9))
        (f_X8_remove_94 (fun a0 r1 x2 h => f_X8_remove_65 n a0 r1 x2 h) a0 r1 x2 h_4)))
set_option maxRecDepth 20000 in
set_option maxHeartbeats 4000000 in
theorem t_X8_remove_65 {Ω : Om} : ∀ (n : Nat) (a0 : Nat) (r1 : Option Nat) (x2 : Int32) (h : AH) (q : Unit × AH), f_X8_remove_65 n a0 r1 x2 h = some q → Go Ω M_X8_remove 65 [(0, vR Ω (some a0)), (1, vR Ω r1), (2, .int x2)] [] h none q.2 := by
  intro n
  induction n with
  | zero => intro a0 r1 x2 h q hf; cases hf
  | succ n ih =>
    intro a0 r1 x2 h q hf
    rw [f_X8_remove_65] at hf
    refine go_iload_n dX8_remove_65 rfl 2 rfl ?_
    refine go_if_lt (tgt := 100) dX8_remove_66 (by decide) hf (fun hf => ?_) (fun hf => ?_)
    · exact go_return dX8_remove_100 rfl hf
    · refine go_aload_n dX8_remove_69 rfl 0 rfl ?_
      refine go_getR dX8_remove_70 fl_316_0 (fun _ _ => rfl) hf (fun r_1 hf => ?_)
      refine go_iload_n dX8_remove_73 rfl 2 rfl ?_
      obtain ⟨a_2, rfl, hga_2⟩ := nn_some hf
      have hf := hga_2
      obtain ⟨hk, hf⟩ := kg_some hf
      obtain ⟨z_3, hc, hf⟩ := bd_some hf
      refine go_callF (y2 := M_Jx4a65c_get_915e3) (x2 := ⟨"java/util/List", "get", "(I)Ljava/lang/Object;"⟩) dX8_remove_74 mo_Jx4a65c_get_915e3 ⟨Nat.le_of_ble_eq_true rfl, Nat.le_of_ble_eq_true rfl⟩ na_Jx4a65c_get_915e3 w538 w543 w541 (by decide) (fun U hU => hU.2.2.1) hk [.int x2] rfl (n_Jx4a65c_get_915e3 (a_2) x2) rfl (csum (Nat.le_of_ble_eq_true rfl)) (t_Jx4a65c_get_915e3 (a_2) x2 h _ hc) ?_
      obtain ⟨r_5, h_4⟩ := z_3
      refine go_aload_n dX8_remove_79 rfl 1 rfl ?_
      refine go_acmp_ne (tgt := 94) dX8_remove_80 (by decide) hf (fun hf => ?_) (fun hf => ?_)
      · refine go_sub (lv' := [(0, vR Ω (some a0)), (1, vR Ω r1), (2, .int x2)]) [0, 1, 2] rfl ?_
        exact t_X8_remove_94 ih a0 r1 x2 h_4 q hf
      · refine go_aload_n dX8_remove_83 rfl 0 rfl ?_
        refine go_getR dX8_remove_84 fl_316_0 (fun _ _ => rfl) hf (fun r_6 hf => ?_)
        refine go_iload_n dX8_remove_87 rfl 2 rfl ?_
        obtain ⟨a_7, rfl, hga_7⟩ := nn_some hf
        have hf := hga_7
        obtain ⟨hk, hf⟩ := kg_some hf
        obtain ⟨z_8, hc, hf⟩ := bd_some hf
        refine go_callF (y2 := M_Jx4a65c_remove_915e3) (x2 := ⟨"java/util/List", "remove", "(I)Ljava/lang/Object;"⟩) dX8_remove_88 mo_Jx4a65c_remove_915e3 ⟨Nat.le_of_ble_eq_true rfl, Nat.le_of_ble_eq_true rfl⟩ na_Jx4a65c_remove_915e3 w676 w681 w679 (by decide) (fun U hU => hU.2.2.2.1) hk [.int x2] rfl (n_Jx4a65c_remove_915e3 (a_7) x2) rfl (csum (Nat.le_of_ble_eq_true rfl)) (t_Jx4a65c_remove_915e3 (a_7) x2 h_4 _ hc) ?_
        obtain ⟨r_10, h_9⟩ := z_8
        refine go_pop dX8_remove_93 catR ?_
        refine go_sub (lv' := [(0, vR Ω (some a0)), (1, vR Ω r1), (2, .int x2)]) [0, 1, 2] rfl ?_
        exact t_X8_remove_94 ih a0 r1 x2 h_9 q hf
def f_X8_remove_53 (a0 : Nat) (r1 : Option Nat) (h : AH) : Option (Unit × AH) := rdR h a0 9 0 fun r_1 =>
  nn r_1 fun a_2 =>
  kg h a_2 0 (bd (f_Jx4a65c_size_8abf5 a_2 h) fun x_5 h_4 =>
  lt (x_5 - 1) fun x_6 =>
  f_X8_remove_65 FU a0 r1 x_6 h_4)
set_option maxRecDepth 20000 in
set_option maxHeartbeats 4000000 in
theorem t_X8_remove_53 {Ω : Om} (a0 : Nat) (r1 : Option Nat) (h : AH) (q : Unit × AH) (hf : f_X8_remove_53 a0 r1 h = some q) : Go Ω M_X8_remove 53 [(0, vR Ω (some a0)), (1, vR Ω r1)] [] h none q.2 := by
  unfold f_X8_remove_53 at hf
  refine go_aload_n dX8_remove_53 rfl 0 rfl ?_
  refine go_getR dX8_remove_54 fl_316_0 (fun _ _ => rfl) hf (fun r_1 hf => ?_)
  obtain ⟨a_2, rfl, hga_2⟩ := nn_some hf
  have hf := hga_2
  obtain ⟨hk, hf⟩ := kg_some hf
  obtain ⟨z_3, hc, hf⟩ := bd_some hf
  refine go_callF (y2 := M_Jx4a65c_size_8abf5) (x2 := ⟨"java/util/List", "size", "()I"⟩) dX8_remove_57 mo_Jx4a65c_size_8abf5 ⟨Nat.le_of_ble_eq_true rfl, Nat.le_of_ble_eq_true rfl⟩ na_Jx4a65c_size_8abf5 w536 w522 w520 (by decide) (fun U hU => hU.2.2.2.2.1) hk [] rfl (n_Jx4a65c_size_8abf5 (a_2)) rfl (csum (Nat.le_of_ble_eq_true rfl)) (t_Jx4a65c_size_8abf5 (a_2) h _ hc) ?_
  obtain ⟨x_5, h_4⟩ := z_3
  refine go_iconst 1 dX8_remove_62 rfl ?_
  refine go_isub dX8_remove_63 ?_
  refine lt_I hf (fun x_6 hf => ?_)
  refine go_istore_n (i := 2) (lv' := [(2, .int x_6), (0, vR Ω (some a0)), (1, vR Ω r1)]) dX8_remove_64 rfl (by decide) (by first | rfl | simp [catR, catI, catJ]) ?_
  refine go_sub (lv' := [(0, vR Ω (some a0)), (1, vR Ω r1), (2, .int x_6)]) [1, 2, 0] rfl ?_
  exact t_X8_remove_65 FU a0 r1 x_6 h_4 q hf
def f_X8_remove_12 : Nat → Nat → Option Nat → Int32 → AH → Option (Unit × AH)
  | 0, _, _, _, _ => none
  | n + 1, a0, r1, x2, h => (if x2 < 0 then
      f_X8_remove_53 a0 r1 h
    else
      rdR h a0 9 2 fun r_1 =>
      nn r_1 fun a_2 =>
      kg h a_2 0 (bd (f_Jx4a65c_get_915e3 a_2 x2 h) fun r_5 h_4 =>
      ckc h_4 r_5 1 (
      nn r_5 fun a_6 =>
      rdR h_4 a_6 1 1 fun r_7 =>
      aq r_7 r1
        (rdR h_4 a0 9 2 fun r_8 =>
        nn r_8 fun a_9 =>
        kg h_4 a_9 0 (bd (f_Jx4a65c_remove_915e3 a_9 x2 h_4) fun r_12 h_11 =>
        f_X8_remove_47 (fun a0 r1 x2 h => f_X8_remove_12 n a0 r1 x2 h) a0 r1 x2 h_11))
        (f_X8_remove_47 (fun a0 r1 x2 h => f_X8_remove_12 n a0 r1 x2 h) a0 r1 x2 h_4))))
set_option maxRecDepth 20000 in
set_option maxHeartbeats 4000000 in
theorem t_X8_remove_12 {Ω : Om} : ∀ (n : Nat) (a0 : Nat) (r1 : Option Nat) (x2 : Int32) (h : AH) (q : Unit × AH), f_X8_remove_12 n a0 r1 x2 h = some q → Go Ω M_X8_remove 12 [(0, vR Ω (some a0)), (1, vR Ω r1), (2, .int x2)] [] h none q.2 := by
  intro n
  induction n with
  | zero => intro a0 r1 x2 h q hf; cases hf
  | succ n ih =>
    intro a0 r1 x2 h q hf
    rw [f_X8_remove_12] at hf
    refine go_iload_n dX8_remove_12 rfl 2 rfl ?_
    refine go_if_lt (tgt := 53) dX8_remove_13 (by decide) hf (fun hf => ?_) (fun hf => ?_)
    · refine go_sub (lv' := [(0, vR Ω (some a0)), (1, vR Ω r1)]) [0, 1] rfl ?_
      exact t_X8_remove_53 a0 r1 h q hf
    · refine go_aload_n dX8_remove_16 rfl 0 rfl ?_
      refine go_getR dX8_remove_17 fl_320_0 (fun _ _ => rfl) hf (fun r_1 hf => ?_)
      refine go_iload_n dX8_remove_20 rfl 2 rfl ?_
      obtain ⟨a_2, rfl, hga_2⟩ := nn_some hf
      have hf := hga_2
      obtain ⟨hk, hf⟩ := kg_some hf
      obtain ⟨z_3, hc, hf⟩ := bd_some hf
      refine go_callF (y2 := M_Jx4a65c_get_915e3) (x2 := ⟨"java/util/List", "get", "(I)Ljava/lang/Object;"⟩) dX8_remove_21 mo_Jx4a65c_get_915e3 ⟨Nat.le_of_ble_eq_true rfl, Nat.le_of_ble_eq_true rfl⟩ na_Jx4a65c_get_915e3 w538 w543 w541 (by decide) (fun U hU => hU.2.2.1) hk [.int x2] rfl (n_Jx4a65c_get_915e3 (a_2) x2) rfl (csum (Nat.le_of_ble_eq_true rfl)) (t_Jx4a65c_get_915e3 (a_2) x2 h _ hc) ?_
      obtain ⟨r_5, h_4⟩ := z_3
      refine go_cast (c := 1) dX8_remove_26 (by decide) rfl w561 hf (fun hf => ?_)
      obtain ⟨a_6, rfl, hga_6⟩ := nn_some hf
      have hf := hga_6
      refine go_getR dX8_remove_29 fl_842_0 (fun _ _ => rfl) hf (fun r_7 hf => ?_)
      refine go_aload_n dX8_remove_32 rfl 1 rfl ?_
      refine go_acmp_ne (tgt := 47) dX8_remove_33 (by decide) hf (fun hf => ?_) (fun hf => ?_)
      · refine go_sub (lv' := [(0, vR Ω (some a0)), (1, vR Ω r1), (2, .int x2)]) [0, 1, 2] rfl ?_
        exact t_X8_remove_47 ih a0 r1 x2 h_4 q hf
      · refine go_aload_n dX8_remove_36 rfl 0 rfl ?_
        refine go_getR dX8_remove_37 fl_320_0 (fun _ _ => rfl) hf (fun r_8 hf => ?_)
        refine go_iload_n dX8_remove_40 rfl 2 rfl ?_
        obtain ⟨a_9, rfl, hga_9⟩ := nn_some hf
        have hf := hga_9
        obtain ⟨hk, hf⟩ := kg_some hf
        obtain ⟨z_10, hc, hf⟩ := bd_some hf
        refine go_callF (y2 := M_Jx4a65c_remove_915e3) (x2 := ⟨"java/util/List", "remove", "(I)Ljava/lang/Object;"⟩) dX8_remove_41 mo_Jx4a65c_remove_915e3 ⟨Nat.le_of_ble_eq_true rfl, Nat.le_of_ble_eq_true rfl⟩ na_Jx4a65c_remove_915e3 w676 w681 w679 (by decide) (fun U hU => hU.2.2.2.1) hk [.int x2] rfl (n_Jx4a65c_remove_915e3 (a_9) x2) rfl (csum (Nat.le_of_ble_eq_true rfl)) (t_Jx4a65c_remove_915e3 (a_9) x2 h_4 _ hc) ?_
        obtain ⟨r_12, h_11⟩ := z_10
        refine go_pop dX8_remove_46 catR ?_
        refine go_sub (lv' := [(0, vR Ω (some a0)), (1, vR Ω r1), (2, .int x2)]) [0, 1, 2] rfl ?_
        exact t_X8_remove_47 ih a0 r1 x2 h_11 q hf
def f_X8_remove (a0 : Nat) (r1 : Option Nat) (h : AH) : Option (Unit × AH) := rdR h a0 9 2 fun r_1 =>
  nn r_1 fun a_2 =>
  kg h a_2 0 (bd (f_Jx4a65c_size_8abf5 a_2 h) fun x_5 h_4 =>
  lt (x_5 - 1) fun x_6 =>
  f_X8_remove_12 FU a0 r1 x_6 h_4)
set_option maxRecDepth 20000 in
set_option maxHeartbeats 4000000 in
theorem t_X8_remove {Ω : Om} (a0 : Nat) (r1 : Option Nat) (h : AH) (q : Unit × AH) (hf : f_X8_remove a0 r1 h = some q) : Go Ω M_X8_remove 0 (lv_args 0 [vR Ω (some a0), vR Ω r1]) [] h none q.2 := by
  unfold f_X8_remove at hf
  rw [la_R, la_R, la_0]
  refine go_sub (lv' := [(0, vR Ω (some a0)), (1, vR Ω r1)]) [0, 1] rfl ?_
  refine go_aload_n dX8_remove_0 rfl 0 rfl ?_
  refine go_getR dX8_remove_1 fl_320_0 (fun _ _ => rfl) hf (fun r_1 hf => ?_)
  obtain ⟨a_2, rfl, hga_2⟩ := nn_some hf
  have hf := hga_2
  obtain ⟨hk, hf⟩ := kg_some hf
  obtain ⟨z_3, hc, hf⟩ := bd_some hf
  refine go_callF (y2 := M_Jx4a65c_size_8abf5) (x2 := ⟨"java/util/List", "size", "()I"⟩) dX8_remove_4 mo_Jx4a65c_size_8abf5 ⟨Nat.le_of_ble_eq_true rfl, Nat.le_of_ble_eq_true rfl⟩ na_Jx4a65c_size_8abf5 w536 w522 w520 (by decide) (fun U hU => hU.2.2.2.2.1) hk [] rfl (n_Jx4a65c_size_8abf5 (a_2)) rfl (csum (Nat.le_of_ble_eq_true rfl)) (t_Jx4a65c_size_8abf5 (a_2) h _ hc) ?_
  obtain ⟨x_5, h_4⟩ := z_3
  refine go_iconst 1 dX8_remove_9 rfl ?_
  refine go_isub dX8_remove_10 ?_
  refine lt_I hf (fun x_6 hf => ?_)
  refine go_istore_n (i := 2) (lv' := [(2, .int x_6), (0, vR Ω (some a0)), (1, vR Ω r1)]) dX8_remove_11 rfl (by decide) (by first | rfl | simp [catR, catI, catJ]) ?_
  refine go_sub (lv' := [(0, vR Ω (some a0)), (1, vR Ω r1), (2, .int x_6)]) [1, 2, 0] rfl ?_
  exact t_X8_remove_12 FU a0 r1 x_6 h_4 q hf
-- LetterBroker.deleteExchange(LLetterBroker$Channel;)I
theorem dX11_deleteExchange_0 : decode cX11_deleteExchange 0 = .ok (.aload_n 0, 1) := by decide +kernel
theorem dX11_deleteExchange_1 : decode cX11_deleteExchange 1 = .ok (.getfield 10, 3) := by decide +kernel
theorem dX11_deleteExchange_4 : decode cX11_deleteExchange 4 = .ok (.invokevirtual 283, 3) := by decide +kernel
theorem dX11_deleteExchange_7 : decode cX11_deleteExchange 7 = .ok (.lstore_n 2, 1) := by decide +kernel
theorem dX11_deleteExchange_8 : decode cX11_deleteExchange 8 = .ok (.aload_n 0, 1) := by decide +kernel
theorem dX11_deleteExchange_9 : decode cX11_deleteExchange 9 = .ok (.getfield 10, 3) := by decide +kernel
theorem dX11_deleteExchange_12 : decode cX11_deleteExchange 12 = .ok (.invokevirtual 287, 3) := by decide +kernel
theorem dX11_deleteExchange_15 : decode cX11_deleteExchange 15 = .ok (.istore 4, 2) := by decide +kernel
theorem dX11_deleteExchange_17 : decode cX11_deleteExchange 17 = .ok (.aload_n 0, 1) := by decide +kernel
theorem dX11_deleteExchange_18 : decode cX11_deleteExchange 18 = .ok (.getfield 10, 3) := by decide +kernel
theorem dX11_deleteExchange_21 : decode cX11_deleteExchange 21 = .ok (.invokevirtual 132, 3) := by decide +kernel
theorem dX11_deleteExchange_24 : decode cX11_deleteExchange 24 = .ok (.ifCond .ne 7, 3) := by decide +kernel
theorem dX11_deleteExchange_27 : decode cX11_deleteExchange 27 = .ok (.sipush 501, 3) := by decide +kernel
theorem dX11_deleteExchange_30 : decode cX11_deleteExchange 30 = .ok (.ireturn, 1) := by decide +kernel
theorem dX11_deleteExchange_31 : decode cX11_deleteExchange 31 = .ok (.aload_n 0, 1) := by decide +kernel
theorem dX11_deleteExchange_32 : decode cX11_deleteExchange 32 = .ok (.getfield 26, 3) := by decide +kernel
theorem dX11_deleteExchange_35 : decode cX11_deleteExchange 35 = .ok (.lload_n 2, 1) := by decide +kernel
theorem dX11_deleteExchange_36 : decode cX11_deleteExchange 36 = .ok (.invokevirtual 290, 3) := by decide +kernel
theorem dX11_deleteExchange_39 : decode cX11_deleteExchange 39 = .ok (.astore 5, 2) := by decide +kernel
theorem dX11_deleteExchange_41 : decode cX11_deleteExchange 41 = .ok (.aload 5, 2) := by decide +kernel
theorem dX11_deleteExchange_43 : decode cX11_deleteExchange 43 = .ok (.ifnonnull 7, 3) := by decide +kernel
theorem dX11_deleteExchange_46 : decode cX11_deleteExchange 46 = .ok (.sipush 404, 3) := by decide +kernel
theorem dX11_deleteExchange_49 : decode cX11_deleteExchange 49 = .ok (.ireturn, 1) := by decide +kernel
theorem dX11_deleteExchange_50 : decode cX11_deleteExchange 50 = .ok (.lload_n 2, 1) := by decide +kernel
theorem dX11_deleteExchange_51 : decode cX11_deleteExchange 51 = .ok (.lconst 0, 1) := by decide +kernel
theorem dX11_deleteExchange_52 : decode cX11_deleteExchange 52 = .ok (.lcmp, 1) := by decide +kernel
theorem dX11_deleteExchange_53 : decode cX11_deleteExchange 53 = .ok (.ifCond .ne 7, 3) := by decide +kernel
theorem dX11_deleteExchange_56 : decode cX11_deleteExchange 56 = .ok (.sipush 403, 3) := by decide +kernel
theorem dX11_deleteExchange_59 : decode cX11_deleteExchange 59 = .ok (.ireturn, 1) := by decide +kernel
theorem dX11_deleteExchange_60 : decode cX11_deleteExchange 60 = .ok (.iload 4, 2) := by decide +kernel
theorem dX11_deleteExchange_62 : decode cX11_deleteExchange 62 = .ok (.ifCond .eq 19, 3) := by decide +kernel
theorem dX11_deleteExchange_65 : decode cX11_deleteExchange 65 = .ok (.aload_n 0, 1) := by decide +kernel
theorem dX11_deleteExchange_66 : decode cX11_deleteExchange 66 = .ok (.getfield 26, 3) := by decide +kernel
theorem dX11_deleteExchange_69 : decode cX11_deleteExchange 69 = .ok (.aload 5, 2) := by decide +kernel
theorem dX11_deleteExchange_71 : decode cX11_deleteExchange 71 = .ok (.invokevirtual 307, 3) := by decide +kernel
theorem dX11_deleteExchange_74 : decode cX11_deleteExchange 74 = .ok (.ifCond .eq 7, 3) := by decide +kernel
theorem dX11_deleteExchange_77 : decode cX11_deleteExchange 77 = .ok (.sipush 406, 3) := by decide +kernel
theorem dX11_deleteExchange_80 : decode cX11_deleteExchange 80 = .ok (.ireturn, 1) := by decide +kernel
theorem dX11_deleteExchange_81 : decode cX11_deleteExchange 81 = .ok (.aload_n 0, 1) := by decide +kernel
theorem dX11_deleteExchange_82 : decode cX11_deleteExchange 82 = .ok (.getfield 26, 3) := by decide +kernel
theorem dX11_deleteExchange_85 : decode cX11_deleteExchange 85 = .ok (.aload 5, 2) := by decide +kernel
theorem dX11_deleteExchange_87 : decode cX11_deleteExchange 87 = .ok (.invokevirtual 311, 3) := by decide +kernel
theorem dX11_deleteExchange_90 : decode cX11_deleteExchange 90 = .ok (.aload_n 0, 1) := by decide +kernel
theorem dX11_deleteExchange_91 : decode cX11_deleteExchange 91 = .ok (.getfield 19, 3) := by decide +kernel
theorem dX11_deleteExchange_94 : decode cX11_deleteExchange 94 = .ok (.aload_n 1, 1) := by decide +kernel
theorem dX11_deleteExchange_95 : decode cX11_deleteExchange 95 = .ok (.getfield 145, 3) := by decide +kernel
theorem dX11_deleteExchange_98 : decode cX11_deleteExchange 98 = .ok (.sipush 10261, 3) := by decide +kernel
theorem dX11_deleteExchange_101 : decode cX11_deleteExchange 101 = .ok (.invokevirtual 125, 3) := by decide +kernel
theorem dX11_deleteExchange_104 : decode cX11_deleteExchange 104 = .ok (.iconst 0, 1) := by decide +kernel
theorem dX11_deleteExchange_105 : decode cX11_deleteExchange 105 = .ok (.ireturn, 1) := by decide +kernel
def f_X11_deleteExchange_81 (a0 : Nat) (r1 : Option Nat) (r5 : Option Nat) (h : AH) : Option (Int32 × AH) := rdR h a0 12 2 fun r_1 =>
  nn r_1 fun a_2 =>
  kg h a_2 9 (bd (f_X8_remove a_2 r5 h) fun _ h_4 =>
  rdR h_4 a0 12 1 fun r_5 =>
  nn r1 fun a_6 =>
  rdI h_4 a_6 2 0 fun x_7 =>
  nn r_5 fun a_8 =>
  kg h_4 a_8 10 (bd (f_X9_tell a_8 x_7 10261 h_4) fun _ h_10 =>
  some (0, h_10)))
set_option maxRecDepth 20000 in
set_option maxHeartbeats 4000000 in
theorem t_X11_deleteExchange_81 {Ω : Om} (a0 : Nat) (r1 : Option Nat) (r5 : Option Nat) (h : AH) (q : Int32 × AH) (hf : f_X11_deleteExchange_81 a0 r1 r5 h = some q) : Go Ω M_X11_deleteExchange 81 [(0, vR Ω (some a0)), (1, vR Ω r1), (5, vR Ω r5)] [] h (some (.int q.1)) q.2 := by
  unfold f_X11_deleteExchange_81 at hf
  refine go_aload_n dX11_deleteExchange_81 rfl 0 rfl ?_
  refine go_getR dX11_deleteExchange_82 fl_390_0 (fun _ _ => rfl) hf (fun r_1 hf => ?_)
  refine go_aload dX11_deleteExchange_85 2 rfl ?_
  obtain ⟨a_2, rfl, hga_2⟩ := nn_some hf
  have hf := hga_2
  obtain ⟨hk, hf⟩ := kg_some hf
  obtain ⟨z_3, hc, hf⟩ := bd_some hf
  refine go_callV (y2 := M_X8_remove) (c2 := 9) dX11_deleteExchange_87 mo_X8_remove ⟨Nat.le_of_ble_eq_true rfl, Nat.le_of_ble_eq_true rfl⟩ na_X8_remove w780 w781 (by decide) rfl w782 hk [vR Ω r5] rfl (n_X8_remove (a_2) r5) rfl (csum (Nat.le_of_ble_eq_true rfl)) (t_X8_remove (a_2) r5 h _ hc) ?_
  obtain ⟨_, h_4⟩ := z_3
  refine go_aload_n dX11_deleteExchange_90 rfl 0 rfl ?_
  refine go_getR dX11_deleteExchange_91 fl_389_0 (fun _ _ => rfl) hf (fun r_5 hf => ?_)
  refine go_aload_n dX11_deleteExchange_94 rfl 1 rfl ?_
  obtain ⟨a_6, rfl, hga_6⟩ := nn_some hf
  have hf := hga_6
  refine go_getI dX11_deleteExchange_95 fl_349_0 (fun _ _ => rfl) hf (fun x_7 hf => ?_)
  refine go_sipush 10261 dX11_deleteExchange_98 (by decide) ?_
  obtain ⟨a_8, rfl, hga_8⟩ := nn_some hf
  have hf := hga_8
  obtain ⟨hk, hf⟩ := kg_some hf
  obtain ⟨z_9, hc, hf⟩ := bd_some hf
  refine go_callV (y2 := M_X9_tell) (c2 := 10) dX11_deleteExchange_101 mo_X9_tell ⟨Nat.le_of_ble_eq_true rfl, Nat.le_of_ble_eq_true rfl⟩ na_X9_tell w430 w431 (by decide) rfl w432 hk [.int x_7, .int 10261] rfl (n_X9_tell (a_8) x_7 10261) rfl (csum (Nat.le_of_ble_eq_true rfl)) (t_X9_tell (a_8) x_7 10261 h_4 _ hc) ?_
  obtain ⟨_, h_10⟩ := z_9
  refine go_iconst 0 dX11_deleteExchange_104 rfl ?_
  exact go_ireturn dX11_deleteExchange_105 rfl hf
def f_X11_deleteExchange (a0 : Nat) (r1 : Option Nat) (h : AH) : Option (Int32 × AH) := rdR h a0 12 0 fun r_1 =>
  nn r_1 fun a_2 =>
  kg h a_2 7 (bd (f_X6_readName a_2 h) fun x_5 h_4 =>
  rdR h_4 a0 12 0 fun r_6 =>
  nn r_6 fun a_7 =>
  kg h_4 a_7 7 (bd (f_X6_readFlag a_7 h_4) fun x_10 h_9 =>
  rdR h_9 a0 12 0 fun r_11 =>
  nn r_11 fun a_12 =>
  kg h_9 a_12 7 (bd (f_X6_isJustRead a_12 h_9) fun x_15 h_14 =>
  (if x_15 = 0 then
    some (501, h_14)
  else
    rdR h_14 a0 12 2 fun r_16 =>
    nn r_16 fun a_17 =>
    kg h_14 a_17 9 (bd (f_X8_exchangeNamed a_17 x_5 h_14) fun r_20 h_19 =>
    nb r_20
      (some (404, h_19))
      (fun a_21 => (if (lg_cmp x_5 0) = 0 then
        some (403, h_19)
      else
        (if x_10 = 0 then
          f_X11_deleteExchange_81 a0 r1 (some a_21) h_19
        else
          rdR h_19 a0 12 2 fun r_22 =>
          nn r_22 fun a_23 =>
          kg h_19 a_23 9 (bd (f_X8_isBound a_23 (some a_21) h_19) fun x_26 h_25 =>
          (if x_26 = 0 then
            f_X11_deleteExchange_81 a0 r1 (some a_21) h_25
          else
            some (406, h_25)))))))))))
set_option maxRecDepth 20000 in
set_option maxHeartbeats 4000000 in
theorem t_X11_deleteExchange {Ω : Om} (a0 : Nat) (r1 : Option Nat) (h : AH) (q : Int32 × AH) (hf : f_X11_deleteExchange a0 r1 h = some q) : Go Ω M_X11_deleteExchange 0 (lv_args 0 [vR Ω (some a0), vR Ω r1]) [] h (some (.int q.1)) q.2 := by
  unfold f_X11_deleteExchange at hf
  rw [la_R, la_R, la_0]
  refine go_sub (lv' := [(0, vR Ω (some a0)), (1, vR Ω r1)]) [0, 1] rfl ?_
  refine go_aload_n dX11_deleteExchange_0 rfl 0 rfl ?_
  refine go_getR dX11_deleteExchange_1 fl_388_0 (fun _ _ => rfl) hf (fun r_1 hf => ?_)
  obtain ⟨a_2, rfl, hga_2⟩ := nn_some hf
  have hf := hga_2
  obtain ⟨hk, hf⟩ := kg_some hf
  obtain ⟨z_3, hc, hf⟩ := bd_some hf
  refine go_callV (y2 := M_X6_readName) (c2 := 7) dX11_deleteExchange_4 mo_X6_readName ⟨Nat.le_of_ble_eq_true rfl, Nat.le_of_ble_eq_true rfl⟩ na_X6_readName w758 w759 (by decide) rfl w760 hk [] rfl (n_X6_readName (a_2)) rfl (csum (Nat.le_of_ble_eq_true rfl)) (t_X6_readName (a_2) h _ hc) ?_
  obtain ⟨x_5, h_4⟩ := z_3
  refine go_lstore_n (i := 2) (lv' := [(2, .long x_5), (0, vR Ω (some a0)), (1, vR Ω r1)]) dX11_deleteExchange_7 rfl (by decide) (by first | rfl | simp [catR, catI, catJ]) ?_
  refine go_aload_n dX11_deleteExchange_8 rfl 1 rfl ?_
  refine go_getR dX11_deleteExchange_9 fl_388_0 (fun _ _ => rfl) hf (fun r_6 hf => ?_)
  obtain ⟨a_7, rfl, hga_7⟩ := nn_some hf
  have hf := hga_7
  obtain ⟨hk, hf⟩ := kg_some hf
  obtain ⟨z_8, hc, hf⟩ := bd_some hf
  refine go_callV (y2 := M_X6_readFlag) (c2 := 7) dX11_deleteExchange_12 mo_X6_readFlag ⟨Nat.le_of_ble_eq_true rfl, Nat.le_of_ble_eq_true rfl⟩ na_X6_readFlag w762 w763 (by decide) rfl w764 hk [] rfl (n_X6_readFlag (a_7)) rfl (csum (Nat.le_of_ble_eq_true rfl)) (t_X6_readFlag (a_7) h_4 _ hc) ?_
  obtain ⟨x_10, h_9⟩ := z_8
  refine go_istore (i := 4) (lv' := [(4, .int x_10), (2, .long x_5), (0, vR Ω (some a0)), (1, vR Ω r1)]) dX11_deleteExchange_15 (by decide) (by first | rfl | simp [catR, catI, catJ]) ?_
  refine go_aload_n dX11_deleteExchange_17 rfl 2 rfl ?_
  refine go_getR dX11_deleteExchange_18 fl_388_0 (fun _ _ => rfl) hf (fun r_11 hf => ?_)
  obtain ⟨a_12, rfl, hga_12⟩ := nn_some hf
  have hf := hga_12
  obtain ⟨hk, hf⟩ := kg_some hf
  obtain ⟨z_13, hc, hf⟩ := bd_some hf
  refine go_callV (y2 := M_X6_isJustRead) (c2 := 7) dX11_deleteExchange_21 mo_X6_isJustRead ⟨Nat.le_of_ble_eq_true rfl, Nat.le_of_ble_eq_true rfl⟩ na_X6_isJustRead w474 w475 (by decide) rfl w476 hk [] rfl (n_X6_isJustRead (a_12)) rfl (csum (Nat.le_of_ble_eq_true rfl)) (t_X6_isJustRead (a_12) h_9 _ hc) ?_
  obtain ⟨x_15, h_14⟩ := z_13
  refine go_if_ne (tgt := 31) dX11_deleteExchange_24 (by decide) hf (fun hf => ?_) (fun hf => ?_)
  · refine go_aload_n dX11_deleteExchange_31 rfl 2 rfl ?_
    refine go_getR dX11_deleteExchange_32 fl_390_0 (fun _ _ => rfl) hf (fun r_16 hf => ?_)
    refine go_lload_n dX11_deleteExchange_35 rfl 1 rfl ?_
    obtain ⟨a_17, rfl, hga_17⟩ := nn_some hf
    have hf := hga_17
    obtain ⟨hk, hf⟩ := kg_some hf
    obtain ⟨z_18, hc, hf⟩ := bd_some hf
    refine go_callV (y2 := M_X8_exchangeNamed) (c2 := 9) dX11_deleteExchange_36 mo_X8_exchangeNamed ⟨Nat.le_of_ble_eq_true rfl, Nat.le_of_ble_eq_true rfl⟩ na_X8_exchangeNamed w766 w767 (by decide) rfl w768 hk [.long x_5] rfl (n_X8_exchangeNamed (a_17) x_5) rfl (csum (Nat.le_of_ble_eq_true rfl)) (t_X8_exchangeNamed (a_17) x_5 h_14 _ hc) ?_
    obtain ⟨r_20, h_19⟩ := z_18
    refine go_astore (i := 5) (lv' := [(5, vR Ω r_20), (4, .int x_10), (2, .long x_5), (0, vR Ω (some a0)), (1, vR Ω r1)]) dX11_deleteExchange_39 (by decide) (by first | rfl | simp [catR, catI, catJ]) ?_
    refine go_aload dX11_deleteExchange_41 0 rfl ?_
    refine go_ifnonnull (x := r_20) (tgt := 50) dX11_deleteExchange_43 (by decide) hf ?_ ?_
    · rintro rfl hf
      refine go_sipush 404 dX11_deleteExchange_46 (by decide) ?_
      exact go_ireturn dX11_deleteExchange_49 rfl hf
    · rintro a_21 rfl hf
      refine go_lload_n dX11_deleteExchange_50 rfl 2 rfl ?_
      refine go_lconst 0 dX11_deleteExchange_51 rfl ?_
      refine go_lcmp dX11_deleteExchange_52 ?_
      refine go_if_ne (tgt := 60) dX11_deleteExchange_53 (by decide) hf (fun hf => ?_) (fun hf => ?_)
      · refine go_iload dX11_deleteExchange_60 1 rfl ?_
        refine go_if_eq (tgt := 81) dX11_deleteExchange_62 (by decide) hf (fun hf => ?_) (fun hf => ?_)
        · refine go_sub (lv' := [(0, vR Ω (some a0)), (1, vR Ω r1), (5, vR Ω (some a_21))]) [3, 4, 0] rfl ?_
          exact t_X11_deleteExchange_81 a0 r1 (some a_21) h_19 q hf
        · refine go_aload_n dX11_deleteExchange_65 rfl 3 rfl ?_
          refine go_getR dX11_deleteExchange_66 fl_390_0 (fun _ _ => rfl) hf (fun r_22 hf => ?_)
          refine go_aload dX11_deleteExchange_69 0 rfl ?_
          obtain ⟨a_23, rfl, hga_23⟩ := nn_some hf
          have hf := hga_23
          obtain ⟨hk, hf⟩ := kg_some hf
          obtain ⟨z_24, hc, hf⟩ := bd_some hf
          refine go_callV (y2 := M_X8_isBound) (c2 := 9) dX11_deleteExchange_71 mo_X8_isBound ⟨Nat.le_of_ble_eq_true rfl, Nat.le_of_ble_eq_true rfl⟩ na_X8_isBound w776 w777 (by decide) rfl w778 hk [vR Ω (some a_21)] rfl (n_X8_isBound (a_23) (some a_21)) rfl (csum (Nat.le_of_ble_eq_true rfl)) (t_X8_isBound (a_23) (some a_21) h_19 _ hc) ?_
          obtain ⟨x_26, h_25⟩ := z_24
          refine go_if_eq (tgt := 81) dX11_deleteExchange_74 (by decide) hf (fun hf => ?_) (fun hf => ?_)
          · refine go_sub (lv' := [(0, vR Ω (some a0)), (1, vR Ω r1), (5, vR Ω (some a_21))]) [3, 4, 0] rfl ?_
            exact t_X11_deleteExchange_81 a0 r1 (some a_21) h_25 q hf
          · refine go_sipush 406 dX11_deleteExchange_77 (by decide) ?_
            exact go_ireturn dX11_deleteExchange_80 rfl hf
      · refine go_sipush 403 dX11_deleteExchange_56 (by decide) ?_
        exact go_ireturn dX11_deleteExchange_59 rfl hf
  · refine go_sipush 501 dX11_deleteExchange_27 (by decide) ?_
    exact go_ireturn dX11_deleteExchange_30 rfl hf
-- LetterBroker$Office.remove(LLetterBroker$Queue;)V
theorem dX8_remove__0 : decode cX8_remove_ 0 = .ok (.aload_n 0, 1) := by decide +kernel
theorem dX8_remove__1 : decode cX8_remove_ 1 = .ok (.getfield 21, 3) := by decide +kernel
theorem dX8_remove__4 : decode cX8_remove_ 4 = .ok (.invokeinterface 38 1, 5) := by decide +kernel
theorem dX8_remove__9 : decode cX8_remove_ 9 = .ok (.iconst 1, 1) := by decide +kernel
theorem dX8_remove__10 : decode cX8_remove_ 10 = .ok (.isub, 1) := by decide +kernel
theorem dX8_remove__11 : decode cX8_remove_ 11 = .ok (.istore_n 2, 1) := by decide +kernel
theorem dX8_remove__12 : decode cX8_remove_ 12 = .ok (.iload_n 2, 1) := by decide +kernel
theorem dX8_remove__13 : decode cX8_remove_ 13 = .ok (.ifCond .lt 40, 3) := by decide +kernel
theorem dX8_remove__16 : decode cX8_remove_ 16 = .ok (.aload_n 0, 1) := by decide +kernel
theorem dX8_remove__17 : decode cX8_remove_ 17 = .ok (.getfield 21, 3) := by decide +kernel
theorem dX8_remove__20 : decode cX8_remove_ 20 = .ok (.iload_n 2, 1) := by decide +kernel
theorem dX8_remove__21 : decode cX8_remove_ 21 = .ok (.invokeinterface 42 2, 5) := by decide +kernel
theorem dX8_remove__26 : decode cX8_remove_ 26 = .ok (.checkcast 53, 3) := by decide +kernel
theorem dX8_remove__29 : decode cX8_remove_ 29 = .ok (.getfield 55, 3) := by decide +kernel
theorem dX8_remove__32 : decode cX8_remove_ 32 = .ok (.aload_n 1, 1) := by decide +kernel
theorem dX8_remove__33 : decode cX8_remove_ 33 = .ok (.if_acmp .ne 14, 3) := by decide +kernel
theorem dX8_remove__36 : decode cX8_remove_ 36 = .ok (.aload_n 0, 1) := by decide +kernel
theorem dX8_remove__37 : decode cX8_remove_ 37 = .ok (.getfield 21, 3) := by decide +kernel
theorem dX8_remove__40 : decode cX8_remove_ 40 = .ok (.iload_n 2, 1) := by decide +kernel
theorem dX8_remove__41 : decode cX8_remove_ 41 = .ok (.invokeinterface 86 2, 5) := by decide +kernel
theorem dX8_remove__46 : decode cX8_remove_ 46 = .ok (.pop, 1) := by decide +kernel
theorem dX8_remove__47 : decode cX8_remove_ 47 = .ok (.iinc 2 (-1), 3) := by decide +kernel
theorem dX8_remove__50 : decode cX8_remove_ 50 = .ok (.goto (-38), 3) := by decide +kernel
theorem dX8_remove__53 : decode cX8_remove_ 53 = .ok (.aload_n 0, 1) := by decide +kernel
theorem dX8_remove__54 : decode cX8_remove_ 54 = .ok (.getfield 24, 3) := by decide +kernel
theorem dX8_remove__57 : decode cX8_remove_ 57 = .ok (.invokeinterface 38 1, 5) := by decide +kernel
theorem dX8_remove__62 : decode cX8_remove_ 62 = .ok (.iconst 1, 1) := by decide +kernel
theorem dX8_remove__63 : decode cX8_remove_ 63 = .ok (.isub, 1) := by decide +kernel
theorem dX8_remove__64 : decode cX8_remove_ 64 = .ok (.istore_n 2, 1) := by decide +kernel
theorem dX8_remove__65 : decode cX8_remove_ 65 = .ok (.iload_n 2, 1) := by decide +kernel
theorem dX8_remove__66 : decode cX8_remove_ 66 = .ok (.ifCond .lt 40, 3) := by decide +kernel
theorem dX8_remove__69 : decode cX8_remove_ 69 = .ok (.aload_n 0, 1) := by decide +kernel
theorem dX8_remove__70 : decode cX8_remove_ 70 = .ok (.getfield 24, 3) := by decide +kernel
theorem dX8_remove__73 : decode cX8_remove_ 73 = .ok (.iload_n 2, 1) := by decide +kernel
theorem dX8_remove__74 : decode cX8_remove_ 74 = .ok (.invokeinterface 42 2, 5) := by decide +kernel
theorem dX8_remove__79 : decode cX8_remove_ 79 = .ok (.checkcast 66, 3) := by decide +kernel
theorem dX8_remove__82 : decode cX8_remove_ 82 = .ok (.getfield 75, 3) := by decide +kernel
theorem dX8_remove__85 : decode cX8_remove_ 85 = .ok (.aload_n 1, 1) := by decide +kernel
theorem dX8_remove__86 : decode cX8_remove_ 86 = .ok (.if_acmp .ne 14, 3) := by decide +kernel
theorem dX8_remove__89 : decode cX8_remove_ 89 = .ok (.aload_n 0, 1) := by decide +kernel
theorem dX8_remove__90 : decode cX8_remove_ 90 = .ok (.getfield 24, 3) := by decide +kernel
theorem dX8_remove__93 : decode cX8_remove_ 93 = .ok (.iload_n 2, 1) := by decide +kernel
theorem dX8_remove__94 : decode cX8_remove_ 94 = .ok (.invokeinterface 86 2, 5) := by decide +kernel
theorem dX8_remove__99 : decode cX8_remove_ 99 = .ok (.pop, 1) := by decide +kernel
theorem dX8_remove__100 : decode cX8_remove_ 100 = .ok (.iinc 2 (-1), 3) := by decide +kernel
theorem dX8_remove__103 : decode cX8_remove_ 103 = .ok (.goto (-38), 3) := by decide +kernel
theorem dX8_remove__106 : decode cX8_remove_ 106 = .ok (.aload_n 0, 1) := by decide +kernel
theorem dX8_remove__107 : decode cX8_remove_ 107 = .ok (.getfield 18, 3) := by decide +kernel
theorem dX8_remove__110 : decode cX8_remove_ 110 = .ok (.invokeinterface 38 1, 5) := by decide +kernel
theorem dX8_remove__115 : decode cX8_remove_ 115 = .ok (.iconst 1, 1) := by decide +kernel
theorem dX8_remove__116 : decode cX8_remove_ 116 = .ok (.isub, 1) := by decide +kernel
theorem dX8_remove__117 : decode cX8_remove_ 117 = .ok (.istore_n 2, 1) := by decide +kernel
theorem dX8_remove__118 : decode cX8_remove_ 118 = .ok (.iload_n 2, 1) := by decide +kernel
theorem dX8_remove__119 : decode cX8_remove_ 119 = .ok (.ifCond .lt 34, 3) := by decide +kernel
theorem dX8_remove__122 : decode cX8_remove_ 122 = .ok (.aload_n 0, 1) := by decide +kernel
theorem dX8_remove__123 : decode cX8_remove_ 123 = .ok (.getfield 18, 3) := by decide +kernel
theorem dX8_remove__126 : decode cX8_remove_ 126 = .ok (.iload_n 2, 1) := by decide +kernel
theorem dX8_remove__127 : decode cX8_remove_ 127 = .ok (.invokeinterface 42 2, 5) := by decide +kernel
theorem dX8_remove__132 : decode cX8_remove_ 132 = .ok (.aload_n 1, 1) := by decide +kernel
theorem dX8_remove__133 : decode cX8_remove_ 133 = .ok (.if_acmp .ne 14, 3) := by decide +kernel
theorem dX8_remove__136 : decode cX8_remove_ 136 = .ok (.aload_n 0, 1) := by decide +kernel
theorem dX8_remove__137 : decode cX8_remove_ 137 = .ok (.getfield 18, 3) := by decide +kernel
theorem dX8_remove__140 : decode cX8_remove_ 140 = .ok (.iload_n 2, 1) := by decide +kernel
theorem dX8_remove__141 : decode cX8_remove_ 141 = .ok (.invokeinterface 86 2, 5) := by decide +kernel
theorem dX8_remove__146 : decode cX8_remove_ 146 = .ok (.pop, 1) := by decide +kernel
theorem dX8_remove__147 : decode cX8_remove_ 147 = .ok (.iinc 2 (-1), 3) := by decide +kernel
theorem dX8_remove__150 : decode cX8_remove_ 150 = .ok (.goto (-32), 3) := by decide +kernel
theorem dX8_remove__153 : decode cX8_remove_ 153 = .ok (.return_, 1) := by decide +kernel
def f_X8_remove__47 (k12 : Nat → Option Nat → Int32 → AH → Option (Unit × AH)) (a0 : Nat) (r1 : Option Nat) (x2 : Int32) (h : AH) : Option (Unit × AH) := k12 a0 r1 (x2 + (-1)) h
set_option maxRecDepth 20000 in
set_option maxHeartbeats 4000000 in
theorem t_X8_remove__47 {Ω : Om} {k12 : Nat → Option Nat → Int32 → AH → Option (Unit × AH)} (c12 : ∀ (a0 : Nat) (r1 : Option Nat) (x2 : Int32) (h : AH) (q : Unit × AH), k12 a0 r1 x2 h = some q → Go Ω M_X8_remove_ 12 [(0, vR Ω (some a0)), (1, vR Ω r1), (2, .int x2)] [] h none q.2) (a0 : Nat) (r1 : Option Nat) (x2 : Int32) (h : AH) (q : Unit × AH) (hf : f_X8_remove__47 k12 a0 r1 x2 h = some q) : Go Ω M_X8_remove_ 47 [(0, vR Ω (some a0)), (1, vR Ω r1), (2, .int x2)] [] h none q.2 := by
  unfold f_X8_remove__47 at hf
  refine go_iinc (j := 2) (v := x2 + (-1)) (lv' := [(2, .int (x2 + (-1))), (0, vR Ω (some a0)), (1, vR Ω r1)]) dX8_remove__47 rfl rfl (by decide) (by first | rfl | simp [catR, catI, catJ]) ?_
  refine go_goto (tgt := 12) dX8_remove__50 (by decide) ?_
  refine go_sub (lv' := [(0, vR Ω (some a0)), (1, vR Ω r1), (2, .int (x2 + (-1)))]) [1, 2, 0] rfl ?_
  exact c12 a0 r1 (x2 + (-1)) h q hf
def f_X8_remove__100 (k65 : Nat → Option Nat → Int32 → AH → Option (Unit × AH)) (a0 : Nat) (r1 : Option Nat) (x2 : Int32) (h : AH) : Option (Unit × AH) := k65 a0 r1 (x2 + (-1)) h
set_option maxRecDepth 20000 in
set_option maxHeartbeats 4000000 in
theorem t_X8_remove__100 {Ω : Om} {k65 : Nat → Option Nat → Int32 → AH → Option (Unit × AH)} (c65 : ∀ (a0 : Nat) (r1 : Option Nat) (x2 : Int32) (h : AH) (q : Unit × AH), k65 a0 r1 x2 h = some q → Go Ω M_X8_remove_ 65 [(0, vR Ω (some a0)), (1, vR Ω r1), (2, .int x2)] [] h none q.2) (a0 : Nat) (r1 : Option Nat) (x2 : Int32) (h : AH) (q : Unit × AH) (hf : f_X8_remove__100 k65 a0 r1 x2 h = some q) : Go Ω M_X8_remove_ 100 [(0, vR Ω (some a0)), (1, vR Ω r1), (2, .int x2)] [] h none q.2 := by
  unfold f_X8_remove__100 at hf
  refine go_iinc (j := 2) (v := x2 + (-1)) (lv' := [(2, .int (x2 + (-1))), (0, vR Ω (some a0)), (1, vR Ω r1)]) dX8_remove__100 rfl rfl (by decide) (by first | rfl | simp [catR, catI, catJ]) ?_
  refine go_goto (tgt := 65) dX8_remove__103 (by decide) ?_
  refine go_sub (lv' := [(0, vR Ω (some a0)), (1, vR Ω r1), (2, .int (x2 + (-1)))]) [1, 2, 0] rfl ?_
  exact c65 a0 r1 (x2 + (-1)) h q hf
def f_X8_remove__147 (k118 : Nat → Option Nat → Int32 → AH → Option (Unit × AH)) (a0 : Nat) (r1 : Option Nat) (x2 : Int32) (h : AH) : Option (Unit × AH) := k118 a0 r1 (x2 + (-1)) h
set_option maxRecDepth 20000 in
set_option maxHeartbeats 4000000 in
theorem t_X8_remove__147 {Ω : Om} {k118 : Nat → Option Nat → Int32 → AH → Option (Unit × AH)} (c118 : ∀ (a0 : Nat) (r1 : Option Nat) (x2 : Int32) (h : AH) (q : Unit × AH), k118 a0 r1 x2 h = some q → Go Ω M_X8_remove_ 118 [(0, vR Ω (some a0)), (1, vR Ω r1), (2, .int x2)] [] h none q.2) (a0 : Nat) (r1 : Option Nat) (x2 : Int32) (h : AH) (q : Unit × AH) (hf : f_X8_remove__147 k118 a0 r1 x2 h = some q) : Go Ω M_X8_remove_ 147 [(0, vR Ω (some a0)), (1, vR Ω r1), (2, .int x2)] [] h none q.2 := by
  unfold f_X8_remove__147 at hf
  refine go_iinc (j := 2) (v := x2 + (-1)) (lv' := [(2, .int (x2 + (-1))), (0, vR Ω (some a0)), (1, vR Ω r1)]) dX8_remove__147 rfl rfl (by decide) (by first | rfl | simp [catR, catI, catJ]) ?_
  refine go_goto (tgt := 118) dX8_remove__150 (by decide) ?_
  refine go_sub (lv' := [(0, vR Ω (some a0)), (1, vR Ω r1), (2, .int (x2 + (-1)))]) [1, 2, 0] rfl ?_
  exact c118 a0 r1 (x2 + (-1)) h q hf
def f_X8_remove__118 : Nat → Nat → Option Nat → Int32 → AH → Option (Unit × AH)
  | 0, _, _, _, _ => none
  | n + 1, a0, r1, x2, h => (if x2 < 0 then
      some ((), h)
    else
      rdR h a0 9 1 fun r_1 =>
      nn r_1 fun a_2 =>
      kg h a_2 0 (bd (f_Jx4a65c_get_915e3 a_2 x2 h) fun r_5 h_4 =>
      aq r_5 r1
        (rdR h_4 a0 9 1 fun r_6 =>
        nn r_6 fun a_7 =>
        kg h_4 a_7 0 (bd (f_Jx4a65c_remove_915e3 a_7 x2 h_4) fun r_10 h_9 =>
        f_X8_remove__147 (fun a0 r1 x2 h => f_X8_remove__118 n a0 r1 x2 h) a0 r1 x2 h_9))
        (f_X8_remove__147 (fun a0 r1 x2 h => f_X8_remove__118 n a0 r1 x2 h) a0 r1 x2 h_4)))
set_option maxRecDepth 20000 in
set_option maxHeartbeats 4000000 in
theorem t_X8_remove__118 {Ω : Om} : ∀ (n : Nat) (a0 : Nat) (r1 : Option Nat) (x2 : Int32) (h : AH) (q : Unit × AH), f_X8_remove__118 n a0 r1 x2 h = some q → Go Ω M_X8_remove_ 118 [(0, vR Ω (some a0)), (1, vR Ω r1), (2, .int x2)] [] h none q.2 := by
  intro n
  induction n with
  | zero => intro a0 r1 x2 h q hf; cases hf
  | succ n ih =>
    intro a0 r1 x2 h q hf
    rw [f_X8_remove__118] at hf
    refine go_iload_n dX8_remove__118 rfl 2 rfl ?_
    refine go_if_lt (tgt := 153) dX8_remove__119 (by decide) hf (fun hf => ?_) (fun hf => ?_)
    · exact go_return dX8_remove__153 rfl hf
    · refine go_aload_n dX8_remove__122 rfl 0 rfl ?_
      refine go_getR dX8_remove__123 fl_318_0 (fun _ _ => rfl) hf (fun r_1 hf => ?_)
      refine go_iload_n dX8_remove__126 rfl 2 rfl ?_
      obtain ⟨a_2, rfl, hga_2⟩ := nn_some hf
      have hf := hga_2
      obtain ⟨hk, hf⟩ := kg_some hf
      obtain ⟨z_3, hc, hf⟩ := bd_some hf
      refine go_callF (y2 := M_Jx4a65c_get_915e3) (x2 := ⟨"java/util/List", "get", "(I)Ljava/lang/Object;"⟩) dX8_remove__127 mo_Jx4a65c_get_915e3 ⟨Nat.le_of_ble_eq_true rfl, Nat.le_of_ble_eq_true rfl⟩ na_Jx4a65c_get_915e3 w538 w543 w541 (by decide) (fun U hU => hU.2.2.1) hk [.int x2] rfl (n_Jx4a65c_get_915e3 (a_2) x2) rfl (csum (Nat.le_of_ble_eq_true rfl)) (t_Jx4a65c_get_915e3 (a_2) x2 h _ hc) ?_
      obtain ⟨r_5, h_4⟩ := z_3
      refine go_aload_n dX8_remove__132 rfl 1 rfl ?_
      refine go_acmp_ne (tgt := 147) dX8_remove__133 (by decide) hf (fun hf => ?_) (fun hf => ?_)
      · refine go_sub (lv' := [(0, vR Ω (some a0)), (1, vR Ω r1), (2, .int x2)]) [0, 1, 2] rfl ?_
        exact t_X8_remove__147 ih a0 r1 x2 h_4 q hf
      · refine go_aload_n dX8_remove__136 rfl 0 rfl ?_
        refine go_getR dX8_remove__137 fl_318_0 (fun _ _ => rfl) hf (fun r_6 hf => ?_)
        refine go_iload_n dX8_remove__140 rfl 2 rfl ?_
        obtain ⟨a_7, rfl, hga_7⟩ := nn_some hf
        have hf := hga_7
        obtain ⟨hk, hf⟩ := kg_some hf
        obtain ⟨z_8, hc, hf⟩ := bd_some hf
        refine go_callF (y2 := M_Jx4a65c_remove_915e3) (x2 := ⟨"java/util/List", "remove", "(I)Ljava/lang/Object;"⟩) dX8_remove__141 mo_Jx4a65c_remove_915e3 ⟨Nat.le_of_ble_eq_true rfl, Nat.le_of_ble_eq_true rfl⟩ na_Jx4a65c_remove_915e3 w676 w681 w679 (by decide) (fun U hU => hU.2.2.2.1) hk [.int x2] rfl (n_Jx4a65c_remove_915e3 (a_7) x2) rfl (csum (Nat.le_of_ble_eq_true rfl)) (t_Jx4a65c_remove_915e3 (a_7) x2 h_4 _ hc) ?_
        obtain ⟨r_10, h_9⟩ := z_8
        refine go_pop dX8_remove__146 catR ?_
        refine go_sub (lv' := [(0, vR Ω (some a0)), (1, vR Ω r1), (2, .int x2)]) [0, 1, 2] rfl ?_
        exact t_X8_remove__147 ih a0 r1 x2 h_9 q hf
def f_X8_remove__106 (a0 : Nat) (r1 : Option Nat) (h : AH) : Option (Unit × AH) := rdR h a0 9 1 fun r_1 =>
  nn r_1 fun a_2 =>
  kg h a_2 0 (bd (f_Jx4a65c_size_8abf5 a_2 h) fun x_5 h_4 =>
  lt (x_5 - 1) fun x_6 =>
  f_X8_remove__118 FU a0 r1 x_6 h_4)
set_option maxRecDepth 20000 in
set_option maxHeartbeats 4000000 in
theorem t_X8_remove__106 {Ω : Om} (a0 : Nat) (r1 : Option Nat) (h : AH) (q : Unit × AH) (hf : f_X8_remove__106 a0 r1 h = some q) : Go Ω M_X8_remove_ 106 [(0, vR Ω (some a0)), (1, vR Ω r1)] [] h none q.2 := by
  unfold f_X8_remove__106 at hf
  refine go_aload_n dX8_remove__106 rfl 0 rfl ?_
  refine go_getR dX8_remove__107 fl_318_0 (fun _ _ => rfl) hf (fun r_1 hf => ?_)
  obtain ⟨a_2, rfl, hga_2⟩ := nn_some hf
  have hf := hga_2
  obtain ⟨hk, hf⟩ := kg_some hf
  obtain ⟨z_3, hc, hf⟩ := bd_some hf
  refine go_callF (y2 := M_Jx4a65c_size_8abf5) (x2 := ⟨"java/util/List", "size", "()I"⟩) dX8_remove__110 mo_Jx4a65c_size_8abf5 ⟨Nat.le_of_ble_eq_true rfl, Nat.le_of_ble_eq_true rfl⟩ na_Jx4a65c_size_8abf5 w536 w522 w520 (by decide) (fun U hU => hU.2.2.2.2.1) hk [] rfl (n_Jx4a65c_size_8abf5 (a_2)) rfl (csum (Nat.le_of_ble_eq_true rfl)) (t_Jx4a65c_size_8abf5 (a_2) h _ hc) ?_
  obtain ⟨x_5, h_4⟩ := z_3
  refine go_iconst 1 dX8_remove__115 rfl ?_
  refine go_isub dX8_remove__116 ?_
  refine lt_I hf (fun x_6 hf => ?_)
  refine go_istore_n (i := 2) (lv' := [(2, .int x_6), (0, vR Ω (some a0)), (1, vR Ω r1)]) dX8_remove__117 rfl (by decide) (by first | rfl | simp [catR, catI, catJ]) ?_
  refine go_sub (lv' := [(0, vR Ω (some a0)), (1, vR Ω r1), (2, .int x_6)]) [1, 2, 0] rfl ?_
  exact t_X8_remove__118 FU a0 r1 x_6 h_4 q hf
def f_X8_remove__65 : Nat → Nat → Option Nat → Int32 → AH → Option (Unit × AH)
  | 0, _, _, _, _ => none
  | n + 1, a0, r1, x2, h => (if x2 < 0 then
      f_X8_remove__106 a0 r1 h
    else
      rdR h a0 9 3 fun r_1 =>
      nn r_1 fun a_2 =>
      kg h a_2 0 (bd (f_Jx4a65c_get_915e3 a_2 x2 h) fun r_5 h_4 =>
      ckc h_4 r_5 3 (
      nn r_5 fun a_6 =>
      rdR h_4 a_6 3 0 fun r_7 =>
      aq r_7 r1
        (rdR h_4 a0 9 3 fun r_8 =>
        nn r_8 fun a_9 =>
        kg h_4 a_9 0 (bd (f_Jx4a65c_remove_915e3 a_9 x2 h_4) fun r_12 h_11 =>
        f_X8_remove__100 (fun a0 r1 x2 h => f_X8_remove__65 n a0 r1 x2 h) a0 r1 x2 h_11))
        (f_X8_remove__100 (fun a0 r1 x2 h => f_X8_remove__65 n a0 r1 x2 h) a0 r1 x2 h_4))))
set_option maxRecDepth 20000 in
set_option maxHeartbeats 4000000 in
theorem t_X8_remove__65 {Ω : Om} : ∀ (n : Nat) (a0 : Nat) (r1 : Option Nat) (x2 : Int32) (h : AH) (q : Unit × AH), f_X8_remove__65 n a0 r1 x2 h = some q → Go Ω M_X8_remove_ 65 [(0, vR Ω (some a0)), (1, vR Ω r1), (2, .int x2)] [] h none q.2 := by
  intro n
  induction n with
  | zero => intro a0 r1 x2 h q hf; cases hf
  | succ n ih =>
    intro a0 r1 x2 h q hf
    rw [f_X8_remove__65] at hf
    refine go_iload_n dX8_remove__65 rfl 2 rfl ?_
    refine go_if_lt (tgt := 106) dX8_remove__66 (by decide) hf (fun hf => ?_) (fun hf => ?_)
    · refine go_sub (lv' := [(0, vR Ω (some a0)), (1, vR Ω r1)]) [0, 1] rfl ?_
      exact t_X8_remove__106 a0 r1 h q hf
    · refine go_aload_n dX8_remove__69 rfl 0 rfl ?_
      refine go_getR dX8_remove__70 fl_322_0 (fun _ _ => rfl) hf (fun r_1 hf => ?_)
      refine go_iload_n dX8_remove__73 rfl 2 rfl ?_
      obtain ⟨a_2, rfl, hga_2⟩ := nn_some hf
      have hf := hga_2
      obtain ⟨hk, hf⟩ := kg_some hf
      obtain ⟨z_3, hc, hf⟩ := bd_some hf
      refine go_callF (y2 := M_Jx4a65c_get_915e3) (x2 := ⟨"java/util/List", "get", "(I)Ljava/lang/Object;"⟩) dX8_remove__74 mo_Jx4a65c_get_915e3 ⟨Nat.le_of_ble_eq_true rfl, Nat.le_of_ble_eq_true rfl⟩ na_Jx4a65c_get_915e3 w538 w543 w541 (by decide) (fun U hU => hU.2.2.1) hk [.int x2] rfl (n_Jx4a65c_get_915e3 (a_2) x2) rfl (csum (Nat.le_of_ble_eq_true rfl)) (t_Jx4a65c_get_915e3 (a_2) x2 h _ hc) ?_
      obtain ⟨r_5, h_4⟩ := z_3
      refine go_cast (c := 3) dX8_remove__79 (by decide) rfl w674 hf (fun hf => ?_)
      obtain ⟨a_6, rfl, hga_6⟩ := nn_some hf
      have hf := hga_6
      refine go_getR dX8_remove__82 fl_901_0 (fun _ _ => rfl) hf (fun r_7 hf => ?_)
      refine go_aload_n dX8_remove__85 rfl 1 rfl ?_
      refine go_acmp_ne (tgt := 100) dX8_remove__86 (by decide) hf (fun hf => ?_) (fun hf => ?_)
      · refine go_sub (lv' := [(0, vR Ω (some a0)), (1, vR Ω r1), (2, .int x2)]) [0, 1, 2] rfl ?_
        exact t_X8_remove__100 ih a0 r1 x2 h_4 q hf
      · refine go_aload_n dX8_remove__89 rfl 0 rfl ?_
        refine go_getR dX8_remove__90 fl_322_0 (fun _ _ => rfl) hf (fun r_8 hf => ?_)
        refine go_iload_n dX8_remove__93 rfl 2 rfl ?_
        obtain ⟨a_9, rfl, hga_9⟩ := nn_some hf
        have hf := hga_9
        obtain ⟨hk, hf⟩ := kg_some hf
        obtain ⟨z_10, hc, hf⟩ := bd_some hf
        refine go_callF (y2 := M_Jx4a65c_remove_915e3) (x2 := ⟨"java/util/List", "remove", "(I)Ljava/lang/Object;"⟩) dX8_remove__94 mo_Jx4a65c_remove_915e3 ⟨Nat.le_of_ble_eq_true rfl, Nat.le_of_ble_eq_true rfl⟩ na_Jx4a65c_remove_915e3 w676 w681 w679 (by decide) (fun U hU => hU.2.2.2.1) hk [.int x2] rfl (n_Jx4a65c_remove_915e3 (a_9) x2) rfl (csum (Nat.le_of_ble_eq_true rfl)) (t_Jx4a65c_remove_915e3 (a_9) x2 h_4 _ hc) ?_
        obtain ⟨r_12, h_11⟩ := z_10
        refine go_pop dX8_remove__99 catR ?_
        refine go_sub (lv' := [(0, vR Ω (some a0)), (1, vR Ω r1), (2, .int x2)]) [0, 1, 2] rfl ?_
        exact t_X8_remove__100 ih a0 r1 x2 h_11 q hf
def f_X8_remove__53 (a0 : Nat) (r1 : Option Nat) (h : AH) : Option (Unit × AH) := rdR h a0 9 3 fun r_1 =>
  nn r_1 fun a_2 =>
  kg h a_2 0 (bd (f_Jx4a65c_size_8abf5 a_2 h) fun x_5 h_4 =>
  lt (x_5 - 1) fun x_6 =>
  f_X8_remove__65 FU a0 r1 x_6 h_4)
set_option maxRecDepth 20000 in
set_option maxHeartbeats 4000000 in
theorem t_X8_remove__53 {Ω : Om} (a0 : Nat) (r1 : Option Nat) (h : AH) (q : Unit × AH) (hf : f_X8_remove__53 a0 r1 h = some q) : Go Ω M_X8_remove_ 53 [(0, vR Ω (some a0)), (1, vR Ω r1)] [] h none q.2 := by
  unfold f_X8_remove__53 at hf
  refine go_aload_n dX8_remove__53 rfl 0 rfl ?_
  refine go_getR dX8_remove__54 fl_322_0 (fun _ _ => rfl) hf (fun r_1 hf => ?_)
  obtain ⟨a_2, rfl, hga_2⟩ := nn_some hf
  have hf := hga_2
  obtain ⟨hk, hf⟩ := kg_some hf
  obtain ⟨z_3, hc, hf⟩ := bd_some hf
  refine go_callF (y2 := M_Jx4a65c_size_8abf5) (x2 := ⟨"java/util/List", "size", "()I"⟩) dX8_remove__57 mo_Jx4a65c_size_8abf5 ⟨Nat.le_of_ble_eq_true rfl, Nat.le_of_ble_eq_true rfl⟩ na_Jx4a65c_size_8abf5 w536 w522 w520 (by decide) (fun U hU => hU.2.2.2.2.1) hk [] rfl (n_Jx4a65c_size_8abf5 (a_2)) rfl (csum (Nat.le_of_ble_eq_true rfl)) (t_Jx4a65c_size_8abf5 (a_2) h _ hc) ?_
  obtain ⟨x_5, h_4⟩ := z_3
  refine go_iconst 1 dX8_remove__62 rfl ?_
  refine go_isub dX8_remove__63 ?_
  refine lt_I hf (fun x_6 hf => ?_)
  refine go_istore_n (i := 2) (lv' := [(2, .int x_6), (0, vR Ω (some a0)), (1, vR Ω r1)]) dX8_remove__64 rfl (by decide) (by first | rfl | simp [catR, catI, catJ]) ?_
  refine go_sub (lv' := [(0, vR Ω (some a0)), (1, vR Ω r1), (2, .int x_6)]) [1, 2, 0] rfl ?_
  exact t_X8_remove__65 FU a0 r1 x_6 h_4 q hf
def f_X8_remove__12 : Nat → Nat → Option Nat → Int32 → AH → Option (Unit × AH)
  | 0, _, _, _, _ => none
  | n + 1, a0, r1, x2, h => (if x2 < 0 then
      f_X8_remove__53 a0 r1 h
    else
      rdR h a0 9 2 fun r_1 =>
      nn r_1 fun a_2 =>
      kg h a_2 0 (bd (f_Jx4a65c_get_915e3 a_2 x2 h) fun r_5 h_4 =>
      ckc h_4 r_5 1 (
      nn r_5 fun a_6 =>
      rdR h_4 a_6 1 0 fun r_7 =>
      aq r_7 r1
        (rdR h_4 a0 9 2 fun r_8 =>
        nn r_8 fun a_9 =>
        kg h_4 a_9 0 (bd (f_Jx4a65c_remove_915e3 a_9 x2 h_4) fun r_12 h_11 =>
        f_X8_remove__47 (fun a0 r1 x2 h => f_X8_remove__12 n a0 r1 x2 h) a0 r1 x2 h_11))
        (f_X8_remove__47 (fun a0 r1 x2 h => f_X8_remove__12 n a0 r1 x2 h) a0 r1 x2 h_4))))
set_option maxRecDepth 20000 in
set_option maxHeartbeats 4000000 in
theorem t_X8_remove__12 {Ω : Om} : ∀ (n : Nat) (a0 : Nat) (r1 : Option Nat) (x2 : Int32) (h : AH) (q : Unit × AH), f_X8_remove__12 n a0 r1 x2 h = some q → Go Ω M_X8_remove_ 12 [(0, vR Ω (some a0)), (1, vR Ω r1), (2, .int x2)] [] h none q.2 := by
  intro n
  induction n with
  | zero => intro a0 r1 x2 h q hf; cases hf
  | succ n ih =>
    intro a0 r1 x2 h q hf
    rw [f_X8_remove__12] at hf
    refine go_iload_n dX8_remove__12 rfl 2 rfl ?_
    refine go_if_lt (tgt := 53) dX8_remove__13 (by decide) hf (fun hf => ?_) (fun hf => ?_)
    · refine go_sub (lv' := [(0, vR Ω (some a0)), (1, vR Ω r1)]) [0, 1] rfl ?_
      exact t_X8_remove__53 a0 r1 h q hf
    · refine go_aload_n dX8_remove__16 rfl 0 rfl ?_
      refine go_getR dX8_remove__17 fl_320_0 (fun _ _ => rfl) hf (fun r_1 hf => ?_)
      refine go_iload_n dX8_remove__20 rfl 2 rfl ?_
      obtain ⟨a_2, rfl, hga_2⟩ := nn_some hf
      have hf := hga_2
      obtain ⟨hk, hf⟩ := kg_some hf
      obtain ⟨z_3, hc, hf⟩ := bd_some hf
      refine go_callF (y2 := M_Jx4a65c_get_915e3) (x2 := ⟨"java/util/List", "get", "(I)Ljava/lang/Object;"⟩) dX8_remove__21 mo_Jx4a65c_get_915e3 ⟨Nat.le_of_ble_eq_true rfl, Nat.le_of_ble_eq_true rfl⟩ na_Jx4a65c_get_915e3 w538 w543 w541 (by decide) (fun U hU => hU.2.2.1) hk [.int x2] rfl (n_Jx4a65c_get_915e3 (a_2) x2) rfl (csum (Nat.le_of_ble_eq_true rfl)) (t_Jx4a65c_get_915e3 (a_2) x2 h _ hc) ?_
      obtain ⟨r_5, h_4⟩ := z_3
      refine go_cast (c := 1) dX8_remove__26 (by decide) rfl w561 hf (fun hf => ?_)
      obtain ⟨a_6, rfl, hga_6⟩ := nn_some hf
      have hf := hga_6
      refine go_getR dX8_remove__29 fl_840_0 (fun _ _ => rfl) hf (fun r_7 hf => ?_)
      refine go_aload_n dX8_remove__32 rfl 1 rfl ?_
      refine go_acmp_ne (tgt := 47) dX8_remove__33 (by decide) hf (fun hf => ?_) (fun hf => ?_)
      · refine go_sub (lv' := [(0, vR Ω (some a0)), (1, vR Ω r1), (2, .int x2)]) [0, 1, 2] rfl ?_
        exact t_X8_remove__47 ih a0 r1 x2 h_4 q hf
      · refine go_aload_n dX8_remove__36 rfl 0 rfl ?_
        refine go_getR dX8_remove__37 fl_320_0 (fun _ _ => rfl) hf (fun r_8 hf => ?_)
        refine go_iload_n dX8_remove__40 rfl 2 rfl ?_
        obtain ⟨a_9, rfl, hga_9⟩ := nn_some hf
        have hf := hga_9
        obtain ⟨hk, hf⟩ := kg_some hf
        obtain ⟨z_10, hc, hf⟩ := bd_some hf
        refine go_callF (y2 := M_Jx4a65c_remove_915e3) (x2 := ⟨"java/util/List", "remove", "(I)Ljava/lang/Object;"⟩) dX8_remove__41 mo_Jx4a65c_remove_915e3 ⟨Nat.le_of_ble_eq_true rfl, Nat.le_of_ble_eq_true rfl⟩ na_Jx4a65c_remove_915e3 w676 w681 w679 (by decide) (fun U hU => hU.2.2.2.1) hk [.int x2] rfl (n_Jx4a65c_remove_915e3 (a_9) x2) rfl (csum (Nat.le_of_ble_eq_true rfl)) (t_Jx4a65c_remove_915e3 (a_9) x2 h_4 _ hc) ?_
        obtain ⟨r_12, h_11⟩ := z_10
        refine go_pop dX8_remove__46 catR ?_
        refine go_sub (lv' := [(0, vR Ω (some a0)), (1, vR Ω r1), (2, .int x2)]) [0, 1, 2] rfl ?_
        exact t_X8_remove__47 ih a0 r1 x2 h_11 q hf
def f_X8_remove_ (a0 : Nat) (r1 : Option Nat) (h : AH) : Option (Unit × AH) := rdR h a0 9 2 fun r_1 =>
  nn r_1 fun a_2 =>
  kg h a_2 0 (bd (f_Jx4a65c_size_8abf5 a_2 h) fun x_5 h_4 =>
  lt (x_5 - 1) fun x_6 =>
  f_X8_remove__12 FU a0 r1 x_6 h_4)
set_option maxRecDepth 20000 in
set_option maxHeartbeats 4000000 in
theorem t_X8_remove_ {Ω : Om} (a0 : Nat) (r1 : Option Nat) (h : AH) (q : Unit × AH) (hf : f_X8_remove_ a0 r1 h = some q) : Go Ω M_X8_remove_ 0 (lv_args 0 [vR Ω (some a0), vR Ω r1]) [] h none q.2 := by
  unfold f_X8_remove_ at hf
  rw [la_R, la_R, la_0]
  refine go_sub (lv' := [(0, vR Ω (some a0)), (1, vR Ω r1)]) [0, 1] rfl ?_
  refine go_aload_n dX8_remove__0 rfl 0 rfl ?_
  refine go_getR dX8_remove__1 fl_320_0 (fun _ _ => rfl) hf (fun r_1 hf => ?_)
  obtain ⟨a_2, rfl, hga_2⟩ := nn_some hf
  have hf := hga_2
  obtain ⟨hk, hf⟩ := kg_some hf
  obtain ⟨z_3, hc, hf⟩ := bd_some hf
  refine go_callF (y2 := M_Jx4a65c_size_8abf5) (x2 := ⟨"java/util/List", "size", "()I"⟩) dX8_remove__4 mo_Jx4a65c_size_8abf5 ⟨Nat.le_of_ble_eq_true rfl, Nat.le_of_ble_eq_true rfl⟩ na_Jx4a65c_size_8abf5 w536 w522 w520 (by decide) (fun U hU => hU.2.2.2.2.1) hk [] rfl (n_Jx4a65c_size_8abf5 (a_2)) rfl (csum (Nat.le_of_ble_eq_true rfl)) (t_Jx4a65c_size_8abf5 (a_2) h _ hc) ?_
  obtain ⟨x_5, h_4⟩ := z_3
  refine go_iconst 1 dX8_remove__9 rfl ?_
  refine go_isub dX8_remove__10 ?_
  refine lt_I hf (fun x_6 hf => ?_)
  refine go_istore_n (i := 2) (lv' := [(2, .int x_6), (0, vR Ω (some a0)), (1, vR Ω r1)]) dX8_remove__11 rfl (by decide) (by first | rfl | simp [catR, catI, catJ]) ?_
  refine go_sub (lv' := [(0, vR Ω (some a0)), (1, vR Ω r1), (2, .int x_6)]) [1, 2, 0] rfl ?_
  exact t_X8_remove__12 FU a0 r1 x_6 h_4 q hf

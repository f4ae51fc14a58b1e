/-! printed by wip/whole/gen: functions and their walks -/
-- LetterBroker.deleteQueue(LLetterBroker$Channel;)I
theorem dX11_deleteQueue_0 : decode cX11_deleteQueue 0 = .ok (.aload_n 0, 1) := by decide +kernel
theorem dX11_deleteQueue_1 : decode cX11_deleteQueue 1 = .ok (.getfield 26, 3) := by decide +kernel
theorem dX11_deleteQueue_4 : decode cX11_deleteQueue 4 = .ok (.aload_n 0, 1) := by decide +kernel
theorem dX11_deleteQueue_5 : decode cX11_deleteQueue 5 = .ok (.getfield 10, 3) := by decide +kernel
theorem dX11_deleteQueue_8 : decode cX11_deleteQueue 8 = .ok (.invokevirtual 283, 3) := by decide +kernel
theorem dX11_deleteQueue_11 : decode cX11_deleteQueue 11 = .ok (.invokevirtual 315, 3) := by decide +kernel
theorem dX11_deleteQueue_14 : decode cX11_deleteQueue 14 = .ok (.astore_n 2, 1) := by decide +kernel
theorem dX11_deleteQueue_15 : decode cX11_deleteQueue 15 = .ok (.aload_n 0, 1) := by decide +kernel
theorem dX11_deleteQueue_16 : decode cX11_deleteQueue 16 = .ok (.getfield 10, 3) := by decide +kernel
theorem dX11_deleteQueue_19 : decode cX11_deleteQueue 19 = .ok (.invokevirtual 265, 3) := by decide +kernel
theorem dX11_deleteQueue_22 : decode cX11_deleteQueue 22 = .ok (.istore_n 3, 1) := by decide +kernel
theorem dX11_deleteQueue_23 : decode cX11_deleteQueue 23 = .ok (.aload_n 0, 1) := by decide +kernel
theorem dX11_deleteQueue_24 : decode cX11_deleteQueue 24 = .ok (.getfield 10, 3) := by decide +kernel
theorem dX11_deleteQueue_27 : decode cX11_deleteQueue 27 = .ok (.invokevirtual 132, 3) := by decide +kernel
theorem dX11_deleteQueue_30 : decode cX11_deleteQueue 30 = .ok (.ifCond .ne 7, 3) := by decide +kernel
theorem dX11_deleteQueue_33 : decode cX11_deleteQueue 33 = .ok (.sipush 501, 3) := by decide +kernel
theorem dX11_deleteQueue_36 : decode cX11_deleteQueue 36 = .ok (.ireturn, 1) := by decide +kernel
theorem dX11_deleteQueue_37 : decode cX11_deleteQueue 37 = .ok (.aload_n 2, 1) := by decide +kernel
theorem dX11_deleteQueue_38 : decode cX11_deleteQueue 38 = .ok (.ifnonnull 7, 3) := by decide +kernel
theorem dX11_deleteQueue_41 : decode cX11_deleteQueue 41 = .ok (.sipush 404, 3) := by decide +kernel
theorem dX11_deleteQueue_44 : decode cX11_deleteQueue 44 = .ok (.ireturn, 1) := by decide +kernel
theorem dX11_deleteQueue_45 : decode cX11_deleteQueue 45 = .ok (.iload_n 3, 1) := by decide +kernel
theorem dX11_deleteQueue_46 : decode cX11_deleteQueue 46 = .ok (.iconst 2, 1) := by decide +kernel
theorem dX11_deleteQueue_47 : decode cX11_deleteQueue 47 = .ok (.irem, 1) := by decide +kernel
theorem dX11_deleteQueue_48 : decode cX11_deleteQueue 48 = .ok (.iconst 1, 1) := by decide +kernel
theorem dX11_deleteQueue_49 : decode cX11_deleteQueue 49 = .ok (.if_icmp .ne 7, 3) := by decide +kernel
theorem dX11_deleteQueue_52 : decode cX11_deleteQueue 52 = .ok (.iconst 1, 1) := by decide +kernel
theorem dX11_deleteQueue_53 : decode cX11_deleteQueue 53 = .ok (.goto 4, 3) := by decide +kernel
theorem dX11_deleteQueue_56 : decode cX11_deleteQueue 56 = .ok (.iconst 0, 1) := by decide +kernel
theorem dX11_deleteQueue_57 : decode cX11_deleteQueue 57 = .ok (.istore 4, 2) := by decide +kernel
theorem dX11_deleteQueue_59 : decode cX11_deleteQueue 59 = .ok (.iload_n 3, 1) := by decide +kernel
theorem dX11_deleteQueue_60 : decode cX11_deleteQueue 60 = .ok (.iconst 2, 1) := by decide +kernel
theorem dX11_deleteQueue_61 : decode cX11_deleteQueue 61 = .ok (.idiv, 1) := by decide +kernel
theorem dX11_deleteQueue_62 : decode cX11_deleteQueue 62 = .ok (.iconst 2, 1) := by decide +kernel
theorem dX11_deleteQueue_63 : decode cX11_deleteQueue 63 = .ok (.irem, 1) := by decide +kernel
theorem dX11_deleteQueue_64 : decode cX11_deleteQueue 64 = .ok (.iconst 1, 1) := by decide +kernel
theorem dX11_deleteQueue_65 : decode cX11_deleteQueue 65 = .ok (.if_icmp .ne 7, 3) := by decide +kernel
theorem dX11_deleteQueue_68 : decode cX11_deleteQueue 68 = .ok (.iconst 1, 1) := by decide +kernel
theorem dX11_deleteQueue_69 : decode cX11_deleteQueue 69 = .ok (.goto 4, 3) := by decide +kernel
theorem dX11_deleteQueue_72 : decode cX11_deleteQueue 72 = .ok (.iconst 0, 1) := by decide +kernel
theorem dX11_deleteQueue_73 : decode cX11_deleteQueue 73 = .ok (.istore 5, 2) := by decide +kernel
theorem dX11_deleteQueue_75 : decode cX11_deleteQueue 75 = .ok (.iload 4, 2) := by decide +kernel
theorem dX11_deleteQueue_77 : decode cX11_deleteQueue 77 = .ok (.ifCond .eq 14, 3) := by decide +kernel
theorem dX11_deleteQueue_80 : decode cX11_deleteQueue 80 = .ok (.aload_n 0, 1) := by decide +kernel
theorem dX11_deleteQueue_81 : decode cX11_deleteQueue 81 = .ok (.getfield 26, 3) := by decide +kernel
theorem dX11_deleteQueue_84 : decode cX11_deleteQueue 84 = .ok (.aload_n 2, 1) := by decide +kernel
theorem dX11_deleteQueue_85 : decode cX11_deleteQueue 85 = .ok (.invokevirtual 109, 3) := by decide +kernel
theorem dX11_deleteQueue_88 : decode cX11_deleteQueue 88 = .ok (.ifCond .gt 20, 3) := by decide +kernel
theorem dX11_deleteQueue_91 : decode cX11_deleteQueue 91 = .ok (.iload 5, 2) := by decide +kernel
theorem dX11_deleteQueue_93 : decode cX11_deleteQueue 93 = .ok (.ifCond .eq 19, 3) := by decide +kernel
theorem dX11_deleteQueue_96 : decode cX11_deleteQueue 96 = .ok (.aload_n 2, 1) := by decide +kernel
theorem dX11_deleteQueue_97 : decode cX11_deleteQueue 97 = .ok (.getfield 106, 3) := by decide +kernel
theorem dX11_deleteQueue_100 : decode cX11_deleteQueue 100 = .ok (.invokeinterface 116 1, 5) := by decide +kernel
theorem dX11_deleteQueue_105 : decode cX11_deleteQueue 105 = .ok (.ifCond .ne 7, 3) := by decide +kernel
theorem dX11_deleteQueue_108 : decode cX11_deleteQueue 108 = .ok (.sipush 406, 3) := by decide +kernel
theorem dX11_deleteQueue_111 : decode cX11_deleteQueue 111 = .ok (.ireturn, 1) := by decide +kernel
theorem dX11_deleteQueue_112 : decode cX11_deleteQueue 112 = .ok (.aload_n 0, 1) := by decide +kernel
theorem dX11_deleteQueue_113 : decode cX11_deleteQueue 113 = .ok (.getfield 19, 3) := by decide +kernel
theorem dX11_deleteQueue_116 : decode cX11_deleteQueue 116 = .ok (.aload_n 1, 1) := by decide +kernel
theorem dX11_deleteQueue_117 : decode cX11_deleteQueue 117 = .ok (.getfield 145, 3) := by decide +kernel
theorem dX11_deleteQueue_120 : decode cX11_deleteQueue 120 = .ok (.sipush 12841, 3) := by decide +kernel
theorem dX11_deleteQueue_123 : decode cX11_deleteQueue 123 = .ok (.invokevirtual 272, 3) := by decide +kernel
theorem dX11_deleteQueue_126 : decode cX11_deleteQueue 126 = .ok (.aload_n 0, 1) := by decide +kernel
theorem dX11_deleteQueue_127 : decode cX11_deleteQueue 127 = .ok (.getfield 19, 3) := by decide +kernel
theorem dX11_deleteQueue_130 : decode cX11_deleteQueue 130 = .ok (.aload_n 2, 1) := by decide +kernel
theorem dX11_deleteQueue_131 : decode cX11_deleteQueue 131 = .ok (.getfield 106, 3) := by decide +kernel
theorem dX11_deleteQueue_134 : decode cX11_deleteQueue 134 = .ok (.invokeinterface 87 1, 5) := by decide +kernel
theorem dX11_deleteQueue_139 : decode cX11_deleteQueue 139 = .ok (.invokevirtual 274, 3) := by decide +kernel
theorem dX11_deleteQueue_142 : decode cX11_deleteQueue 142 = .ok (.aload_n 0, 1) := by decide +kernel
theorem dX11_deleteQueue_143 : decode cX11_deleteQueue 143 = .ok (.getfield 19, 3) := by decide +kernel
theorem dX11_deleteQueue_146 : decode cX11_deleteQueue 146 = .ok (.invokevirtual 277, 3) := by decide +kernel
theorem dX11_deleteQueue_149 : decode cX11_deleteQueue 149 = .ok (.aload_n 0, 1) := by decide +kernel
theorem dX11_deleteQueue_150 : decode cX11_deleteQueue 150 = .ok (.getfield 26, 3) := by decide +kernel
theorem dX11_deleteQueue_153 : decode cX11_deleteQueue 153 = .ok (.aload_n 2, 1) := by decide +kernel
theorem dX11_deleteQueue_154 : decode cX11_deleteQueue 154 = .ok (.invokevirtual 344, 3) := by decide +kernel
theorem dX11_deleteQueue_157 : decode cX11_deleteQueue 157 = .ok (.iconst 0, 1) := by decide +kernel
theorem dX11_deleteQueue_158 : decode cX11_deleteQueue 158 = .ok (.ireturn, 1) := by decide +kernel
def f_X11_deleteQueue_112 (a0 : Nat) (r1 : Option Nat) (r2 : Option Nat) (h : AH) : Option (Int32 × AH) := rdR h a0 12 1 fun r_1 =>
  nn r1 fun a_2 =>
  rdI h a_2 2 0 fun x_3 =>
  nn r_1 fun a_4 =>
  kg h a_4 10 (bd (f_X9_begin a_4 x_3 12841 h) fun _ h_6 =>
  rdR h_6 a0 12 1 fun r_7 =>
  nn r2 fun a_8 =>
  rdR h_6 a_8 11 1 fun r_9 =>
  nn r_9 fun a_10 =>
  kg h_6 a_10 0 (bd (f_Jx4a65c_size_8abf5 a_10 h_6) fun x_13 h_12 =>
  nn r_7 fun a_14 =>
  kg h_12 a_14 10 (bd (f_X9_put a_14 x_13 h_12) fun _ h_16 =>
  rdR h_16 a0 12 1 fun r_17 =>
  nn r_17 fun a_18 =>
  kg h_16 a_18 10 (bd (f_X9_end a_18 h_16) fun _ h_20 =>
  rdR h_20 a0 12 2 fun r_21 =>
  nn r_21 fun a_22 =>
  kg h_20 a_22 9 (bd (f_X8_remove_ a_22 (some a_8) h_20) fun _ h_24 =>
  some (0, h_24))))))
set_option maxRecDepth 20000 in
set_option maxHeartbeats 4000000 in
theorem t_X11_deleteQueue_112 {Ω : Om} (a0 : Nat) (r1 : Option Nat) (r2 : Option Nat) (h : AH) (q : Int32 × AH) (hf : f_X11_deleteQueue_112 a0 r1 r2 h = some q) : Go Ω M_X11_deleteQueue 112 [(0, vR Ω (some a0)), (1, vR Ω r1), (2, vR Ω r2)] [] h (some (.int q.1)) q.2 := by
  unfold f_X11_deleteQueue_112 at hf
  refine go_aload_n dX11_deleteQueue_112 rfl 0 rfl ?_
  refine go_getR dX11_deleteQueue_113 fl_389_0 (fun _ _ => rfl) hf (fun r_1 hf => ?_)
  refine go_aload_n dX11_deleteQueue_116 rfl 1 rfl ?_
  obtain ⟨a_2, rfl, hga_2⟩ := nn_some hf
  have hf := hga_2
  refine go_getI dX11_deleteQueue_117 fl_349_0 (fun _ _ => rfl) hf (fun x_3 hf => ?_)
  refine go_sipush 12841 dX11_deleteQueue_120 (by decide) ?_
  obtain ⟨a_4, rfl, hga_4⟩ := nn_some hf
  have hf := hga_4
  obtain ⟨hk, hf⟩ := kg_some hf
  obtain ⟨z_5, hc, hf⟩ := bd_some hf
  refine go_callV (y2 := M_X9_begin) (c2 := 10) dX11_deleteQueue_123 mo_X9_begin ⟨Nat.le_of_ble_eq_true rfl, Nat.le_of_ble_eq_true rfl⟩ na_X9_begin w586 w435 (by decide) rfl w436 hk [.int x_3, .int 12841] rfl (n_X9_begin (a_4) x_3 12841) rfl (csum (Nat.le_of_ble_eq_true rfl)) (t_X9_begin (a_4) x_3 12841 h _ hc) ?_
  obtain ⟨_, h_6⟩ := z_5
  refine go_aload_n dX11_deleteQueue_126 rfl 0 rfl ?_
  refine go_getR dX11_deleteQueue_127 fl_389_0 (fun _ _ => rfl) hf (fun r_7 hf => ?_)
  refine go_aload_n dX11_deleteQueue_130 rfl 2 rfl ?_
  obtain ⟨a_8, rfl, hga_8⟩ := nn_some hf
  have hf := hga_8
  refine go_getR dX11_deleteQueue_131 fl_804_0 (fun _ _ => rfl) hf (fun r_9 hf => ?_)
  obtain ⟨a_10, rfl, hga_10⟩ := nn_some hf
  have hf := hga_10
  obtain ⟨hk, hf⟩ := kg_some hf
  obtain ⟨z_11, hc, hf⟩ := bd_some hf
  refine go_callF (y2 := M_Jx4a65c_size_8abf5) (x2 := ⟨"java/util/List", "size", "()I"⟩) dX11_deleteQueue_134 mo_Jx4a65c_size_8abf5 ⟨Nat.le_of_ble_eq_true rfl, Nat.le_of_ble_eq_true rfl⟩ na_Jx4a65c_size_8abf5 w517 w522 w520 (by decide) (fun U hU => hU.2.2.2.2.1) hk [] rfl (n_Jx4a65c_size_8abf5 (a_10)) rfl (csum (Nat.le_of_ble_eq_true rfl)) (t_Jx4a65c_size_8abf5 (a_10) h_6 _ hc) ?_
  obtain ⟨x_13, h_12⟩ := z_11
  obtain ⟨a_14, rfl, hga_14⟩ := nn_some hf
  have hf := hga_14
  obtain ⟨hk, hf⟩ := kg_some hf
  obtain ⟨z_15, hc, hf⟩ := bd_some hf
  refine go_callV (y2 := M_X9_put) (c2 := 10) dX11_deleteQueue_139 mo_X9_put ⟨Nat.le_of_ble_eq_true rfl, Nat.le_of_ble_eq_true rfl⟩ na_X9_put w749 w439 (by decide) rfl w440 hk [.int x_13] rfl (n_X9_put (a_14) x_13) rfl (csum (Nat.le_of_ble_eq_true rfl)) (t_X9_put (a_14) x_13 h_12 _ hc) ?_
  obtain ⟨_, h_16⟩ := z_15
  refine go_aload_n dX11_deleteQueue_142 rfl 0 rfl ?_
  refine go_getR dX11_deleteQueue_143 fl_389_0 (fun _ _ => rfl) hf (fun r_17 hf => ?_)
  obtain ⟨a_18, rfl, hga_18⟩ := nn_some hf
  have hf := hga_18
  obtain ⟨hk, hf⟩ := kg_some hf
  obtain ⟨z_19, hc, hf⟩ := bd_some hf
  refine go_callV (y2 := M_X9_end) (c2 := 10) dX11_deleteQueue_146 mo_X9_end ⟨Nat.le_of_ble_eq_true rfl, Nat.le_of_ble_eq_true rfl⟩ na_X9_end w595 w443 (by decide) rfl w444 hk [] rfl (n_X9_end (a_18)) rfl (csum (Nat.le_of_ble_eq_true rfl)) (t_X9_end (a_18) h_16 _ hc) ?_
  obtain ⟨_, h_20⟩ := z_19
  refine go_aload_n dX11_deleteQueue_149 rfl 0 rfl ?_
  refine go_getR dX11_deleteQueue_150 fl_390_0 (fun _ _ => rfl) hf (fun r_21 hf => ?_)
  refine go_aload_n dX11_deleteQueue_153 rfl 2 rfl ?_
  obtain ⟨a_22, rfl, hga_22⟩ := nn_some hf
  have hf := hga_22
  obtain ⟨hk, hf⟩ := kg_some hf
  obtain ⟨z_23, hc, hf⟩ := bd_some hf
  refine go_callV (y2 := M_X8_remove_) (c2 := 9) dX11_deleteQueue_154 mo_X8_remove_ ⟨Nat.le_of_ble_eq_true rfl, Nat.le_of_ble_eq_true rfl⟩ na_X8_remove_ w875 w876 (by decide) rfl w877 hk [vR Ω (some a_8)] rfl (n_X8_remove_ (a_22) (some a_8)) rfl (csum (Nat.le_of_ble_eq_true rfl)) (t_X8_remove_ (a_22) (some a_8) h_20 _ hc) ?_
  obtain ⟨_, h_24⟩ := z_23
  refine go_iconst 0 dX11_deleteQueue_157 rfl ?_
  exact go_ireturn dX11_deleteQueue_158 rfl hf
def f_X11_deleteQueue_91 (a0 : Nat) (r1 : Option Nat) (r2 : Option Nat) (x5 : Int32) (h : AH) : Option (Int32 × AH) := (if x5 = 0 then
    f_X11_deleteQueue_112 a0 r1 r2 h
  else
    nn r2 fun a_1 =>
    rdR h a_1 11 1 fun r_2 =>
    nn r_2 fun a_3 =>
    kg h a_3 0 (bd (f_Jx4a65c_isEmpty_aae02 a_3 h) fun x_6 h_5 =>
    (if x_6 = 0 then
      some (406, h_5)
    else
      f_X11_deleteQueue_112 a0 r1 (some a_1) h_5)))
set_option maxRecDepth 20000 in
set_option maxHeartbeats 4000000 in
theorem t_X11_deleteQueue_91 {Ω : Om} (a0 : Nat) (r1 : Option Nat) (r2 : Option Nat) (x5 : Int32) (h : AH) (q : Int32 × AH) (hf : f_X11_deleteQueue_91 a0 r1 r2 x5 h = some q) : Go Ω M_X11_deleteQueue 91 [(0, vR Ω (some a0)), (1, vR Ω r1), (2, vR Ω r2), (5, .int x5)] [] h (some (.int q.1)) q.2 := by
  unfold f_X11_deleteQueue_91 at hf
  refine go_iload dX11_deleteQueue_91 3 rfl ?_
  refine go_if_eq (tgt := 112) dX11_deleteQueue_93 (by decide) hf (fun hf => ?_) (fun hf => ?_)
  · refine go_sub (lv' := [(0, vR Ω (some a0)), (1, vR Ω r1), (2, vR Ω r2)]) [0, 1, 2] rfl ?_
    exact t_X11_deleteQueue_112 a0 r1 r2 h q hf
  · refine go_aload_n dX11_deleteQueue_96 rfl 2 rfl ?_
    obtain ⟨a_1, rfl, hga_1⟩ := nn_some hf
    have hf := hga_1
    refine go_getR dX11_deleteQueue_97 fl_804_0 (fun _ _ => rfl) hf (fun r_2 hf => ?_)
    obtain ⟨a_3, rfl, hga_3⟩ := nn_some hf
    have hf := hga_3
    obtain ⟨hk, hf⟩ := kg_some hf
    obtain ⟨z_4, hc, hf⟩ := bd_some hf
    refine go_callF (y2 := M_Jx4a65c_isEmpty_aae02) (x2 := ⟨"java/util/List", "isEmpty", "()Z"⟩) dX11_deleteQueue_100 mo_Jx4a65c_isEmpty_aae02 ⟨Nat.le_of_ble_eq_true rfl, Nat.le_of_ble_eq_true rfl⟩ na_Jx4a65c_isEmpty_aae02 w867 w872 w870 (by decide) (fun U hU => hU.2.2.2.2.2.1) hk [] rfl (n_Jx4a65c_isEmpty_aae02 (a_3)) rfl (csum (Nat.le_of_ble_eq_true rfl)) (t_Jx4a65c_isEmpty_aae02 (a_3) h _ hc) ?_
    obtain ⟨x_6, h_5⟩ := z_4
    refine go_if_ne (tgt := 112) dX11_deleteQueue_105 (by decide) hf (fun hf => ?_) (fun hf => ?_)
    · refine go_sub (lv' := [(0, vR Ω (some a0)), (1, vR Ω r1), (2, vR Ω (some a_1))]) [0, 1, 2] rfl ?_
      exact t_X11_deleteQueue_112 a0 r1 (some a_1) h_5 q hf
    · refine go_sipush 406 dX11_deleteQueue_108 (by decide) ?_
      exact go_ireturn dX11_deleteQueue_111 rfl hf
def f_X11_deleteQueue_73 (a0 : Nat) (r1 : Option Nat) (r2 : Option Nat) (x4 : Int32) (s0 : Int32) (h : AH) : Option (Int32 × AH) := (if x4 = 0 then
    f_X11_deleteQueue_91 a0 r1 r2 s0 h
  else
    rdR h a0 12 2 fun r_1 =>
    nn r_1 fun a_2 =>
    kg h a_2 9 (bd (f_X8_consumersOf a_2 r2 h) fun x_5 h_4 =>
    (if 0 < x_5 then
      some (406, h_4)
    else
      f_X11_deleteQueue_91 a0 r1 r2 s0 h_4)))
set_option maxRecDepth 20000 in
set_option maxHeartbeats 4000000 in
theorem t_X11_deleteQueue_73 {Ω : Om} (a0 : Nat) (r1 : Option Nat) (r2 : Option Nat) (x4 : Int32) (s0 : Int32) (h : AH) (q : Int32 × AH) (hf : f_X11_deleteQueue_73 a0 r1 r2 x4 s0 h = some q) : Go Ω M_X11_deleteQueue 73 [(0, vR Ω (some a0)), (1, vR Ω r1), (2, vR Ω r2), (4, .int x4)] [.int s0] h (some (.int q.1)) q.2 := by
  unfold f_X11_deleteQueue_73 at hf
  refine go_istore (i := 5) (lv' := [(5, .int s0), (0, vR Ω (some a0)), (1, vR Ω r1), (2, vR Ω r2), (4, .int x4)]) dX11_deleteQueue_73 (by decide) (by first | rfl | simp [catR, catI, catJ]) ?_
  refine go_iload dX11_deleteQueue_75 4 rfl ?_
  refine go_if_eq (tgt := 91) dX11_deleteQueue_77 (by decide) hf (fun hf => ?_) (fun hf => ?_)
  · refine go_sub (lv' := [(0, vR Ω (some a0)), (1, vR Ω r1), (2, vR Ω r2), (5, .int s0)]) [1, 2, 3, 0] rfl ?_
    exact t_X11_deleteQueue_91 a0 r1 r2 s0 h q hf
  · refine go_aload_n dX11_deleteQueue_80 rfl 1 rfl ?_
    refine go_getR dX11_deleteQueue_81 fl_390_0 (fun _ _ => rfl) hf (fun r_1 hf => ?_)
    refine go_aload_n dX11_deleteQueue_84 rfl 3 rfl ?_
    obtain ⟨a_2, rfl, hga_2⟩ := nn_some hf
    have hf := hga_2
    obtain ⟨hk, hf⟩ := kg_some hf
    obtain ⟨z_3, hc, hf⟩ := bd_some hf
    refine go_callV (y2 := M_X8_consumersOf) (c2 := 9) dX11_deleteQueue_85 mo_X8_consumersOf ⟨Nat.le_of_ble_eq_true rfl, Nat.le_of_ble_eq_true rfl⟩ na_X8_consumersOf w814 w815 (by decide) rfl w816 hk [vR Ω r2] rfl (n_X8_consumersOf (a_2) r2) rfl (csum (Nat.le_of_ble_eq_true rfl)) (t_X8_consumersOf (a_2) r2 h _ hc) ?_
    obtain ⟨x_5, h_4⟩ := z_3
    refine go_if_gt (tgt := 108) dX11_deleteQueue_88 (by decide) hf (fun hf => ?_) (fun hf => ?_)
    · refine go_sipush 406 dX11_deleteQueue_108 (by decide) ?_
      exact go_ireturn dX11_deleteQueue_111 rfl hf
    · refine go_sub (lv' := [(0, vR Ω (some a0)), (1, vR Ω r1), (2, vR Ω r2), (5, .int s0)]) [1, 2, 3, 0] rfl ?_
      exact t_X11_deleteQueue_91 a0 r1 r2 s0 h_4 q hf
def f_X11_deleteQueue_57 (a0 : Nat) (r1 : Option Nat) (r2 : Option Nat) (x3 : Int32) (s0 : Int32) (h : AH) : Option (Int32 × AH) := nz 2 (
  nz 2 (
  (if ((x3 / 2) - (x3 / 2) / 2 * 2) = 1 then
    f_X11_deleteQueue_73 a0 r1 r2 s0 1 h
  else
    f_X11_deleteQueue_73 a0 r1 r2 s0 0 h)))
set_option maxRecDepth 20000 in
set_option maxHeartbeats 4000000 in
theorem t_X11_deleteQueue_57 {Ω : Om} (a0 : Nat) (r1 : Option Nat) (r2 : Option Nat) (x3 : Int32) (s0 : Int32) (h : AH) (q : Int32 × AH) (hf : f_X11_deleteQueue_57 a0 r1 r2 x3 s0 h = some q) : Go Ω M_X11_deleteQueue 57 [(0, vR Ω (some a0)), (1, vR Ω r1), (2, vR Ω r2), (3, .int x3)] [.int s0] h (some (.int q.1)) q.2 := by
  unfold f_X11_deleteQueue_57 at hf
  refine go_istore (i := 4) (lv' := [(4, .int s0), (0, vR Ω (some a0)), (1, vR Ω r1), (2, vR Ω r2), (3, .int x3)]) dX11_deleteQueue_57 (by decide) (by first | rfl | simp [catR, catI, catJ]) ?_
  refine go_iload_n dX11_deleteQueue_59 rfl 4 rfl ?_
  refine go_iconst 2 dX11_deleteQueue_60 rfl ?_
  obtain ⟨hz0, hf⟩ := nz_some hf
  refine go_idiv dX11_deleteQueue_61 hz0 ?_
  refine go_iconst 2 dX11_deleteQueue_62 rfl ?_
  obtain ⟨hz0, hf⟩ := nz_some hf
  refine go_irem dX11_deleteQueue_63 hz0 ?_
  refine go_iconst 1 dX11_deleteQueue_64 rfl ?_
  refine go_icmp_ne (tgt := 72) dX11_deleteQueue_65 (by decide) hf (fun hf => ?_) (fun hf => ?_)
  · refine go_iconst 0 dX11_deleteQueue_72 rfl ?_
    refine go_sub (lv' := [(0, vR Ω (some a0)), (1, vR Ω r1), (2, vR Ω r2), (4, .int s0)]) [1, 2, 3, 0] rfl ?_
    exact t_X11_deleteQueue_73 a0 r1 r2 s0 0 h q hf
  · refine go_iconst 1 dX11_deleteQueue_68 rfl ?_
    refine go_goto (tgt := 73) dX11_deleteQueue_69 (by decide) ?_
    refine go_sub (lv' := [(0, vR Ω (some a0)), (1, vR Ω r1), (2, vR Ω r2), (4, .int s0)]) [1, 2, 3, 0] rfl ?_
    exact t_X11_deleteQueue_73 a0 r1 r2 s0 1 h q hf
def f_X11_deleteQueue (a0 : Nat) (r1 : Option Nat) (h : AH) : Option (Int32 × AH) := rdR h a0 12 2 fun r_1 =>
  rdR h a0 12 0 fun r_2 =>
  nn r_2 fun a_3 =>
  kg h a_3 7 (bd (f_X6_readName a_3 h) fun x_6 h_5 =>
  nn r_1 fun a_7 =>
  kg h_5 a_7 9 (bd (f_X8_queueNamed a_7 x_6 h_5) fun r_10 h_9 =>
  rdR h_9 a0 12 0 fun r_11 =>
  nn r_11 fun a_12 =>
  kg h_9 a_12 7 (bd (f_X6_readByte a_12 h_9) fun x_15 h_14 =>
  rdR h_14 a0 12 0 fun r_16 =>
  nn r_16 fun a_17 =>
  kg h_14 a_17 7 (bd (f_X6_isJustRead a_17 h_14) fun x_20 h_19 =>
  (if x_20 = 0 then
    some (501, h_19)
  else
    nb r_10
      (some (404, h_19))
      (fun a_21 => nz 2 (
      (if (x_15 - x_15 / 2 * 2) = 1 then
        f_X11_deleteQueue_57 a0 r1 (some a_21) x_15 1 h_19
      else
        f_X11_deleteQueue_57 a0 r1 (some a_21) x_15 0 h_19))))))))
set_option maxRecDepth 20000 in
set_option maxHeartbeats 4000000 in
theorem t_X11_deleteQueue {Ω : Om} (a0 : Nat) (r1 : Option Nat) (h : AH) (q : Int32 × AH) (hf : f_X11_deleteQueue a0 r1 h = some q) : Go Ω M_X11_deleteQueue 0 (lv_args 0 [vR Ω (some a0), vR Ω r1]) [] h (some (.int q.1)) q.2 := by
  unfold f_X11_deleteQueue at hf
  rw [la_R, la_R, la_0]
  refine go_sub (lv' := [(0, vR Ω (some a0)), (1, vR Ω r1)]) [0, 1] rfl ?_
  refine go_aload_n dX11_deleteQueue_0 rfl 0 rfl ?_
  refine go_getR dX11_deleteQueue_1 fl_390_0 (fun _ _ => rfl) hf (fun r_1 hf => ?_)
  refine go_aload_n dX11_deleteQueue_4 rfl 0 rfl ?_
  refine go_getR dX11_deleteQueue_5 fl_388_0 (fun _ _ => rfl) hf (fun r_2 hf => ?_)
  obtain ⟨a_3, rfl, hga_3⟩ := nn_some hf
  have hf := hga_3
  obtain ⟨hk, hf⟩ := kg_some hf
  obtain ⟨z_4, hc, hf⟩ := bd_some hf
  refine go_callV (y2 := M_X6_readName) (c2 := 7) dX11_deleteQueue_8 mo_X6_readName ⟨Nat.le_of_ble_eq_true rfl, Nat.le_of_ble_eq_true rfl⟩ na_X6_readName w758 w759 (by decide) rfl w760 hk [] rfl (n_X6_readName (a_3)) rfl (csum (Nat.le_of_ble_eq_true rfl)) (t_X6_readName (a_3) h _ hc) ?_
  obtain ⟨x_6, h_5⟩ := z_4
  obtain ⟨a_7, rfl, hga_7⟩ := nn_some hf
  have hf := hga_7
  obtain ⟨hk, hf⟩ := kg_some hf
  obtain ⟨z_8, hc, hf⟩ := bd_some hf
  refine go_callV (y2 := M_X8_queueNamed) (c2 := 9) dX11_deleteQueue_11 mo_X8_queueNamed ⟨Nat.le_of_ble_eq_true rfl, Nat.le_of_ble_eq_true rfl⟩ na_X8_queueNamed w788 w789 (by decide) rfl w790 hk [.long x_6] rfl (n_X8_queueNamed (a_7) x_6) rfl (csum (Nat.le_of_ble_eq_true rfl)) (t_X8_queueNamed (a_7) x_6 h_5 _ hc) ?_
  obtain ⟨r_10, h_9⟩ := z_8
  refine go_astore_n (i := 2) (lv' := [(2, vR Ω r_10), (0, vR Ω (some a0)), (1, vR Ω r1)]) dX11_deleteQueue_14 rfl (by decide) (by first | rfl | simp [catR, catI, catJ]) ?_
  refine go_aload_n dX11_deleteQueue_15 rfl 1 rfl ?_
  refine go_getR dX11_deleteQueue_16 fl_388_0 (fun _ _ => rfl) hf (fun r_11 hf => ?_)
  obtain ⟨a_12, rfl, hga_12⟩ := nn_some hf
  have hf := hga_12
  obtain ⟨hk, hf⟩ := kg_some hf
  obtain ⟨z_13, hc, hf⟩ := bd_some hf
  refine go_callV (y2 := M_X6_readByte) (c2 := 7) dX11_deleteQueue_19 mo_X6_readByte ⟨Nat.le_of_ble_eq_true rfl, Nat.le_of_ble_eq_true rfl⟩ na_X6_readByte w486 w471 (by decide) rfl w472 hk [] rfl (n_X6_readByte (a_12)) rfl (csum (Nat.le_of_ble_eq_true rfl)) (t_X6_readByte (a_12) h_9 _ hc) ?_
  obtain ⟨x_15, h_14⟩ := z_13
  refine go_istore_n (i := 3) (lv' := [(3, .int x_15), (2, vR Ω r_10), (0, vR Ω (some a0)), (1, vR Ω r1)]) dX11_deleteQueue_22 rfl (by decide) (by first | rfl | simp [catR, catI, catJ]) ?_
  refine go_aload_n dX11_deleteQueue_23 rfl 2 rfl ?_
  refine go_getR dX11_deleteQueue_24 fl_388_0 (fun _ _ => rfl) hf (fun r_16 hf => ?_)
  obtain ⟨a_17, rfl, hga_17⟩ := nn_some hf
  have hf := hga_17
  obtain ⟨hk, hf⟩ := kg_some hf
  obtain ⟨z_18, hc, hf⟩ := bd_some hf
  refine go_callV (y2 := M_X6_isJustRead) (c2 := 7) dX11_deleteQueue_27 mo_X6_isJustRead ⟨Nat.le_of_ble_eq_true rfl, Nat.le_of_ble_eq_true rfl⟩ na_X6_isJustRead w474 w475 (by decide) rfl w476 hk [] rfl (n_X6_isJustRead (a_17)) rfl (csum (Nat.le_of_ble_eq_true rfl)) (t_X6_isJustRead (a_17) h_14 _ hc) ?_
  obtain ⟨x_20, h_19⟩ := z_18
  refine go_if_ne (tgt := 37) dX11_deleteQueue_30 (by decide) hf (fun hf => ?_) (fun hf => ?_)
  · refine go_aload_n dX11_deleteQueue_37 rfl 1 rfl ?_
    refine go_ifnonnull (x := r_10) (tgt := 45) dX11_deleteQueue_38 (by decide) hf ?_ ?_
    · rintro rfl hf
      refine go_sipush 404 dX11_deleteQueue_41 (by decide) ?_
      exact go_ireturn dX11_deleteQueue_44 rfl hf
    · rintro a_21 rfl hf
      refine go_iload_n dX11_deleteQueue_45 rfl 0 rfl ?_
      refine go_iconst 2 dX11_deleteQueue_46 rfl ?_
      obtain ⟨hz0, hf⟩ := nz_some hf
      refine go_irem dX11_deleteQueue_47 hz0 ?_
      refine go_iconst 1 dX11_deleteQueue_48 rfl ?_
      refine go_icmp_ne (tgt := 56) dX11_deleteQueue_49 (by decide) hf (fun hf => ?_) (fun hf => ?_)
      · refine go_iconst 0 dX11_deleteQueue_56 rfl ?_
        refine go_sub (lv' := [(0, vR Ω (some a0)), (1, vR Ω r1), (2, vR Ω (some a_21)), (3, .int x_15)]) [2, 3, 1, 0] rfl ?_
        exact t_X11_deleteQueue_57 a0 r1 (some a_21) x_15 0 h_19 q hf
      · refine go_iconst 1 dX11_deleteQueue_52 rfl ?_
        refine go_goto (tgt := 57) dX11_deleteQueue_53 (by decide) ?_
        refine go_sub (lv' := [(0, vR Ω (some a0)), (1, vR Ω r1), (2, vR Ω (some a_21)), (3, .int x_15)]) [2, 3, 1, 0] rfl ?_
        exact t_X11_deleteQueue_57 a0 r1 (some a_21) x_15 1 h_19 q hf
  · refine go_sipush 501 dX11_deleteQueue_33 (by decide) ?_
    exact go_ireturn dX11_deleteQueue_36 rfl hf
-- LetterBroker.get(LLetterBroker$Channel;)I
theorem dX11_get_0 : decode cX11_get 0 = .ok (.aload_n 0, 1) := by decide +kernel
theorem dX11_get_1 : decode cX11_get 1 = .ok (.getfield 26, 3) := by decide +kernel
theorem dX11_get_4 : decode cX11_get 4 = .ok (.aload_n 0, 1) := by decide +kernel
theorem dX11_get_5 : decode cX11_get 5 = .ok (.getfield 10, 3) := by decide +kernel
theorem dX11_get_8 : decode cX11_get 8 = .ok (.invokevirtual 283, 3) := by decide +kernel
theorem dX11_get_11 : decode cX11_get 11 = .ok (.invokevirtual 315, 3) := by decide +kernel
theorem dX11_get_14 : decode cX11_get 14 = .ok (.astore_n 2, 1) := by decide +kernel
theorem dX11_get_15 : decode cX11_get 15 = .ok (.aload_n 0, 1) := by decide +kernel
theorem dX11_get_16 : decode cX11_get 16 = .ok (.getfield 10, 3) := by decide +kernel
theorem dX11_get_19 : decode cX11_get 19 = .ok (.invokevirtual 287, 3) := by decide +kernel
theorem dX11_get_22 : decode cX11_get 22 = .ok (.istore_n 3, 1) := by decide +kernel
theorem dX11_get_23 : decode cX11_get 23 = .ok (.aload_n 0, 1) := by decide +kernel
theorem dX11_get_24 : decode cX11_get 24 = .ok (.getfield 10, 3) := by decide +kernel
theorem dX11_get_27 : decode cX11_get 27 = .ok (.invokevirtual 132, 3) := by decide +kernel
theorem dX11_get_30 : decode cX11_get 30 = .ok (.ifCond .ne 7, 3) := by decide +kernel
theorem dX11_get_33 : decode cX11_get 33 = .ok (.sipush 501, 3) := by decide +kernel
theorem dX11_get_36 : decode cX11_get 36 = .ok (.ireturn, 1) := by decide +kernel
theorem dX11_get_37 : decode cX11_get 37 = .ok (.aload_n 2, 1) := by decide +kernel
theorem dX11_get_38 : decode cX11_get 38 = .ok (.ifnonnull 7, 3) := by decide +kernel
theorem dX11_get_41 : decode cX11_get 41 = .ok (.sipush 404, 3) := by decide +kernel
theorem dX11_get_44 : decode cX11_get 44 = .ok (.ireturn, 1) := by decide +kernel
theorem dX11_get_45 : decode cX11_get 45 = .ok (.aload_n 2, 1) := by decide +kernel
theorem dX11_get_46 : decode cX11_get 46 = .ok (.getfield 106, 3) := by decide +kernel
theorem dX11_get_49 : decode cX11_get 49 = .ok (.invokeinterface 116 1, 5) := by decide +kernel
theorem dX11_get_54 : decode cX11_get 54 = .ok (.ifCond .eq 19, 3) := by decide +kernel
theorem dX11_get_57 : decode cX11_get 57 = .ok (.aload_n 0, 1) := by decide +kernel
theorem dX11_get_58 : decode cX11_get 58 = .ok (.getfield 19, 3) := by decide +kernel
theorem dX11_get_61 : decode cX11_get 61 = .ok (.aload_n 1, 1) := by decide +kernel
theorem dX11_get_62 : decode cX11_get 62 = .ok (.getfield 145, 3) := by decide +kernel
theorem dX11_get_65 : decode cX11_get 65 = .ok (.sipush 15432, 3) := by decide +kernel
theorem dX11_get_68 : decode cX11_get 68 = .ok (.invokevirtual 125, 3) := by decide +kernel
theorem dX11_get_71 : decode cX11_get 71 = .ok (.iconst 0, 1) := by decide +kernel
theorem dX11_get_72 : decode cX11_get 72 = .ok (.ireturn, 1) := by decide +kernel
theorem dX11_get_73 : decode cX11_get 73 = .ok (.aload_n 2, 1) := by decide +kernel
theorem dX11_get_74 : decode cX11_get 74 = .ok (.getfield 106, 3) := by decide +kernel
theorem dX11_get_77 : decode cX11_get 77 = .ok (.iconst 0, 1) := by decide +kernel
theorem dX11_get_78 : decode cX11_get 78 = .ok (.invokeinterface 336 2, 5) := by decide +kernel
theorem dX11_get_83 : decode cX11_get 83 = .ok (.checkcast 120, 3) := by decide +kernel
theorem dX11_get_86 : decode cX11_get 86 = .ok (.astore 4, 2) := by decide +kernel
theorem dX11_get_88 : decode cX11_get 88 = .ok (.aload_n 1, 1) := by decide +kernel
theorem dX11_get_89 : decode cX11_get 89 = .ok (.aload 4, 2) := by decide +kernel
theorem dX11_get_91 : decode cX11_get 91 = .ok (.iload_n 3, 1) := by decide +kernel
theorem dX11_get_92 : decode cX11_get 92 = .ok (.invokevirtual 426, 3) := by decide +kernel
theorem dX11_get_95 : decode cX11_get 95 = .ok (.aload_n 0, 1) := by decide +kernel
theorem dX11_get_96 : decode cX11_get 96 = .ok (.getfield 19, 3) := by decide +kernel
theorem dX11_get_99 : decode cX11_get 99 = .ok (.aload_n 1, 1) := by decide +kernel
theorem dX11_get_100 : decode cX11_get 100 = .ok (.getfield 145, 3) := by decide +kernel
theorem dX11_get_103 : decode cX11_get 103 = .ok (.sipush 15431, 3) := by decide +kernel
theorem dX11_get_106 : decode cX11_get 106 = .ok (.invokevirtual 272, 3) := by decide +kernel
theorem dX11_get_109 : decode cX11_get 109 = .ok (.aload_n 0, 1) := by decide +kernel
theorem dX11_get_110 : decode cX11_get 110 = .ok (.getfield 19, 3) := by decide +kernel
theorem dX11_get_113 : decode cX11_get 113 = .ok (.aload 4, 2) := by decide +kernel
theorem dX11_get_115 : decode cX11_get 115 = .ok (.invokevirtual 429, 3) := by decide +kernel
theorem dX11_get_118 : decode cX11_get 118 = .ok (.aload_n 0, 1) := by decide +kernel
theorem dX11_get_119 : decode cX11_get 119 = .ok (.getfield 19, 3) := by decide +kernel
theorem dX11_get_122 : decode cX11_get 122 = .ok (.aload_n 2, 1) := by decide +kernel
theorem dX11_get_123 : decode cX11_get 123 = .ok (.getfield 106, 3) := by decide +kernel
theorem dX11_get_126 : decode cX11_get 126 = .ok (.invokeinterface 87 1, 5) := by decide +kernel
theorem dX11_get_131 : decode cX11_get 131 = .ok (.invokevirtual 274, 3) := by decide +kernel
theorem dX11_get_134 : decode cX11_get 134 = .ok (.aload_n 0, 1) := by decide +kernel
theorem dX11_get_135 : decode cX11_get 135 = .ok (.getfield 19, 3) := by decide +kernel
theorem dX11_get_138 : decode cX11_get 138 = .ok (.invokevirtual 277, 3) := by decide +kernel
theorem dX11_get_141 : decode cX11_get 141 = .ok (.aload_n 0, 1) := by decide +kernel
theorem dX11_get_142 : decode cX11_get 142 = .ok (.getfield 19, 3) := by decide +kernel
theorem dX11_get_145 : decode cX11_get 145 = .ok (.aload_n 1, 1) := by decide +kernel
theorem dX11_get_146 : decode cX11_get 146 = .ok (.getfield 145, 3) := by decide +kernel
theorem dX11_get_149 : decode cX11_get 149 = .ok (.aload 4, 2) := by decide +kernel
theorem dX11_get_151 : decode cX11_get 151 = .ok (.getfield 433, 3) := by decide +kernel
theorem dX11_get_154 : decode cX11_get 154 = .ok (.invokevirtual 423, 3) := by decide +kernel
theorem dX11_get_157 : decode cX11_get 157 = .ok (.iconst 0, 1) := by decide +kernel
theorem dX11_get_158 : decode cX11_get 158 = .ok (.ireturn, 1) := by decide +kernel
def f_X11_get (a0 : Nat) (r1 : Option Nat) (h : AH) : Option (Int32 × AH) := rdR h a0 12 2 fun r_1 =>
  rdR h a0 12 0 fun r_2 =>
  nn r_2 fun a_3 =>
  kg h a_3 7 (bd (f_X6_readName a_3 h) fun x_6 h_5 =>
  nn r_1 fun a_7 =>
  kg h_5 a_7 9 (bd (f_X8_queueNamed a_7 x_6 h_5) fun r_10 h_9 =>
  rdR h_9 a0 12 0 fun r_11 =>
  nn r_11 fun a_12 =>
  kg h_9 a_12 7 (bd (f_X6_readFlag a_12 h_9) fun x_15 h_14 =>
  rdR h_14 a0 12 0 fun r_16 =>
  nn r_16 fun a_17 =>
  kg h_14 a_17 7 (bd (f_X6_isJustRead a_17 h_14) fun x_20 h_19 =>
  (if x_20 = 0 then
    some (501, h_19)
  else
    nb r_10
      (some (404, h_19))
      (fun a_21 => rdR h_19 a_21 11 1 fun r_22 =>
      nn r_22 fun a_23 =>
      kg h_19 a_23 0 (bd (f_Jx4a65c_isEmpty_aae02 a_23 h_19) fun x_26 h_25 =>
      (if x_26 = 0 then
        rdR h_25 a_21 11 1 fun r_27 =>
        nn r_27 fun a_28 =>
        kg h_25 a_28 0 (bd (f_Jx4a65c_remove_915e3 a_28 0 h_25) fun r_31 h_30 =>
        ckc h_30 r_31 8 (
        nn r1 fun a_32 =>
        kg h_30 a_32 2 (bd (f_X1_take a_32 r_31 x_15 h_30) fun _ h_34 =>
        rdR h_34 a0 12 1 fun r_35 =>
        rdI h_34 a_32 2 0 fun x_36 =>
        nn r_35 fun a_37 =>
        kg h_34 a_37 10 (bd (f_X9_begin a_37 x_36 15431 h_34) fun _ h_39 =>
        rdR h_39 a0 12 1 fun r_40 =>
        nn r_40 fun a_41 =>
        kg h_39 a_41 10 (bd (f_X9_putLetter a_41 r_31 h_39) fun _ h_43 =>
        rdR h_43 a0 12 1 fun r_44 =>
        rdR h_43 a_21 11 1 fun r_45 =>
        nn r_45 fun a_46 =>
        kg h_43 a_46 0 (bd (f_Jx4a65c_size_8abf5 a_46 h_43) fun x_49 h_48 =>
        nn r_44 fun a_50 =>
        kg h_48 a_50 10 (bd (f_X9_put a_50 x_49 h_48) fun _ h_52 =>
        rdR h_52 a0 12 1 fun r_53 =>
        nn r_53 fun a_54 =>
        kg h_52 a_54 10 (bd (f_X9_end a_54 h_52) fun _ h_56 =>
        rdR h_56 a0 12 1 fun r_57 =>
        rdI h_56 a_32 2 0 fun x_58 =>
        nn r_31 fun a_59 =>
        rdR h_56 a_59 8 0 fun r_60 =>
        nn r_57 fun a_61 =>
        kg h_56 a_61 10 (bd (f_X9_putContent a_61 x_58 r_60 h_56) fun _ h_63 =>
        some (0, h_63))))))))))
      else
        rdR h_25 a0 12 1 fun r_64 =>
        nn r1 fun a_65 =>
        rdI h_25 a_65 2 0 fun x_66 =>
        nn r_64 fun a_67 =>
        kg h_25 a_67 10 (bd (f_X9_tell a_67 x_66 15432 h_25) fun _ h_69 =>
        some (0, h_69))))))))))
set_option maxRecDepth 20000 in
set_option maxHeartbeats 4000000 in
theorem t_X11_get {Ω : Om} (a0 : Nat) (r1 : Option Nat) (h : AH) (q : Int32 × AH) (hf : f_X11_get a0 r1 h = some q) : Go Ω M_X11_get 0 (lv_args 0 [vR Ω (some a0), vR Ω r1]) [] h (some (.int q.1)) q.2 := by
  unfold f_X11_get at hf
  rw [la_R, la_R, la_0]
  refine go_sub (lv' := [(0, vR Ω (some a0)), (1, vR Ω r1)]) [0, 1] rfl ?_
  refine go_aload_n dX11_get_0 rfl 0 rfl ?_
  refine go_getR dX11_get_1 fl_390_0 (fun _ _ => rfl) hf (fun r_1 hf => ?_)
  refine go_aload_n dX11_get_4 rfl 0 rfl ?_
  refine go_getR dX11_get_5 fl_388_0 (fun _ _ => rfl) hf (fun r_2 hf => ?_)
  obtain ⟨a_3, rfl, hga_3⟩ := nn_some hf
  have hf := hga_3
  obtain ⟨hk, hf⟩ := kg_some hf
  obtain ⟨z_4, hc, hf⟩ := bd_some hf
  refine go_callV (y2 := M_X6_readName) (c2 := 7) dX11_get_8 mo_X6_readName ⟨Nat.le_of_ble_eq_true rfl, Nat.le_of_ble_eq_true rfl⟩ na_X6_readName w758 w759 (by decide) rfl w760 hk [] rfl (n_X6_readName (a_3)) rfl (csum (Nat.le_of_ble_eq_true rfl)) (t_X6_readName (a_3) h _ hc) ?_
  obtain ⟨x_6, h_5⟩ := z_4
  obtain ⟨a_7, rfl, hga_7⟩ := nn_some hf
  have hf := hga_7
  obtain ⟨hk, hf⟩ := kg_some hf
  obtain ⟨z_8, hc, hf⟩ := bd_some hf
  refine go_callV (y2 := M_X8_queueNamed) (c2 := 9) dX11_get_11 mo_X8_queueNamed ⟨Nat.le_of_ble_eq_true rfl, Nat.le_of_ble_eq_true rfl⟩ na_X8_queueNamed w788 w789 (by decide) rfl w790 hk [.long x_6] rfl (n_X8_queueNamed (a_7) x_6) rfl (csum (Nat.le_of_ble_eq_true rfl)) (t_X8_queueNamed (a_7) x_6 h_5 _ hc) ?_
  obtain ⟨r_10, h_9⟩ := z_8
  refine go_astore_n (i := 2) (lv' := [(2, vR Ω r_10), (0, vR Ω (some a0)), (1, vR Ω r1)]) dX11_get_14 rfl (by decide) (by first | rfl | simp [catR, catI, catJ]) ?_
  refine go_aload_n dX11_get_15 rfl 1 rfl ?_
  refine go_getR dX11_get_16 fl_388_0 (fun _ _ => rfl) hf (fun r_11 hf => ?_)
  obtain ⟨a_12, rfl, hga_12⟩ := nn_some hf
  have hf := hga_12
  obtain ⟨hk, hf⟩ := kg_some hf
  obtain ⟨z_13, hc, hf⟩ := bd_some hf
  refine go_callV (y2 := M_X6_readFlag) (c2 := 7) dX11_get_19 mo_X6_readFlag ⟨Nat.le_of_ble_eq_true rfl, Nat.le_of_ble_eq_true rfl⟩ na_X6_readFlag w762 w763 (by decide) rfl w764 hk [] rfl (n_X6_readFlag (a_12)) rfl (csum (Nat.le_of_ble_eq_true rfl)) (t_X6_readFlag (a_12) h_9 _ hc) ?_
  obtain ⟨x_15, h_14⟩ := z_13
  refine go_istore_n (i := 3) (lv' := [(3, .int x_15), (2, vR Ω r_10), (0, vR Ω (some a0)), (1, vR Ω r1)]) dX11_get_22 rfl (by decide) (by first | rfl | simp [catR, catI, catJ]) ?_
  refine go_aload_n dX11_get_23 rfl 2 rfl ?_
  refine go_getR dX11_get_24 fl_388_0 (fun _ _ => rfl) hf (fun r_16 hf => ?_)
  obtain ⟨a_17, rfl, hga_17⟩ := nn_some hf
  have hf := hga_17
  obtain ⟨hk, hf⟩ := kg_some hf
  obtain ⟨z_18, hc, hf⟩ := bd_some hf
  refine go_callV (y2 := M_X6_isJustRead) (c2 := 7) dX11_get_27 mo_X6_isJustRead ⟨Nat.le_of_ble_eq_true rfl, Nat.le_of_ble_eq_true rfl⟩ na_X6_isJustRead w474 w475 (by decide) rfl w476 hk [] rfl (n_X6_isJustRead (a_17)) rfl (csum (Nat.le_of_ble_eq_true rfl)) (t_X6_isJustRead (a_17) h_14 _ hc) ?_
  obtain ⟨x_20, h_19⟩ := z_18
  refine go_if_ne (tgt := 37) dX11_get_30 (by decide) hf (fun hf => ?_) (fun hf => ?_)
  · refine go_aload_n dX11_get_37 rfl 1 rfl ?_
    refine go_ifnonnull (x := r_10) (tgt := 45) dX11_get_38 (by decide) hf ?_ ?_
    · rintro rfl hf
      refine go_sipush 404 dX11_get_41 (by decide) ?_
      exact go_ireturn dX11_get_44 rfl hf
    · rintro a_21 rfl hf
      refine go_aload_n dX11_get_45 rfl 1 rfl ?_
      refine go_getR dX11_get_46 fl_804_0 (fun _ _ => rfl) hf (fun r_22 hf => ?_)
      obtain ⟨a_23, rfl, hga_23⟩ := nn_some hf
      have hf := hga_23
      obtain ⟨hk, hf⟩ := kg_some hf
      obtain ⟨z_24, hc, hf⟩ := bd_some hf
      refine go_callF (y2 := M_Jx4a65c_isEmpty_aae02) (x2 := ⟨"java/util/List", "isEmpty", "()Z"⟩) dX11_get_49 mo_Jx4a65c_isEmpty_aae02 ⟨Nat.le_of_ble_eq_true rfl, Nat.le_of_ble_eq_true rfl⟩ na_Jx4a65c_isEmpty_aae02 w867 w872 w870 (by decide) (fun U hU => hU.2.2.2.2.2.1) hk [] rfl (n_Jx4a65c_isEmpty_aae02 (a_23)) rfl (csum (Nat.le_of_ble_eq_true rfl)) (t_Jx4a65c_isEmpty_aae02 (a_23) h_19 _ hc) ?_
      obtain ⟨x_26, h_25⟩ := z_24
      refine go_if_eq (tgt := 73) dX11_get_54 (by decide) hf (fun hf => ?_) (fun hf => ?_)
      · refine go_aload_n dX11_get_73 rfl 1 rfl ?_
        refine go_getR dX11_get_74 fl_804_0 (fun _ _ => rfl) hf (fun r_27 hf => ?_)
        refine go_iconst 0 dX11_get_77 rfl ?_
        obtain ⟨a_28, rfl, hga_28⟩ := nn_some hf
        have hf := hga_28
        obtain ⟨hk, hf⟩ := kg_some hf
        obtain ⟨z_29, hc, hf⟩ := bd_some hf
        refine go_callF (y2 := M_Jx4a65c_remove_915e3) (x2 := ⟨"java/util/List", "remove", "(I)Ljava/lang/Object;"⟩) dX11_get_78 mo_Jx4a65c_remove_915e3 ⟨Nat.le_of_ble_eq_true rfl, Nat.le_of_ble_eq_true rfl⟩ na_Jx4a65c_remove_915e3 w827 w681 w679 (by decide) (fun U hU => hU.2.2.2.1) hk [.int 0] rfl (n_Jx4a65c_remove_915e3 (a_28) 0) rfl (csum (Nat.le_of_ble_eq_true rfl)) (t_Jx4a65c_remove_915e3 (a_28) 0 h_25 _ hc) ?_
        obtain ⟨r_31, h_30⟩ := z_29
        refine go_cast (c := 8) dX11_get_83 (by decide) rfl w977 hf (fun hf => ?_)
        refine go_astore (i := 4) (lv' := [(4, vR Ω r_31), (3, .int x_15), (2, vR Ω (some a_21)), (0, vR Ω (some a0)), (1, vR Ω r1)]) dX11_get_86 (by decide) (by first | rfl | simp [catR, catI, catJ]) ?_
        refine go_aload_n dX11_get_88 rfl 4 rfl ?_
        refine go_aload dX11_get_89 0 rfl ?_
        refine go_iload_n dX11_get_91 rfl 1 rfl ?_
        obtain ⟨a_32, rfl, hga_32⟩ := nn_some hf
        have hf := hga_32
        obtain ⟨hk, hf⟩ := kg_some hf
        obtain ⟨z_33, hc, hf⟩ := bd_some hf
        refine go_callV (y2 := M_X1_take) (c2 := 2) dX11_get_92 mo_X1_take ⟨Nat.le_of_ble_eq_true rfl, Nat.le_of_ble_eq_true rfl⟩ na_X1_take w978 w979 (by decide) rfl w980 hk [vR Ω r_31, .int x_15] rfl (n_X1_take (a_32) r_31 x_15) rfl (csum (Nat.le_of_ble_eq_true rfl)) (t_X1_take (a_32) r_31 x_15 h_30 _ hc) ?_
        obtain ⟨_, h_34⟩ := z_33
        refine go_aload_n dX11_get_95 rfl 3 rfl ?_
        refine go_getR dX11_get_96 fl_389_0 (fun _ _ => rfl) hf (fun r_35 hf => ?_)
        refine go_aload_n dX11_get_99 rfl 4 rfl ?_
        refine go_getI dX11_get_100 fl_349_0 (fun _ _ => rfl) hf (fun x_36 hf => ?_)
        refine go_sipush 15431 dX11_get_103 (by decide) ?_
        obtain ⟨a_37, rfl, hga_37⟩ := nn_some hf
        have hf := hga_37
        obtain ⟨hk, hf⟩ := kg_some hf
        obtain ⟨z_38, hc, hf⟩ := bd_some hf
        refine go_callV (y2 := M_X9_begin) (c2 := 10) dX11_get_106 mo_X9_begin ⟨Nat.le_of_ble_eq_true rfl, Nat.le_of_ble_eq_true rfl⟩ na_X9_begin w586 w435 (by decide) rfl w436 hk [.int x_36, .int 15431] rfl (n_X9_begin (a_37) x_36 15431) rfl (csum (Nat.le_of_ble_eq_true rfl)) (t_X9_begin (a_37) x_36 15431 h_34 _ hc) ?_
        obtain ⟨_, h_39⟩ := z_38
        refine go_aload_n dX11_get_109 rfl 3 rfl ?_
        refine go_getR dX11_get_110 fl_389_0 (fun _ _ => rfl) hf (fun r_40 hf => ?_)
        refine go_aload dX11_get_113 0 rfl ?_
        obtain ⟨a_41, rfl, hga_41⟩ := nn_some hf
        have hf := hga_41
        obtain ⟨hk, hf⟩ := kg_some hf
        obtain ⟨z_42, hc, hf⟩ := bd_some hf
        refine go_callV (y2 := M_X9_putLetter) (c2 := 10) dX11_get_115 mo_X9_putLetter ⟨Nat.le_of_ble_eq_true rfl, Nat.le_of_ble_eq_true rfl⟩ na_X9_putLetter w984 w985 (by decide) rfl w986 hk [vR Ω r_31] rfl (n_X9_putLetter (a_41) r_31) rfl (csum (Nat.le_of_ble_eq_true rfl)) (t_X9_putLetter (a_41) r_31 h_39 _ hc) ?_
        obtain ⟨_, h_43⟩ := z_42
        refine go_aload_n dX11_get_118 rfl 3 rfl ?_
        refine go_getR dX11_get_119 fl_389_0 (fun _ _ => rfl) hf (fun r_44 hf => ?_)
        refine go_aload_n dX11_get_122 rfl 2 rfl ?_
        refine go_getR dX11_get_123 fl_804_0 (fun _ _ => rfl) hf (fun r_45 hf => ?_)
        obtain ⟨a_46, rfl, hga_46⟩ := nn_some hf
        have hf := hga_46
        obtain ⟨hk, hf⟩ := kg_some hf
        obtain ⟨z_47, hc, hf⟩ := bd_some hf
        refine go_callF (y2 := M_Jx4a65c_size_8abf5) (x2 := ⟨"java/util/List", "size", "()I"⟩) dX11_get_126 mo_Jx4a65c_size_8abf5 ⟨Nat.le_of_ble_eq_true rfl, Nat.le_of_ble_eq_true rfl⟩ na_Jx4a65c_size_8abf5 w517 w522 w520 (by decide) (fun U hU => hU.2.2.2.2.1) hk [] rfl (n_Jx4a65c_size_8abf5 (a_46)) rfl (csum (Nat.le_of_ble_eq_true rfl)) (t_Jx4a65c_size_8abf5 (a_46) h_43 _ hc) ?_
        obtain ⟨x_49, h_48⟩ := z_47
        obtain ⟨a_50, rfl, hga_50⟩ := nn_some hf
        have hf := hga_50
        obtain ⟨hk, hf⟩ := kg_some hf
        obtain ⟨z_51, hc, hf⟩ := bd_some hf
        refine go_callV (y2 := M_X9_put) (c2 := 10) dX11_get_131 mo_X9_put ⟨Nat.le_of_ble_eq_true rfl, Nat.le_of_ble_eq_true rfl⟩ na_X9_put w749 w439 (by decide) rfl w440 hk [.int x_49] rfl (n_X9_put (a_50) x_49) rfl (csum (Nat.le_of_ble_eq_true rfl)) (t_X9_put (a_50) x_49 h_48 _ hc) ?_
        obtain ⟨_, h_52⟩ := z_51
        refine go_aload_n dX11_get_134 rfl 3 rfl ?_
        refine go_getR dX11_get_135 fl_389_0 (fun _ _ => rfl) hf (fun r_53 hf => ?_)
        obtain ⟨a_54, rfl, hga_54⟩ := nn_some hf
        have hf := hga_54
        obtain ⟨hk, hf⟩ := kg_some hf
        obtain ⟨z_55, hc, hf⟩ := bd_some hf
        refine go_callV (y2 := M_X9_end) (c2 := 10) dX11_get_138 mo_X9_end ⟨Nat.le_of_ble_eq_true rfl, Nat.le_of_ble_eq_true rfl⟩ na_X9_end w595 w443 (by decide) rfl w444 hk [] rfl (n_X9_end (a_54)) rfl (csum (Nat.le_of_ble_eq_true rfl)) (t_X9_end (a_54) h_52 _ hc) ?_
        obtain ⟨_, h_56⟩ := z_55
        refine go_aload_n dX11_get_141 rfl 3 rfl ?_
        refine go_getR dX11_get_142 fl_389_0 (fun _ _ => rfl) hf (fun r_57 hf => ?_)
        refine go_aload_n dX11_get_145 rfl 4 rfl ?_
        refine go_getI dX11_get_146 fl_349_0 (fun _ _ => rfl) hf (fun x_58 hf => ?_)
        refine go_aload dX11_get_149 0 rfl ?_
        obtain ⟨a_59, rfl, hga_59⟩ := nn_some hf
        have hf := hga_59
        refine go_getR dX11_get_151 fl_612_0 (fun _ _ => rfl) hf (fun r_60 hf => ?_)
        obtain ⟨a_61, rfl, hga_61⟩ := nn_some hf
        have hf := hga_61
        obtain ⟨hk, hf⟩ := kg_some hf
        obtain ⟨z_62, hc, hf⟩ := bd_some hf
        refine go_callV (y2 := M_X9_putContent) (c2 := 10) dX11_get_154 mo_X9_putContent ⟨Nat.le_of_ble_eq_true rfl, Nat.le_of_ble_eq_true rfl⟩ na_X9_putContent w596 w597 (by decide) rfl w598 hk [.int x_58, vR Ω r_60] rfl (n_X9_putContent (a_61) x_58 r_60) rfl (csum (Nat.le_of_ble_eq_true rfl)) (t_X9_putContent (a_61) x_58 r_60 h_56 _ hc) ?_
        obtain ⟨_, h_63⟩ := z_62
        refine go_iconst 0 dX11_get_157 rfl ?_
        exact go_ireturn dX11_get_158 rfl hf
      · refine go_aload_n dX11_get_57 rfl 2 rfl ?_
        refine go_getR dX11_get_58 fl_389_0 (fun _ _ => rfl) hf (fun r_64 hf => ?_)
        refine go_aload_n dX11_get_61 rfl 3 rfl ?_
        obtain ⟨a_65, rfl, hga_65⟩ := nn_some hf
        have hf := hga_65
        refine go_getI dX11_get_62 fl_349_0 (fun _ _ => rfl) hf (fun x_66 hf => ?_)
        refine go_sipush 15432 dX11_get_65 (by decide) ?_
        obtain ⟨a_67, rfl, hga_67⟩ := nn_some hf
        have hf := hga_67
        obtain ⟨hk, hf⟩ := kg_some hf
        obtain ⟨z_68, hc, hf⟩ := bd_some hf
        refine go_callV (y2 := M_X9_tell) (c2 := 10) dX11_get_68 mo_X9_tell ⟨Nat.le_of_ble_eq_true rfl, Nat.le_of_ble_eq_true rfl⟩ na_X9_tell w430 w431 (by decide) rfl w432 hk [.int x_66, .int 15432] rfl (n_X9_tell (a_67) x_66 15432) rfl (csum (Nat.le_of_ble_eq_true rfl)) (t_X9_tell (a_67) x_66 15432 h_25 _ hc) ?_
        obtain ⟨_, h_69⟩ := z_68
        refine go_iconst 0 dX11_get_71 rfl ?_
        exact go_ireturn dX11_get_72 rfl hf
  · refine go_sipush 501 dX11_get_33 (by decide) ?_
    exact go_ireturn dX11_get_36 rfl hf
-- LetterBroker$Channel.begin()V
theorem dX1_begin_0 : decode cX1_begin 0 = .ok (.aload_n 0, 1) := by decide +kernel
theorem dX1_begin_1 : decode cX1_begin 1 = .ok (.iconst 1, 1) := by decide +kernel
theorem dX1_begin_2 : decode cX1_begin 2 = .ok (.putfield 21, 3) := by decide +kernel
theorem dX1_begin_5 : decode cX1_begin 5 = .ok (.aload_n 0, 1) := by decide +kernel
theorem dX1_begin_6 : decode cX1_begin 6 = .ok (.iconst 0, 1) := by decide +kernel
theorem dX1_begin_7 : decode cX1_begin 7 = .ok (.putfield 28, 3) := by decide +kernel
theorem dX1_begin_10 : decode cX1_begin 10 = .ok (.aload_n 0, 1) := by decide +kernel
theorem dX1_begin_11 : decode cX1_begin 11 = .ok (.iconst 1, 1) := by decide +kernel
theorem dX1_begin_12 : decode cX1_begin 12 = .ok (.putfield 31, 3) := by decide +kernel
theorem dX1_begin_15 : decode cX1_begin 15 = .ok (.aload_n 0, 1) := by decide +kernel
theorem dX1_begin_16 : decode cX1_begin 16 = .ok (.iconst 0, 1) := by decide +kernel
theorem dX1_begin_17 : decode cX1_begin 17 = .ok (.putfield 35, 3) := by decide +kernel
theorem dX1_begin_20 : decode cX1_begin 20 = .ok (.return_, 1) := by decide +kernel
def f_X1_begin (a0 : Nat) (h : AH) : Option (Unit × AH) := wrI h a0 2 3 1 fun h_1 =>
  wrI h_1 a0 2 4 0 fun h_2 =>
  wrZ h_2 a0 2 5 1 fun h_3 =>
  wrI h_3 a0 2 7 0 fun h_4 =>
  some ((), h_4)
set_option maxRecDepth 20000 in
set_option maxHeartbeats 4000000 in
theorem t_X1_begin {Ω : Om} (a0 : Nat) (h : AH) (q : Unit × AH) (hf : f_X1_begin a0 h = some q) : Go Ω M_X1_begin 0 (lv_args 0 [vR Ω (some a0)]) [] h none q.2 := by
  unfold f_X1_begin at hf
  rw [la_R, la_0]
  refine go_sub (lv' := [(0, vR Ω (some a0))]) [0] rfl ?_
  refine go_aload_n dX1_begin_0 rfl 0 rfl ?_
  refine go_iconst 1 dX1_begin_1 rfl ?_
  refine go_putI dX1_begin_2 fl_355_0 (fun q hq => by cases hq; exact Or.inl rfl) (fun _ _ => rfl) rfl hf (fun h_1 hf => ?_)
  refine go_aload_n dX1_begin_5 rfl 0 rfl ?_
  refine go_iconst 0 dX1_begin_6 rfl ?_
  refine go_putI dX1_begin_7 fl_357_0 (fun q hq => by cases hq; exact Or.inl rfl) (fun _ _ => rfl) rfl hf (fun h_2 hf => ?_)
  refine go_aload_n dX1_begin_10 rfl 0 rfl ?_
  refine go_iconst 1 dX1_begin_11 rfl ?_
  refine go_putZ dX1_begin_12 fl_361_0 (fun q hq => by cases hq; exact Or.inl rfl) (fun _ _ => rfl) rfl hf (fun h_3 hf => ?_)
  refine go_aload_n dX1_begin_15 rfl 0 rfl ?_
  refine go_iconst 0 dX1_begin_16 rfl ?_
  refine go_putI dX1_begin_17 fl_365_0 (fun q hq => by cases hq; exact Or.inl rfl) (fun _ _ => rfl) rfl hf (fun h_4 hf => ?_)
  exact go_return dX1_begin_20 rfl hf
-- LetterBroker.openChannel(LLetterBroker$Channel;)I
theorem dX11_openChannel_0 : decode cX11_openChannel 0 = .ok (.aload_n 0, 1) := by decide +kernel
theorem dX11_openChannel_1 : decode cX11_openChannel 1 = .ok (.getfield 10, 3) := by decide +kernel
theorem dX11_openChannel_4 : decode cX11_openChannel 4 = .ok (.invokevirtual 132, 3) := by decide +kernel
theorem dX11_openChannel_7 : decode cX11_openChannel 7 = .ok (.ifCond .ne 7, 3) := by decide +kernel
theorem dX11_openChannel_10 : decode cX11_openChannel 10 = .ok (.sipush 501, 3) := by decide +kernel
theorem dX11_openChannel_13 : decode cX11_openChannel 13 = .ok (.ireturn, 1) := by decide +kernel
theorem dX11_openChannel_14 : decode cX11_openChannel 14 = .ok (.aload_n 1, 1) := by decide +kernel
theorem dX11_openChannel_15 : decode cX11_openChannel 15 = .ok (.invokevirtual 262, 3) := by decide +kernel
theorem dX11_openChannel_18 : decode cX11_openChannel 18 = .ok (.aload_n 0, 1) := by decide +kernel
theorem dX11_openChannel_19 : decode cX11_openChannel 19 = .ok (.getfield 19, 3) := by decide +kernel
theorem dX11_openChannel_22 : decode cX11_openChannel 22 = .ok (.aload_n 1, 1) := by decide +kernel
theorem dX11_openChannel_23 : decode cX11_openChannel 23 = .ok (.getfield 145, 3) := by decide +kernel
theorem dX11_openChannel_26 : decode cX11_openChannel 26 = .ok (.sipush 5131, 3) := by decide +kernel
theorem dX11_openChannel_29 : decode cX11_openChannel 29 = .ok (.invokevirtual 125, 3) := by decide +kernel
theorem dX11_openChannel_32 : decode cX11_openChannel 32 = .ok (.iconst 0, 1) := by decide +kernel
theorem dX11_openChannel_33 : decode cX11_openChannel 33 = .ok (.ireturn, 1) := by decide +kernel
def f_X11_openChannel (a0 : Nat) (r1 : Option Nat) (h : AH) : Option (Int32 × AH) := rdR h a0 12 0 fun r_1 =>
  nn r_1 fun a_2 =>
  kg h a_2 7 (bd (f_X6_isJustRead a_2 h) fun x_5 h_4 =>
  (if x_5 = 0 then
    some (501, h_4)
  else
    nn r1 fun a_6 =>
    kg h_4 a_6 2 (bd (f_X1_begin a_6 h_4) fun _ h_8 =>
    rdR h_8 a0 12 1 fun r_9 =>
    rdI h_8 a_6 2 0 fun x_10 =>
    nn r_9 fun a_11 =>
    kg h_8 a_11 10 (bd (f_X9_tell a_11 x_10 5131 h_8) fun _ h_13 =>
    some (0, h_13)))))
set_option maxRecDepth 20000 in
set_option maxHeartbeats 4000000 in
theorem t_X11_openChannel {Ω : Om} (a0 : Nat) (r1 : Option Nat) (h : AH) (q : Int32 × AH) (hf : f_X11_openChannel a0 r1 h = some q) : Go Ω M_X11_openChannel 0 (lv_args 0 [vR Ω (some a0), vR Ω r1]) [] h (some (.int q.1)) q.2 := by
  unfold f_X11_openChannel at hf
  rw [la_R, la_R, la_0]
  refine go_sub (lv' := [(0, vR Ω (some a0)), (1, vR Ω r1)]) [0, 1] rfl ?_
  refine go_aload_n dX11_openChannel_0 rfl 0 rfl ?_
  refine go_getR dX11_openChannel_1 fl_388_0 (fun _ _ => rfl) hf (fun r_1 hf => ?_)
  obtain ⟨a_2, rfl, hga_2⟩ := nn_some hf
  have hf := hga_2
  obtain ⟨hk, hf⟩ := kg_some hf
  obtain ⟨z_3, hc, hf⟩ := bd_some hf
  refine go_callV (y2 := M_X6_isJustRead) (c2 := 7) dX11_openChannel_4 mo_X6_isJustRead ⟨Nat.le_of_ble_eq_true rfl, Nat.le_of_ble_eq_true rfl⟩ na_X6_isJustRead w474 w475 (by decide) rfl w476 hk [] rfl (n_X6_isJustRead (a_2)) rfl (csum (Nat.le_of_ble_eq_true rfl)) (t_X6_isJustRead (a_2) h _ hc) ?_
  obtain ⟨x_5, h_4⟩ := z_3
  refine go_if_ne (tgt := 14) dX11_openChannel_7 (by decide) hf (fun hf => ?_) (fun hf => ?_)
  · refine go_aload_n dX11_openChannel_14 rfl 1 rfl ?_
    obtain ⟨a_6, rfl, hga_6⟩ := nn_some hf
    have hf := hga_6
    obtain ⟨hk, hf⟩ := kg_some hf
    obtain ⟨z_7, hc, hf⟩ := bd_some hf
    refine go_callV (y2 := M_X1_begin) (c2 := 2) dX11_openChannel_15 mo_X1_begin ⟨Nat.le_of_ble_eq_true rfl, Nat.le_of_ble_eq_true rfl⟩ na_X1_begin w741 w742 (by decide) rfl w743 hk [] rfl (n_X1_begin (a_6)) rfl (csum (Nat.le_of_ble_eq_true rfl)) (t_X1_begin (a_6) h_4 _ hc) ?_
    obtain ⟨_, h_8⟩ := z_7
    refine go_aload_n dX11_openChannel_18 rfl 0 rfl ?_
    refine go_getR dX11_openChannel_19 fl_389_0 (fun _ _ => rfl) hf (fun r_9 hf => ?_)
    refine go_aload_n dX11_openChannel_22 rfl 1 rfl ?_
    refine go_getI dX11_openChannel_23 fl_349_0 (fun _ _ => rfl) hf (fun x_10 hf => ?_)
    refine go_sipush 5131 dX11_openChannel_26 (by decide) ?_
    obtain ⟨a_11, rfl, hga_11⟩ := nn_some hf
    have hf := hga_11
    obtain ⟨hk, hf⟩ := kg_some hf
    obtain ⟨z_12, hc, hf⟩ := bd_some hf
    refine go_callV (y2 := M_X9_tell) (c2 := 10) dX11_openChannel_29 mo_X9_tell ⟨Nat.le_of_ble_eq_true rfl, Nat.le_of_ble_eq_true rfl⟩ na_X9_tell w430 w431 (by decide) rfl w432 hk [.int x_10, .int 5131] rfl (n_X9_tell (a_11) x_10 5131) rfl (csum (Nat.le_of_ble_eq_true rfl)) (t_X9_tell (a_11) x_10 5131 h_8 _ hc) ?_
    obtain ⟨_, h_13⟩ := z_12
    refine go_iconst 0 dX11_openChannel_32 rfl ?_
    exact go_ireturn dX11_openChannel_33 rfl hf
  · refine go_sipush 501 dX11_openChannel_10 (by decide) ?_
    exact go_ireturn dX11_openChannel_13 rfl hf
-- LetterBroker$Draft.<init>(JJZ)V
theorem dX4_init_0 : decode cX4_init 0 = .ok (.aload_n 0, 1) := by decide +kernel
theorem dX4_init_1 : decode cX4_init 1 = .ok (.invokespecial 3, 3) := by decide +kernel
theorem dX4_init_4 : decode cX4_init 4 = .ok (.aload_n 0, 1) := by decide +kernel
theorem dX4_init_5 : decode cX4_init 5 = .ok (.iconst (-1), 1) := by decide +kernel
theorem dX4_init_6 : decode cX4_init 6 = .ok (.putfield 11, 3) := by decide +kernel
theorem dX4_init_9 : decode cX4_init 9 = .ok (.aload_n 0, 1) := by decide +kernel
theorem dX4_init_10 : decode cX4_init 10 = .ok (.lload_n 1, 1) := by decide +kernel
theorem dX4_init_11 : decode cX4_init 11 = .ok (.putfield 15, 3) := by decide +kernel
theorem dX4_init_14 : decode cX4_init 14 = .ok (.aload_n 0, 1) := by decide +kernel
theorem dX4_init_15 : decode cX4_init 15 = .ok (.lload_n 3, 1) := by decide +kernel
theorem dX4_init_16 : decode cX4_init 16 = .ok (.putfield 19, 3) := by decide +kernel
theorem dX4_init_19 : decode cX4_init 19 = .ok (.aload_n 0, 1) := by decide +kernel
theorem dX4_init_20 : decode cX4_init 20 = .ok (.iload 5, 2) := by decide +kernel
theorem dX4_init_22 : decode cX4_init 22 = .ok (.putfield 22, 3) := by decide +kernel
theorem dX4_init_25 : decode cX4_init 25 = .ok (.aload_n 0, 1) := by decide +kernel
theorem dX4_init_26 : decode cX4_init 26 = .ok (.lload_n 3, 1) := by decide +kernel
theorem dX4_init_27 : decode cX4_init 27 = .ok (.invokestatic 26, 3) := by decide +kernel
theorem dX4_init_30 : decode cX4_init 30 = .ok (.putfield 32, 3) := by decide +kernel
theorem dX4_init_33 : decode cX4_init 33 = .ok (.return_, 1) := by decide +kernel
def f_X4_init (a0 : Nat) (x1 : Int64) (x3 : Int64) (x5 : Int32) (h : AH) : Option (Unit × AH) := wrI h a0 5 4 ((-1)) fun h_1 =>
  wrJ h_1 a0 5 0 x1 fun h_2 =>
  wrJ h_2 a0 5 1 x3 fun h_3 =>
  wrZ h_3 a0 5 2 x5 fun h_4 =>
  bd (f_X0_wordsOf x3 h_4) fun r_7 h_6 =>
  wrR h_6 a0 5 3 r_7 fun h_8 =>
  some ((), h_8)
set_option maxRecDepth 20000 in
set_option maxHeartbeats 4000000 in
theorem t_X4_init {Ω : Om} (a0 : Nat) (x1 : Int64) (x3 : Int64) (x5 : Int32) (h : AH) (q : Unit × AH) (hf : f_X4_init a0 x1 x3 x5 h = some q) : Go Ω M_X4_init 0 (lv_args 0 [vR Ω (some a0), .long x1, .long x3, .int x5]) [] h none q.2 := by
  unfold f_X4_init at hf
  rw [la_R, la_J, la_J, la_I, la_0]
  refine go_sub (lv' := [(0, vR Ω (some a0)), (1, .long x1), (3, .long x3), (5, .int x5)]) [0, 1, 2, 3] rfl ?_
  refine go_aload_n dX4_init_0 rfl 0 rfl ?_
  refine go_objInit dX4_init_1 w937 ⟨by decide, cadd (csum (Nat.le_of_ble_eq_true rfl)) (by decide +kernel)⟩ ?_
  refine go_aload_n dX4_init_4 rfl 0 rfl ?_
  refine go_iconst (-1) dX4_init_5 rfl ?_
  refine go_putI dX4_init_6 fl_952_0 (fun q hq => by cases hq; exact Or.inl rfl) (fun _ _ => rfl) rfl hf (fun h_1 hf => ?_)
  refine go_aload_n dX4_init_9 rfl 0 rfl ?_
  refine go_lload_n dX4_init_10 rfl 1 rfl ?_
  refine go_putJ dX4_init_11 fl_939_0 (fun q hq => by cases hq; exact Or.inr ⟨rfl, rfl, rfl⟩) (fun _ _ => rfl) rfl hf (fun h_2 hf => ?_)
  refine go_aload_n dX4_init_14 rfl 0 rfl ?_
  refine go_lload_n dX4_init_15 rfl 2 rfl ?_
  refine go_putJ dX4_init_16 fl_943_0 (fun q hq => by cases hq; exact Or.inr ⟨rfl, rfl, rfl⟩) (fun _ _ => rfl) rfl hf (fun h_3 hf => ?_)
  refine go_aload_n dX4_init_19 rfl 0 rfl ?_
  refine go_iload dX4_init_20 3 rfl ?_
  refine go_putZ dX4_init_22 fl_948_0 (fun q hq => by cases hq; exact Or.inr ⟨rfl, rfl, rfl⟩) (fun _ _ => rfl) rfl hf (fun h_4 hf => ?_)
  refine go_aload_n dX4_init_25 rfl 0 rfl ?_
  refine go_lload_n dX4_init_26 rfl 2 rfl ?_
  obtain ⟨z_5, hc, hf⟩ := bd_some hf
  refine go_callS (y2 := M_X0_wordsOf) dX4_init_27 mo_X0_wordsOf ⟨Nat.le_of_ble_eq_true rfl, Nat.le_of_ble_eq_true rfl⟩ na_X0_wordsOf w938 w835 [.long x3] rfl (n_X0_wordsOf x3) rfl (csum (Nat.le_of_ble_eq_true rfl)) (t_X0_wordsOf x3 h_4 _ hc) ?_
  obtain ⟨r_7, h_6⟩ := z_5
  refine go_putR dX4_init_30 fl_950_0 (fun q hq => by cases hq; exact Or.inr ⟨rfl, rfl, rfl⟩) (fun _ _ => rfl) (Or.inr ⟨_, rfl⟩) hf (fun h_8 hf => ?_)
  exact go_return dX4_init_33 rfl hf
-- LetterBroker.publish(LLetterBroker$Channel;)I
theorem dX11_publish_0 : decode cX11_publish 0 = .ok (.aload_n 0, 1) := by decide +kernel
theorem dX11_publish_1 : decode cX11_publish 1 = .ok (.getfield 10, 3) := by decide +kernel
theorem dX11_publish_4 : decode cX11_publish 4 = .ok (.invokevirtual 283, 3) := by decide +kernel
theorem dX11_publish_7 : decode cX11_publish 7 = .ok (.lstore_n 2, 1) := by decide +kernel
theorem dX11_publish_8 : decode cX11_publish 8 = .ok (.aload_n 0, 1) := by decide +kernel
theorem dX11_publish_9 : decode cX11_publish 9 = .ok (.getfield 10, 3) := by decide +kernel
theorem dX11_publish_12 : decode cX11_publish 12 = .ok (.invokevirtual 283, 3) := by decide +kernel
theorem dX11_publish_15 : decode cX11_publish 15 = .ok (.lstore 4, 2) := by decide +kernel
theorem dX11_publish_17 : decode cX11_publish 17 = .ok (.aload_n 0, 1) := by decide +kernel
theorem dX11_publish_18 : decode cX11_publish 18 = .ok (.getfield 10, 3) := by decide +kernel
theorem dX11_publish_21 : decode cX11_publish 21 = .ok (.invokevirtual 287, 3) := by decide +kernel
theorem dX11_publish_24 : decode cX11_publish 24 = .ok (.istore 6, 2) := by decide +kernel
theorem dX11_publish_26 : decode cX11_publish 26 = .ok (.aload_n 0, 1) := by decide +kernel
theorem dX11_publish_27 : decode cX11_publish 27 = .ok (.getfield 10, 3) := by decide +kernel
theorem dX11_publish_30 : decode cX11_publish 30 = .ok (.invokevirtual 132, 3) := by decide +kernel
theorem dX11_publish_33 : decode cX11_publish 33 = .ok (.ifCond .ne 7, 3) := by decide +kernel
theorem dX11_publish_36 : decode cX11_publish 36 = .ok (.sipush 501, 3) := by decide +kernel
theorem dX11_publish_39 : decode cX11_publish 39 = .ok (.ireturn, 1) := by decide +kernel
theorem dX11_publish_40 : decode cX11_publish 40 = .ok (.aload_n 0, 1) := by decide +kernel
theorem dX11_publish_41 : decode cX11_publish 41 = .ok (.getfield 26, 3) := by decide +kernel
theorem dX11_publish_44 : decode cX11_publish 44 = .ok (.lload_n 2, 1) := by decide +kernel
theorem dX11_publish_45 : decode cX11_publish 45 = .ok (.invokevirtual 290, 3) := by decide +kernel
theorem dX11_publish_48 : decode cX11_publish 48 = .ok (.ifnonnull 7, 3) := by decide +kernel
theorem dX11_publish_51 : decode cX11_publish 51 = .ok (.sipush 404, 3) := by decide +kernel
theorem dX11_publish_54 : decode cX11_publish 54 = .ok (.ireturn, 1) := by decide +kernel
theorem dX11_publish_55 : decode cX11_publish 55 = .ok (.aload_n 1, 1) := by decide +kernel
theorem dX11_publish_56 : decode cX11_publish 56 = .ok (.new 175, 3) := by decide +kernel
theorem dX11_publish_59 : decode cX11_publish 59 = .ok (.dup, 1) := by decide +kernel
theorem dX11_publish_60 : decode cX11_publish 60 = .ok (.lload_n 2, 1) := by decide +kernel
theorem dX11_publish_61 : decode cX11_publish 61 = .ok (.lload 4, 2) := by decide +kernel
theorem dX11_publish_63 : decode cX11_publish 63 = .ok (.iload 6, 2) := by decide +kernel
theorem dX11_publish_65 : decode cX11_publish 65 = .ok (.invokespecial 358, 3) := by decide +kernel
theorem dX11_publish_68 : decode cX11_publish 68 = .ok (.putfield 170, 3) := by decide +kernel
theorem dX11_publish_71 : decode cX11_publish 71 = .ok (.iconst 0, 1) := by decide +kernel
theorem dX11_publish_72 : decode cX11_publish 72 = .ok (.ireturn, 1) := by decide +kernel
def f_X11_publish (a0 : Nat) (r1 : Option Nat) (h : AH) : Option (Int32 × AH) := rdR h a0 12 0 fun r_1 =>
  nn r_1 fun a_2 =>
  kg h a_2 7 (bd (f_X6_readName a_2 h) fun x_5 h_4 =>
  rdR h_4 a0 12 0 fun r_6 =>
  nn r_6 fun a_7 =>
  kg h_4 a_7 7 (bd (f_X6_readName a_7 h_4) fun x_10 h_9 =>
  rdR h_9 a0 12 0 fun r_11 =>
  nn r_11 fun a_12 =>
  kg h_9 a_12 7 (bd (f_X6_readFlag a_12 h_9) fun x_15 h_14 =>
  rdR h_14 a0 12 0 fun r_16 =>
  nn r_16 fun a_17 =>
  kg h_14 a_17 7 (bd (f_X6_isJustRead a_17 h_14) fun x_20 h_19 =>
  (if x_20 = 0 then
    some (501, h_19)
  else
    rdR h_19 a0 12 2 fun r_21 =>
    nn r_21 fun a_22 =>
    kg h_19 a_22 9 (bd (f_X8_exchangeNamed a_22 x_5 h_19) fun r_25 h_24 =>
    nb r_25
      (some (404, h_24))
      (fun a_26 => nwO h_24 5 fun a_27 h_28 =>
      bd (f_X4_init a_27 x_5 x_10 x_15 h_28) fun _ h_30 =>
      nn r1 fun a_31 =>
      wrR h_30 a_31 2 8 (some a_27) fun h_32 =>
      some (0, h_32))))))))
set_option maxRecDepth 20000 in
set_option maxHeartbeats 4000000 in
theorem t_X11_publish {Ω : Om} (a0 : Nat) (r1 : Option Nat) (h : AH) (q : Int32 × AH) (hf : f_X11_publish a0 r1 h = some q) : Go Ω M_X11_publish 0 (lv_args 0 [vR Ω (some a0), vR Ω r1]) [] h (some (.int q.1)) q.2 := by
  unfold f_X11_publish at hf
  rw [la_R, la_R, la_0]
  refine go_sub (lv' := [(0, vR Ω (some a0)), (1, vR Ω r1)]) [0, 1] rfl ?_
  refine go_aload_n dX11_publish_0 rfl 0 rfl ?_
  refine go_getR dX11_publish_1 fl_388_0 (fun _ _ => rfl) hf (fun r_1 hf => ?_)
  obtain ⟨a_2, rfl, hga_2⟩ := nn_some hf
  have hf := hga_2
  obtain ⟨hk, hf⟩ := kg_some hf
  obtain ⟨z_3, hc, hf⟩ := bd_some hf
  refine go_callV (y2 := M_X6_readName) (c2 := 7) dX11_publish_4 mo_X6_readName ⟨Nat.le_of_ble_eq_true rfl, Nat.le_of_ble_eq_true rfl⟩ na_X6_readName w758 w759 (by decide) rfl w760 hk [] rfl (n_X6_readName (a_2)) rfl (csum (Nat.le_of_ble_eq_true rfl)) (t_X6_readName (a_2) h _ hc) ?_
  obtain ⟨x_5, h_4⟩ := z_3
  refine go_lstore_n (i := 2) (lv' := [(2, .long x_5), (0, vR Ω (some a0)), (1, vR Ω r1)]) dX11_publish_7 rfl (by decide) (by first | rfl | simp [catR, catI, catJ]) ?_
  refine go_aload_n dX11_publish_8 rfl 1 rfl ?_
  refine go_getR dX11_publish_9 fl_388_0 (fun _ _ => rfl) hf (fun r_6 hf => ?_)
  obtain ⟨a_7, rfl, hga_7⟩ := nn_some hf
  have hf := hga_7
  obtain ⟨hk, hf⟩ := kg_some hf
  obtain ⟨z_8, hc, hf⟩ := bd_some hf
  refine go_callV (y2 := M_X6_readName) (c2 := 7) dX11_publish_12 mo_X6_readName ⟨Nat.le_of_ble_eq_true rfl, Nat.le_of_ble_eq_true rfl⟩ na_X6_readName w758 w759 (by decide) rfl w760 hk [] rfl (n_X6_readName (a_7)) rfl (csum (Nat.le_of_ble_eq_true rfl)) (t_X6_readName (a_7) h_4 _ hc) ?_
  obtain ⟨x_10, h_9⟩ := z_8
  refine go_lstore (i := 4) (lv' := [(4, .long x_10), (2, .long x_5), (0, vR Ω (some a0)), (1, vR Ω r1)]) dX11_publish_15 (by decide) (by first | rfl | simp [catR, catI, catJ]) ?_
  refine go_aload_n dX11_publish_17 rfl 2 rfl ?_
  refine go_getR dX11_publish_18 fl_388_0 (fun _ _ => rfl) hf (fun r_11 hf => ?_)
  obtain ⟨a_12, rfl, hga_12⟩ := nn_some hf
  have hf := hga_12
  obtain ⟨hk, hf⟩ := kg_some hf
  obtain ⟨z_13, hc, hf⟩ := bd_some hf
  refine go_callV (y2 := M_X6_readFlag) (c2 := 7) dX11_publish_21 mo_X6_readFlag ⟨Nat.le_of_ble_eq_true rfl, Nat.le_of_ble_eq_true rfl⟩ na_X6_readFlag w762 w763 (by decide) rfl w764 hk [] rfl (n_X6_readFlag (a_12)) rfl (csum (Nat.le_of_ble_eq_true rfl)) (t_X6_readFlag (a_12) h_9 _ hc) ?_
  obtain ⟨x_15, h_14⟩ := z_13
  refine go_istore (i := 6) (lv' := [(6, .int x_15), (4, .long x_10), (2, .long x_5), (0, vR Ω (some a0)), (1, vR Ω r1)]) dX11_publish_24 (by decide) (by first | rfl | simp [catR, catI, catJ]) ?_
  refine go_aload_n dX11_publish_26 rfl 3 rfl ?_
  refine go_getR dX11_publish_27 fl_388_0 (fun _ _ => rfl) hf (fun r_16 hf => ?_)
  obtain ⟨a_17, rfl, hga_17⟩ := nn_some hf
  have hf := hga_17
  obtain ⟨hk, hf⟩ := kg_some hf
  obtain ⟨z_18, hc, hf⟩ := bd_some hf
  refine go_callV (y2 := M_X6_isJustRead) (c2 := 7) dX11_publish_30 mo_X6_isJustRead ⟨Nat.le_of_ble_eq_true rfl, Nat.le_of_ble_eq_true rfl⟩ na_X6_isJustRead w474 w475 (by decide) rfl w476 hk [] rfl (n_X6_isJustRead (a_17)) rfl (csum (Nat.le_of_ble_eq_true rfl)) (t_X6_isJustRead (a_17) h_14 _ hc) ?_
  obtain ⟨x_20, h_19⟩ := z_18
  refine go_if_ne (tgt := 40) dX11_publish_33 (by decide) hf (fun hf => ?_) (fun hf => ?_)
  · refine go_aload_n dX11_publish_40 rfl 3 rfl ?_
    refine go_getR dX11_publish_41 fl_390_0 (fun _ _ => rfl) hf (fun r_21 hf => ?_)
    refine go_lload_n dX11_publish_44 rfl 2 rfl ?_
    obtain ⟨a_22, rfl, hga_22⟩ := nn_some hf
    have hf := hga_22
    obtain ⟨hk, hf⟩ := kg_some hf
    obtain ⟨z_23, hc, hf⟩ := bd_some hf
    refine go_callV (y2 := M_X8_exchangeNamed) (c2 := 9) dX11_publish_45 mo_X8_exchangeNamed ⟨Nat.le_of_ble_eq_true rfl, Nat.le_of_ble_eq_true rfl⟩ na_X8_exchangeNamed w766 w767 (by decide) rfl w768 hk [.long x_5] rfl (n_X8_exchangeNamed (a_22) x_5) rfl (csum (Nat.le_of_ble_eq_true rfl)) (t_X8_exchangeNamed (a_22) x_5 h_19 _ hc) ?_
    obtain ⟨r_25, h_24⟩ := z_23
    refine go_ifnonnull (x := r_25) (tgt := 55) dX11_publish_48 (by decide) hf ?_ ?_
    · rintro rfl hf
      refine go_sipush 404 dX11_publish_51 (by decide) ?_
      exact go_ireturn dX11_publish_54 rfl hf
    · rintro a_26 rfl hf
      refine go_aload_n dX11_publish_55 rfl 4 rfl ?_
      refine go_new (c := 5) dX11_publish_56 (by decide) rfl w932 hf (fun a_27 h_28 hf => ?_)
      refine go_dup dX11_publish_59 catR ?_
      refine go_lload_n dX11_publish_60 rfl 2 rfl ?_
      refine go_lload dX11_publish_61 1 rfl ?_
      refine go_iload dX11_publish_63 0 rfl ?_
      obtain ⟨z_29, hc, hf⟩ := bd_some hf
      refine go_callI (y2 := M_X4_init) dX11_publish_65 mo_X4_init ⟨Nat.le_of_ble_eq_true rfl, Nat.le_of_ble_eq_true rfl⟩ na_X4_init w934 w935 rfl rfl [.long x_5, .long x_10, .int x_15] rfl (n_X4_init (a_27) x_5 x_10 x_15) rfl (csum (Nat.le_of_ble_eq_true rfl)) (t_X4_init (a_27) x_5 x_10 x_15 h_28 _ hc) ?_
      obtain ⟨_, h_30⟩ := z_29
      obtain ⟨a_31, rfl, hga_31⟩ := nn_some hf
      have hf := hga_31
      refine go_putR dX11_publish_68 fl_368_0 (fun q hq => by cases hq; exact Or.inl rfl) (fun _ _ => rfl) (Or.inl ⟨_, rfl⟩) hf (fun h_32 hf => ?_)
      refine go_iconst 0 dX11_publish_71 rfl ?_
      exact go_ireturn dX11_publish_72 rfl hf
  · refine go_sipush 501 dX11_publish_36 (by decide) ?_
    exact go_ireturn dX11_publish_39 rfl hf
-- LetterBroker.purge(LLetterBroker$Channel;)I
theorem dX11_purge_0 : decode cX11_purge 0 = .ok (.aload_n 0, 1) := by decide +kernel
theorem dX11_purge_1 : decode cX11_purge 1 = .ok (.getfield 26, 3) := by decide +kernel
theorem dX11_purge_4 : decode cX11_purge 4 = .ok (.aload_n 0, 1) := by decide +kernel
theorem dX11_purge_5 : decode cX11_purge 5 = .ok (.getfield 10, 3) := by decide +kernel
theorem dX11_purge_8 : decode cX11_purge 8 = .ok (.invokevirtual 283, 3) := by decide +kernel
theorem dX11_purge_11 : decode cX11_purge 11 = .ok (.invokevirtual 315, 3) := by decide +kernel
theorem dX11_purge_14 : decode cX11_purge 14 = .ok (.astore_n 2, 1) := by decide +kernel
theorem dX11_purge_15 : decode cX11_purge 15 = .ok (.aload_n 0, 1) := by decide +kernel
theorem dX11_purge_16 : decode cX11_purge 16 = .ok (.getfield 10, 3) := by decide +kernel
theorem dX11_purge_19 : decode cX11_purge 19 = .ok (.invokevirtual 132, 3) := by decide +kernel
theorem dX11_purge_22 : decode cX11_purge 22 = .ok (.ifCond .ne 7, 3) := by decide +kernel
theorem dX11_purge_25 : decode cX11_purge 25 = .ok (.sipush 501, 3) := by decide +kernel
theorem dX11_purge_28 : decode cX11_purge 28 = .ok (.ireturn, 1) := by decide +kernel
theorem dX11_purge_29 : decode cX11_purge 29 = .ok (.aload_n 2, 1) := by decide +kernel
theorem dX11_purge_30 : decode cX11_purge 30 = .ok (.ifnonnull 7, 3) := by decide +kernel
theorem dX11_purge_33 : decode cX11_purge 33 = .ok (.sipush 404, 3) := by decide +kernel
theorem dX11_purge_36 : decode cX11_purge 36 = .ok (.ireturn, 1) := by decide +kernel
theorem dX11_purge_37 : decode cX11_purge 37 = .ok (.aload_n 0, 1) := by decide +kernel
theorem dX11_purge_38 : decode cX11_purge 38 = .ok (.getfield 19, 3) := by decide +kernel
theorem dX11_purge_41 : decode cX11_purge 41 = .ok (.aload_n 1, 1) := by decide +kernel
theorem dX11_purge_42 : decode cX11_purge 42 = .ok (.getfield 145, 3) := by decide +kernel
theorem dX11_purge_45 : decode cX11_purge 45 = .ok (.sipush 12831, 3) := by decide +kernel
theorem dX11_purge_48 : decode cX11_purge 48 = .ok (.invokevirtual 272, 3) := by decide +kernel
theorem dX11_purge_51 : decode cX11_purge 51 = .ok (.aload_n 0, 1) := by decide +kernel
theorem dX11_purge_52 : decode cX11_purge 52 = .ok (.getfield 19, 3) := by decide +kernel
theorem dX11_purge_55 : decode cX11_purge 55 = .ok (.aload_n 2, 1) := by decide +kernel
theorem dX11_purge_56 : decode cX11_purge 56 = .ok (.getfield 106, 3) := by decide +kernel
theorem dX11_purge_59 : decode cX11_purge 59 = .ok (.invokeinterface 87 1, 5) := by decide +kernel
theorem dX11_purge_64 : decode cX11_purge 64 = .ok (.invokevirtual 274, 3) := by decide +kernel
theorem dX11_purge_67 : decode cX11_purge 67 = .ok (.aload_n 0, 1) := by decide +kernel
theorem dX11_purge_68 : decode cX11_purge 68 = .ok (.getfield 19, 3) := by decide +kernel
theorem dX11_purge_71 : decode cX11_purge 71 = .ok (.invokevirtual 277, 3) := by decide +kernel
theorem dX11_purge_74 : decode cX11_purge 74 = .ok (.aload_n 2, 1) := by decide +kernel
theorem dX11_purge_75 : decode cX11_purge 75 = .ok (.getfield 106, 3) := by decide +kernel
theorem dX11_purge_78 : decode cX11_purge 78 = .ok (.invokeinterface 343 1, 5) := by decide +kernel
theorem dX11_purge_83 : decode cX11_purge 83 = .ok (.iconst 0, 1) := by decide +kernel
theorem dX11_purge_84 : decode cX11_purge 84 = .ok (.ireturn, 1) := by decide +kernel
def f_X11_purge (a0 : Nat) (r1 : Option Nat) (h : AH) : Option (Int32 × AH) := rdR h a0 12 2 fun r_1 =>
  rdR h a0 12 0 fun r_2 =>
  nn r_2 fun a_3 =>
  kg h a_3 7 (bd (f_X6_readName a_3 h) fun x_6 h_5 =>
  nn r_1 fun a_7 =>
  kg h_5 a_7 9 (bd (f_X8_queueNamed a_7 x_6 h_5) fun r_10 h_9 =>
  rdR h_9 a0 12 0 fun r_11 =>
  nn r_11 fun a_12 =>
  kg h_9 a_12 7 (bd (f_X6_isJustRead a_12 h_9) fun x_15 h_14 =>
  (if x_15 = 0 then
    some (501, h_14)
  else
    nb r_10
      (some (404, h_14))
      (fun a_16 => rdR h_14 a0 12 1 fun r_17 =>
      nn r1 fun a_18 =>
      rdI h_14 a_18 2 0 fun x_19 =>
      nn r_17 fun a_20 =>
      kg h_14 a_20 10 (bd (f_X9_begin a_20 x_19 12831 h_14) fun _ h_22 =>
      rdR h_22 a0 12 1 fun r_23 =>
      rdR h_22 a_16 11 1 fun r_24 =>
      nn r_24 fun a_25 =>
      kg h_22 a_25 0 (bd (f_Jx4a65c_size_8abf5 a_25 h_22) fun x_28 h_27 =>
      nn r_23 fun a_29 =>
      kg h_27 a_29 10 (bd (f_X9_put a_29 x_28 h_27) fun _ h_31 =>
      rdR h_31 a0 12 1 fun r_32 =>
      nn r_32 fun a_33 =>
      kg h_31 a_33 10 (bd (f_X9_end a_33 h_31) fun _ h_35 =>
      rdR h_35 a_16 11 1 fun r_36 =>
      nn r_36 fun a_37 =>
      kg h_35 a_37 0 (bd (f_Jx4a65c_clear_da8c8 a_37 h_35) fun _ h_39 =>
      some (0, h_39)))))))))))
set_option maxRecDepth 20000 in
set_option maxHeartbeats 4000000 in
theorem t_X11_purge {Ω : Om} (a0 : Nat) (r1 : Option Nat) (h : AH) (q : Int32 × AH) (hf : f_X11_purge a0 r1 h = some q) : Go Ω M_X11_purge 0 (lv_args 0 [vR Ω (some a0), vR Ω r1]) [] h (some (.int q.1)) q.2 := by
  unfold f_X11_purge at hf
  rw [la_R, la_R, la_0]
  refine go_sub (lv' := [(0, vR Ω (some a0)), (1, vR Ω r1)]) [0, 1] rfl ?_
  refine go_aload_n dX11_purge_0 rfl 0 rfl ?_
  refine go_getR dX11_purge_1 fl_390_0 (fun _ _ => rfl) hf (fun r_1 hf => ?_)
  refine go_aload_n dX11_purge_4 rfl 0 rfl ?_
  refine go_getR dX11_purge_5 fl_388_0 (fun _ _ => rfl) hf (fun r_2 hf => ?_)
  obtain ⟨a_3, rfl, hga_3⟩ := nn_some hf
  have hf := hga_3
  obtain ⟨hk, hf⟩ := kg_some hf
  obtain ⟨z_4, hc, hf⟩ := bd_some hf
  refine go_callV (y2 := M_X6_readName) (c2 := 7) dX11_purge_8 mo_X6_readName ⟨Nat.le_of_ble_eq_true rfl, Nat.le_of_ble_eq_true rfl⟩ na_X6_readName w758 w759 (by decide) rfl w760 hk [] rfl (n_X6_readName (a_3)) rfl (csum (Nat.le_of_ble_eq_true rfl)) (t_X6_readName (a_3) h _ hc) ?_
  obtain ⟨x_6, h_5⟩ := z_4
  obtain ⟨a_7, rfl, hga_7⟩ := nn_some hf
  have hf := hga_7
  obtain ⟨hk, hf⟩ := kg_some hf
  obtain ⟨z_8, hc, hf⟩ := bd_some hf
  refine go_callV (y2 := M_X8_queueNamed) (c2 := 9) dX11_purge_11 mo_X8_queueNamed ⟨Nat.le_of_ble_eq_true rfl, Nat.le_of_ble_eq_true rfl⟩ na_X8_queueNamed w788 w789 (by decide) rfl w790 hk [.long x_6] rfl (n_X8_queueNamed (a_7) x_6) rfl (csum (Nat.le_of_ble_eq_true rfl)) (t_X8_queueNamed (a_7) x_6 h_5 _ hc) ?_
  obtain ⟨r_10, h_9⟩ := z_8
  refine go_astore_n (i := 2) (lv' := [(2, vR Ω r_10), (0, vR Ω (some a0)), (1, vR Ω r1)]) dX11_purge_14 rfl (by decide) (by first | rfl | simp [catR, catI, catJ]) ?_
  refine go_aload_n dX11_purge_15 rfl 1 rfl ?_
  refine go_getR dX11_purge_16 fl_388_0 (fun _ _ => rfl) hf (fun r_11 hf => ?_)
  obtain ⟨a_12, rfl, hga_12⟩ := nn_some hf
  have hf := hga_12
  obtain ⟨hk, hf⟩ := kg_some hf
  obtain ⟨z_13, hc, hf⟩ := bd_some hf
  refine go_callV (y2 := M_X6_isJustRead) (c2 := 7) dX11_purge_19 mo_X6_isJustRead ⟨Nat.le_of_ble_eq_true rfl, Nat.le_of_ble_eq_true rfl⟩ na_X6_isJustRead w474 w475 (by decide) rfl w476 hk [] rfl (n_X6_isJustRead (a_12)) rfl (csum (Nat.le_of_ble_eq_true rfl)) (t_X6_isJustRead (a_12) h_9 _ hc) ?_
  obtain ⟨x_15, h_14⟩ := z_13
  refine go_if_ne (tgt := 29) dX11_purge_22 (by decide) hf (fun hf => ?_) (fun hf => ?_)
  · refine go_aload_n dX11_purge_29 rfl 0 rfl ?_
    refine go_ifnonnull (x := r_10) (tgt := 37) dX11_purge_30 (by decide) hf ?_ ?_
    · rintro rfl hf
      refine go_sipush 404 dX11_purge_33 (by decide) ?_
      exact go_ireturn dX11_purge_36 rfl hf
    · rintro a_16 rfl hf
      refine go_aload_n dX11_purge_37 rfl 1 rfl ?_
      refine go_getR dX11_purge_38 fl_389_0 (fun _ _ => rfl) hf (fun r_17 hf => ?_)
      refine go_aload_n dX11_purge_41 rfl 2 rfl ?_
      obtain ⟨a_18, rfl, hga_18⟩ := nn_some hf
      have hf := hga_18
      refine go_getI dX11_purge_42 fl_349_0 (fun _ _ => rfl) hf (fun x_19 hf => ?_)
      refine go_sipush 12831 dX11_purge_45 (by decide) ?_
      obtain ⟨a_20, rfl, hga_20⟩ := nn_some hf
      have hf := hga_20
      obtain ⟨hk, hf⟩ := kg_some hf
      obtain ⟨z_21, hc, hf⟩ := bd_some hf
      refine go_callV (y2 := M_X9_begin) (c2 := 10) dX11_purge_48 mo_X9_begin ⟨Nat.le_of_ble_eq_true rfl, Nat.le_of_ble_eq_true rfl⟩ na_X9_begin w586 w435 (by decide) rfl w436 hk [.int x_19, .int 12831] rfl (n_X9_begin (a_20) x_19 12831) rfl (csum (Nat.le_of_ble_eq_true rfl)) (t_X9_begin (a_20) x_19 12831 h_14 _ hc) ?_
      obtain ⟨_, h_22⟩ := z_21
      refine go_aload_n dX11_purge_51 rfl 1 rfl ?_
      refine go_getR dX11_purge_52 fl_389_0 (fun _ _ => rfl) hf (fun r_23 hf => ?_)
      refine go_aload_n dX11_purge_55 rfl 0 rfl ?_
      refine go_getR dX11_purge_56 fl_804_0 (fun _ _ => rfl) hf (fun r_24 hf => ?_)
      obtain ⟨a_25, rfl, hga_25⟩ := nn_some hf
      have hf := hga_25
      obtain ⟨hk, hf⟩ := kg_some hf
      obtain ⟨z_26, hc, hf⟩ := bd_some hf
      refine go_callF (y2 := M_Jx4a65c_size_8abf5) (x2 := ⟨"java/util/List", "size", "()I"⟩) dX11_purge_59 mo_Jx4a65c_size_8abf5 ⟨Nat.le_of_ble_eq_true rfl, Nat.le_of_ble_eq_true rfl⟩ na_Jx4a65c_size_8abf5 w517 w522 w520 (by decide) (fun U hU => hU.2.2.2.2.1) hk [] rfl (n_Jx4a65c_size_8abf5 (a_25)) rfl (csum (Nat.le_of_ble_eq_true rfl)) (t_Jx4a65c_size_8abf5 (a_25) h_22 _ hc) ?_
      obtain ⟨x_28, h_27⟩ := z_26
      obtain ⟨a_29, rfl, hga_29⟩ := nn_some hf
      have hf := hga_29
      obtain ⟨hk, hf⟩ := kg_some hf
      obtain ⟨z_30, hc, hf⟩ := bd_some hf
      refine go_callV (y2 := M_X9_put) (c2 := 10) dX11_purge_64 mo_X9_put ⟨Nat.le_of_ble_eq_true rfl, Nat.le_of_ble_eq_true rfl⟩ na_X9_put w749 w439 (by decide) rfl w440 hk [.int x_28] rfl (n_X9_put (a_29) x_28) rfl (csum (Nat.le_of_ble_eq_true rfl)) (t_X9_put (a_29) x_28 h_27 _ hc) ?_
      obtain ⟨_, h_31⟩ := z_30
      refine go_aload_n dX11_purge_67 rfl 1 rfl ?_
      refine go_getR dX11_purge_68 fl_389_0 (fun _ _ => rfl) hf (fun r_32 hf => ?_)
      obtain ⟨a_33, rfl, hga_33⟩ := nn_some hf
      have hf := hga_33
      obtain ⟨hk, hf⟩ := kg_some hf
      obtain ⟨z_34, hc, hf⟩ := bd_some hf
      refine go_callV (y2 := M_X9_end) (c2 := 10) dX11_purge_71 mo_X9_end ⟨Nat.le_of_ble_eq_true rfl, Nat.le_of_ble_eq_true rfl⟩ na_X9_end w595 w443 (by decide) rfl w444 hk [] rfl (n_X9_end (a_33)) rfl (csum (Nat.le_of_ble_eq_true rfl)) (t_X9_end (a_33) h_31 _ hc) ?_
      obtain ⟨_, h_35⟩ := z_34
      refine go_aload_n dX11_purge_74 rfl 0 rfl ?_
      refine go_getR dX11_purge_75 fl_804_0 (fun _ _ => rfl) hf (fun r_36 hf => ?_)
      obtain ⟨a_37, rfl, hga_37⟩ := nn_some hf
      have hf := hga_37
      obtain ⟨hk, hf⟩ := kg_some hf
      obtain ⟨z_38, hc, hf⟩ := bd_some hf
      refine go_callF (y2 := M_Jx4a65c_clear_da8c8) (x2 := ⟨"java/util/List", "clear", "()V"⟩) dX11_purge_78 mo_Jx4a65c_clear_da8c8 ⟨Nat.le_of_ble_eq_true rfl, Nat.le_of_ble_eq_true rfl⟩ na_Jx4a65c_clear_da8c8 w861 w726 w724 (by decide) (fun U hU => hU.2.2.2.2.2.2) hk [] rfl (n_Jx4a65c_clear_da8c8 (a_37)) rfl (csum (Nat.le_of_ble_eq_true rfl)) (t_Jx4a65c_clear_da8c8 (a_37) h_35 _ hc) ?_
      obtain ⟨_, h_39⟩ := z_38
      refine go_iconst 0 dX11_purge_83 rfl ?_
      exact go_ireturn dX11_purge_84 rfl hf
  · refine go_sipush 501 dX11_purge_25 (by decide) ?_
    exact go_ireturn dX11_purge_28 rfl hf
-- LetterBroker.recover(LLetterBroker$Channel;)I
theorem dX11_recover_0 : decode cX11_recover 0 = .ok (.aload_n 0, 1) := by decide +kernel
theorem dX11_recover_1 : decode cX11_recover 1 = .ok (.getfield 10, 3) := by decide +kernel
theorem dX11_recover_4 : decode cX11_recover 4 = .ok (.invokevirtual 132, 3) := by decide +kernel
theorem dX11_recover_7 : decode cX11_recover 7 = .ok (.ifCond .ne 7, 3) := by decide +kernel
theorem dX11_recover_10 : decode cX11_recover 10 = .ok (.sipush 501, 3) := by decide +kernel
theorem dX11_recover_13 : decode cX11_recover 13 = .ok (.ireturn, 1) := by decide +kernel
theorem dX11_recover_14 : decode cX11_recover 14 = .ok (.aload_n 1, 1) := by decide +kernel
theorem dX11_recover_15 : decode cX11_recover 15 = .ok (.invokevirtual 157, 3) := by decide +kernel
theorem dX11_recover_18 : decode cX11_recover 18 = .ok (.aload_n 0, 1) := by decide +kernel
theorem dX11_recover_19 : decode cX11_recover 19 = .ok (.getfield 19, 3) := by decide +kernel
theorem dX11_recover_22 : decode cX11_recover 22 = .ok (.aload_n 1, 1) := by decide +kernel
theorem dX11_recover_23 : decode cX11_recover 23 = .ok (.getfield 145, 3) := by decide +kernel
theorem dX11_recover_26 : decode cX11_recover 26 = .ok (.sipush 15471, 3) := by decide +kernel
theorem dX11_recover_29 : decode cX11_recover 29 = .ok (.invokevirtual 125, 3) := by decide +kernel
theorem dX11_recover_32 : decode cX11_recover 32 = .ok (.iconst 0, 1) := by decide +kernel
theorem dX11_recover_33 : decode cX11_recover 33 = .ok (.ireturn, 1) := by decide +kernel
def f_X11_recover (a0 : Nat) (r1 : Option Nat) (h : AH) : Option (Int32 × AH) := rdR h a0 12 0 fun r_1 =>
  nn r_1 fun a_2 =>
  kg h a_2 7 (bd (f_X6_isJustRead a_2 h) fun x_5 h_4 =>
  (if x_5 = 0 then
    some (501, h_4)
  else
    nn r1 fun a_6 =>
    kg h_4 a_6 2 (bd (f_X1_giveAllBack a_6 h_4) fun _ h_8 =>
    rdR h_8 a0 12 1 fun r_9 =>
    rdI h_8 a_6 2 0 fun x_10 =>
    nn r_9 fun a_11 =>
    kg h_8 a_11 10 (bd (f_X9_tell a_11 x_10 15471 h_8) fun _ h_13 =>
    some (0, h_13)))))
set_option maxRecDepth 20000 in
set_option maxHeartbeats 4000000 in
theorem t_X11_recover {Ω : Om} (a0 : Nat) (r1 : Option Nat) (h : AH) (q : Int32 × AH) (hf : f_X11_recover a0 r1 h = some q) : Go Ω M_X11_recover 0 (lv_args 0 [vR Ω (some a0), vR Ω r1]) [] h (some (.int q.1)) q.2 := by
  unfold f_X11_recover at hf
  rw [la_R, la_R, la_0]
  refine go_sub (lv' := [(0, vR Ω (some a0)), (1, vR Ω r1)]) [0, 1] rfl ?_
  refine go_aload_n dX11_recover_0 rfl 0 rfl ?_
  refine go_getR dX11_recover_1 fl_388_0 (fun _ _ => rfl) hf (fun r_1 hf => ?_)
  obtain ⟨a_2, rfl, hga_2⟩ := nn_some hf
  have hf := hga_2
  obtain ⟨hk, hf⟩ := kg_some hf
  obtain ⟨z_3, hc, hf⟩ := bd_some hf
  refine go_callV (y2 := M_X6_isJustRead) (c2 := 7) dX11_recover_4 mo_X6_isJustRead ⟨Nat.le_of_ble_eq_true rfl, Nat.le_of_ble_eq_true rfl⟩ na_X6_isJustRead w474 w475 (by decide) rfl w476 hk [] rfl (n_X6_isJustRead (a_2)) rfl (csum (Nat.le_of_ble_eq_true rfl)) (t_X6_isJustRead (a_2) h _ hc) ?_
  obtain ⟨x_5, h_4⟩ := z_3
  refine go_if_ne (tgt := 14) dX11_recover_7 (by decide) hf (fun hf => ?_) (fun hf => ?_)
  · refine go_aload_n dX11_recover_14 rfl 1 rfl ?_
    obtain ⟨a_6, rfl, hga_6⟩ := nn_some hf
    have hf := hga_6
    obtain ⟨hk, hf⟩ := kg_some hf
    obtain ⟨z_7, hc, hf⟩ := bd_some hf
    refine go_callV (y2 := M_X1_giveAllBack) (c2 := 2) dX11_recover_15 mo_X1_giveAllBack ⟨Nat.le_of_ble_eq_true rfl, Nat.le_of_ble_eq_true rfl⟩ na_X1_giveAllBack w689 w690 (by decide) rfl w691 hk [] rfl (n_X1_giveAllBack (a_6)) rfl (csum (Nat.le_of_ble_eq_true rfl)) (t_X1_giveAllBack (a_6) h_4 _ hc) ?_
    obtain ⟨_, h_8⟩ := z_7
    refine go_aload_n dX11_recover_18 rfl 0 rfl ?_
    refine go_getR dX11_recover_19 fl_389_0 (fun _ _ => rfl) hf (fun r_9 hf => ?_)
    refine go_aload_n dX11_recover_22 rfl 1 rfl ?_
    refine go_getI dX11_recover_23 fl_349_0 (fun _ _ => rfl) hf (fun x_10 hf => ?_)
    refine go_sipush 15471 dX11_recover_26 (by decide) ?_
    obtain ⟨a_11, rfl, hga_11⟩ := nn_some hf
    have hf := hga_11
    obtain ⟨hk, hf⟩ := kg_some hf
    obtain ⟨z_12, hc, hf⟩ := bd_some hf
    refine go_callV (y2 := M_X9_tell) (c2 := 10) dX11_recover_29 mo_X9_tell ⟨Nat.le_of_ble_eq_true rfl, Nat.le_of_ble_eq_true rfl⟩ na_X9_tell w430 w431 (by decide) rfl w432 hk [.int x_10, .int 15471] rfl (n_X9_tell (a_11) x_10 15471) rfl (csum (Nat.le_of_ble_eq_true rfl)) (t_X9_tell (a_11) x_10 15471 h_8 _ hc) ?_
    obtain ⟨_, h_13⟩ := z_12
    refine go_iconst 0 dX11_recover_32 rfl ?_
    exact go_ireturn dX11_recover_33 rfl hf
  · refine go_sipush 501 dX11_recover_10 (by decide) ?_
    exact go_ireturn dX11_recover_13 rfl hf
-- LetterBroker.refuse(LLetterBroker$Channel;)I
theorem dX11_refuse_0 : decode cX11_refuse 0 = .ok (.aload_n 0, 1) := by decide +kernel
theorem dX11_refuse_1 : decode cX11_refuse 1 = .ok (.getfield 10, 3) := by decide +kernel
theorem dX11_refuse_4 : decode cX11_refuse 4 = .ok (.invokevirtual 189, 3) := by decide +kernel
theorem dX11_refuse_7 : decode cX11_refuse 7 = .ok (.istore_n 2, 1) := by decide +kernel
theorem dX11_refuse_8 : decode cX11_refuse 8 = .ok (.aload_n 0, 1) := by decide +kernel
theorem dX11_refuse_9 : decode cX11_refuse 9 = .ok (.getfield 10, 3) := by decide +kernel
theorem dX11_refuse_12 : decode cX11_refuse 12 = .ok (.invokevirtual 287, 3) := by decide +kernel
theorem dX11_refuse_15 : decode cX11_refuse 15 = .ok (.istore_n 3, 1) := by decide +kernel
theorem dX11_refuse_16 : decode cX11_refuse 16 = .ok (.aload_n 0, 1) := by decide +kernel
theorem dX11_refuse_17 : decode cX11_refuse 17 = .ok (.getfield 10, 3) := by decide +kernel
theorem dX11_refuse_20 : decode cX11_refuse 20 = .ok (.invokevirtual 287, 3) := by decide +kernel
theorem dX11_refuse_23 : decode cX11_refuse 23 = .ok (.istore 4, 2) := by decide +kernel
theorem dX11_refuse_25 : decode cX11_refuse 25 = .ok (.aload_n 0, 1) := by decide +kernel
theorem dX11_refuse_26 : decode cX11_refuse 26 = .ok (.aload_n 1, 1) := by decide +kernel
theorem dX11_refuse_27 : decode cX11_refuse 27 = .ok (.iload_n 2, 1) := by decide +kernel
theorem dX11_refuse_28 : decode cX11_refuse 28 = .ok (.iload_n 3, 1) := by decide +kernel
theorem dX11_refuse_29 : decode cX11_refuse 29 = .ok (.iload 4, 2) := by decide +kernel
theorem dX11_refuse_31 : decode cX11_refuse 31 = .ok (.invokevirtual 463, 3) := by decide +kernel
theorem dX11_refuse_34 : decode cX11_refuse 34 = .ok (.ireturn, 1) := by decide +kernel
def f_X11_refuse (a0 : Nat) (r1 : Option Nat) (h : AH) : Option (Int32 × AH) := rdR h a0 12 0 fun r_1 =>
  nn r_1 fun a_2 =>
  kg h a_2 7 (bd (f_X6_readShort a_2 h) fun x_5 h_4 =>
  rdR h_4 a0 12 0 fun r_6 =>
  nn r_6 fun a_7 =>
  kg h_4 a_7 7 (bd (f_X6_readFlag a_7 h_4) fun x_10 h_9 =>
  rdR h_9 a0 12 0 fun r_11 =>
  nn r_11 fun a_12 =>
  kg h_9 a_12 7 (bd (f_X6_readFlag a_12 h_9) fun x_15 h_14 =>
  kg h_14 a0 12 (bd (f_X11_settle a0 r1 x_5 x_10 x_15 h_14) fun x_18 h_17 =>
  some (x_18, h_17)))))
set_option maxRecDepth 20000 in
set_option maxHeartbeats 4000000 in
theorem t_X11_refuse {Ω : Om} (a0 : Nat) (r1 : Option Nat) (h : AH) (q : Int32 × AH) (hf : f_X11_refuse a0 r1 h = some q) : Go Ω M_X11_refuse 0 (lv_args 0 [vR Ω (some a0), vR Ω r1]) [] h (some (.int q.1)) q.2 := by
  unfold f_X11_refuse at hf
  rw [la_R, la_R, la_0]
  refine go_sub (lv' := [(0, vR Ω (some a0)), (1, vR Ω r1)]) [0, 1] rfl ?_
  refine go_aload_n dX11_refuse_0 rfl 0 rfl ?_
  refine go_getR dX11_refuse_1 fl_388_0 (fun _ _ => rfl) hf (fun r_1 hf => ?_)
  obtain ⟨a_2, rfl, hga_2⟩ := nn_some hf
  have hf := hga_2
  obtain ⟨hk, hf⟩ := kg_some hf
  obtain ⟨z_3, hc, hf⟩ := bd_some hf
  refine go_callV (y2 := M_X6_readShort) (c2 := 7) dX11_refuse_4 mo_X6_readShort ⟨Nat.le_of_ble_eq_true rfl, Nat.le_of_ble_eq_true rfl⟩ na_X6_readShort w466 w467 (by decide) rfl w468 hk [] rfl (n_X6_readShort (a_2)) rfl (csum (Nat.le_of_ble_eq_true rfl)) (t_X6_readShort (a_2) h _ hc) ?_
  obtain ⟨x_5, h_4⟩ := z_3
  refine go_istore_n (i := 2) (lv' := [(2, .int x_5), (0, vR Ω (some a0)), (1, vR Ω r1)]) dX11_refuse_7 rfl (by decide) (by first | rfl | simp [catR, catI, catJ]) ?_
  refine go_aload_n dX11_refuse_8 rfl 1 rfl ?_
  refine go_getR dX11_refuse_9 fl_388_0 (fun _ _ => rfl) hf (fun r_6 hf => ?_)
  obtain ⟨a_7, rfl, hga_7⟩ := nn_some hf
  have hf := hga_7
  obtain ⟨hk, hf⟩ := kg_some hf
  obtain ⟨z_8, hc, hf⟩ := bd_some hf
  refine go_callV (y2 := M_X6_readFlag) (c2 := 7) dX11_refuse_12 mo_X6_readFlag ⟨Nat.le_of_ble_eq_true rfl, Nat.le_of_ble_eq_true rfl⟩ na_X6_readFlag w762 w763 (by decide) rfl w764 hk [] rfl (n_X6_readFlag (a_7)) rfl (csum (Nat.le_of_ble_eq_true rfl)) (t_X6_readFlag (a_7) h_4 _ hc) ?_
  obtain ⟨x_10, h_9⟩ := z_8
  refine go_istore_n (i := 3) (lv' := [(3, .int x_10), (2, .int x_5), (0, vR Ω (some a0)), (1, vR Ω r1)]) dX11_refuse_15 rfl (by decide) (by first | rfl | simp [catR, catI, catJ]) ?_
  refine go_aload_n dX11_refuse_16 rfl 2 rfl ?_
  refine go_getR dX11_refuse_17 fl_388_0 (fun _ _ => rfl) hf (fun r_11 hf => ?_)
  obtain ⟨a_12, rfl, hga_12⟩ := nn_some hf
  have hf := hga_12
  obtain ⟨hk, hf⟩ := kg_some hf
  obtain ⟨z_13, hc, hf⟩ := bd_some hf
  refine go_callV (y2 := M_X6_readFlag) (c2 := 7) dX11_refuse_20 mo_X6_readFlag ⟨Nat.le_of_ble_eq_true rfl, Nat.le_of_ble_eq_true rfl⟩ na_X6_readFlag w762 w763 (by decide) rfl w764 hk [] rfl (n_X6_readFlag (a_12)) rfl (csum (Nat.le_of_ble_eq_true rfl)) (t_X6_readFlag (a_12) h_9 _ hc) ?_
  obtain ⟨x_15, h_14⟩ := z_13
  refine go_istore (i := 4) (lv' := [(4, .int x_15), (3, .int x_10), (2, .int x_5), (0, vR Ω (some a0)), (1, vR Ω r1)]) dX11_refuse_23 (by decide) (by first | rfl | simp [catR, catI, catJ]) ?_
  refine go_aload_n dX11_refuse_25 rfl 3 rfl ?_
  refine go_aload_n dX11_refuse_26 rfl 4 rfl ?_
  refine go_iload_n dX11_refuse_27 rfl 2 rfl ?_
  refine go_iload_n dX11_refuse_28 rfl 1 rfl ?_
  refine go_iload dX11_refuse_29 0 rfl ?_
  obtain ⟨hk, hf⟩ := kg_some hf
  obtain ⟨z_16, hc, hf⟩ := bd_some hf
  refine go_callV (y2 := M_X11_settle) (c2 := 12) dX11_refuse_31 mo_X11_settle ⟨Nat.le_of_ble_eq_true rfl, Nat.le_of_ble_eq_true rfl⟩ na_X11_settle w994 w996 (by decide) rfl w37 hk [vR Ω r1, .int x_5, .int x_10, .int x_15] rfl (n_X11_settle (a0) r1 x_5 x_10 x_15) rfl (csum (Nat.le_of_ble_eq_true rfl)) (t_X11_settle (a0) r1 x_5 x_10 x_15 h_14 _ hc) ?_
  obtain ⟨x_18, h_17⟩ := z_16
  exact go_ireturn dX11_refuse_34 rfl hf
-- LetterBroker.reject(LLetterBroker$Channel;)I
theorem dX11_reject_0 : decode cX11_reject 0 = .ok (.aload_n 0, 1) := by decide +kernel
theorem dX11_reject_1 : decode cX11_reject 1 = .ok (.getfield 10, 3) := by decide +kernel
theorem dX11_reject_4 : decode cX11_reject 4 = .ok (.invokevirtual 189, 3) := by decide +kernel
theorem dX11_reject_7 : decode cX11_reject 7 = .ok (.istore_n 2, 1) := by decide +kernel
theorem dX11_reject_8 : decode cX11_reject 8 = .ok (.aload_n 0, 1) := by decide +kernel
theorem dX11_reject_9 : decode cX11_reject 9 = .ok (.getfield 10, 3) := by decide +kernel
theorem dX11_reject_12 : decode cX11_reject 12 = .ok (.invokevirtual 287, 3) := by decide +kernel
theorem dX11_reject_15 : decode cX11_reject 15 = .ok (.istore_n 3, 1) := by decide +kernel
theorem dX11_reject_16 : decode cX11_reject 16 = .ok (.aload_n 0, 1) := by decide +kernel
theorem dX11_reject_17 : decode cX11_reject 17 = .ok (.aload_n 1, 1) := by decide +kernel
theorem dX11_reject_18 : decode cX11_reject 18 = .ok (.iload_n 2, 1) := by decide +kernel
theorem dX11_reject_19 : decode cX11_reject 19 = .ok (.iconst 0, 1) := by decide +kernel
theorem dX11_reject_20 : decode cX11_reject 20 = .ok (.iload_n 3, 1) := by decide +kernel
theorem dX11_reject_21 : decode cX11_reject 21 = .ok (.invokevirtual 463, 3) := by decide +kernel
theorem dX11_reject_24 : decode cX11_reject 24 = .ok (.ireturn, 1) := by decide +kernel
def f_X11_reject (a0 : Nat) (r1 : Option Nat) (h : AH) : Option (Int32 × AH) := rdR h a0 12 0 fun r_1 =>
  nn r_1 fun a_2 =>
  kg h a_2 7 (bd (f_X6_readShort a_2 h) fun x_5 h_4 =>
  rdR h_4 a0 12 0 fun r_6 =>
  nn r_6 fun a_7 =>
  kg h_4 a_7 7 (bd (f_X6_readFlag a_7 h_4) fun x_10 h_9 =>
  kg h_9 a0 12 (bd (f_X11_settle a0 r1 x_5 0 x_10 h_9) fun x_13 h_12 =>
  some (x_13, h_12))))
set_option maxRecDepth 20000 in
set_option maxHeartbeats 4000000 in
theorem t_X11_reject {Ω : Om} (a0 : Nat) (r1 : Option Nat) (h : AH) (q : Int32 × AH) (hf : f_X11_reject a0 r1 h = some q) : Go Ω M_X11_reject 0 (lv_args 0 [vR Ω (some a0), vR Ω r1]) [] h (some (.int q.1)) q.2 := by
  unfold f_X11_reject at hf
  rw [la_R, la_R, la_0]
  refine go_sub (lv' := [(0, vR Ω (some a0)), (1, vR Ω r1)]) [0, 1] rfl ?_
  refine go_aload_n dX11_reject_0 rfl 0 rfl ?_
  refine go_getR dX11_reject_1 fl_388_0 (fun _ _ => rfl) hf (fun r_1 hf => ?_)
  obtain ⟨a_2, rfl, hga_2⟩ := nn_some hf
  have hf := hga_2
  obtain ⟨hk, hf⟩ := kg_some hf
  obtain ⟨z_3, hc, hf⟩ := bd_some hf
  refine go_callV (y2 := M_X6_readShort) (c2 := 7) dX11_reject_4 mo_X6_readShort ⟨Nat.le_of_ble_eq_true rfl, Nat.le_of_ble_eq_true rfl⟩ na_X6_readShort w466 w467 (by decide) rfl w468 hk [] rfl (n_X6_readShort (a_2)) rfl (csum (Nat.le_of_ble_eq_true rfl)) (t_X6_readShort (a_2) h _ hc) ?_
  obtain ⟨x_5, h_4⟩ := z_3
  refine go_istore_n (i := 2) (lv' := [(2, .int x_5), (0, vR Ω (some a0)), (1, vR Ω r1)]) dX11_reject_7 rfl (by decide) (by first | rfl | simp [catR, catI, catJ]) ?_
  refine go_aload_n dX11_reject_8 rfl 1 rfl ?_
  refine go_getR dX11_reject_9 fl_388_0 (fun _ _ => rfl) hf (fun r_6 hf => ?_)
  obtain ⟨a_7, rfl, hga_7⟩ := nn_some hf
  have hf := hga_7
  obtain ⟨hk, hf⟩ := kg_some hf
  obtain ⟨z_8, hc, hf⟩ := bd_some hf
  refine go_callV (y2 := M_X6_readFlag) (c2 := 7) dX11_reject_12 mo_X6_readFlag ⟨Nat.le_of_ble_eq_true rfl, Nat.le_of_ble_eq_true rfl⟩ na_X6_readFlag w762 w763 (by decide) rfl w764 hk [] rfl (n_X6_readFlag (a_7)) rfl (csum (Nat.le_of_ble_eq_true rfl)) (t_X6_readFlag (a_7) h_4 _ hc) ?_
  obtain ⟨x_10, h_9⟩ := z_8
  refine go_istore_n (i := 3) (lv' := [(3, .int x_10), (2, .int x_5), (0, vR Ω (some a0)), (1, vR Ω r1)]) dX11_reject_15 rfl (by decide) (by first | rfl | simp [catR, catI, catJ]) ?_
  refine go_aload_n dX11_reject_16 rfl 2 rfl ?_
  refine go_aload_n dX11_reject_17 rfl 3 rfl ?_
  refine go_iload_n dX11_reject_18 rfl 1 rfl ?_
  refine go_iconst 0 dX11_reject_19 rfl ?_
  refine go_iload_n dX11_reject_20 rfl 0 rfl ?_
  obtain ⟨hk, hf⟩ := kg_some hf
  obtain ⟨z_11, hc, hf⟩ := bd_some hf
  refine go_callV (y2 := M_X11_settle) (c2 := 12) dX11_reject_21 mo_X11_settle ⟨Nat.le_of_ble_eq_true rfl, Nat.le_of_ble_eq_true rfl⟩ na_X11_settle w994 w996 (by decide) rfl w37 hk [vR Ω r1, .int x_5, .int 0, .int x_10] rfl (n_X11_settle (a0) r1 x_5 0 x_10) rfl (csum (Nat.le_of_ble_eq_true rfl)) (t_X11_settle (a0) r1 x_5 0 x_10 h_9 _ hc) ?_
  obtain ⟨x_13, h_12⟩ := z_11
  exact go_ireturn dX11_reject_24 rfl hf
-- LetterBroker.rollBack(LLetterBroker$Channel;)I
theorem dX11_rollBack_0 : decode cX11_rollBack 0 = .ok (.aload_n 0, 1) := by decide +kernel
theorem dX11_rollBack_1 : decode cX11_rollBack 1 = .ok (.getfield 10, 3) := by decide +kernel
theorem dX11_rollBack_4 : decode cX11_rollBack 4 = .ok (.invokevirtual 132, 3) := by decide +kernel
theorem dX11_rollBack_7 : decode cX11_rollBack 7 = .ok (.ifCond .ne 7, 3) := by decide +kernel
theorem dX11_rollBack_10 : decode cX11_rollBack 10 = .ok (.sipush 501, 3) := by decide +kernel
theorem dX11_rollBack_13 : decode cX11_rollBack 13 = .ok (.ireturn, 1) := by decide +kernel
theorem dX11_rollBack_14 : decode cX11_rollBack 14 = .ok (.aload_n 1, 1) := by decide +kernel
theorem dX11_rollBack_15 : decode cX11_rollBack 15 = .ok (.getfield 373, 3) := by decide +kernel
theorem dX11_rollBack_18 : decode cX11_rollBack 18 = .ok (.ifCond .ne 7, 3) := by decide +kernel
theorem dX11_rollBack_21 : decode cX11_rollBack 21 = .ok (.sipush 406, 3) := by decide +kernel
theorem dX11_rollBack_24 : decode cX11_rollBack 24 = .ok (.ireturn, 1) := by decide +kernel
theorem dX11_rollBack_25 : decode cX11_rollBack 25 = .ok (.aload_n 1, 1) := by decide +kernel
theorem dX11_rollBack_26 : decode cX11_rollBack 26 = .ok (.getfield 94, 3) := by decide +kernel
theorem dX11_rollBack_29 : decode cX11_rollBack 29 = .ok (.invokeinterface 343 1, 5) := by decide +kernel
theorem dX11_rollBack_34 : decode cX11_rollBack 34 = .ok (.aload_n 0, 1) := by decide +kernel
theorem dX11_rollBack_35 : decode cX11_rollBack 35 = .ok (.getfield 19, 3) := by decide +kernel
theorem dX11_rollBack_38 : decode cX11_rollBack 38 = .ok (.aload_n 1, 1) := by decide +kernel
theorem dX11_rollBack_39 : decode cX11_rollBack 39 = .ok (.getfield 145, 3) := by decide +kernel
theorem dX11_rollBack_42 : decode cX11_rollBack 42 = .ok (.sipush 23071, 3) := by decide +kernel
theorem dX11_rollBack_45 : decode cX11_rollBack 45 = .ok (.invokevirtual 125, 3) := by decide +kernel
theorem dX11_rollBack_48 : decode cX11_rollBack 48 = .ok (.iconst 0, 1) := by decide +kernel
theorem dX11_rollBack_49 : decode cX11_rollBack 49 = .ok (.ireturn, 1) := by decide +kernel
def f_X11_rollBack (a0 : Nat) (r1 : Option Nat) (h : AH) : Option (Int32 × AH) := rdR h a0 12 0 fun r_1 =>
  nn r_1 fun a_2 =>
  kg h a_2 7 (bd (f_X6_isJustRead a_2 h) fun x_5 h_4 =>
  (if x_5 = 0 then
    some (501, h_4)
  else
    nn r1 fun a_6 =>
    rdI h_4 a_6 2 6 fun x_7 =>
    (if x_7 = 0 then
      some (406, h_4)
    else
      rdR h_4 a_6 2 2 fun r_8 =>
      nn r_8 fun a_9 =>
      kg h_4 a_9 0 (bd (f_Jx4a65c_clear_da8c8 a_9 h_4) fun _ h_11 =>
      rdR h_11 a0 12 1 fun r_12 =>
      rdI h_11 a_6 2 0 fun x_13 =>
      nn r_12 fun a_14 =>
      kg h_11 a_14 10 (bd (f_X9_tell a_14 x_13 23071 h_11) fun _ h_16 =>
      some (0, h_16))))))
set_option maxRecDepth 20000 in
set_option maxHeartbeats 4000000 in
theorem t_X11_rollBack {Ω : Om} (a0 : Nat) (r1 : Option Nat) (h : AH) (q : Int32 × AH) (hf : f_X11_rollBack a0 r1 h = some q) : Go Ω M_X11_rollBack 0 (lv_args 0 [vR Ω (some a0), vR Ω r1]) [] h (some (.int q.1)) q.2 := by
  unfold f_X11_rollBack at hf
  rw [la_R, la_R, la_0]
  refine go_sub (lv' := [(0, vR Ω (some a0)), (1, vR Ω r1)]) [0, 1] rfl ?_
  refine go_aload_n dX11_rollBack_0 rfl 0 rfl ?_
  refine go_getR dX11_rollBack_1 fl_388_0 (fun _ _ => rfl) hf (fun r_1 hf => ?_)
  obtain ⟨a_2, rfl, hga_2⟩ := nn_some hf
  have hf := hga_2
  obtain ⟨hk, hf⟩ := kg_some hf
  obtain ⟨z_3, hc, hf⟩ := bd_some hf
  refine go_callV (y2 := M_X6_isJustRead) (c2 := 7) dX11_rollBack_4 mo_X6_isJustRead ⟨Nat.le_of_ble_eq_true rfl, Nat.le_of_ble_eq_true rfl⟩ na_X6_isJustRead w474 w475 (by decide) rfl w476 hk [] rfl (n_X6_isJustRead (a_2)) rfl (csum (Nat.le_of_ble_eq_true rfl)) (t_X6_isJustRead (a_2) h _ hc) ?_
  obtain ⟨x_5, h_4⟩ := z_3
  refine go_if_ne (tgt := 14) dX11_rollBack_7 (by decide) hf (fun hf => ?_) (fun hf => ?_)
  · refine go_aload_n dX11_rollBack_14 rfl 1 rfl ?_
    obtain ⟨a_6, rfl, hga_6⟩ := nn_some hf
    have hf := hga_6
    refine go_getI dX11_rollBack_15 fl_364_0 (fun _ _ => rfl) hf (fun x_7 hf => ?_)
    refine go_if_ne (tgt := 25) dX11_rollBack_18 (by decide) hf (fun hf => ?_) (fun hf => ?_)
    · refine go_aload_n dX11_rollBack_25 rfl 1 rfl ?_
      refine go_getR dX11_rollBack_26 fl_354_0 (fun _ _ => rfl) hf (fun r_8 hf => ?_)
      obtain ⟨a_9, rfl, hga_9⟩ := nn_some hf
      have hf := hga_9
      obtain ⟨hk, hf⟩ := kg_some hf
      obtain ⟨z_10, hc, hf⟩ := bd_some hf
      refine go_callF (y2 := M_Jx4a65c_clear_da8c8) (x2 := ⟨"java/util/List", "clear", "()V"⟩) dX11_rollBack_29 mo_Jx4a65c_clear_da8c8 ⟨Nat.le_of_ble_eq_true rfl, Nat.le_of_ble_eq_true rfl⟩ na_Jx4a65c_clear_da8c8 w861 w726 w724 (by decide) (fun U hU => hU.2.2.2.2.2.2) hk [] rfl (n_Jx4a65c_clear_da8c8 (a_9)) rfl (csum (Nat.le_of_ble_eq_true rfl)) (t_Jx4a65c_clear_da8c8 (a_9) h_4 _ hc) ?_
      obtain ⟨_, h_11⟩ := z_10
      refine go_aload_n dX11_rollBack_34 rfl 0 rfl ?_
      refine go_getR dX11_rollBack_35 fl_389_0 (fun _ _ => rfl) hf (fun r_12 hf => ?_)
      refine go_aload_n dX11_rollBack_38 rfl 1 rfl ?_
      refine go_getI dX11_rollBack_39 fl_349_0 (fun _ _ => rfl) hf (fun x_13 hf => ?_)
      refine go_sipush 23071 dX11_rollBack_42 (by decide) ?_
      obtain ⟨a_14, rfl, hga_14⟩ := nn_some hf
      have hf := hga_14
      obtain ⟨hk, hf⟩ := kg_some hf
      obtain ⟨z_15, hc, hf⟩ := bd_some hf
      refine go_callV (y2 := M_X9_tell) (c2 := 10) dX11_rollBack_45 mo_X9_tell ⟨Nat.le_of_ble_eq_true rfl, Nat.le_of_ble_eq_true rfl⟩ na_X9_tell w430 w431 (by decide) rfl w432 hk [.int x_13, .int 23071] rfl (n_X9_tell (a_14) x_13 23071) rfl (csum (Nat.le_of_ble_eq_true rfl)) (t_X9_tell (a_14) x_13 23071 h_11 _ hc) ?_
      obtain ⟨_, h_16⟩ := z_15
      refine go_iconst 0 dX11_rollBack_48 rfl ?_
      exact go_ireturn dX11_rollBack_49 rfl hf
    · refine go_sipush 406 dX11_rollBack_21 (by decide) ?_
      exact go_ireturn dX11_rollBack_24 rfl hf
  · refine go_sipush 501 dX11_rollBack_10 (by decide) ?_
    exact go_ireturn dX11_rollBack_13 rfl hf
-- LetterBroker.setFlow(LLetterBroker$Channel;)I
theorem dX11_setFlow_0 : decode cX11_setFlow 0 = .ok (.aload_n 0, 1) := by decide +kernel
theorem dX11_setFlow_1 : decode cX11_setFlow 1 = .ok (.getfield 10, 3) := by decide +kernel
theorem dX11_setFlow_4 : decode cX11_setFlow 4 = .ok (.invokevirtual 265, 3) := by decide +kernel
theorem dX11_setFlow_7 : decode cX11_setFlow 7 = .ok (.istore_n 2, 1) := by decide +kernel
theorem dX11_setFlow_8 : decode cX11_setFlow 8 = .ok (.aload_n 0, 1) := by decide +kernel
theorem dX11_setFlow_9 : decode cX11_setFlow 9 = .ok (.getfield 10, 3) := by decide +kernel
theorem dX11_setFlow_12 : decode cX11_setFlow 12 = .ok (.invokevirtual 132, 3) := by decide +kernel
theorem dX11_setFlow_15 : decode cX11_setFlow 15 = .ok (.ifCond .ne 7, 3) := by decide +kernel
theorem dX11_setFlow_18 : decode cX11_setFlow 18 = .ok (.sipush 501, 3) := by decide +kernel
theorem dX11_setFlow_21 : decode cX11_setFlow 21 = .ok (.ireturn, 1) := by decide +kernel
theorem dX11_setFlow_22 : decode cX11_setFlow 22 = .ok (.aload_n 1, 1) := by decide +kernel
theorem dX11_setFlow_23 : decode cX11_setFlow 23 = .ok (.iload_n 2, 1) := by decide +kernel
theorem dX11_setFlow_24 : decode cX11_setFlow 24 = .ok (.ifCond .eq 7, 3) := by decide +kernel
theorem dX11_setFlow_27 : decode cX11_setFlow 27 = .ok (.iconst 1, 1) := by decide +kernel
theorem dX11_setFlow_28 : decode cX11_setFlow 28 = .ok (.goto 4, 3) := by decide +kernel
theorem dX11_setFlow_31 : decode cX11_setFlow 31 = .ok (.iconst 0, 1) := by decide +kernel
theorem dX11_setFlow_32 : decode cX11_setFlow 32 = .ok (.putfield 268, 3) := by decide +kernel
theorem dX11_setFlow_35 : decode cX11_setFlow 35 = .ok (.aload_n 0, 1) := by decide +kernel
theorem dX11_setFlow_36 : decode cX11_setFlow 36 = .ok (.getfield 19, 3) := by decide +kernel
theorem dX11_setFlow_39 : decode cX11_setFlow 39 = .ok (.aload_n 1, 1) := by decide +kernel
theorem dX11_setFlow_40 : decode cX11_setFlow 40 = .ok (.getfield 145, 3) := by decide +kernel
theorem dX11_setFlow_43 : decode cX11_setFlow 43 = .ok (.sipush 5141, 3) := by decide +kernel
theorem dX11_setFlow_46 : decode cX11_setFlow 46 = .ok (.invokevirtual 272, 3) := by decide +kernel
theorem dX11_setFlow_49 : decode cX11_setFlow 49 = .ok (.aload_n 0, 1) := by decide +kernel
theorem dX11_setFlow_50 : decode cX11_setFlow 50 = .ok (.getfield 19, 3) := by decide +kernel
theorem dX11_setFlow_53 : decode cX11_setFlow 53 = .ok (.iload_n 2, 1) := by decide +kernel
theorem dX11_setFlow_54 : decode cX11_setFlow 54 = .ok (.invokevirtual 274, 3) := by decide +kernel
theorem dX11_setFlow_57 : decode cX11_setFlow 57 = .ok (.aload_n 0, 1) := by decide +kernel
theorem dX11_setFlow_58 : decode cX11_setFlow 58 = .ok (.getfield 19, 3) := by decide +kernel
theorem dX11_setFlow_61 : decode cX11_setFlow 61 = .ok (.invokevirtual 277, 3) := by decide +kernel
theorem dX11_setFlow_64 : decode cX11_setFlow 64 = .ok (.iconst 0, 1) := by decide +kernel
theorem dX11_setFlow_65 : decode cX11_setFlow 65 = .ok (.ireturn, 1) := by decide +kernel
def f_X11_setFlow_32 (a0 : Nat) (r1 : Option Nat) (x2 : Int32) (s0 : Int32) (s1 : Option Nat) (h : AH) : Option (Int32 × AH) := nn s1 fun a_1 =>
  wrZ h a_1 2 5 s0 fun h_2 =>
  rdR h_2 a0 12 1 fun r_3 =>
  nn r1 fun a_4 =>
  rdI h_2 a_4 2 0 fun x_5 =>
  nn r_3 fun a_6 =>
  kg h_2 a_6 10 (bd (f_X9_begin a_6 x_5 5141 h_2) fun _ h_8 =>
  rdR h_8 a0 12 1 fun r_9 =>
  nn r_9 fun a_10 =>
  kg h_8 a_10 10 (bd (f_X9_put a_10 x2 h_8) fun _ h_12 =>
  rdR h_12 a0 12 1 fun r_13 =>
  nn r_13 fun a_14 =>
  kg h_12 a_14 10 (bd (f_X9_end a_14 h_12) fun _ h_16 =>
  some (0, h_16))))
set_option maxRecDepth 20000 in
set_option maxHeartbeats 4000000 in
theorem t_X11_setFlow_32 {Ω : Om} (a0 : Nat) (r1 : Option Nat) (x2 : Int32) (s0 : Int32) (s1 : Option Nat) (h : AH) (q : Int32 × AH) (hf : f_X11_setFlow_32 a0 r1 x2 s0 s1 h = some q) : Go Ω M_X11_setFlow 32 [(0, vR Ω (some a0)), (1, vR Ω r1), (2, .int x2)] [.int s0, vR Ω s1] h (some (.int q.1)) q.2 := by
  unfold f_X11_setFlow_32 at hf
  obtain ⟨a_1, rfl, hga_1⟩ := nn_some hf
  have hf := hga_1
  refine go_putZ dX11_setFlow_32 fl_362_0 (fun q hq => by cases hq; exact Or.inl rfl) (fun _ _ => rfl) rfl hf (fun h_2 hf => ?_)
  refine go_aload_n dX11_setFlow_35 rfl 0 rfl ?_
  refine go_getR dX11_setFlow_36 fl_389_0 (fun _ _ => rfl) hf (fun r_3 hf => ?_)
  refine go_aload_n dX11_setFlow_39 rfl 1 rfl ?_
  obtain ⟨a_4, rfl, hga_4⟩ := nn_some hf
  have hf := hga_4
  refine go_getI dX11_setFlow_40 fl_349_0 (fun _ _ => rfl) hf (fun x_5 hf => ?_)
  refine go_sipush 5141 dX11_setFlow_43 (by decide) ?_
  obtain ⟨a_6, rfl, hga_6⟩ := nn_some hf
  have hf := hga_6
  obtain ⟨hk, hf⟩ := kg_some hf
  obtain ⟨z_7, hc, hf⟩ := bd_some hf
  refine go_callV (y2 := M_X9_begin) (c2 := 10) dX11_setFlow_46 mo_X9_begin ⟨Nat.le_of_ble_eq_true rfl, Nat.le_of_ble_eq_true rfl⟩ na_X9_begin w586 w435 (by decide) rfl w436 hk [.int x_5, .int 5141] rfl (n_X9_begin (a_6) x_5 5141) rfl (csum (Nat.le_of_ble_eq_true rfl)) (t_X9_begin (a_6) x_5 5141 h_2 _ hc) ?_
  obtain ⟨_, h_8⟩ := z_7
  refine go_aload_n dX11_setFlow_49 rfl 0 rfl ?_
  refine go_getR dX11_setFlow_50 fl_389_0 (fun _ _ => rfl) hf (fun r_9 hf => ?_)
  refine go_iload_n dX11_setFlow_53 rfl 2 rfl ?_
  obtain ⟨a_10, rfl, hga_10⟩ := nn_some hf
  have hf := hga_10
  obtain ⟨hk, hf⟩ := kg_some hf
  obtain ⟨z_11, hc, hf⟩ := bd_some hf
  refine go_callV (y2 := M_X9_put) (c2 := 10) dX11_setFlow_54 mo_X9_put ⟨Nat.le_of_ble_eq_true rfl, Nat.le_of_ble_eq_true rfl⟩ na_X9_put w749 w439 (by decide) rfl w440 hk [.int x2] rfl (n_X9_put (a_10) x2) rfl (csum (Nat.le_of_ble_eq_true rfl)) (t_X9_put (a_10) x2 h_8 _ hc) ?_
  obtain ⟨_, h_12⟩ := z_11
  refine go_aload_n dX11_setFlow_57 rfl 0 rfl ?_
  refine go_getR dX11_setFlow_58 fl_389_0 (fun _ _ => rfl) hf (fun r_13 hf => ?_)
  obtain ⟨a_14, rfl, hga_14⟩ := nn_some hf
  have hf := hga_14
  obtain ⟨hk, hf⟩ := kg_some hf
  obtain ⟨z_15, hc, hf⟩ := bd_some hf
  refine go_callV (y2 := M_X9_end) (c2 := 10) dX11_setFlow_61 mo_X9_end ⟨Nat.le_of_ble_eq_true rfl, Nat.le_of_ble_eq_true rfl⟩ na_X9_end w595 w443 (by decide) rfl w444 hk [] rfl (n_X9_end (a_14)) rfl (csum (Nat.le_of_ble_eq_true rfl)) (t_X9_end (a_14) h_12 _ hc) ?_
  obtain ⟨_, h_16⟩ := z_15
  refine go_iconst 0 dX11_setFlow_64 rfl ?_
  exact go_ireturn dX11_setFlow_65 rfl hf
def f_X11_setFlow (a0 : Nat) (r1 : Option Nat) (h : AH) : Option (Int32 × AH) := rdR h a0 12 0 fun r_1 =>
  nn r_1 fun a_2 =>
  kg h a_2 7 (bd (f_X6_readByte a_2 h) fun x_5 h_4 =>
  rdR h_4 a0 12 0 fun r_6 =>
  nn r_6 fun a_7 =>
  kg h_4 a_7 7 (bd (f_X6_isJustRead a_7 h_4) fun x_10 h_9 =>
  (if x_10 = 0 then
    some (501, h_9)
  else
    (if x_5 = 0 then
      f_X11_setFlow_32 a0 r1 x_5 0 r1 h_9
    else
      f_X11_setFlow_32 a0 r1 x_5 1 r1 h_9))))
set_option maxRecDepth 20000 in
set_option maxHeartbeats 4000000 in
theorem t_X11_setFlow {Ω : Om} (a0 : Nat) (r1 : Option Nat) (h : AH) (q : Int32 × AH) (hf : f_X11_setFlow a0 r1 h = some q) : Go Ω M_X11_setFlow 0 (lv_args 0 [vR Ω (some a0), vR Ω r1]) [] h (some (.int q.1)) q.2 := by
  unfold f_X11_setFlow at hf
  rw [la_R, la_R, la_0]
  refine go_sub (lv' := [(0, vR Ω (some a0)), (1, vR Ω r1)]) [0, 1] rfl ?_
  refine go_aload_n dX11_setFlow_0 rfl 0 rfl ?_
  refine go_getR dX11_setFlow_1 fl_388_0 (fun _ _ => rfl) hf (fun r_1 hf => ?_)
  obtain ⟨a_2, rfl, hga_2⟩ := nn_some hf
  have hf := hga_2
  obtain ⟨hk, hf⟩ := kg_some hf
  obtain ⟨z_3, hc, hf⟩ := bd_some hf
  refine go_callV (y2 := M_X6_readByte) (c2 := 7) dX11_setFlow_4 mo_X6_readByte ⟨Nat.le_of_ble_eq_true rfl, Nat.le_of_ble_eq_true rfl⟩ na_X6_readByte w486 w471 (by decide) rfl w472 hk [] rfl (n_X6_readByte (a_2)) rfl (csum (Nat.le_of_ble_eq_true rfl)) (t_X6_readByte (a_2) h _ hc) ?_
  obtain ⟨x_5, h_4⟩ := z_3
  refine go_istore_n (i := 2) (lv' := [(2, .int x_5), (0, vR Ω (some a0)), (1, vR Ω r1)]) dX11_setFlow_7 rfl (by decide) (by first | rfl | simp [catR, catI, catJ]) ?_
  refine go_aload_n dX11_setFlow_8 rfl 1 rfl ?_
  refine go_getR dX11_setFlow_9 fl_388_0 (fun _ _ => rfl) hf (fun r_6 hf => ?_)
  obtain ⟨a_7, rfl, hga_7⟩ := nn_some hf
  have hf := hga_7
  obtain ⟨hk, hf⟩ := kg_some hf
  obtain ⟨z_8, hc, hf⟩ := bd_some hf
  refine go_callV (y2 := M_X6_isJustRead) (c2 := 7) dX11_setFlow_12 mo_X6_isJustRead ⟨Nat.le_of_ble_eq_true rfl, Nat.le_of_ble_eq_true rfl⟩ na_X6_isJustRead w474 w475 (by decide) rfl w476 hk [] rfl (n_X6_isJustRead (a_7)) rfl (csum (Nat.le_of_ble_eq_true rfl)) (t_X6_isJustRead (a_7) h_4 _ hc) ?_
  obtain ⟨x_10, h_9⟩ := z_8
  refine go_if_ne (tgt := 22) dX11_setFlow_15 (by decide) hf (fun hf => ?_) (fun hf => ?_)
  · refine go_aload_n dX11_setFlow_22 rfl 2 rfl ?_
    refine go_iload_n dX11_setFlow_23 rfl 0 rfl ?_
    refine go_if_eq (tgt := 31) dX11_setFlow_24 (by decide) hf (fun hf => ?_) (fun hf => ?_)
    · refine go_iconst 0 dX11_setFlow_31 rfl ?_
      refine go_sub (lv' := [(0, vR Ω (some a0)), (1, vR Ω r1), (2, .int x_5)]) [1, 2, 0] rfl ?_
      exact t_X11_setFlow_32 a0 r1 x_5 0 r1 h_9 q hf
    · refine go_iconst 1 dX11_setFlow_27 rfl ?_
      refine go_goto (tgt := 32) dX11_setFlow_28 (by decide) ?_
      refine go_sub (lv' := [(0, vR Ω (some a0)), (1, vR Ω r1), (2, .int x_5)]) [1, 2, 0] rfl ?_
      exact t_X11_setFlow_32 a0 r1 x_5 1 r1 h_9 q hf
  · refine go_sipush 501 dX11_setFlow_18 (by decide) ?_
    exact go_ireturn dX11_setFlow_21 rfl hf
-- LetterBroker.setLimit(LLetterBroker$Channel;)I
theorem dX11_setLimit_0 : decode cX11_setLimit 0 = .ok (.aload_n 0, 1) := by decide +kernel
theorem dX11_setLimit_1 : decode cX11_setLimit 1 = .ok (.getfield 10, 3) := by decide +kernel
theorem dX11_setLimit_4 : decode cX11_setLimit 4 = .ok (.invokevirtual 265, 3) := by decide +kernel
theorem dX11_setLimit_7 : decode cX11_setLimit 7 = .ok (.istore_n 2, 1) := by decide +kernel
theorem dX11_setLimit_8 : decode cX11_setLimit 8 = .ok (.aload_n 0, 1) := by decide +kernel
theorem dX11_setLimit_9 : decode cX11_setLimit 9 = .ok (.getfield 10, 3) := by decide +kernel
theorem dX11_setLimit_12 : decode cX11_setLimit 12 = .ok (.invokevirtual 132, 3) := by decide +kernel
theorem dX11_setLimit_15 : decode cX11_setLimit 15 = .ok (.ifCond .ne 7, 3) := by decide +kernel
theorem dX11_setLimit_18 : decode cX11_setLimit 18 = .ok (.sipush 501, 3) := by decide +kernel
theorem dX11_setLimit_21 : decode cX11_setLimit 21 = .ok (.ireturn, 1) := by decide +kernel
theorem dX11_setLimit_22 : decode cX11_setLimit 22 = .ok (.aload_n 1, 1) := by decide +kernel
theorem dX11_setLimit_23 : decode cX11_setLimit 23 = .ok (.iload_n 2, 1) := by decide +kernel
theorem dX11_setLimit_24 : decode cX11_setLimit 24 = .ok (.putfield 280, 3) := by decide +kernel
theorem dX11_setLimit_27 : decode cX11_setLimit 27 = .ok (.aload_n 0, 1) := by decide +kernel
theorem dX11_setLimit_28 : decode cX11_setLimit 28 = .ok (.getfield 19, 3) := by decide +kernel
theorem dX11_setLimit_31 : decode cX11_setLimit 31 = .ok (.aload_n 1, 1) := by decide +kernel
theorem dX11_setLimit_32 : decode cX11_setLimit 32 = .ok (.getfield 145, 3) := by decide +kernel
theorem dX11_setLimit_35 : decode cX11_setLimit 35 = .ok (.sipush 15371, 3) := by decide +kernel
theorem dX11_setLimit_38 : decode cX11_setLimit 38 = .ok (.invokevirtual 125, 3) := by decide +kernel
theorem dX11_setLimit_41 : decode cX11_setLimit 41 = .ok (.iconst 0, 1) := by decide +kernel
theorem dX11_setLimit_42 : decode cX11_setLimit 42 = .ok (.ireturn, 1) := by decide +kernel
def f_X11_setLimit (a0 : Nat) (r1 : Option Nat) (h : AH) : Option (Int32 × AH) := rdR h a0 12 0 fun r_1 =>
  nn r_1 fun a_2 =>
  kg h a_2 7 (bd (f_X6_readByte a_2 h) fun x_5 h_4 =>
  rdR h_4 a0 12 0 fun r_6 =>
  nn r_6 fun a_7 =>
  kg h_4 a_7 7 (bd (f_X6_isJustRead a_7 h_4) fun x_10 h_9 =>
  (if x_10 = 0 then
    some (501, h_9)
  else
    nn r1 fun a_11 =>
    wrI h_9 a_11 2 4 x_5 fun h_12 =>
    rdR h_12 a0 12 1 fun r_13 =>
    rdI h_12 a_11 2 0 fun x_14 =>
    nn r_13 fun a_15 =>
    kg h_12 a_15 10 (bd (f_X9_tell a_15 x_14 15371 h_12) fun _ h_17 =>
    some (0, h_17)))))
set_option maxRecDepth 20000 in
set_option maxHeartbeats 4000000 in
theorem t_X11_setLimit {Ω : Om} (a0 : Nat) (r1 : Option Nat) (h : AH) (q : Int32 × AH) (hf : f_X11_setLimit a0 r1 h = some q) : Go Ω M_X11_setLimit 0 (lv_args 0 [vR Ω (some a0), vR Ω r1]) [] h (some (.int q.1)) q.2 := by
  unfold f_X11_setLimit at hf
  rw [la_R, la_R, la_0]
  refine go_sub (lv' := [(0, vR Ω (some a0)), (1, vR Ω r1)]) [0, 1] rfl ?_
  refine go_aload_n dX11_setLimit_0 rfl 0 rfl ?_
  refine go_getR dX11_setLimit_1 fl_388_0 (fun _ _ => rfl) hf (fun r_1 hf => ?_)
  obtain ⟨a_2, rfl, hga_2⟩ := nn_some hf
  have hf := hga_2
  obtain ⟨hk, hf⟩ := kg_some hf
  obtain ⟨z_3, hc, hf⟩ := bd_some hf
  refine go_callV (y2 := M_X6_readByte) (c2 := 7) dX11_setLimit_4 mo_X6_readByte ⟨Nat.le_of_ble_eq_true rfl, Nat.le_of_ble_eq_true rfl⟩ na_X6_readByte w486 w471 (by decide) rfl w472 hk [] rfl (n_X6_readByte (a_2)) rfl (csum (Nat.le_of_ble_eq_true rfl)) (t_X6_readByte (a_2) h _ hc) ?_
  obtain ⟨x_5, h_4⟩ := z_3
  refine go_istore_n (i := 2) (lv' := [(2, .int x_5), (0, vR Ω (some a0)), (1, vR Ω r1)]) dX11_setLimit_7 rfl (by decide) (by first | rfl | simp [catR, catI, catJ]) ?_
  refine go_aload_n dX11_setLimit_8 rfl 1 rfl ?_
  refine go_getR dX11_setLimit_9 fl_388_0 (fun _ _ => rfl) hf (fun r_6 hf => ?_)
  obtain ⟨a_7, rfl, hga_7⟩ := nn_some hf
  have hf := hga_7
  obtain ⟨hk, hf⟩ := kg_some hf
  obtain ⟨z_8, hc, hf⟩ := bd_some hf
  refine go_callV (y2 := M_X6_isJustRead) (c2 := 7) dX11_setLimit_12 mo_X6_isJustRead ⟨Nat.le_of_ble_eq_true rfl, Nat.le_of_ble_eq_true rfl⟩ na_X6_isJustRead w474 w475 (by decide) rfl w476 hk [] rfl (n_X6_isJustRead (a_7)) rfl (csum (Nat.le_of_ble_eq_true rfl)) (t_X6_isJustRead (a_7) h_4 _ hc) ?_
  obtain ⟨x_10, h_9⟩ := z_8
  refine go_if_ne (tgt := 22) dX11_setLimit_15 (by decide) hf (fun hf => ?_) (fun hf => ?_)
  · refine go_aload_n dX11_setLimit_22 rfl 2 rfl ?_
    refine go_iload_n dX11_setLimit_23 rfl 0 rfl ?_
    obtain ⟨a_11, rfl, hga_11⟩ := nn_some hf
    have hf := hga_11
    refine go_putI dX11_setLimit_24 fl_359_0 (fun q hq => by cases hq; exact Or.inl rfl) (fun _ _ => rfl) rfl hf (fun h_12 hf => ?_)
    refine go_aload_n dX11_setLimit_27 rfl 1 rfl ?_
    refine go_getR dX11_setLimit_28 fl_389_0 (fun _ _ => rfl) hf (fun r_13 hf => ?_)
    refine go_aload_n dX11_setLimit_31 rfl 2 rfl ?_
    refine go_getI dX11_setLimit_32 fl_349_0 (fun _ _ => rfl) hf (fun x_14 hf => ?_)
    refine go_sipush 15371 dX11_setLimit_35 (by decide) ?_
    obtain ⟨a_15, rfl, hga_15⟩ := nn_some hf
    have hf := hga_15
    obtain ⟨hk, hf⟩ := kg_some hf
    obtain ⟨z_16, hc, hf⟩ := bd_some hf
    refine go_callV (y2 := M_X9_tell) (c2 := 10) dX11_setLimit_38 mo_X9_tell ⟨Nat.le_of_ble_eq_true rfl, Nat.le_of_ble_eq_true rfl⟩ na_X9_tell w430 w431 (by decide) rfl w432 hk [.int x_14, .int 15371] rfl (n_X9_tell (a_15) x_14 15371) rfl (csum (Nat.le_of_ble_eq_true rfl)) (t_X9_tell (a_15) x_14 15371 h_12 _ hc) ?_
    obtain ⟨_, h_17⟩ := z_16
    refine go_iconst 0 dX11_setLimit_41 rfl ?_
    exact go_ireturn dX11_setLimit_42 rfl hf
  · refine go_sipush 501 dX11_setLimit_18 (by decide) ?_
    exact go_ireturn dX11_setLimit_21 rfl hf
-- LetterBroker.transact(LLetterBroker$Channel;)I
theorem dX11_transact_0 : decode cX11_transact 0 = .ok (.aload_n 0, 1) := by decide +kernel
theorem dX11_transact_1 : decode cX11_transact 1 = .ok (.getfield 10, 3) := by decide +kernel
theorem dX11_transact_4 : decode cX11_transact 4 = .ok (.invokevirtual 132, 3) := by decide +kernel
theorem dX11_transact_7 : decode cX11_transact 7 = .ok (.ifCond .ne 7, 3) := by decide +kernel
theorem dX11_transact_10 : decode cX11_transact 10 = .ok (.sipush 501, 3) := by decide +kernel
theorem dX11_transact_13 : decode cX11_transact 13 = .ok (.ireturn, 1) := by decide +kernel
theorem dX11_transact_14 : decode cX11_transact 14 = .ok (.aload_n 1, 1) := by decide +kernel
theorem dX11_transact_15 : decode cX11_transact 15 = .ok (.iconst 1, 1) := by decide +kernel
theorem dX11_transact_16 : decode cX11_transact 16 = .ok (.putfield 373, 3) := by decide +kernel
theorem dX11_transact_19 : decode cX11_transact 19 = .ok (.aload_n 0, 1) := by decide +kernel
theorem dX11_transact_20 : decode cX11_transact 20 = .ok (.getfield 19, 3) := by decide +kernel
theorem dX11_transact_23 : decode cX11_transact 23 = .ok (.aload_n 1, 1) := by decide +kernel
theorem dX11_transact_24 : decode cX11_transact 24 = .ok (.getfield 145, 3) := by decide +kernel
theorem dX11_transact_27 : decode cX11_transact 27 = .ok (.sipush 23051, 3) := by decide +kernel
theorem dX11_transact_30 : decode cX11_transact 30 = .ok (.invokevirtual 125, 3) := by decide +kernel
theorem dX11_transact_33 : decode cX11_transact 33 = .ok (.iconst 0, 1) := by decide +kernel
theorem dX11_transact_34 : decode cX11_transact 34 = .ok (.ireturn, 1) := by decide +kernel
def f_X11_transact (a0 : Nat) (r1 : Option Nat) (h : AH) : Option (Int32 × AH) := rdR h a0 12 0 fun r_1 =>
  nn r_1 fun a_2 =>
  kg h a_2 7 (bd (f_X6_isJustRead a_2 h) fun x_5 h_4 =>
  (if x_5 = 0 then
    some (501, h_4)
  else
    nn r1 fun a_6 =>
    wrZ h_4 a_6 2 6 1 fun h_7 =>
    rdR h_7 a0 12 1 fun r_8 =>
    rdI h_7 a_6 2 0 fun x_9 =>
    nn r_8 fun a_10 =>
    kg h_7 a_10 10 (bd (f_X9_tell a_10 x_9 23051 h_7) fun _ h_12 =>
    some (0, h_12))))
set_option maxRecDepth 20000 in
set_option maxHeartbeats 4000000 in
theorem t_X11_transact {Ω : Om} (a0 : Nat) (r1 : Option Nat) (h : AH) (q : Int32 × AH) (hf : f_X11_transact a0 r1 h = some q) : Go Ω M_X11_transact 0 (lv_args 0 [vR Ω (some a0), vR Ω r1]) [] h (some (.int q.1)) q.2 := by
  unfold f_X11_transact at hf
  rw [la_R, la_R, la_0]
  refine go_sub (lv' := [(0, vR Ω (some a0)), (1, vR Ω r1)]) [0, 1] rfl ?_
  refine go_aload_n dX11_transact_0 rfl 0 rfl ?_
  refine go_getR dX11_transact_1 fl_388_0 (fun _ _ => rfl) hf (fun r_1 hf => ?_)
  obtain ⟨a_2, rfl, hga_2⟩ := nn_some hf
  have hf := hga_2
  obtain ⟨hk, hf⟩ := kg_some hf
  obtain ⟨z_3, hc, hf⟩ := bd_some hf
  refine go_callV (y2 := M_X6_isJustRead) (c2 := 7) dX11_transact_4 mo_X6_isJustRead ⟨Nat.le_of_ble_eq_true rfl, Nat.le_of_ble_eq_true rfl⟩ na_X6_isJustRead w474 w475 (by decide) rfl w476 hk [] rfl (n_X6_isJustRead (a_2)) rfl (csum (Nat.le_of_ble_eq_true rfl)) (t_X6_isJustRead (a_2) h _ hc) ?_
  obtain ⟨x_5, h_4⟩ := z_3
  refine go_if_ne (tgt := 14) dX11_transact_7 (by decide) hf (fun hf => ?_) (fun hf => ?_)
  · refine go_aload_n dX11_transact_14 rfl 1 rfl ?_
    refine go_iconst 1 dX11_transact_15 rfl ?_
    obtain ⟨a_6, rfl, hga_6⟩ := nn_some hf
    have hf := hga_6
    refine go_putZ dX11_transact_16 fl_364_0 (fun q hq => by cases hq; exact Or.inl rfl) (fun _ _ => rfl) rfl hf (fun h_7 hf => ?_)
    refine go_aload_n dX11_transact_19 rfl 0 rfl ?_
    refine go_getR dX11_transact_20 fl_389_0 (fun _ _ => rfl) hf (fun r_8 hf => ?_)
    refine go_aload_n dX11_transact_23 rfl 1 rfl ?_
    refine go_getI dX11_transact_24 fl_349_0 (fun _ _ => rfl) hf (fun x_9 hf => ?_)
    refine go_sipush 23051 dX11_transact_27 (by decide) ?_
    obtain ⟨a_10, rfl, hga_10⟩ := nn_some hf
    have hf := hga_10
    obtain ⟨hk, hf⟩ := kg_some hf
    obtain ⟨z_11, hc, hf⟩ := bd_some hf
    refine go_callV (y2 := M_X9_tell) (c2 := 10) dX11_transact_30 mo_X9_tell ⟨Nat.le_of_ble_eq_true rfl, Nat.le_of_ble_eq_true rfl⟩ na_X9_tell w430 w431 (by decide) rfl w432 hk [.int x_9, .int 23051] rfl (n_X9_tell (a_10) x_9 23051) rfl (csum (Nat.le_of_ble_eq_true rfl)) (t_X9_tell (a_10) x_9 23051 h_7 _ hc) ?_
    obtain ⟨_, h_12⟩ := z_11
    refine go_iconst 0 dX11_transact_33 rfl ?_
    exact go_ireturn dX11_transact_34 rfl hf
  · refine go_sipush 501 dX11_transact_10 (by decide) ?_
    exact go_ireturn dX11_transact_13 rfl hf

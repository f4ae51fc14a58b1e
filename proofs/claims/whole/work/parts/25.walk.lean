/-! printed by wip/whole/gen: functions and their walks -/
-- LetterBrokerModel.tell(II)V
theorem dX12_tell_0 : decode cX12_tell 0 = .ok (.aload_n 0, 1) := by decide +kernel
theorem dX12_tell_1 : decode cX12_tell 1 = .ok (.aload_n 0, 1) := by decide +kernel
theorem dX12_tell_2 : decode cX12_tell 2 = .ok (.getfield 97, 3) := by decide +kernel
theorem dX12_tell_5 : decode cX12_tell 5 = .ok (.iload_n 2, 1) := by decide +kernel
theorem dX12_tell_6 : decode cX12_tell 6 = .ok (.iaload, 1) := by decide +kernel
theorem dX12_tell_7 : decode cX12_tell 7 = .ok (.invokevirtual 216, 3) := by decide +kernel
theorem dX12_tell_10 : decode cX12_tell 10 = .ok (.aload_n 0, 1) := by decide +kernel
theorem dX12_tell_11 : decode cX12_tell 11 = .ok (.aload_n 0, 1) := by decide +kernel
theorem dX12_tell_12 : decode cX12_tell 12 = .ok (.getfield 73, 3) := by decide +kernel
theorem dX12_tell_15 : decode cX12_tell 15 = .ok (.iload_n 1, 1) := by decide +kernel
theorem dX12_tell_16 : decode cX12_tell 16 = .ok (.baload, 1) := by decide +kernel
theorem dX12_tell_17 : decode cX12_tell 17 = .ok (.ifCond .eq 7, 3) := by decide +kernel
theorem dX12_tell_20 : decode cX12_tell 20 = .ok (.iconst 1, 1) := by decide +kernel
theorem dX12_tell_21 : decode cX12_tell 21 = .ok (.goto 4, 3) := by decide +kernel
theorem dX12_tell_24 : decode cX12_tell 24 = .ok (.iconst 0, 1) := by decide +kernel
theorem dX12_tell_25 : decode cX12_tell 25 = .ok (.invokevirtual 157, 3) := by decide +kernel
theorem dX12_tell_28 : decode cX12_tell 28 = .ok (.aload_n 0, 1) := by decide +kernel
theorem dX12_tell_29 : decode cX12_tell 29 = .ok (.aload_n 0, 1) := by decide +kernel
theorem dX12_tell_30 : decode cX12_tell 30 = .ok (.getfield 76, 3) := by decide +kernel
theorem dX12_tell_33 : decode cX12_tell 33 = .ok (.iload_n 1, 1) := by decide +kernel
theorem dX12_tell_34 : decode cX12_tell 34 = .ok (.laload, 1) := by decide +kernel
theorem dX12_tell_35 : decode cX12_tell 35 = .ok (.invokevirtual 258, 3) := by decide +kernel
theorem dX12_tell_38 : decode cX12_tell 38 = .ok (.aload_n 0, 1) := by decide +kernel
theorem dX12_tell_39 : decode cX12_tell 39 = .ok (.aload_n 0, 1) := by decide +kernel
theorem dX12_tell_40 : decode cX12_tell 40 = .ok (.getfield 79, 3) := by decide +kernel
theorem dX12_tell_43 : decode cX12_tell 43 = .ok (.iload_n 1, 1) := by decide +kernel
theorem dX12_tell_44 : decode cX12_tell 44 = .ok (.laload, 1) := by decide +kernel
theorem dX12_tell_45 : decode cX12_tell 45 = .ok (.invokevirtual 258, 3) := by decide +kernel
theorem dX12_tell_48 : decode cX12_tell 48 = .ok (.return_, 1) := by decide +kernel
def f_X12_tell_25 (a0 : Nat) (x1 : Int32) (s0 : Int32) (s1 : Option Nat) (h : AH) : Option (Unit × AH) := nn s1 fun a_1 =>
  kg h a_1 13 (bd (f_X12_put a_1 s0 h) fun _ h_3 =>
  rdR h_3 a0 13 31 fun r_4 =>
  nn r_4 fun a_5 =>
  arJ h_3 a_5 x1 fun x_6 =>
  kg h_3 a0 13 (bd (f_X12_putName a0 x_6 h_3) fun _ h_8 =>
  rdR h_8 a0 13 32 fun r_9 =>
  nn r_9 fun a_10 =>
  arJ h_8 a_10 x1 fun x_11 =>
  kg h_8 a0 13 (bd (f_X12_putName a0 x_11 h_8) fun _ h_13 =>
  some ((), h_13))))
set_option maxRecDepth 20000 in
set_option maxHeartbeats 4000000 in
theorem t_X12_tell_25 {Ω : Om} (a0 : Nat) (x1 : Int32) (s0 : Int32) (s1 : Option Nat) (h : AH) (q : Unit × AH) (hf : f_X12_tell_25 a0 x1 s0 s1 h = some q) : Go Ω M_X12_tell 25 [(0, vR Ω (some a0)), (1, .int x1)] [.int s0, vR Ω s1] h none q.2 := by
  unfold f_X12_tell_25 at hf
  obtain ⟨a_1, rfl, hga_1⟩ := nn_some hf
  have hf := hga_1
  obtain ⟨hk, hf⟩ := kg_some hf
  obtain ⟨z_2, hc, hf⟩ := bd_some hf
  refine go_callV (y2 := M_X12_put) (c2 := 13) dX12_tell_25 mo_X12_put ⟨Nat.le_of_ble_eq_true rfl, Nat.le_of_ble_eq_true rfl⟩ na_X12_put w1333 w1335 (by decide) rfl w52 hk [.int s0] rfl (n_X12_put (a_1) s0) rfl (csum (Nat.le_of_ble_eq_true rfl)) (t_X12_put (a_1) s0 h _ hc) ?_
  obtain ⟨_, h_3⟩ := z_2
  refine go_aload_n dX12_tell_28 rfl 0 rfl ?_
  refine go_aload_n dX12_tell_29 rfl 0 rfl ?_
  refine go_getR dX12_tell_30 fl_1150_0 (fun _ _ => rfl) hf (fun r_4 hf => ?_)
  refine go_iload_n dX12_tell_33 rfl 1 rfl ?_
  obtain ⟨a_5, rfl, hga_5⟩ := nn_some hf
  have hf := hga_5
  refine go_laload dX12_tell_34 hf (fun x_6 hf => ?_)
  obtain ⟨hk, hf⟩ := kg_some hf
  obtain ⟨z_7, hc, hf⟩ := bd_some hf
  refine go_callV (y2 := M_X12_putName) (c2 := 13) dX12_tell_35 mo_X12_putName ⟨Nat.le_of_ble_eq_true rfl, Nat.le_of_ble_eq_true rfl⟩ na_X12_putName w1460 w1462 (by decide) rfl w83 hk [.long x_6] rfl (n_X12_putName (a0) x_6) rfl (csum (Nat.le_of_ble_eq_true rfl)) (t_X12_putName (a0) x_6 h_3 _ hc) ?_
  obtain ⟨_, h_8⟩ := z_7
  refine go_aload_n dX12_tell_38 rfl 0 rfl ?_
  refine go_aload_n dX12_tell_39 rfl 0 rfl ?_
  refine go_getR dX12_tell_40 fl_1151_0 (fun _ _ => rfl) hf (fun r_9 hf => ?_)
  refine go_iload_n dX12_tell_43 rfl 1 rfl ?_
  obtain ⟨a_10, rfl, hga_10⟩ := nn_some hf
  have hf := hga_10
  refine go_laload dX12_tell_44 hf (fun x_11 hf => ?_)
  obtain ⟨hk, hf⟩ := kg_some hf
  obtain ⟨z_12, hc, hf⟩ := bd_some hf
  refine go_callV (y2 := M_X12_putName) (c2 := 13) dX12_tell_45 mo_X12_putName ⟨Nat.le_of_ble_eq_true rfl, Nat.le_of_ble_eq_true rfl⟩ na_X12_putName w1460 w1462 (by decide) rfl w83 hk [.long x_11] rfl (n_X12_putName (a0) x_11) rfl (csum (Nat.le_of_ble_eq_true rfl)) (t_X12_putName (a0) x_11 h_8 _ hc) ?_
  obtain ⟨_, h_13⟩ := z_12
  exact go_return dX12_tell_48 rfl hf
def f_X12_tell (a0 : Nat) (x1 : Int32) (x2 : Int32) (h : AH) : Option (Unit × AH) := rdR h a0 13 38 fun r_1 =>
  nn r_1 fun a_2 =>
  arI h a_2 x2 fun x_3 =>
  kg h a0 13 (bd (f_X12_putShort a0 x_3 h) fun _ h_5 =>
  rdR h_5 a0 13 30 fun r_6 =>
  nn r_6 fun a_7 =>
  arZ h_5 a_7 x1 fun x_8 =>
  (if x_8 = 0 then
    f_X12_tell_25 a0 x1 0 (some a0) h_5
  else
    f_X12_tell_25 a0 x1 1 (some a0) h_5))
set_option maxRecDepth 20000 in
set_option maxHeartbeats 4000000 in
theorem t_X12_tell {Ω : Om} (a0 : Nat) (x1 : Int32) (x2 : Int32) (h : AH) (q : Unit × AH) (hf : f_X12_tell a0 x1 x2 h = some q) : Go Ω M_X12_tell 0 (lv_args 0 [vR Ω (some a0), .int x1, .int x2]) [] h none q.2 := by
  unfold f_X12_tell at hf
  rw [la_R, la_I, la_I, la_0]
  refine go_sub (lv' := [(0, vR Ω (some a0)), (1, .int x1), (2, .int x2)]) [0, 1, 2] rfl ?_
  refine go_aload_n dX12_tell_0 rfl 0 rfl ?_
  refine go_aload_n dX12_tell_1 rfl 0 rfl ?_
  refine go_getR dX12_tell_2 fl_1157_0 (fun _ _ => rfl) hf (fun r_1 hf => ?_)
  refine go_iload_n dX12_tell_5 rfl 2 rfl ?_
  obtain ⟨a_2, rfl, hga_2⟩ := nn_some hf
  have hf := hga_2
  refine go_iaload dX12_tell_6 hf (fun x_3 hf => ?_)
  obtain ⟨hk, hf⟩ := kg_some hf
  obtain ⟨z_4, hc, hf⟩ := bd_some hf
  refine go_callV (y2 := M_X12_putShort) (c2 := 13) dX12_tell_7 mo_X12_putShort ⟨Nat.le_of_ble_eq_true rfl, Nat.le_of_ble_eq_true rfl⟩ na_X12_putShort w1337 w1339 (by decide) rfl w53 hk [.int x_3] rfl (n_X12_putShort (a0) x_3) rfl (csum (Nat.le_of_ble_eq_true rfl)) (t_X12_putShort (a0) x_3 h _ hc) ?_
  obtain ⟨_, h_5⟩ := z_4
  refine go_aload_n dX12_tell_10 rfl 0 rfl ?_
  refine go_aload_n dX12_tell_11 rfl 0 rfl ?_
  refine go_getR dX12_tell_12 fl_1149_0 (fun _ _ => rfl) hf (fun r_6 hf => ?_)
  refine go_iload_n dX12_tell_15 rfl 1 rfl ?_
  obtain ⟨a_7, rfl, hga_7⟩ := nn_some hf
  have hf := hga_7
  refine go_zaload dX12_tell_16 hf (fun x_8 hf => ?_)
  refine go_if_eq (tgt := 24) dX12_tell_17 (by decide) hf (fun hf => ?_) (fun hf => ?_)
  · refine go_iconst 0 dX12_tell_24 rfl ?_
    refine go_sub (lv' := [(0, vR Ω (some a0)), (1, .int x1)]) [0, 1] rfl ?_
    exact t_X12_tell_25 a0 x1 0 (some a0) h_5 q hf
  · refine go_iconst 1 dX12_tell_20 rfl ?_
    refine go_goto (tgt := 25) dX12_tell_21 (by decide) ?_
    refine go_sub (lv' := [(0, vR Ω (some a0)), (1, .int x1)]) [0, 1] rfl ?_
    exact t_X12_tell_25 a0 x1 1 (some a0) h_5 q hf
-- LetterBrokerModel.deliver()Z
theorem dX12_deliver_0 : decode cX12_deliver 0 = .ok (.iconst 0, 1) := by decide +kernel
theorem dX12_deliver_1 : decode cX12_deliver 1 = .ok (.istore_n 1, 1) := by decide +kernel
theorem dX12_deliver_2 : decode cX12_deliver 2 = .ok (.iload_n 1, 1) := by decide +kernel
theorem dX12_deliver_3 : decode cX12_deliver 3 = .ok (.aload_n 0, 1) := by decide +kernel
theorem dX12_deliver_4 : decode cX12_deliver 4 = .ok (.getfield 185, 3) := by decide +kernel
theorem dX12_deliver_7 : decode cX12_deliver 7 = .ok (.if_icmp .ge 133, 3) := by decide +kernel
theorem dX12_deliver_10 : decode cX12_deliver 10 = .ok (.aload_n 0, 1) := by decide +kernel
theorem dX12_deliver_11 : decode cX12_deliver 11 = .ok (.aload_n 0, 1) := by decide +kernel
theorem dX12_deliver_12 : decode cX12_deliver 12 = .ok (.getfield 30, 3) := by decide +kernel
theorem dX12_deliver_15 : decode cX12_deliver 15 = .ok (.iload_n 1, 1) := by decide +kernel
theorem dX12_deliver_16 : decode cX12_deliver 16 = .ok (.iaload, 1) := by decide +kernel
theorem dX12_deliver_17 : decode cX12_deliver 17 = .ok (.invokevirtual 288, 3) := by decide +kernel
theorem dX12_deliver_20 : decode cX12_deliver 20 = .ok (.istore_n 2, 1) := by decide +kernel
theorem dX12_deliver_21 : decode cX12_deliver 21 = .ok (.iload_n 2, 1) := by decide +kernel
theorem dX12_deliver_22 : decode cX12_deliver 22 = .ok (.ifCond .ge 7, 3) := by decide +kernel
theorem dX12_deliver_25 : decode cX12_deliver 25 = .ok (.iconst (-1), 1) := by decide +kernel
theorem dX12_deliver_26 : decode cX12_deliver 26 = .ok (.goto 8, 3) := by decide +kernel
theorem dX12_deliver_29 : decode cX12_deliver 29 = .ok (.aload_n 0, 1) := by decide +kernel
theorem dX12_deliver_30 : decode cX12_deliver 30 = .ok (.iload_n 1, 1) := by decide +kernel
theorem dX12_deliver_31 : decode cX12_deliver 31 = .ok (.invokevirtual 291, 3) := by decide +kernel
theorem dX12_deliver_34 : decode cX12_deliver 34 = .ok (.istore_n 3, 1) := by decide +kernel
theorem dX12_deliver_35 : decode cX12_deliver 35 = .ok (.iload_n 3, 1) := by decide +kernel
theorem dX12_deliver_36 : decode cX12_deliver 36 = .ok (.ifCond .lt 98, 3) := by decide +kernel
theorem dX12_deliver_39 : decode cX12_deliver 39 = .ok (.aload_n 0, 1) := by decide +kernel
theorem dX12_deliver_40 : decode cX12_deliver 40 = .ok (.getfield 48, 3) := by decide +kernel
theorem dX12_deliver_43 : decode cX12_deliver 43 = .ok (.iload_n 3, 1) := by decide +kernel
theorem dX12_deliver_44 : decode cX12_deliver 44 = .ok (.iaload, 1) := by decide +kernel
theorem dX12_deliver_45 : decode cX12_deliver 45 = .ok (.istore 4, 2) := by decide +kernel
theorem dX12_deliver_47 : decode cX12_deliver 47 = .ok (.aload_n 0, 1) := by decide +kernel
theorem dX12_deliver_48 : decode cX12_deliver 48 = .ok (.getfield 33, 3) := by decide +kernel
theorem dX12_deliver_51 : decode cX12_deliver 51 = .ok (.iload_n 1, 1) := by decide +kernel
theorem dX12_deliver_52 : decode cX12_deliver 52 = .ok (.aload_n 0, 1) := by decide +kernel
theorem dX12_deliver_53 : decode cX12_deliver 53 = .ok (.getfield 45, 3) := by decide +kernel
theorem dX12_deliver_56 : decode cX12_deliver 56 = .ok (.iload_n 3, 1) := by decide +kernel
theorem dX12_deliver_57 : decode cX12_deliver 57 = .ok (.iaload, 1) := by decide +kernel
theorem dX12_deliver_58 : decode cX12_deliver 58 = .ok (.iastore, 1) := by decide +kernel
theorem dX12_deliver_59 : decode cX12_deliver 59 = .ok (.aload_n 0, 1) := by decide +kernel
theorem dX12_deliver_60 : decode cX12_deliver 60 = .ok (.getfield 97, 3) := by decide +kernel
theorem dX12_deliver_63 : decode cX12_deliver 63 = .ok (.iload 4, 2) := by decide +kernel
theorem dX12_deliver_65 : decode cX12_deliver 65 = .ok (.dup2, 1) := by decide +kernel
theorem dX12_deliver_66 : decode cX12_deliver 66 = .ok (.iaload, 1) := by decide +kernel
theorem dX12_deliver_67 : decode cX12_deliver 67 = .ok (.iconst 1, 1) := by decide +kernel
theorem dX12_deliver_68 : decode cX12_deliver 68 = .ok (.iadd, 1) := by decide +kernel
theorem dX12_deliver_69 : decode cX12_deliver 69 = .ok (.iastore, 1) := by decide +kernel
theorem dX12_deliver_70 : decode cX12_deliver 70 = .ok (.aload_n 0, 1) := by decide +kernel
theorem dX12_deliver_71 : decode cX12_deliver 71 = .ok (.iload 4, 2) := by decide +kernel
theorem dX12_deliver_73 : decode cX12_deliver 73 = .ok (.bipush 60, 2) := by decide +kernel
theorem dX12_deliver_75 : decode cX12_deliver 75 = .ok (.bipush 60, 2) := by decide +kernel
theorem dX12_deliver_77 : decode cX12_deliver 77 = .ok (.invokevirtual 168, 3) := by decide +kernel
theorem dX12_deliver_80 : decode cX12_deliver 80 = .ok (.aload_n 0, 1) := by decide +kernel
theorem dX12_deliver_81 : decode cX12_deliver 81 = .ok (.aload_n 0, 1) := by decide +kernel
theorem dX12_deliver_82 : decode cX12_deliver 82 = .ok (.getfield 51, 3) := by decide +kernel
theorem dX12_deliver_85 : decode cX12_deliver 85 = .ok (.iload_n 3, 1) := by decide +kernel
theorem dX12_deliver_86 : decode cX12_deliver 86 = .ok (.laload, 1) := by decide +kernel
theorem dX12_deliver_87 : decode cX12_deliver 87 = .ok (.invokevirtual 258, 3) := by decide +kernel
theorem dX12_deliver_90 : decode cX12_deliver 90 = .ok (.aload_n 0, 1) := by decide +kernel
theorem dX12_deliver_91 : decode cX12_deliver 91 = .ok (.iload_n 2, 1) := by decide +kernel
theorem dX12_deliver_92 : decode cX12_deliver 92 = .ok (.iload 4, 2) := by decide +kernel
theorem dX12_deliver_94 : decode cX12_deliver 94 = .ok (.invokevirtual 294, 3) := by decide +kernel
theorem dX12_deliver_97 : decode cX12_deliver 97 = .ok (.aload_n 0, 1) := by decide +kernel
theorem dX12_deliver_98 : decode cX12_deliver 98 = .ok (.invokevirtual 172, 3) := by decide +kernel
theorem dX12_deliver_101 : decode cX12_deliver 101 = .ok (.aload_n 0, 1) := by decide +kernel
theorem dX12_deliver_102 : decode cX12_deliver 102 = .ok (.iload 4, 2) := by decide +kernel
theorem dX12_deliver_104 : decode cX12_deliver 104 = .ok (.aload_n 0, 1) := by decide +kernel
theorem dX12_deliver_105 : decode cX12_deliver 105 = .ok (.getfield 82, 3) := by decide +kernel
theorem dX12_deliver_108 : decode cX12_deliver 108 = .ok (.iload_n 2, 1) := by decide +kernel
theorem dX12_deliver_109 : decode cX12_deliver 109 = .ok (.iaload, 1) := by decide +kernel
theorem dX12_deliver_110 : decode cX12_deliver 110 = .ok (.aload_n 0, 1) := by decide +kernel
theorem dX12_deliver_111 : decode cX12_deliver 111 = .ok (.getfield 85, 3) := by decide +kernel
theorem dX12_deliver_114 : decode cX12_deliver 114 = .ok (.iload_n 2, 1) := by decide +kernel
theorem dX12_deliver_115 : decode cX12_deliver 115 = .ok (.laload, 1) := by decide +kernel
theorem dX12_deliver_116 : decode cX12_deliver 116 = .ok (.invokevirtual 262, 3) := by decide +kernel
theorem dX12_deliver_119 : decode cX12_deliver 119 = .ok (.aload_n 0, 1) := by decide +kernel
theorem dX12_deliver_120 : decode cX12_deliver 120 = .ok (.iload_n 2, 1) := by decide +kernel
theorem dX12_deliver_121 : decode cX12_deliver 121 = .ok (.iload 4, 2) := by decide +kernel
theorem dX12_deliver_123 : decode cX12_deliver 123 = .ok (.aload_n 0, 1) := by decide +kernel
theorem dX12_deliver_124 : decode cX12_deliver 124 = .ok (.getfield 57, 3) := by decide +kernel
theorem dX12_deliver_127 : decode cX12_deliver 127 = .ok (.iload_n 3, 1) := by decide +kernel
theorem dX12_deliver_128 : decode cX12_deliver 128 = .ok (.baload, 1) := by decide +kernel
theorem dX12_deliver_129 : decode cX12_deliver 129 = .ok (.invokevirtual 297, 3) := by decide +kernel
theorem dX12_deliver_132 : decode cX12_deliver 132 = .ok (.iconst 1, 1) := by decide +kernel
theorem dX12_deliver_133 : decode cX12_deliver 133 = .ok (.ireturn, 1) := by decide +kernel
theorem dX12_deliver_134 : decode cX12_deliver 134 = .ok (.iinc 1 1, 3) := by decide +kernel
theorem dX12_deliver_137 : decode cX12_deliver 137 = .ok (.goto (-135), 3) := by decide +kernel
theorem dX12_deliver_140 : decode cX12_deliver 140 = .ok (.iconst 0, 1) := by decide +kernel
theorem dX12_deliver_141 : decode cX12_deliver 141 = .ok (.ireturn, 1) := by decide +kernel
def f_X12_deliver_39 (a0 : Nat) (x1 : Int32) (x2 : Int32) (x3 : Int32) (h : AH) : Option (Int32 × AH) := rdR h a0 13 20 fun r_1 =>
  nn r_1 fun a_2 =>
  arI h a_2 x3 fun x_3 =>
  rdR h a0 13 12 fun r_4 =>
  rdR h a0 13 19 fun r_5 =>
  nn r_5 fun a_6 =>
  arI h a_6 x3 fun x_7 =>
  nn r_4 fun a_8 =>
  asI h a_8 x1 x_7 fun h_9 =>
  rdR h_9 a0 13 38 fun r_10 =>
  nn r_10 fun a_11 =>
  arI h_9 a_11 x_3 fun x_12 =>
  asI h_9 a_11 x_3 (x_12 + 1) fun h_13 =>
  kg h_13 a0 13 (bd (f_X12_method a0 x_3 60 60 h_13) fun _ h_15 =>
  rdR h_15 a0 13 21 fun r_16 =>
  nn r_16 fun a_17 =>
  arJ h_15 a_17 x3 fun x_18 =>
  kg h_15 a0 13 (bd (f_X12_putName a0 x_18 h_15) fun _ h_20 =>
  kg h_20 a0 13 (bd (f_X12_tell a0 x2 x_3 h_20) fun _ h_22 =>
  kg h_22 a0 13 (bd (f_X12_finish a0 h_22) fun _ h_24 =>
  rdR h_24 a0 13 33 fun r_25 =>
  nn r_25 fun a_26 =>
  arI h_24 a_26 x2 fun x_27 =>
  rdR h_24 a0 13 34 fun r_28 =>
  nn r_28 fun a_29 =>
  arJ h_24 a_29 x2 fun x_30 =>
  kg h_24 a0 13 (bd (f_X12_putLetter a0 x_3 x_27 x_30 h_24) fun _ h_32 =>
  rdR h_32 a0 13 23 fun r_33 =>
  nn r_33 fun a_34 =>
  arZ h_32 a_34 x3 fun x_35 =>
  kg h_32 a0 13 (bd (f_X12_take a0 x2 x_3 x_35 h_32) fun _ h_37 =>
  rz 1 (some (1, h_37))))))))
set_option maxRecDepth 20000 in
set_option maxHeartbeats 4000000 in
theorem t_X12_deliver_39 {Ω : Om} (a0 : Nat) (x1 : Int32) (x2 : Int32) (x3 : Int32) (h : AH) (q : Int32 × AH) (hf : f_X12_deliver_39 a0 x1 x2 x3 h = some q) : Go Ω M_X12_deliver 39 [(0, vR Ω (some a0)), (1, .int x1), (2, .int x2), (3, .int x3)] [] h (some (.int q.1)) q.2 := by
  unfold f_X12_deliver_39 at hf
  refine go_aload_n dX12_deliver_39 rfl 0 rfl ?_
  refine go_getR dX12_deliver_40 fl_1139_0 (fun _ _ => rfl) hf (fun r_1 hf => ?_)
  refine go_iload_n dX12_deliver_43 rfl 3 rfl ?_
  obtain ⟨a_2, rfl, hga_2⟩ := nn_some hf
  have hf := hga_2
  refine go_iaload dX12_deliver_44 hf (fun x_3 hf => ?_)
  refine go_istore (i := 4) (lv' := [(4, .int x_3), (0, vR Ω (some a0)), (1, .int x1), (2, .int x2), (3, .int x3)]) dX12_deliver_45 (by decide) (by first | rfl | simp [catR, catI, catJ]) ?_
  refine go_aload_n dX12_deliver_47 rfl 1 rfl ?_
  refine go_getR dX12_deliver_48 fl_1131_0 (fun _ _ => rfl) hf (fun r_4 hf => ?_)
  refine go_iload_n dX12_deliver_51 rfl 2 rfl ?_
  refine go_aload_n dX12_deliver_52 rfl 1 rfl ?_
  refine go_getR dX12_deliver_53 fl_1138_0 (fun _ _ => rfl) hf (fun r_5 hf => ?_)
  refine go_iload_n dX12_deliver_56 rfl 4 rfl ?_
  obtain ⟨a_6, rfl, hga_6⟩ := nn_some hf
  have hf := hga_6
  refine go_iaload dX12_deliver_57 hf (fun x_7 hf => ?_)
  obtain ⟨a_8, rfl, hga_8⟩ := nn_some hf
  have hf := hga_8
  refine go_iastore dX12_deliver_58 hf (fun h_9 hf => ?_)
  refine go_aload_n dX12_deliver_59 rfl 1 rfl ?_
  refine go_getR dX12_deliver_60 fl_1157_0 (fun _ _ => rfl) hf (fun r_10 hf => ?_)
  refine go_iload dX12_deliver_63 0 rfl ?_
  refine go_dup2 dX12_deliver_65 rfl catR ?_
  obtain ⟨a_11, rfl, hga_11⟩ := nn_some hf
  have hf := hga_11
  refine go_iaload dX12_deliver_66 hf (fun x_12 hf => ?_)
  refine go_iconst 1 dX12_deliver_67 rfl ?_
  refine go_iadd dX12_deliver_68 ?_
  refine go_iastore dX12_deliver_69 hf (fun h_13 hf => ?_)
  refine go_aload_n dX12_deliver_70 rfl 1 rfl ?_
  refine go_iload dX12_deliver_71 0 rfl ?_
  refine go_bipush 60 dX12_deliver_73 (by decide) ?_
  refine go_bipush 60 dX12_deliver_75 (by decide) ?_
  obtain ⟨hk, hf⟩ := kg_some hf
  obtain ⟨z_14, hc, hf⟩ := bd_some hf
  refine go_callV (y2 := M_X12_method) (c2 := 13) dX12_deliver_77 mo_X12_method ⟨Nat.le_of_ble_eq_true rfl, Nat.le_of_ble_eq_true rfl⟩ na_X12_method w1325 w1327 (by decide) rfl w50 hk [.int x_3, .int 60, .int 60] rfl (n_X12_method (a0) x_3 60 60) rfl (csum (Nat.le_of_ble_eq_true rfl)) (t_X12_method (a0) x_3 60 60 h_13 _ hc) ?_
  obtain ⟨_, h_15⟩ := z_14
  refine go_aload_n dX12_deliver_80 rfl 1 rfl ?_
  refine go_aload_n dX12_deliver_81 rfl 1 rfl ?_
  refine go_getR dX12_deliver_82 fl_1140_0 (fun _ _ => rfl) hf (fun r_16 hf => ?_)
  refine go_iload_n dX12_deliver_85 rfl 4 rfl ?_
  obtain ⟨a_17, rfl, hga_17⟩ := nn_some hf
  have hf := hga_17
  refine go_laload dX12_deliver_86 hf (fun x_18 hf => ?_)
  obtain ⟨hk, hf⟩ := kg_some hf
  obtain ⟨z_19, hc, hf⟩ := bd_some hf
  refine go_callV (y2 := M_X12_putName) (c2 := 13) dX12_deliver_87 mo_X12_putName ⟨Nat.le_of_ble_eq_true rfl, Nat.le_of_ble_eq_true rfl⟩ na_X12_putName w1460 w1462 (by decide) rfl w83 hk [.long x_18] rfl (n_X12_putName (a0) x_18) rfl (csum (Nat.le_of_ble_eq_true rfl)) (t_X12_putName (a0) x_18 h_15 _ hc) ?_
  obtain ⟨_, h_20⟩ := z_19
  refine go_aload_n dX12_deliver_90 rfl 1 rfl ?_
  refine go_iload_n dX12_deliver_91 rfl 3 rfl ?_
  refine go_iload dX12_deliver_92 0 rfl ?_
  obtain ⟨hk, hf⟩ := kg_some hf
  obtain ⟨z_21, hc, hf⟩ := bd_some hf
  refine go_callV (y2 := M_X12_tell) (c2 := 13) dX12_deliver_94 mo_X12_tell ⟨Nat.le_of_ble_eq_true rfl, Nat.le_of_ble_eq_true rfl⟩ na_X12_tell w1523 w1525 (by decide) rfl w98 hk [.int x2, .int x_3] rfl (n_X12_tell (a0) x2 x_3) rfl (csum (Nat.le_of_ble_eq_true rfl)) (t_X12_tell (a0) x2 x_3 h_20 _ hc) ?_
  obtain ⟨_, h_22⟩ := z_21
  refine go_aload_n dX12_deliver_97 rfl 1 rfl ?_
  obtain ⟨hk, hf⟩ := kg_some hf
  obtain ⟨z_23, hc, hf⟩ := bd_some hf
  refine go_callV (y2 := M_X12_finish) (c2 := 13) dX12_deliver_98 mo_X12_finish ⟨Nat.le_of_ble_eq_true rfl, Nat.le_of_ble_eq_true rfl⟩ na_X12_finish w1341 w1343 (by decide) rfl w54 hk [] rfl (n_X12_finish (a0)) rfl (csum (Nat.le_of_ble_eq_true rfl)) (t_X12_finish (a0) h_22 _ hc) ?_
  obtain ⟨_, h_24⟩ := z_23
  refine go_aload_n dX12_deliver_101 rfl 1 rfl ?_
  refine go_iload dX12_deliver_102 0 rfl ?_
  refine go_aload_n dX12_deliver_104 rfl 1 rfl ?_
  refine go_getR dX12_deliver_105 fl_1152_0 (fun _ _ => rfl) hf (fun r_25 hf => ?_)
  refine go_iload_n dX12_deliver_108 rfl 3 rfl ?_
  obtain ⟨a_26, rfl, hga_26⟩ := nn_some hf
  have hf := hga_26
  refine go_iaload dX12_deliver_109 hf (fun x_27 hf => ?_)
  refine go_aload_n dX12_deliver_110 rfl 1 rfl ?_
  refine go_getR dX12_deliver_111 fl_1153_0 (fun _ _ => rfl) hf (fun r_28 hf => ?_)
  refine go_iload_n dX12_deliver_114 rfl 3 rfl ?_
  obtain ⟨a_29, rfl, hga_29⟩ := nn_some hf
  have hf := hga_29
  refine go_laload dX12_deliver_115 hf (fun x_30 hf => ?_)
  obtain ⟨hk, hf⟩ := kg_some hf
  obtain ⟨z_31, hc, hf⟩ := bd_some hf
  refine go_callV (y2 := M_X12_putLetter) (c2 := 13) dX12_deliver_116 mo_X12_putLetter ⟨Nat.le_of_ble_eq_true rfl, Nat.le_of_ble_eq_true rfl⟩ na_X12_putLetter w1527 w1529 (by decide) rfl w99 hk [.int x_3, .int x_27, .long x_30] rfl (n_X12_putLetter (a0) x_3 x_27 x_30) rfl (csum (Nat.le_of_ble_eq_true rfl)) (t_X12_putLetter (a0) x_3 x_27 x_30 h_24 _ hc) ?_
  obtain ⟨_, h_32⟩ := z_31
  refine go_aload_n dX12_deliver_119 rfl 1 rfl ?_
  refine go_iload_n dX12_deliver_120 rfl 3 rfl ?_
  refine go_iload dX12_deliver_121 0 rfl ?_
  refine go_aload_n dX12_deliver_123 rfl 1 rfl ?_
  refine go_getR dX12_deliver_124 fl_1142_0 (fun _ _ => rfl) hf (fun r_33 hf => ?_)
  refine go_iload_n dX12_deliver_127 rfl 4 rfl ?_
  obtain ⟨a_34, rfl, hga_34⟩ := nn_some hf
  have hf := hga_34
  refine go_zaload dX12_deliver_128 hf (fun x_35 hf => ?_)
  obtain ⟨hk, hf⟩ := kg_some hf
  obtain ⟨z_36, hc, hf⟩ := bd_some hf
  refine go_callV (y2 := M_X12_take) (c2 := 13) dX12_deliver_129 mo_X12_take ⟨Nat.le_of_ble_eq_true rfl, Nat.le_of_ble_eq_true rfl⟩ na_X12_take w1531 w1533 (by decide) rfl w100 hk [.int x2, .int x_3, .int x_35] rfl (n_X12_take (a0) x2 x_3 x_35) rfl (csum (Nat.le_of_ble_eq_true rfl)) (t_X12_take (a0) x2 x_3 x_35 h_32 _ hc) ?_
  obtain ⟨_, h_37⟩ := z_36
  refine go_iconst 1 dX12_deliver_132 rfl ?_
  exact go_zreturn dX12_deliver_133 rfl hf
def f_X12_deliver_34 (k2 : Nat → Int32 → AH → Option (Int32 × AH)) (a0 : Nat) (x1 : Int32) (x2 : Int32) (s0 : Int32) (h : AH) : Option (Int32 × AH) := (if s0 < 0 then
    k2 a0 (x1 + 1) h
  else
    f_X12_deliver_39 a0 x1 x2 s0 h)
set_option maxRecDepth 20000 in
set_option maxHeartbeats 4000000 in
theorem t_X12_deliver_34 {Ω : Om} {k2 : Nat → Int32 → AH → Option (Int32 × AH)} (c2 : ∀ (a0 : Nat) (x1 : Int32) (h : AH) (q : Int32 × AH), k2 a0 x1 h = some q → Go Ω M_X12_deliver 2 [(0, vR Ω (some a0)), (1, .int x1)] [] h (some (.int q.1)) q.2) (a0 : Nat) (x1 : Int32) (x2 : Int32) (s0 : Int32) (h : AH) (q : Int32 × AH) (hf : f_X12_deliver_34 k2 a0 x1 x2 s0 h = some q) : Go Ω M_X12_deliver 34 [(0, vR Ω (some a0)), (1, .int x1), (2, .int x2)] [.int s0] h (some (.int q.1)) q.2 := by
  unfold f_X12_deliver_34 at hf
  refine go_istore_n (i := 3) (lv' := [(3, .int s0), (0, vR Ω (some a0)), (1, .int x1), (2, .int x2)]) dX12_deliver_34 rfl (by decide) (by first | rfl | simp [catR, catI, catJ]) ?_
  refine go_iload_n dX12_deliver_35 rfl 0 rfl ?_
  refine go_if_lt (tgt := 134) dX12_deliver_36 (by decide) hf (fun hf => ?_) (fun hf => ?_)
  · refine go_iinc (j := 2) (v := x1 + 1) (lv' := [(1, .int (x1 + 1)), (3, .int s0), (0, vR Ω (some a0)), (2, .int x2)]) dX12_deliver_134 rfl rfl (by decide) (by first | rfl | simp [catR, catI, catJ]) ?_
    refine go_goto (tgt := 2) dX12_deliver_137 (by decide) ?_
    refine go_sub (lv' := [(0, vR Ω (some a0)), (1, .int (x1 + 1))]) [2, 0] rfl ?_
    exact c2 a0 (x1 + 1) h q hf
  · refine go_sub (lv' := [(0, vR Ω (some a0)), (1, .int x1), (2, .int x2), (3, .int s0)]) [1, 2, 3, 0] rfl ?_
    exact t_X12_deliver_39 a0 x1 x2 s0 h q hf
def f_X12_deliver_2 : Nat → Nat → Int32 → AH → Option (Int32 × AH)
  | 0, _, _, _ => none
  | n + 1, a0, x1, h => rdI h a0 13 8 fun x_1 =>
    (if x_1 ≤ x1 then
      rz 0 (some (0, h))
    else
      rdR h a0 13 11 fun r_2 =>
      nn r_2 fun a_3 =>
      arI h a_3 x1 fun x_4 =>
      kg h a0 13 (bd (f_X12_firstOf a0 x_4 h) fun x_7 h_6 =>
      (if 0 ≤ x_7 then
        kg h_6 a0 13 (bd (f_X12_nextConsumer a0 x1 h_6) fun x_10 h_9 =>
        f_X12_deliver_34 (fun a0 x1 h => f_X12_deliver_2 n a0 x1 h) a0 x1 x_7 x_10 h_9)
      else
        f_X12_deliver_34 (fun a0 x1 h => f_X12_deliver_2 n a0 x1 h) a0 x1 x_7 ((-1)) h_6)))
set_option maxRecDepth 20000 in
set_option maxHeartbeats 4000000 in
theorem t_X12_deliver_2 {Ω : Om} : ∀ (n : Nat) (a0 : Nat) (x1 : Int32) (h : AH) (q : Int32 × AH), f_X12_deliver_2 n a0 x1 h = some q → Go Ω M_X12_deliver 2 [(0, vR Ω (some a0)), (1, .int x1)] [] h (some (.int q.1)) q.2 := by
  intro n
  induction n with
  | zero => intro a0 x1 h q hf; cases hf
  | succ n ih =>
    intro a0 x1 h q hf
    rw [f_X12_deliver_2] at hf
    refine go_iload_n dX12_deliver_2 rfl 1 rfl ?_
    refine go_aload_n dX12_deliver_3 rfl 0 rfl ?_
    refine go_getI dX12_deliver_4 fl_1127_0 (fun _ _ => rfl) hf (fun x_1 hf => ?_)
    refine go_icmp_ge (tgt := 140) dX12_deliver_7 (by decide) hf (fun hf => ?_) (fun hf => ?_)
    · refine go_iconst 0 dX12_deliver_140 rfl ?_
      exact go_zreturn dX12_deliver_141 rfl hf
    · refine go_aload_n dX12_deliver_10 rfl 0 rfl ?_
      refine go_aload_n dX12_deliver_11 rfl 0 rfl ?_
      refine go_getR dX12_deliver_12 fl_1130_0 (fun _ _ => rfl) hf (fun r_2 hf => ?_)
      refine go_iload_n dX12_deliver_15 rfl 1 rfl ?_
      obtain ⟨a_3, rfl, hga_3⟩ := nn_some hf
      have hf := hga_3
      refine go_iaload dX12_deliver_16 hf (fun x_4 hf => ?_)
      obtain ⟨hk, hf⟩ := kg_some hf
      obtain ⟨z_5, hc, hf⟩ := bd_some hf
      refine go_callV (y2 := M_X12_firstOf) (c2 := 13) dX12_deliver_17 mo_X12_firstOf ⟨Nat.le_of_ble_eq_true rfl, Nat.le_of_ble_eq_true rfl⟩ na_X12_firstOf w1491 w1493 (by decide) rfl w90 hk [.int x_4] rfl (n_X12_firstOf (a0) x_4) rfl (csum (Nat.le_of_ble_eq_true rfl)) (t_X12_firstOf (a0) x_4 h _ hc) ?_
      obtain ⟨x_7, h_6⟩ := z_5
      refine go_istore_n (i := 2) (lv' := [(2, .int x_7), (0, vR Ω (some a0)), (1, .int x1)]) dX12_deliver_20 rfl (by decide) (by first | rfl | simp [catR, catI, catJ]) ?_
      refine go_iload_n dX12_deliver_21 rfl 0 rfl ?_
      refine go_if_ge (tgt := 29) dX12_deliver_22 (by decide) hf (fun hf => ?_) (fun hf => ?_)
      · refine go_aload_n dX12_deliver_29 rfl 1 rfl ?_
        refine go_iload_n dX12_deliver_30 rfl 2 rfl ?_
        obtain ⟨hk, hf⟩ := kg_some hf
        obtain ⟨z_8, hc, hf⟩ := bd_some hf
        refine go_callV (y2 := M_X12_nextConsumer) (c2 := 13) dX12_deliver_31 mo_X12_nextConsumer ⟨Nat.le_of_ble_eq_true rfl, Nat.le_of_ble_eq_true rfl⟩ na_X12_nextConsumer w1597 w1599 (by decide) rfl w115 hk [.int x1] rfl (n_X12_nextConsumer (a0) x1) rfl (csum (Nat.le_of_ble_eq_true rfl)) (t_X12_nextConsumer (a0) x1 h_6 _ hc) ?_
        obtain ⟨x_10, h_9⟩ := z_8
        refine go_sub (lv' := [(0, vR Ω (some a0)), (1, .int x1), (2, .int x_7)]) [1, 2, 0] rfl ?_
        exact t_X12_deliver_34 ih a0 x1 x_7 x_10 h_9 q hf
      · refine go_iconst (-1) dX12_deliver_25 rfl ?_
        refine go_goto (tgt := 34) dX12_deliver_26 (by decide) ?_
        refine go_sub (lv' := [(0, vR Ω (some a0)), (1, .int x1), (2, .int x_7)]) [1, 2, 0] rfl ?_
        exact t_X12_deliver_34 ih a0 x1 x_7 ((-1)) h_6 q hf
def f_X12_deliver (a0 : Nat) (h : AH) : Option (Int32 × AH) := f_X12_deliver_2 FU a0 0 h
set_option maxRecDepth 20000 in
set_option maxHeartbeats 4000000 in
theorem t_X12_deliver {Ω : Om} (a0 : Nat) (h : AH) (q : Int32 × AH) (hf : f_X12_deliver a0 h = some q) : Go Ω M_X12_deliver 0 (lv_args 0 [vR Ω (some a0)]) [] h (some (.int q.1)) q.2 := by
  unfold f_X12_deliver at hf
  rw [la_R, la_0]
  refine go_sub (lv' := [(0, vR Ω (some a0))]) [0] rfl ?_
  refine go_iconst 0 dX12_deliver_0 rfl ?_
  refine go_istore_n (i := 1) (lv' := [(1, .int 0), (0, vR Ω (some a0))]) dX12_deliver_1 rfl (by decide) (by first | rfl | simp [catR, catI, catJ]) ?_
  refine go_sub (lv' := [(0, vR Ω (some a0)), (1, .int 0)]) [1, 0] rfl ?_
  exact t_X12_deliver_2 FU a0 0 h q hf
-- LetterBrokerModel.drop(I)V
theorem dX12_drop_0 : decode cX12_drop 0 = .ok (.aload_n 0, 1) := by decide +kernel
theorem dX12_drop_1 : decode cX12_drop 1 = .ok (.dup, 1) := by decide +kernel
theorem dX12_drop_2 : decode cX12_drop 2 = .ok (.getfield 210, 3) := by decide +kernel
theorem dX12_drop_5 : decode cX12_drop 5 = .ok (.iload_n 1, 1) := by decide +kernel
theorem dX12_drop_6 : decode cX12_drop 6 = .ok (.isub, 1) := by decide +kernel
theorem dX12_drop_7 : decode cX12_drop 7 = .ok (.putfield 210, 3) := by decide +kernel
theorem dX12_drop_10 : decode cX12_drop 10 = .ok (.iconst 0, 1) := by decide +kernel
theorem dX12_drop_11 : decode cX12_drop 11 = .ok (.istore_n 2, 1) := by decide +kernel
theorem dX12_drop_12 : decode cX12_drop 12 = .ok (.iload_n 2, 1) := by decide +kernel
theorem dX12_drop_13 : decode cX12_drop 13 = .ok (.aload_n 0, 1) := by decide +kernel
theorem dX12_drop_14 : decode cX12_drop 14 = .ok (.getfield 210, 3) := by decide +kernel
theorem dX12_drop_17 : decode cX12_drop 17 = .ok (.if_icmp .ge 23, 3) := by decide +kernel
theorem dX12_drop_20 : decode cX12_drop 20 = .ok (.aload_n 0, 1) := by decide +kernel
theorem dX12_drop_21 : decode cX12_drop 21 = .ok (.getfield 7, 3) := by decide +kernel
theorem dX12_drop_24 : decode cX12_drop 24 = .ok (.iload_n 2, 1) := by decide +kernel
theorem dX12_drop_25 : decode cX12_drop 25 = .ok (.aload_n 0, 1) := by decide +kernel
theorem dX12_drop_26 : decode cX12_drop 26 = .ok (.getfield 7, 3) := by decide +kernel
theorem dX12_drop_29 : decode cX12_drop 29 = .ok (.iload_n 2, 1) := by decide +kernel
theorem dX12_drop_30 : decode cX12_drop 30 = .ok (.iload_n 1, 1) := by decide +kernel
theorem dX12_drop_31 : decode cX12_drop 31 = .ok (.iadd, 1) := by decide +kernel
theorem dX12_drop_32 : decode cX12_drop 32 = .ok (.iaload, 1) := by decide +kernel
theorem dX12_drop_33 : decode cX12_drop 33 = .ok (.iastore, 1) := by decide +kernel
theorem dX12_drop_34 : decode cX12_drop 34 = .ok (.iinc 2 1, 3) := by decide +kernel
theorem dX12_drop_37 : decode cX12_drop 37 = .ok (.goto (-25), 3) := by decide +kernel
theorem dX12_drop_40 : decode cX12_drop 40 = .ok (.return_, 1) := by decide +kernel
def f_X12_drop_12 : Nat → Nat → Int32 → Int32 → AH → Option (Unit × AH)
  | 0, _, _, _, _ => none
  | n + 1, a0, x1, x2, h => rdI h a0 13 2 fun x_1 =>
    (if x_1 ≤ x2 then
      some ((), h)
    else
      rdR h a0 13 1 fun r_2 =>
      rdR h a0 13 1 fun r_3 =>
      nn r_3 fun a_4 =>
      arI h a_4 (x2 + x1) fun x_5 =>
      nn r_2 fun a_6 =>
      asI h a_6 x2 x_5 fun h_7 =>
      f_X12_drop_12 n a0 x1 (x2 + 1) h_7)
set_option maxRecDepth 20000 in
set_option maxHeartbeats 4000000 in
theorem t_X12_drop_12 {Ω : Om} : ∀ (n : Nat) (a0 : Nat) (x1 : Int32) (x2 : Int32) (h : AH) (q : Unit × AH), f_X12_drop_12 n a0 x1 x2 h = some q → Go Ω M_X12_drop 12 [(0, vR Ω (some a0)), (1, .int x1), (2, .int x2)] [] h none q.2 := by
  intro n
  induction n with
  | zero => intro a0 x1 x2 h q hf; cases hf
  | succ n ih =>
    intro a0 x1 x2 h q hf
    rw [f_X12_drop_12] at hf
    refine go_iload_n dX12_drop_12 rfl 2 rfl ?_
    refine go_aload_n dX12_drop_13 rfl 0 rfl ?_
    refine go_getI dX12_drop_14 fl_1121_0 (fun _ _ => rfl) hf (fun x_1 hf => ?_)
    refine go_icmp_ge (tgt := 40) dX12_drop_17 (by decide) hf (fun hf => ?_) (fun hf => ?_)
    · exact go_return dX12_drop_40 rfl hf
    · refine go_aload_n dX12_drop_20 rfl 0 rfl ?_
      refine go_getR dX12_drop_21 fl_1120_0 (fun _ _ => rfl) hf (fun r_2 hf => ?_)
      refine go_iload_n dX12_drop_24 rfl 2 rfl ?_
      refine go_aload_n dX12_drop_25 rfl 0 rfl ?_
      refine go_getR dX12_drop_26 fl_1120_0 (fun _ _ => rfl) hf (fun r_3 hf => ?_)
      refine go_iload_n dX12_drop_29 rfl 2 rfl ?_
      refine go_iload_n dX12_drop_30 rfl 1 rfl ?_
      refine go_iadd dX12_drop_31 ?_
      obtain ⟨a_4, rfl, hga_4⟩ := nn_some hf
      have hf := hga_4
      refine go_iaload dX12_drop_32 hf (fun x_5 hf => ?_)
      obtain ⟨a_6, rfl, hga_6⟩ := nn_some hf
      have hf := hga_6
      refine go_iastore dX12_drop_33 hf (fun h_7 hf => ?_)
      refine go_iinc (j := 2) (v := x2 + 1) (lv' := [(2, .int (x2 + 1)), (0, vR Ω (some a0)), (1, .int x1)]) dX12_drop_34 rfl rfl (by decide) (by first | rfl | simp [catR, catI, catJ]) ?_
      refine go_goto (tgt := 12) dX12_drop_37 (by decide) ?_
      refine go_sub (lv' := [(0, vR Ω (some a0)), (1, .int x1), (2, .int (x2 + 1))]) [1, 2, 0] rfl ?_
      exact ih a0 x1 (x2 + 1) h_7 q hf
def f_X12_drop (a0 : Nat) (x1 : Int32) (h : AH) : Option (Unit × AH) := rdI h a0 13 2 fun x_1 =>
  wrI h a0 13 2 (x_1 - x1) fun h_2 =>
  f_X12_drop_12 FU a0 x1 0 h_2
set_option maxRecDepth 20000 in
set_option maxHeartbeats 4000000 in
theorem t_X12_drop {Ω : Om} (a0 : Nat) (x1 : Int32) (h : AH) (q : Unit × AH) (hf : f_X12_drop a0 x1 h = some q) : Go Ω M_X12_drop 0 (lv_args 0 [vR Ω (some a0), .int x1]) [] h none q.2 := by
  unfold f_X12_drop at hf
  rw [la_R, la_I, la_0]
  refine go_sub (lv' := [(0, vR Ω (some a0)), (1, .int x1)]) [0, 1] rfl ?_
  refine go_aload_n dX12_drop_0 rfl 0 rfl ?_
  refine go_dup dX12_drop_1 catR ?_
  refine go_getI dX12_drop_2 fl_1121_0 (fun _ _ => rfl) hf (fun x_1 hf => ?_)
  refine go_iload_n dX12_drop_5 rfl 1 rfl ?_
  refine go_isub dX12_drop_6 ?_
  refine go_putI dX12_drop_7 fl_1121_0 (fun q hq => by cases hq; exact Or.inl rfl) (fun _ _ => rfl) rfl hf (fun h_2 hf => ?_)
  refine go_iconst 0 dX12_drop_10 rfl ?_
  refine go_istore_n (i := 2) (lv' := [(2, .int 0), (0, vR Ω (some a0)), (1, .int x1)]) dX12_drop_11 rfl (by decide) (by first | rfl | simp [catR, catI, catJ]) ?_
  refine go_sub (lv' := [(0, vR Ω (some a0)), (1, .int x1), (2, .int 0)]) [1, 2, 0] rfl ?_
  exact t_X12_drop_12 FU a0 x1 0 h_2 q hf
-- LetterBrokerModel.exchangeOf(J)I
theorem dX12_exchangeOf_0 : decode cX12_exchangeOf 0 = .ok (.iconst 0, 1) := by decide +kernel
theorem dX12_exchangeOf_1 : decode cX12_exchangeOf 1 = .ok (.istore_n 3, 1) := by decide +kernel
theorem dX12_exchangeOf_2 : decode cX12_exchangeOf 2 = .ok (.iload_n 3, 1) := by decide +kernel
theorem dX12_exchangeOf_3 : decode cX12_exchangeOf 3 = .ok (.aload_n 0, 1) := by decide +kernel
theorem dX12_exchangeOf_4 : decode cX12_exchangeOf 4 = .ok (.getfield 16, 3) := by decide +kernel
theorem dX12_exchangeOf_7 : decode cX12_exchangeOf 7 = .ok (.if_icmp .ge 22, 3) := by decide +kernel
theorem dX12_exchangeOf_10 : decode cX12_exchangeOf 10 = .ok (.aload_n 0, 1) := by decide +kernel
theorem dX12_exchangeOf_11 : decode cX12_exchangeOf 11 = .ok (.getfield 20, 3) := by decide +kernel
theorem dX12_exchangeOf_14 : decode cX12_exchangeOf 14 = .ok (.iload_n 3, 1) := by decide +kernel
theorem dX12_exchangeOf_15 : decode cX12_exchangeOf 15 = .ok (.laload, 1) := by decide +kernel
theorem dX12_exchangeOf_16 : decode cX12_exchangeOf 16 = .ok (.lload_n 1, 1) := by decide +kernel
theorem dX12_exchangeOf_17 : decode cX12_exchangeOf 17 = .ok (.lcmp, 1) := by decide +kernel
theorem dX12_exchangeOf_18 : decode cX12_exchangeOf 18 = .ok (.ifCond .ne 5, 3) := by decide +kernel
theorem dX12_exchangeOf_21 : decode cX12_exchangeOf 21 = .ok (.iload_n 3, 1) := by decide +kernel
theorem dX12_exchangeOf_22 : decode cX12_exchangeOf 22 = .ok (.ireturn, 1) := by decide +kernel
theorem dX12_exchangeOf_23 : decode cX12_exchangeOf 23 = .ok (.iinc 3 1, 3) := by decide +kernel
theorem dX12_exchangeOf_26 : decode cX12_exchangeOf 26 = .ok (.goto (-24), 3) := by decide +kernel
theorem dX12_exchangeOf_29 : decode cX12_exchangeOf 29 = .ok (.iconst (-1), 1) := by decide +kernel
theorem dX12_exchangeOf_30 : decode cX12_exchangeOf 30 = .ok (.ireturn, 1) := by decide +kernel
def f_X12_exchangeOf_2 : Nat → Nat → Int64 → Int32 → AH → Option (Int32 × AH)
  | 0, _, _, _, _ => none
  | n + 1, a0, x1, x3, h => rdI h a0 13 5 fun x_1 =>
    (if x_1 ≤ x3 then
      some (((-1)), h)
    else
      rdR h a0 13 6 fun r_2 =>
      nn r_2 fun a_3 =>
      arJ h a_3 x3 fun x_4 =>
      (if (lg_cmp x_4 x1) = 0 then
        some (x3, h)
      else
        f_X12_exchangeOf_2 n a0 x1 (x3 + 1) h))
set_option maxRecDepth 20000 in
set_option maxHeartbeats 4000000 in
theorem t_X12_exchangeOf_2 {Ω : Om} : ∀ (n : Nat) (a0 : Nat) (x1 : Int64) (x3 : Int32) (h : AH) (q : Int32 × AH), f_X12_exchangeOf_2 n a0 x1 x3 h = some q → Go Ω M_X12_exchangeOf 2 [(0, vR Ω (some a0)), (1, .long x1), (3, .int x3)] [] h (some (.int q.1)) q.2 := by
  intro n
  induction n with
  | zero => intro a0 x1 x3 h q hf; cases hf
  | succ n ih =>
    intro a0 x1 x3 h q hf
    rw [f_X12_exchangeOf_2] at hf
    refine go_iload_n dX12_exchangeOf_2 rfl 2 rfl ?_
    refine go_aload_n dX12_exchangeOf_3 rfl 0 rfl ?_
    refine go_getI dX12_exchangeOf_4 fl_1124_0 (fun _ _ => rfl) hf (fun x_1 hf => ?_)
    refine go_icmp_ge (tgt := 29) dX12_exchangeOf_7 (by decide) hf (fun hf => ?_) (fun hf => ?_)
    · refine go_iconst (-1) dX12_exchangeOf_29 rfl ?_
      exact go_ireturn dX12_exchangeOf_30 rfl hf
    · refine go_aload_n dX12_exchangeOf_10 rfl 0 rfl ?_
      refine go_getR dX12_exchangeOf_11 fl_1125_0 (fun _ _ => rfl) hf (fun r_2 hf => ?_)
      refine go_iload_n dX12_exchangeOf_14 rfl 2 rfl ?_
      obtain ⟨a_3, rfl, hga_3⟩ := nn_some hf
      have hf := hga_3
      refine go_laload dX12_exchangeOf_15 hf (fun x_4 hf => ?_)
      refine go_lload_n dX12_exchangeOf_16 rfl 1 rfl ?_
      refine go_lcmp dX12_exchangeOf_17 ?_
      refine go_if_ne (tgt := 23) dX12_exchangeOf_18 (by decide) hf (fun hf => ?_) (fun hf => ?_)
      · refine go_iinc (j := 2) (v := x3 + 1) (lv' := [(3, .int (x3 + 1)), (0, vR Ω (some a0)), (1, .long x1)]) dX12_exchangeOf_23 rfl rfl (by decide) (by first | rfl | simp [catR, catI, catJ]) ?_
        refine go_goto (tgt := 2) dX12_exchangeOf_26 (by decide) ?_
        refine go_sub (lv' := [(0, vR Ω (some a0)), (1, .long x1), (3, .int (x3 + 1))]) [1, 2, 0] rfl ?_
        exact ih a0 x1 (x3 + 1) h q hf
      · refine go_iload_n dX12_exchangeOf_21 rfl 2 rfl ?_
        exact go_ireturn dX12_exchangeOf_22 rfl hf
def f_X12_exchangeOf (a0 : Nat) (x1 : Int64) (h : AH) : Option (Int32 × AH) := f_X12_exchangeOf_2 FU a0 x1 0 h
set_option maxRecDepth 20000 in
set_option maxHeartbeats 4000000 in
theorem t_X12_exchangeOf {Ω : Om} (a0 : Nat) (x1 : Int64) (h : AH) (q : Int32 × AH) (hf : f_X12_exchangeOf a0 x1 h = some q) : Go Ω M_X12_exchangeOf 0 (lv_args 0 [vR Ω (some a0), .long x1]) [] h (some (.int q.1)) q.2 := by
  unfold f_X12_exchangeOf at hf
  rw [la_R, la_J, la_0]
  refine go_sub (lv' := [(0, vR Ω (some a0)), (1, .long x1)]) [0, 1] rfl ?_
  refine go_iconst 0 dX12_exchangeOf_0 rfl ?_
  refine go_istore_n (i := 3) (lv' := [(3, .int 0), (0, vR Ω (some a0)), (1, .long x1)]) dX12_exchangeOf_1 rfl (by decide) (by first | rfl | simp [catR, catI, catJ]) ?_
  refine go_sub (lv' := [(0, vR Ω (some a0)), (1, .long x1), (3, .int 0)]) [1, 2, 0] rfl ?_
  exact t_X12_exchangeOf_2 FU a0 x1 0 h q hf
-- LetterBrokerModel.fitsAt(III)Z
theorem dX12_fitsAt_0 : decode cX12_fitsAt 0 = .ok (.aload_n 0, 1) := by decide +kernel
theorem dX12_fitsAt_1 : decode cX12_fitsAt 1 = .ok (.getfield 148, 3) := by decide +kernel
theorem dX12_fitsAt_4 : decode cX12_fitsAt 4 = .ok (.iload_n 2, 1) := by decide +kernel
theorem dX12_fitsAt_5 : decode cX12_fitsAt 5 = .ok (.laload, 1) := by decide +kernel
theorem dX12_fitsAt_6 : decode cX12_fitsAt 6 = .ok (.lstore 4, 2) := by decide +kernel
theorem dX12_fitsAt_8 : decode cX12_fitsAt 8 = .ok (.lload 4, 2) := by decide +kernel
theorem dX12_fitsAt_10 : decode cX12_fitsAt 10 = .ok (.ldc2_w 237, 3) := by decide +kernel
theorem dX12_fitsAt_13 : decode cX12_fitsAt 13 = .ok (.lcmp, 1) := by decide +kernel
theorem dX12_fitsAt_14 : decode cX12_fitsAt 14 = .ok (.ifCond .ne 46, 3) := by decide +kernel
theorem dX12_fitsAt_17 : decode cX12_fitsAt 17 = .ok (.aload_n 0, 1) := by decide +kernel
theorem dX12_fitsAt_18 : decode cX12_fitsAt 18 = .ok (.getfield 151, 3) := by decide +kernel
theorem dX12_fitsAt_21 : decode cX12_fitsAt 21 = .ok (.bipush 11, 2) := by decide +kernel
theorem dX12_fitsAt_23 : decode cX12_fitsAt 23 = .ok (.iload_n 2, 1) := by decide +kernel
theorem dX12_fitsAt_24 : decode cX12_fitsAt 24 = .ok (.iconst 1, 1) := by decide +kernel
theorem dX12_fitsAt_25 : decode cX12_fitsAt 25 = .ok (.iadd, 1) := by decide +kernel
theorem dX12_fitsAt_26 : decode cX12_fitsAt 26 = .ok (.imul, 1) := by decide +kernel
theorem dX12_fitsAt_27 : decode cX12_fitsAt 27 = .ok (.iload_n 1, 1) := by decide +kernel
theorem dX12_fitsAt_28 : decode cX12_fitsAt 28 = .ok (.iadd, 1) := by decide +kernel
theorem dX12_fitsAt_29 : decode cX12_fitsAt 29 = .ok (.baload, 1) := by decide +kernel
theorem dX12_fitsAt_30 : decode cX12_fitsAt 30 = .ok (.ifCond .ne 24, 3) := by decide +kernel
theorem dX12_fitsAt_33 : decode cX12_fitsAt 33 = .ok (.iload_n 1, 1) := by decide +kernel
theorem dX12_fitsAt_34 : decode cX12_fitsAt 34 = .ok (.iload_n 3, 1) := by decide +kernel
theorem dX12_fitsAt_35 : decode cX12_fitsAt 35 = .ok (.if_icmp .ge 23, 3) := by decide +kernel
theorem dX12_fitsAt_38 : decode cX12_fitsAt 38 = .ok (.aload_n 0, 1) := by decide +kernel
theorem dX12_fitsAt_39 : decode cX12_fitsAt 39 = .ok (.getfield 151, 3) := by decide +kernel
theorem dX12_fitsAt_42 : decode cX12_fitsAt 42 = .ok (.bipush 11, 2) := by decide +kernel
theorem dX12_fitsAt_44 : decode cX12_fitsAt 44 = .ok (.iload_n 2, 1) := by decide +kernel
theorem dX12_fitsAt_45 : decode cX12_fitsAt 45 = .ok (.imul, 1) := by decide +kernel
theorem dX12_fitsAt_46 : decode cX12_fitsAt 46 = .ok (.iload_n 1, 1) := by decide +kernel
theorem dX12_fitsAt_47 : decode cX12_fitsAt 47 = .ok (.iadd, 1) := by decide +kernel
theorem dX12_fitsAt_48 : decode cX12_fitsAt 48 = .ok (.iconst 1, 1) := by decide +kernel
theorem dX12_fitsAt_49 : decode cX12_fitsAt 49 = .ok (.iadd, 1) := by decide +kernel
theorem dX12_fitsAt_50 : decode cX12_fitsAt 50 = .ok (.baload, 1) := by decide +kernel
theorem dX12_fitsAt_51 : decode cX12_fitsAt 51 = .ok (.ifCond .eq 7, 3) := by decide +kernel
theorem dX12_fitsAt_54 : decode cX12_fitsAt 54 = .ok (.iconst 1, 1) := by decide +kernel
theorem dX12_fitsAt_55 : decode cX12_fitsAt 55 = .ok (.goto 4, 3) := by decide +kernel
theorem dX12_fitsAt_58 : decode cX12_fitsAt 58 = .ok (.iconst 0, 1) := by decide +kernel
theorem dX12_fitsAt_59 : decode cX12_fitsAt 59 = .ok (.ireturn, 1) := by decide +kernel
theorem dX12_fitsAt_60 : decode cX12_fitsAt 60 = .ok (.iload_n 1, 1) := by decide +kernel
theorem dX12_fitsAt_61 : decode cX12_fitsAt 61 = .ok (.iload_n 3, 1) := by decide +kernel
theorem dX12_fitsAt_62 : decode cX12_fitsAt 62 = .ok (.if_icmp .ge 46, 3) := by decide +kernel
theorem dX12_fitsAt_65 : decode cX12_fitsAt 65 = .ok (.lload 4, 2) := by decide +kernel
theorem dX12_fitsAt_67 : decode cX12_fitsAt 67 = .ok (.ldc2_w 239, 3) := by decide +kernel
theorem dX12_fitsAt_70 : decode cX12_fitsAt 70 = .ok (.lcmp, 1) := by decide +kernel
theorem dX12_fitsAt_71 : decode cX12_fitsAt 71 = .ok (.ifCond .eq 15, 3) := by decide +kernel
theorem dX12_fitsAt_74 : decode cX12_fitsAt 74 = .ok (.lload 4, 2) := by decide +kernel
theorem dX12_fitsAt_76 : decode cX12_fitsAt 76 = .ok (.aload_n 0, 1) := by decide +kernel
theorem dX12_fitsAt_77 : decode cX12_fitsAt 77 = .ok (.getfield 145, 3) := by decide +kernel
theorem dX12_fitsAt_80 : decode cX12_fitsAt 80 = .ok (.iload_n 1, 1) := by decide +kernel
theorem dX12_fitsAt_81 : decode cX12_fitsAt 81 = .ok (.laload, 1) := by decide +kernel
theorem dX12_fitsAt_82 : decode cX12_fitsAt 82 = .ok (.lcmp, 1) := by decide +kernel
theorem dX12_fitsAt_83 : decode cX12_fitsAt 83 = .ok (.ifCond .ne 25, 3) := by decide +kernel
theorem dX12_fitsAt_86 : decode cX12_fitsAt 86 = .ok (.aload_n 0, 1) := by decide +kernel
theorem dX12_fitsAt_87 : decode cX12_fitsAt 87 = .ok (.getfield 151, 3) := by decide +kernel
theorem dX12_fitsAt_90 : decode cX12_fitsAt 90 = .ok (.bipush 11, 2) := by decide +kernel
theorem dX12_fitsAt_92 : decode cX12_fitsAt 92 = .ok (.iload_n 2, 1) := by decide +kernel
theorem dX12_fitsAt_93 : decode cX12_fitsAt 93 = .ok (.iconst 1, 1) := by decide +kernel
theorem dX12_fitsAt_94 : decode cX12_fitsAt 94 = .ok (.iadd, 1) := by decide +kernel
theorem dX12_fitsAt_95 : decode cX12_fitsAt 95 = .ok (.imul, 1) := by decide +kernel
theorem dX12_fitsAt_96 : decode cX12_fitsAt 96 = .ok (.iload_n 1, 1) := by decide +kernel
theorem dX12_fitsAt_97 : decode cX12_fitsAt 97 = .ok (.iadd, 1) := by decide +kernel
theorem dX12_fitsAt_98 : decode cX12_fitsAt 98 = .ok (.iconst 1, 1) := by decide +kernel
theorem dX12_fitsAt_99 : decode cX12_fitsAt 99 = .ok (.iadd, 1) := by decide +kernel
theorem dX12_fitsAt_100 : decode cX12_fitsAt 100 = .ok (.baload, 1) := by decide +kernel
theorem dX12_fitsAt_101 : decode cX12_fitsAt 101 = .ok (.ifCond .eq 7, 3) := by decide +kernel
theorem dX12_fitsAt_104 : decode cX12_fitsAt 104 = .ok (.iconst 1, 1) := by decide +kernel
theorem dX12_fitsAt_105 : decode cX12_fitsAt 105 = .ok (.goto 4, 3) := by decide +kernel
theorem dX12_fitsAt_108 : decode cX12_fitsAt 108 = .ok (.iconst 0, 1) := by decide +kernel
theorem dX12_fitsAt_109 : decode cX12_fitsAt 109 = .ok (.ireturn, 1) := by decide +kernel
def f_X12_fitsAt_86 (a0 : Nat) (x1 : Int32) (x2 : Int32) (h : AH) : Option (Int32 × AH) := rdR h a0 13 60 fun r_1 =>
  nn r_1 fun a_2 =>
  arZ h a_2 (((11 * (x2 + 1)) + x1) + 1) fun x_3 =>
  (if x_3 = 0 then
    rz 0 (some (0, h))
  else
    rz 1 (some (1, h)))
set_option maxRecDepth 20000 in
set_option maxHeartbeats 4000000 in
theorem t_X12_fitsAt_86 {Ω : Om} (a0 : Nat) (x1 : Int32) (x2 : Int32) (h : AH) (q : Int32 × AH) (hf : f_X12_fitsAt_86 a0 x1 x2 h = some q) : Go Ω M_X12_fitsAt 86 [(0, vR Ω (some a0)), (1, .int x1), (2, .int x2)] [] h (some (.int q.1)) q.2 := by
  unfold f_X12_fitsAt_86 at hf
  refine go_aload_n dX12_fitsAt_86 rfl 0 rfl ?_
  refine go_getR dX12_fitsAt_87 fl_1179_0 (fun _ _ => rfl) hf (fun r_1 hf => ?_)
  refine go_bipush 11 dX12_fitsAt_90 (by decide) ?_
  refine go_iload_n dX12_fitsAt_92 rfl 2 rfl ?_
  refine go_iconst 1 dX12_fitsAt_93 rfl ?_
  refine go_iadd dX12_fitsAt_94 ?_
  refine go_imul dX12_fitsAt_95 ?_
  refine go_iload_n dX12_fitsAt_96 rfl 1 rfl ?_
  refine go_iadd dX12_fitsAt_97 ?_
  refine go_iconst 1 dX12_fitsAt_98 rfl ?_
  refine go_iadd dX12_fitsAt_99 ?_
  obtain ⟨a_2, rfl, hga_2⟩ := nn_some hf
  have hf := hga_2
  refine go_zaload dX12_fitsAt_100 hf (fun x_3 hf => ?_)
  refine go_if_eq (tgt := 108) dX12_fitsAt_101 (by decide) hf (fun hf => ?_) (fun hf => ?_)
  · refine go_iconst 0 dX12_fitsAt_108 rfl ?_
    exact go_zreturn dX12_fitsAt_109 rfl hf
  · refine go_iconst 1 dX12_fitsAt_104 rfl ?_
    refine go_goto (tgt := 109) dX12_fitsAt_105 (by decide) ?_
    exact go_zreturn dX12_fitsAt_109 rfl hf
def f_X12_fitsAt (a0 : Nat) (x1 : Int32) (x2 : Int32) (x3 : Int32) (h : AH) : Option (Int32 × AH) := rdR h a0 13 59 fun r_1 =>
  nn r_1 fun a_2 =>
  arJ h a_2 x2 fun x_3 =>
  (if (lg_cmp x_3 291) = 0 then
    rdR h a0 13 60 fun r_7 =>
    nn r_7 fun a_8 =>
    arZ h a_8 ((11 * (x2 + 1)) + x1) fun x_9 =>
    (if x_9 = 0 then
      (if x3 ≤ x1 then
        rz 0 (some (0, h))
      else
        rdR h a0 13 60 fun r_10 =>
        nn r_10 fun a_11 =>
        arZ h a_11 (((11 * x2) + x1) + 1) fun x_12 =>
        (if x_12 = 0 then
          rz 0 (some (0, h))
        else
          rz 1 (some (1, h))))
    else
      rz 1 (some (1, h)))
  else
    (if x3 ≤ x1 then
      rz 0 (some (0, h))
    else
      (if (lg_cmp x_3 298) = 0 then
        f_X12_fitsAt_86 a0 x1 x2 h
      else
        rdR h a0 13 58 fun r_4 =>
        nn r_4 fun a_5 =>
        arJ h a_5 x1 fun x_6 =>
        (if (lg_cmp x_3 x_6) = 0 then
          f_X12_fitsAt_86 a0 x1 x2 h
        else
          rz 0 (some (0, h))))))
set_option maxRecDepth 20000 in
set_option maxHeartbeats 4000000 in
theorem t_X12_fitsAt {Ω : Om} (a0 : Nat) (x1 : Int32) (x2 : Int32) (x3 : Int32) (h : AH) (q : Int32 × AH) (hf : f_X12_fitsAt a0 x1 x2 x3 h = some q) : Go Ω M_X12_fitsAt 0 (lv_args 0 [vR Ω (some a0), .int x1, .int x2, .int x3]) [] h (some (.int q.1)) q.2 := by
  unfold f_X12_fitsAt at hf
  rw [la_R, la_I, la_I, la_I, la_0]
  refine go_sub (lv' := [(0, vR Ω (some a0)), (1, .int x1), (2, .int x2), (3, .int x3)]) [0, 1, 2, 3] rfl ?_
  refine go_aload_n dX12_fitsAt_0 rfl 0 rfl ?_
  refine go_getR dX12_fitsAt_1 fl_1178_0 (fun _ _ => rfl) hf (fun r_1 hf => ?_)
  refine go_iload_n dX12_fitsAt_4 rfl 2 rfl ?_
  obtain ⟨a_2, rfl, hga_2⟩ := nn_some hf
  have hf := hga_2
  refine go_laload dX12_fitsAt_5 hf (fun x_3 hf => ?_)
  refine go_lstore (i := 4) (lv' := [(4, .long x_3), (0, vR Ω (some a0)), (1, .int x1), (2, .int x2), (3, .int x3)]) dX12_fitsAt_6 (by decide) (by first | rfl | simp [catR, catI, catJ]) ?_
  refine go_lload dX12_fitsAt_8 0 rfl ?_
  refine go_ldc2 291 dX12_fitsAt_10 w1579 ?_
  refine go_lcmp dX12_fitsAt_13 ?_
  refine go_if_ne (tgt := 60) dX12_fitsAt_14 (by decide) hf (fun hf => ?_) (fun hf => ?_)
  · refine go_iload_n dX12_fitsAt_60 rfl 2 rfl ?_
    refine go_iload_n dX12_fitsAt_61 rfl 4 rfl ?_
    refine go_icmp_ge (tgt := 108) dX12_fitsAt_62 (by decide) hf (fun hf => ?_) (fun hf => ?_)
    · refine go_iconst 0 dX12_fitsAt_108 rfl ?_
      exact go_zreturn dX12_fitsAt_109 rfl hf
    · refine go_lload dX12_fitsAt_65 0 rfl ?_
      refine go_ldc2 298 dX12_fitsAt_67 w1580 ?_
      refine go_lcmp dX12_fitsAt_70 ?_
      refine go_if_eq (tgt := 86) dX12_fitsAt_71 (by decide) hf (fun hf => ?_) (fun hf => ?_)
      · refine go_sub (lv' := [(0, vR Ω (some a0)), (1, .int x1), (2, .int x2)]) [1, 2, 3] rfl ?_
        exact t_X12_fitsAt_86 a0 x1 x2 h q hf
      · refine go_lload dX12_fitsAt_74 0 rfl ?_
        refine go_aload_n dX12_fitsAt_76 rfl 1 rfl ?_
        refine go_getR dX12_fitsAt_77 fl_1177_0 (fun _ _ => rfl) hf (fun r_4 hf => ?_)
        refine go_iload_n dX12_fitsAt_80 rfl 2 rfl ?_
        obtain ⟨a_5, rfl, hga_5⟩ := nn_some hf
        have hf := hga_5
        refine go_laload dX12_fitsAt_81 hf (fun x_6 hf => ?_)
        refine go_lcmp dX12_fitsAt_82 ?_
        refine go_if_ne (tgt := 108) dX12_fitsAt_83 (by decide) hf (fun hf => ?_) (fun hf => ?_)
        · refine go_iconst 0 dX12_fitsAt_108 rfl ?_
          exact go_zreturn dX12_fitsAt_109 rfl hf
        · refine go_sub (lv' := [(0, vR Ω (some a0)), (1, .int x1), (2, .int x2)]) [1, 2, 3] rfl ?_
          exact t_X12_fitsAt_86 a0 x1 x2 h q hf
  · refine go_aload_n dX12_fitsAt_17 rfl 1 rfl ?_
    refine go_getR dX12_fitsAt_18 fl_1179_0 (fun _ _ => rfl) hf (fun r_7 hf => ?_)
    refine go_bipush 11 dX12_fitsAt_21 (by decide) ?_
    refine go_iload_n dX12_fitsAt_23 rfl 3 rfl ?_
    refine go_iconst 1 dX12_fitsAt_24 rfl ?_
    refine go_iadd dX12_fitsAt_25 ?_
    refine go_imul dX12_fitsAt_26 ?_
    refine go_iload_n dX12_fitsAt_27 rfl 2 rfl ?_
    refine go_iadd dX12_fitsAt_28 ?_
    obtain ⟨a_8, rfl, hga_8⟩ := nn_some hf
    have hf := hga_8
    refine go_zaload dX12_fitsAt_29 hf (fun x_9 hf => ?_)
    refine go_if_ne (tgt := 54) dX12_fitsAt_30 (by decide) hf (fun hf => ?_) (fun hf => ?_)
    · refine go_iconst 1 dX12_fitsAt_54 rfl ?_
      refine go_goto (tgt := 59) dX12_fitsAt_55 (by decide) ?_
      exact go_zreturn dX12_fitsAt_59 rfl hf
    · refine go_iload_n dX12_fitsAt_33 rfl 2 rfl ?_
      refine go_iload_n dX12_fitsAt_34 rfl 4 rfl ?_
      refine go_icmp_ge (tgt := 58) dX12_fitsAt_35 (by decide) hf (fun hf => ?_) (fun hf => ?_)
      · refine go_iconst 0 dX12_fitsAt_58 rfl ?_
        exact go_zreturn dX12_fitsAt_59 rfl hf
      · refine go_aload_n dX12_fitsAt_38 rfl 1 rfl ?_
        refine go_getR dX12_fitsAt_39 fl_1179_0 (fun _ _ => rfl) hf (fun r_10 hf => ?_)
        refine go_bipush 11 dX12_fitsAt_42 (by decide) ?_
        refine go_iload_n dX12_fitsAt_44 rfl 3 rfl ?_
        refine go_imul dX12_fitsAt_45 ?_
        refine go_iload_n dX12_fitsAt_46 rfl 2 rfl ?_
        refine go_iadd dX12_fitsAt_47 ?_
        refine go_iconst 1 dX12_fitsAt_48 rfl ?_
        refine go_iadd dX12_fitsAt_49 ?_
        obtain ⟨a_11, rfl, hga_11⟩ := nn_some hf
        have hf := hga_11
        refine go_zaload dX12_fitsAt_50 hf (fun x_12 hf => ?_)
        refine go_if_eq (tgt := 58) dX12_fitsAt_51 (by decide) hf (fun hf => ?_) (fun hf => ?_)
        · refine go_iconst 0 dX12_fitsAt_58 rfl ?_
          exact go_zreturn dX12_fitsAt_59 rfl hf
        · refine go_iconst 1 dX12_fitsAt_54 rfl ?_
          refine go_goto (tgt := 59) dX12_fitsAt_55 (by decide) ?_
          exact go_zreturn dX12_fitsAt_59 rfl hf
-- LetterBrokerModel.split(J[J)I
theorem dX12_split_0 : decode cX12_split 0 = .ok (.iconst 0, 1) := by decide +kernel
theorem dX12_split_1 : decode cX12_split 1 = .ok (.istore_n 3, 1) := by decide +kernel
theorem dX12_split_2 : decode cX12_split 2 = .ok (.aload_n 2, 1) := by decide +kernel
theorem dX12_split_3 : decode cX12_split 3 = .ok (.iconst 0, 1) := by decide +kernel
theorem dX12_split_4 : decode cX12_split 4 = .ok (.lconst 1, 1) := by decide +kernel
theorem dX12_split_5 : decode cX12_split 5 = .ok (.lastore, 1) := by decide +kernel
theorem dX12_split_6 : decode cX12_split 6 = .ok (.lload_n 0, 1) := by decide +kernel
theorem dX12_split_7 : decode cX12_split 7 = .ok (.invokestatic 175, 3) := by decide +kernel
theorem dX12_split_10 : decode cX12_split 10 = .ok (.iconst 1, 1) := by decide +kernel
theorem dX12_split_11 : decode cX12_split 11 = .ok (.isub, 1) := by decide +kernel
theorem dX12_split_12 : decode cX12_split 12 = .ok (.istore 4, 2) := by decide +kernel
theorem dX12_split_14 : decode cX12_split 14 = .ok (.iload 4, 2) := by decide +kernel
theorem dX12_split_16 : decode cX12_split 16 = .ok (.ifCond .lt 53, 3) := by decide +kernel
theorem dX12_split_19 : decode cX12_split 19 = .ok (.lload_n 0, 1) := by decide +kernel
theorem dX12_split_20 : decode cX12_split 20 = .ok (.bipush 8, 2) := by decide +kernel
theorem dX12_split_22 : decode cX12_split 22 = .ok (.iload 4, 2) := by decide +kernel
theorem dX12_split_24 : decode cX12_split 24 = .ok (.imul, 1) := by decide +kernel
theorem dX12_split_25 : decode cX12_split 25 = .ok (.lshr, 1) := by decide +kernel
theorem dX12_split_26 : decode cX12_split 26 = .ok (.ldc2_w 225, 3) := by decide +kernel
theorem dX12_split_29 : decode cX12_split 29 = .ok (.land, 1) := by decide +kernel
theorem dX12_split_30 : decode cX12_split 30 = .ok (.lstore 5, 2) := by decide +kernel
theorem dX12_split_32 : decode cX12_split 32 = .ok (.lload 5, 2) := by decide +kernel
theorem dX12_split_34 : decode cX12_split 34 = .ok (.ldc2_w 227, 3) := by decide +kernel
theorem dX12_split_37 : decode cX12_split 37 = .ok (.lcmp, 1) := by decide +kernel
theorem dX12_split_38 : decode cX12_split 38 = .ok (.ifCond .ne 13, 3) := by decide +kernel
theorem dX12_split_41 : decode cX12_split 41 = .ok (.iinc 3 1, 3) := by decide +kernel
theorem dX12_split_44 : decode cX12_split 44 = .ok (.aload_n 2, 1) := by decide +kernel
theorem dX12_split_45 : decode cX12_split 45 = .ok (.iload_n 3, 1) := by decide +kernel
theorem dX12_split_46 : decode cX12_split 46 = .ok (.lconst 1, 1) := by decide +kernel
theorem dX12_split_47 : decode cX12_split 47 = .ok (.lastore, 1) := by decide +kernel
theorem dX12_split_48 : decode cX12_split 48 = .ok (.goto 15, 3) := by decide +kernel
theorem dX12_split_51 : decode cX12_split 51 = .ok (.aload_n 2, 1) := by decide +kernel
theorem dX12_split_52 : decode cX12_split 52 = .ok (.iload_n 3, 1) := by decide +kernel
theorem dX12_split_53 : decode cX12_split 53 = .ok (.aload_n 2, 1) := by decide +kernel
theorem dX12_split_54 : decode cX12_split 54 = .ok (.iload_n 3, 1) := by decide +kernel
theorem dX12_split_55 : decode cX12_split 55 = .ok (.laload, 1) := by decide +kernel
theorem dX12_split_56 : decode cX12_split 56 = .ok (.bipush 8, 2) := by decide +kernel
theorem dX12_split_58 : decode cX12_split 58 = .ok (.lshl, 1) := by decide +kernel
theorem dX12_split_59 : decode cX12_split 59 = .ok (.lload 5, 2) := by decide +kernel
theorem dX12_split_61 : decode cX12_split 61 = .ok (.lor, 1) := by decide +kernel
theorem dX12_split_62 : decode cX12_split 62 = .ok (.lastore, 1) := by decide +kernel
theorem dX12_split_63 : decode cX12_split 63 = .ok (.iinc 4 (-1), 3) := by decide +kernel
theorem dX12_split_66 : decode cX12_split 66 = .ok (.goto (-52), 3) := by decide +kernel
theorem dX12_split_69 : decode cX12_split 69 = .ok (.iload_n 3, 1) := by decide +kernel
theorem dX12_split_70 : decode cX12_split 70 = .ok (.iconst 1, 1) := by decide +kernel
theorem dX12_split_71 : decode cX12_split 71 = .ok (.iadd, 1) := by decide +kernel
theorem dX12_split_72 : decode cX12_split 72 = .ok (.ireturn, 1) := by decide +kernel
def f_X12_split_63 (k14 : Int64 → Option Nat → Int32 → Int32 → AH → Option (Int32 × AH)) (x0 : Int64) (r2 : Option Nat) (x3 : Int32) (x4 : Int32) (h : AH) : Option (Int32 × AH) := k14 x0 r2 x3 (x4 + (-1)) h
set_option maxRecDepth 20000 in
set_option maxHeartbeats 4000000 in
theorem t_X12_split_63 {Ω : Om} {k14 : Int64 → Option Nat → Int32 → Int32 → AH → Option (Int32 × AH)} (c14 : ∀ (x0 : Int64) (r2 : Option Nat) (x3 : Int32) (x4 : Int32) (h : AH) (q : Int32 × AH), k14 x0 r2 x3 x4 h = some q → Go Ω M_X12_split 14 [(0, .long x0), (2, vR Ω r2), (3, .int x3), (4, .int x4)] [] h (some (.int q.1)) q.2) (x0 : Int64) (r2 : Option Nat) (x3 : Int32) (x4 : Int32) (h : AH) (q : Int32 × AH) (hf : f_X12_split_63 k14 x0 r2 x3 x4 h = some q) : Go Ω M_X12_split 63 [(0, .long x0), (2, vR Ω r2), (3, .int x3), (4, .int x4)] [] h (some (.int q.1)) q.2 := by
  unfold f_X12_split_63 at hf
  refine go_iinc (j := 3) (v := x4 + (-1)) (lv' := [(4, .int (x4 + (-1))), (0, .long x0), (2, vR Ω r2), (3, .int x3)]) dX12_split_63 rfl rfl (by decide) (by first | rfl | simp [catR, catI, catJ]) ?_
  refine go_goto (tgt := 14) dX12_split_66 (by decide) ?_
  refine go_sub (lv' := [(0, .long x0), (2, vR Ω r2), (3, .int x3), (4, .int (x4 + (-1)))]) [1, 2, 3, 0] rfl ?_
  exact c14 x0 r2 x3 (x4 + (-1)) h q hf
def f_X12_split_14 : Nat → Int64 → Option Nat → Int32 → Int32 → AH → Option (Int32 × AH)
  | 0, _, _, _, _, _ => none
  | n + 1, x0, r2, x3, x4, h => (if x4 < 0 then
      some ((x3 + 1), h)
    else
      lt ((x0 >>> ((8 * x4).toInt64 &&& 63)) &&& 255) fun x_1 =>
      (if (lg_cmp x_1 46) = 0 then
        nn r2 fun a_5 =>
        asJ h a_5 (x3 + 1) 1 fun h_6 =>
        f_X12_split_63 (fun x0 r2 x3 x4 h => f_X12_split_14 n x0 r2 x3 x4 h) x0 (some a_5) (x3 + 1) x4 h_6
      else
        nn r2 fun a_2 =>
        arJ h a_2 x3 fun x_3 =>
        asJ h a_2 x3 ((x_3 <<< ((8 : Int32).toInt64 &&& 63)) ||| x_1) fun h_4 =>
        f_X12_split_63 (fun x0 r2 x3 x4 h => f_X12_split_14 n x0 r2 x3 x4 h) x0 (some a_2) x3 x4 h_4))
set_option maxRecDepth 20000 in
set_option maxHeartbeats 4000000 in
theorem t_X12_split_14 {Ω : Om} : ∀ (n : Nat) (x0 : Int64) (r2 : Option Nat) (x3 : Int32) (x4 : Int32) (h : AH) (q : Int32 × AH), f_X12_split_14 n x0 r2 x3 x4 h = some q → Go Ω M_X12_split 14 [(0, .long x0), (2, vR Ω r2), (3, .int x3), (4, .int x4)] [] h (some (.int q.1)) q.2 := by
  intro n
  induction n with
  | zero => intro x0 r2 x3 x4 h q hf; cases hf
  | succ n ih =>
    intro x0 r2 x3 x4 h q hf
    rw [f_X12_split_14] at hf
    refine go_iload dX12_split_14 3 rfl ?_
    refine go_if_lt (tgt := 69) dX12_split_16 (by decide) hf (fun hf => ?_) (fun hf => ?_)
    · refine go_iload_n dX12_split_69 rfl 2 rfl ?_
      refine go_iconst 1 dX12_split_70 rfl ?_
      refine go_iadd dX12_split_71 ?_
      exact go_ireturn dX12_split_72 rfl hf
    · refine go_lload_n dX12_split_19 rfl 0 rfl ?_
      refine go_bipush 8 dX12_split_20 (by decide) ?_
      refine go_iload dX12_split_22 3 rfl ?_
      refine go_imul dX12_split_24 ?_
      refine go_lshr dX12_split_25 ?_
      refine go_ldc2 255 dX12_split_26 w1311 ?_
      refine go_land dX12_split_29 ?_
      refine lt_J hf (fun x_1 hf => ?_)
      refine go_lstore (i := 5) (lv' := [(5, .long x_1), (0, .long x0), (2, vR Ω r2), (3, .int x3), (4, .int x4)]) dX12_split_30 (by decide) (by first | rfl | simp [catR, catI, catJ]) ?_
      refine go_lload dX12_split_32 0 rfl ?_
      refine go_ldc2 46 dX12_split_34 w1574 ?_
      refine go_lcmp dX12_split_37 ?_
      refine go_if_ne (tgt := 51) dX12_split_38 (by decide) hf (fun hf => ?_) (fun hf => ?_)
      · refine go_aload_n dX12_split_51 rfl 2 rfl ?_
        refine go_iload_n dX12_split_52 rfl 3 rfl ?_
        refine go_aload_n dX12_split_53 rfl 2 rfl ?_
        refine go_iload_n dX12_split_54 rfl 3 rfl ?_
        obtain ⟨a_2, rfl, hga_2⟩ := nn_some hf
        have hf := hga_2
        refine go_laload dX12_split_55 hf (fun x_3 hf => ?_)
        refine go_bipush 8 dX12_split_56 (by decide) ?_
        refine go_lshl dX12_split_58 ?_
        refine go_lload dX12_split_59 0 rfl ?_
        refine go_lor dX12_split_61 ?_
        refine go_lastore dX12_split_62 hf (fun h_4 hf => ?_)
        refine go_sub (lv' := [(0, .long x0), (2, vR Ω (some a_2)), (3, .int x3), (4, .int x4)]) [1, 2, 3, 4] rfl ?_
        exact t_X12_split_63 ih x0 (some a_2) x3 x4 h_4 q hf
      · refine go_iinc (j := 3) (v := x3 + 1) (lv' := [(3, .int (x3 + 1)), (5, .long x_1), (0, .long x0), (2, vR Ω r2), (4, .int x4)]) dX12_split_41 rfl rfl (by decide) (by first | rfl | simp [catR, catI, catJ]) ?_
        refine go_aload_n dX12_split_44 rfl 3 rfl ?_
        refine go_iload_n dX12_split_45 rfl 0 rfl ?_
        refine go_lconst 1 dX12_split_46 rfl ?_
        obtain ⟨a_5, rfl, hga_5⟩ := nn_some hf
        have hf := hga_5
        refine go_lastore dX12_split_47 hf (fun h_6 hf => ?_)
        refine go_goto (tgt := 63) dX12_split_48 (by decide) ?_
        refine go_sub (lv' := [(0, .long x0), (2, vR Ω (some a_5)), (3, .int (x3 + 1)), (4, .int x4)]) [2, 3, 0, 4] rfl ?_
        exact t_X12_split_63 ih x0 (some a_5) (x3 + 1) x4 h_6 q hf
def f_X12_split (x0 : Int64) (r2 : Option Nat) (h : AH) : Option (Int32 × AH) := nn r2 fun a_1 =>
  asJ h a_1 0 1 fun h_2 =>
  bd (f_X12_length x0 h_2) fun x_5 h_4 =>
  lt (x_5 - 1) fun x_6 =>
  f_X12_split_14 FU x0 (some a_1) 0 x_6 h_4
set_option maxRecDepth 20000 in
set_option maxHeartbeats 4000000 in
theorem t_X12_split {Ω : Om} (x0 : Int64) (r2 : Option Nat) (h : AH) (q : Int32 × AH) (hf : f_X12_split x0 r2 h = some q) : Go Ω M_X12_split 0 (lv_args 0 [.long x0, vR Ω r2]) [] h (some (.int q.1)) q.2 := by
  unfold f_X12_split at hf
  rw [la_J, la_R, la_0]
  refine go_sub (lv' := [(0, .long x0), (2, vR Ω r2)]) [0, 1] rfl ?_
  refine go_iconst 0 dX12_split_0 rfl ?_
  refine go_istore_n (i := 3) (lv' := [(3, .int 0), (0, .long x0), (2, vR Ω r2)]) dX12_split_1 rfl (by decide) (by first | rfl | simp [catR, catI, catJ]) ?_
  refine go_aload_n dX12_split_2 rfl 2 rfl ?_
  refine go_iconst 0 dX12_split_3 rfl ?_
  refine go_lconst 1 dX12_split_4 rfl ?_
  obtain ⟨a_1, rfl, hga_1⟩ := nn_some hf
  have hf := hga_1
  refine go_lastore dX12_split_5 hf (fun h_2 hf => ?_)
  refine go_lload_n dX12_split_6 rfl 1 rfl ?_
  obtain ⟨z_3, hc, hf⟩ := bd_some hf
  refine go_callS (y2 := M_X12_length) dX12_split_7 mo_X12_length ⟨Nat.le_of_ble_eq_true rfl, Nat.le_of_ble_eq_true rfl⟩ na_X12_length w1464 w1465 [.long x0] rfl (n_X12_length x0) rfl (csum (Nat.le_of_ble_eq_true rfl)) (t_X12_length x0 h_2 _ hc) ?_
  obtain ⟨x_5, h_4⟩ := z_3
  refine go_iconst 1 dX12_split_10 rfl ?_
  refine go_isub dX12_split_11 ?_
  refine lt_I hf (fun x_6 hf => ?_)
  refine go_istore (i := 4) (lv' := [(4, .int x_6), (3, .int 0), (0, .long x0), (2, vR Ω (some a_1))]) dX12_split_12 (by decide) (by first | rfl | simp [catR, catI, catJ]) ?_
  refine go_sub (lv' := [(0, .long x0), (2, vR Ω (some a_1)), (3, .int 0), (4, .int x_6)]) [2, 3, 1, 0] rfl ?_
  exact t_X12_split_14 FU x0 (some a_1) 0 x_6 h_4 q hf
-- LetterBrokerModel.fits(JJ)Z
theorem dX12_fits_0 : decode cX12_fits 0 = .ok (.lload_n 1, 1) := by decide +kernel
theorem dX12_fits_1 : decode cX12_fits 1 = .ok (.aload_n 0, 1) := by decide +kernel
theorem dX12_fits_2 : decode cX12_fits 2 = .ok (.getfield 145, 3) := by decide +kernel
theorem dX12_fits_5 : decode cX12_fits 5 = .ok (.invokestatic 229, 3) := by decide +kernel
theorem dX12_fits_8 : decode cX12_fits 8 = .ok (.istore 5, 2) := by decide +kernel
theorem dX12_fits_10 : decode cX12_fits 10 = .ok (.lload_n 3, 1) := by decide +kernel
theorem dX12_fits_11 : decode cX12_fits 11 = .ok (.aload_n 0, 1) := by decide +kernel
theorem dX12_fits_12 : decode cX12_fits 12 = .ok (.getfield 148, 3) := by decide +kernel
theorem dX12_fits_15 : decode cX12_fits 15 = .ok (.invokestatic 229, 3) := by decide +kernel
theorem dX12_fits_18 : decode cX12_fits 18 = .ok (.istore 6, 2) := by decide +kernel
theorem dX12_fits_20 : decode cX12_fits 20 = .ok (.iload 6, 2) := by decide +kernel
theorem dX12_fits_22 : decode cX12_fits 22 = .ok (.istore 7, 2) := by decide +kernel
theorem dX12_fits_24 : decode cX12_fits 24 = .ok (.iload 7, 2) := by decide +kernel
theorem dX12_fits_26 : decode cX12_fits 26 = .ok (.ifCond .lt 69, 3) := by decide +kernel
theorem dX12_fits_29 : decode cX12_fits 29 = .ok (.iload 5, 2) := by decide +kernel
theorem dX12_fits_31 : decode cX12_fits 31 = .ok (.istore 8, 2) := by decide +kernel
theorem dX12_fits_33 : decode cX12_fits 33 = .ok (.iload 8, 2) := by decide +kernel
theorem dX12_fits_35 : decode cX12_fits 35 = .ok (.ifCond .lt 54, 3) := by decide +kernel
theorem dX12_fits_38 : decode cX12_fits 38 = .ok (.aload_n 0, 1) := by decide +kernel
theorem dX12_fits_39 : decode cX12_fits 39 = .ok (.getfield 151, 3) := by decide +kernel
theorem dX12_fits_42 : decode cX12_fits 42 = .ok (.bipush 11, 2) := by decide +kernel
theorem dX12_fits_44 : decode cX12_fits 44 = .ok (.iload 7, 2) := by decide +kernel
theorem dX12_fits_46 : decode cX12_fits 46 = .ok (.imul, 1) := by decide +kernel
theorem dX12_fits_47 : decode cX12_fits 47 = .ok (.iload 8, 2) := by decide +kernel
theorem dX12_fits_49 : decode cX12_fits 49 = .ok (.iadd, 1) := by decide +kernel
theorem dX12_fits_50 : decode cX12_fits 50 = .ok (.iload 7, 2) := by decide +kernel
theorem dX12_fits_52 : decode cX12_fits 52 = .ok (.iload 6, 2) := by decide +kernel
theorem dX12_fits_54 : decode cX12_fits 54 = .ok (.if_icmp .ne 18, 3) := by decide +kernel
theorem dX12_fits_57 : decode cX12_fits 57 = .ok (.iload 8, 2) := by decide +kernel
theorem dX12_fits_59 : decode cX12_fits 59 = .ok (.iload 5, 2) := by decide +kernel
theorem dX12_fits_61 : decode cX12_fits 61 = .ok (.if_icmp .ne 7, 3) := by decide +kernel
theorem dX12_fits_64 : decode cX12_fits 64 = .ok (.iconst 1, 1) := by decide +kernel
theorem dX12_fits_65 : decode cX12_fits 65 = .ok (.goto 17, 3) := by decide +kernel
theorem dX12_fits_68 : decode cX12_fits 68 = .ok (.iconst 0, 1) := by decide +kernel
theorem dX12_fits_69 : decode cX12_fits 69 = .ok (.goto 13, 3) := by decide +kernel
theorem dX12_fits_72 : decode cX12_fits 72 = .ok (.aload_n 0, 1) := by decide +kernel
theorem dX12_fits_73 : decode cX12_fits 73 = .ok (.iload 8, 2) := by decide +kernel
theorem dX12_fits_75 : decode cX12_fits 75 = .ok (.iload 7, 2) := by decide +kernel
theorem dX12_fits_77 : decode cX12_fits 77 = .ok (.iload 5, 2) := by decide +kernel
theorem dX12_fits_79 : decode cX12_fits 79 = .ok (.invokevirtual 233, 3) := by decide +kernel
theorem dX12_fits_82 : decode cX12_fits 82 = .ok (.bastore, 1) := by decide +kernel
theorem dX12_fits_83 : decode cX12_fits 83 = .ok (.iinc 8 (-1), 3) := by decide +kernel
theorem dX12_fits_86 : decode cX12_fits 86 = .ok (.goto (-53), 3) := by decide +kernel
theorem dX12_fits_89 : decode cX12_fits 89 = .ok (.iinc 7 (-1), 3) := by decide +kernel
theorem dX12_fits_92 : decode cX12_fits 92 = .ok (.goto (-68), 3) := by decide +kernel
theorem dX12_fits_95 : decode cX12_fits 95 = .ok (.aload_n 0, 1) := by decide +kernel
theorem dX12_fits_96 : decode cX12_fits 96 = .ok (.getfield 151, 3) := by decide +kernel
theorem dX12_fits_99 : decode cX12_fits 99 = .ok (.iconst 0, 1) := by decide +kernel
theorem dX12_fits_100 : decode cX12_fits 100 = .ok (.baload, 1) := by decide +kernel
theorem dX12_fits_101 : decode cX12_fits 101 = .ok (.ireturn, 1) := by decide +kernel
def f_X12_fits_82 (k24 : Nat → Int32 → Int32 → Int32 → AH → Option (Int32 × AH)) (k33 : Nat → Int32 → Int32 → Int32 → Int32 → AH → Option (Int32 × AH)) (a0 : Nat) (x5 : Int32) (x6 : Int32) (x7 : Int32) (x8 : Int32) (s0 : Int32) (s1 : Int32) (s2 : Option Nat) (h : AH) : Option (Int32 × AH) := nn s2 fun a_1 =>
  asZ h a_1 s1 s0 fun h_2 =>
  k33 a0 x5 x6 x7 (x8 + (-1)) h_2
set_option maxRecDepth 20000 in
set_option maxHeartbeats 4000000 in
theorem t_X12_fits_82 {Ω : Om} {k24 : Nat → Int32 → Int32 → Int32 → AH → Option (Int32 × AH)} {k33 : Nat → Int32 → Int32 → Int32 → Int32 → AH → Option (Int32 × AH)} (c24 : ∀ (a0 : Nat) (x5 : Int32) (x6 : Int32) (x7 : Int32) (h : AH) (q : Int32 × AH), k24 a0 x5 x6 x7 h = some q → Go Ω M_X12_fits 24 [(0, vR Ω (some a0)), (5, .int x5), (6, .int x6), (7, .int x7)] [] h (some (.int q.1)) q.2) (c33 : ∀ (a0 : Nat) (x5 : Int32) (x6 : Int32) (x7 : Int32) (x8 : Int32) (h : AH) (q : Int32 × AH), k33 a0 x5 x6 x7 x8 h = some q → Go Ω M_X12_fits 33 [(0, vR Ω (some a0)), (5, .int x5), (6, .int x6), (7, .int x7), (8, .int x8)] [] h (some (.int q.1)) q.2) (a0 : Nat) (x5 : Int32) (x6 : Int32) (x7 : Int32) (x8 : Int32) (s0 : Int32) (s1 : Int32) (s2 : Option Nat) (h : AH) (q : Int32 × AH) (hf : f_X12_fits_82 k24 k33 a0 x5 x6 x7 x8 s0 s1 s2 h = some q) : Go Ω M_X12_fits 82 [(0, vR Ω (some a0)), (5, .int x5), (6, .int x6), (7, .int x7), (8, .int x8)] [.int s0, .int s1, vR Ω s2] h (some (.int q.1)) q.2 := by
  unfold f_X12_fits_82 at hf
  obtain ⟨a_1, rfl, hga_1⟩ := nn_some hf
  have hf := hga_1
  refine go_zastore dX12_fits_82 hf (fun h_2 hf => ?_)
  refine go_iinc (j := 4) (v := x8 + (-1)) (lv' := [(8, .int (x8 + (-1))), (0, vR Ω (some a0)), (5, .int x5), (6, .int x6), (7, .int x7)]) dX12_fits_83 rfl rfl (by decide) (by first | rfl | simp [catR, catI, catJ]) ?_
  refine go_goto (tgt := 33) dX12_fits_86 (by decide) ?_
  refine go_sub (lv' := [(0, vR Ω (some a0)), (5, .int x5), (6, .int x6), (7, .int x7), (8, .int (x8 + (-1)))]) [1, 2, 3, 4, 0] rfl ?_
  exact c33 a0 x5 x6 x7 (x8 + (-1)) h_2 q hf
def f_X12_fits_89 (k24 : Nat → Int32 → Int32 → Int32 → AH → Option (Int32 × AH)) (a0 : Nat) (x5 : Int32) (x6 : Int32) (x7 : Int32) (h : AH) : Option (Int32 × AH) := k24 a0 x5 x6 (x7 + (-1)) h
set_option maxRecDepth 20000 in
set_option maxHeartbeats 4000000 in
theorem t_X12_fits_89 {Ω : Om} {k24 : Nat → Int32 → Int32 → Int32 → AH → Option (Int32 × AH)} (c24 : ∀ (a0 : Nat) (x5 : Int32) (x6 : Int32) (x7 : Int32) (h : AH) (q : Int32 × AH), k24 a0 x5 x6 x7 h = some q → Go Ω M_X12_fits 24 [(0, vR Ω (some a0)), (5, .int x5), (6, .int x6), (7, .int x7)] [] h (some (.int q.1)) q.2) (a0 : Nat) (x5 : Int32) (x6 : Int32) (x7 : Int32) (h : AH) (q : Int32 × AH) (hf : f_X12_fits_89 k24 a0 x5 x6 x7 h = some q) : Go Ω M_X12_fits 89 [(0, vR Ω (some a0)), (5, .int x5), (6, .int x6), (7, .int x7)] [] h (some (.int q.1)) q.2 := by
  unfold f_X12_fits_89 at hf
  refine go_iinc (j := 3) (v := x7 + (-1)) (lv' := [(7, .int (x7 + (-1))), (0, vR Ω (some a0)), (5, .int x5), (6, .int x6)]) dX12_fits_89 rfl rfl (by decide) (by first | rfl | simp [catR, catI, catJ]) ?_
  refine go_goto (tgt := 24) dX12_fits_92 (by decide) ?_
  refine go_sub (lv' := [(0, vR Ω (some a0)), (5, .int x5), (6, .int x6), (7, .int (x7 + (-1)))]) [1, 2, 3, 0] rfl ?_
  exact c24 a0 x5 x6 (x7 + (-1)) h q hf
def f_X12_fits_33 (k24 : Nat → Int32 → Int32 → Int32 → AH → Option (Int32 × AH)) : Nat → Nat → Int32 → Int32 → Int32 → Int32 → AH → Option (Int32 × AH)
  | 0, _, _, _, _, _, _ => none
  | n + 1, a0, x5, x6, x7, x8, h => (if x8 < 0 then
      f_X12_fits_89 k24 a0 x5 x6 x7 h
    else
      rdR h a0 13 60 fun r_1 =>
      (if x7 = x6 then
        (if x8 = x5 then
          f_X12_fits_82 k24 (fun a0 x5 x6 x7 x8 h => f_X12_fits_33 k24 n a0 x5 x6 x7 x8 h) a0 x5 x6 x7 x8 1 ((11 * x7) + x8) r_1 h
        else
          f_X12_fits_82 k24 (fun a0 x5 x6 x7 x8 h => f_X12_fits_33 k24 n a0 x5 x6 x7 x8 h) a0 x5 x6 x7 x8 0 ((11 * x7) + x8) r_1 h)
      else
        kg h a0 13 (bd (f_X12_fitsAt a0 x8 x7 x5 h) fun x_4 h_3 =>
        f_X12_fits_82 k24 (fun a0 x5 x6 x7 x8 h => f_X12_fits_33 k24 n a0 x5 x6 x7 x8 h) a0 x5 x6 x7 x8 x_4 ((11 * x7) + x8) r_1 h_3)))
set_option maxRecDepth 20000 in
set_option maxHeartbeats 4000000 in
theorem t_X12_fits_33 {Ω : Om} {k24 : Nat → Int32 → Int32 → Int32 → AH → Option (Int32 × AH)} (c24 : ∀ (a0 : Nat) (x5 : Int32) (x6 : Int32) (x7 : Int32) (h : AH) (q : Int32 × AH), k24 a0 x5 x6 x7 h = some q → Go Ω M_X12_fits 24 [(0, vR Ω (some a0)), (5, .int x5), (6, .int x6), (7, .int x7)] [] h (some (.int q.1)) q.2) : ∀ (n : Nat) (a0 : Nat) (x5 : Int32) (x6 : Int32) (x7 : Int32) (x8 : Int32) (h : AH) (q : Int32 × AH), f_X12_fits_33 k24 n a0 x5 x6 x7 x8 h = some q → Go Ω M_X12_fits 33 [(0, vR Ω (some a0)), (5, .int x5), (6, .int x6), (7, .int x7), (8, .int x8)] [] h (some (.int q.1)) q.2 := by
  intro n
  induction n with
  | zero => intro a0 x5 x6 x7 x8 h q hf; cases hf
  | succ n ih =>
    intro a0 x5 x6 x7 x8 h q hf
    rw [f_X12_fits_33] at hf
    refine go_iload dX12_fits_33 4 rfl ?_
    refine go_if_lt (tgt := 89) dX12_fits_35 (by decide) hf (fun hf => ?_) (fun hf => ?_)
    · refine go_sub (lv' := [(0, vR Ω (some a0)), (5, .int x5), (6, .int x6), (7, .int x7)]) [0, 1, 2, 3] rfl ?_
      exact t_X12_fits_89 c24 a0 x5 x6 x7 h q hf
    · refine go_aload_n dX12_fits_38 rfl 0 rfl ?_
      refine go_getR dX12_fits_39 fl_1179_0 (fun _ _ => rfl) hf (fun r_1 hf => ?_)
      refine go_bipush 11 dX12_fits_42 (by decide) ?_
      refine go_iload dX12_fits_44 3 rfl ?_
      refine go_imul dX12_fits_46 ?_
      refine go_iload dX12_fits_47 4 rfl ?_
      refine go_iadd dX12_fits_49 ?_
      refine go_iload dX12_fits_50 3 rfl ?_
      refine go_iload dX12_fits_52 2 rfl ?_
      refine go_icmp_ne (tgt := 72) dX12_fits_54 (by decide) hf (fun hf => ?_) (fun hf => ?_)
      · refine go_aload_n dX12_fits_72 rfl 0 rfl ?_
        refine go_iload dX12_fits_73 4 rfl ?_
        refine go_iload dX12_fits_75 3 rfl ?_
        refine go_iload dX12_fits_77 1 rfl ?_
        obtain ⟨hk, hf⟩ := kg_some hf
        obtain ⟨z_2, hc, hf⟩ := bd_some hf
        refine go_callV (y2 := M_X12_fitsAt) (c2 := 13) dX12_fits_79 mo_X12_fitsAt ⟨Nat.le_of_ble_eq_true rfl, Nat.le_of_ble_eq_true rfl⟩ na_X12_fitsAt w1575 w1577 (by decide) rfl w110 hk [.int x8, .int x7, .int x5] rfl (n_X12_fitsAt (a0) x8 x7 x5) rfl (csum (Nat.le_of_ble_eq_true rfl)) (t_X12_fitsAt (a0) x8 x7 x5 h _ hc) ?_
        obtain ⟨x_4, h_3⟩ := z_2
        refine go_sub (lv' := [(0, vR Ω (some a0)), (5, .int x5), (6, .int x6), (7, .int x7), (8, .int x8)]) [0, 1, 2, 3, 4] rfl ?_
        exact t_X12_fits_82 c24 ih a0 x5 x6 x7 x8 x_4 ((11 * x7) + x8) r_1 h_3 q hf
      · refine go_iload dX12_fits_57 4 rfl ?_
        refine go_iload dX12_fits_59 1 rfl ?_
        refine go_icmp_ne (tgt := 68) dX12_fits_61 (by decide) hf (fun hf => ?_) (fun hf => ?_)
        · refine go_iconst 0 dX12_fits_68 rfl ?_
          refine go_goto (tgt := 82) dX12_fits_69 (by decide) ?_
          refine go_sub (lv' := [(0, vR Ω (some a0)), (5, .int x5), (6, .int x6), (7, .int x7), (8, .int x8)]) [0, 1, 2, 3, 4] rfl ?_
          exact t_X12_fits_82 c24 ih a0 x5 x6 x7 x8 0 ((11 * x7) + x8) r_1 h q hf
        · refine go_iconst 1 dX12_fits_64 rfl ?_
          refine go_goto (tgt := 82) dX12_fits_65 (by decide) ?_
          refine go_sub (lv' := [(0, vR Ω (some a0)), (5, .int x5), (6, .int x6), (7, .int x7), (8, .int x8)]) [0, 1, 2, 3, 4] rfl ?_
          exact t_X12_fits_82 c24 ih a0 x5 x6 x7 x8 1 ((11 * x7) + x8) r_1 h q hf
def f_X12_fits_95 (a0 : Nat) (h : AH) : Option (Int32 × AH) := rdR h a0 13 60 fun r_1 =>
  nn r_1 fun a_2 =>
  arZ h a_2 0 fun x_3 =>
  rz x_3 (some (x_3, h))
set_option maxRecDepth 20000 in
set_option maxHeartbeats 4000000 in
theorem t_X12_fits_95 {Ω : Om} (a0 : Nat) (h : AH) (q : Int32 × AH) (hf : f_X12_fits_95 a0 h = some q) : Go Ω M_X12_fits 95 [(0, vR Ω (some a0))] [] h (some (.int q.1)) q.2 := by
  unfold f_X12_fits_95 at hf
  refine go_aload_n dX12_fits_95 rfl 0 rfl ?_
  refine go_getR dX12_fits_96 fl_1179_0 (fun _ _ => rfl) hf (fun r_1 hf => ?_)
  refine go_iconst 0 dX12_fits_99 rfl ?_
  obtain ⟨a_2, rfl, hga_2⟩ := nn_some hf
  have hf := hga_2
  refine go_zaload dX12_fits_100 hf (fun x_3 hf => ?_)
  exact go_zreturn dX12_fits_101 rfl hf
def f_X12_fits_24 : Nat → Nat → Int32 → Int32 → Int32 → AH → Option (Int32 × AH)
  | 0, _, _, _, _, _ => none
  | n + 1, a0, x5, x6, x7, h => (if x7 < 0 then
      f_X12_fits_95 a0 h
    else
      f_X12_fits_33 (fun a0 x5 x6 x7 h => f_X12_fits_24 n a0 x5 x6 x7 h) FU a0 x5 x6 x7 x5 h)
set_option maxRecDepth 20000 in
set_option maxHeartbeats 4000000 in
theorem t_X12_fits_24 {Ω : Om} : ∀ (n : Nat) (a0 : Nat) (x5 : Int32) (x6 : Int32) (x7 : Int32) (h : AH) (q : Int32 × AH), f_X12_fits_24 n a0 x5 x6 x7 h = some q → Go Ω M_X12_fits 24 [(0, vR Ω (some a0)), (5, .int x5), (6, .int x6), (7, .int x7)] [] h (some (.int q.1)) q.2 := by
  intro n
  induction n with
  | zero => intro a0 x5 x6 x7 h q hf; cases hf
  | succ n ih =>
    intro a0 x5 x6 x7 h q hf
    rw [f_X12_fits_24] at hf
    refine go_iload dX12_fits_24 3 rfl ?_
    refine go_if_lt (tgt := 95) dX12_fits_26 (by decide) hf (fun hf => ?_) (fun hf => ?_)
    · refine go_sub (lv' := [(0, vR Ω (some a0))]) [0] rfl ?_
      exact t_X12_fits_95 a0 h q hf
    · refine go_iload dX12_fits_29 1 rfl ?_
      refine go_istore (i := 8) (lv' := [(8, .int x5), (0, vR Ω (some a0)), (5, .int x5), (6, .int x6), (7, .int x7)]) dX12_fits_31 (by decide) (by first | rfl | simp [catR, catI, catJ]) ?_
      refine go_sub (lv' := [(0, vR Ω (some a0)), (5, .int x5), (6, .int x6), (7, .int x7), (8, .int x5)]) [1, 2, 3, 4, 0] rfl ?_
      exact t_X12_fits_33 ih FU a0 x5 x6 x7 x5 h q hf
def f_X12_fits (a0 : Nat) (x1 : Int64) (x3 : Int64) (h : AH) : Option (Int32 × AH) := rdR h a0 13 58 fun r_1 =>
  bd (f_X12_split x1 r_1 h) fun x_4 h_3 =>
  rdR h_3 a0 13 59 fun r_5 =>
  bd (f_X12_split x3 r_5 h_3) fun x_8 h_7 =>
  f_X12_fits_24 FU a0 x_4 x_8 x_8 h_7
set_option maxRecDepth 20000 in
set_option maxHeartbeats 4000000 in
theorem t_X12_fits {Ω : Om} (a0 : Nat) (x1 : Int64) (x3 : Int64) (h : AH) (q : Int32 × AH) (hf : f_X12_fits a0 x1 x3 h = some q) : Go Ω M_X12_fits 0 (lv_args 0 [vR Ω (some a0), .long x1, .long x3]) [] h (some (.int q.1)) q.2 := by
  unfold f_X12_fits at hf
  rw [la_R, la_J, la_J, la_0]
  refine go_sub (lv' := [(0, vR Ω (some a0)), (1, .long x1), (3, .long x3)]) [0, 1, 2] rfl ?_
  refine go_lload_n dX12_fits_0 rfl 1 rfl ?_
  refine go_aload_n dX12_fits_1 rfl 0 rfl ?_
  refine go_getR dX12_fits_2 fl_1177_0 (fun _ _ => rfl) hf (fun r_1 hf => ?_)
  obtain ⟨z_2, hc, hf⟩ := bd_some hf
  refine go_callS (y2 := M_X12_split) dX12_fits_5 mo_X12_split ⟨Nat.le_of_ble_eq_true rfl, Nat.le_of_ble_eq_true rfl⟩ na_X12_split w1571 w1572 [.long x1, vR Ω r_1] rfl (n_X12_split x1 r_1) rfl (csum (Nat.le_of_ble_eq_true rfl)) (t_X12_split x1 r_1 h _ hc) ?_
  obtain ⟨x_4, h_3⟩ := z_2
  refine go_istore (i := 5) (lv' := [(5, .int x_4), (0, vR Ω (some a0)), (1, .long x1), (3, .long x3)]) dX12_fits_8 (by decide) (by first | rfl | simp [catR, catI, catJ]) ?_
  refine go_lload_n dX12_fits_10 rfl 3 rfl ?_
  refine go_aload_n dX12_fits_11 rfl 1 rfl ?_
  refine go_getR dX12_fits_12 fl_1178_0 (fun _ _ => rfl) hf (fun r_5 hf => ?_)
  obtain ⟨z_6, hc, hf⟩ := bd_some hf
  refine go_callS (y2 := M_X12_split) dX12_fits_15 mo_X12_split ⟨Nat.le_of_ble_eq_true rfl, Nat.le_of_ble_eq_true rfl⟩ na_X12_split w1571 w1572 [.long x3, vR Ω r_5] rfl (n_X12_split x3 r_5) rfl (csum (Nat.le_of_ble_eq_true rfl)) (t_X12_split x3 r_5 h_3 _ hc) ?_
  obtain ⟨x_8, h_7⟩ := z_6
  refine go_istore (i := 6) (lv' := [(6, .int x_8), (5, .int x_4), (0, vR Ω (some a0)), (1, .long x1), (3, .long x3)]) dX12_fits_18 (by decide) (by first | rfl | simp [catR, catI, catJ]) ?_
  refine go_iload dX12_fits_20 0 rfl ?_
  refine go_istore (i := 7) (lv' := [(7, .int x_8), (6, .int x_8), (5, .int x_4), (0, vR Ω (some a0)), (1, .long x1), (3, .long x3)]) dX12_fits_22 (by decide) (by first | rfl | simp [catR, catI, catJ]) ?_
  refine go_sub (lv' := [(0, vR Ω (some a0)), (5, .int x_4), (6, .int x_8), (7, .int x_8)]) [3, 2, 1, 0] rfl ?_
  exact t_X12_fits_24 FU a0 x_4 x_8 x_8 h_7 q hf
-- LetterBrokerModel.reaches(IIJ)Z
theorem dX12_reaches_0 : decode cX12_reaches 0 = .ok (.iload_n 2, 1) := by decide +kernel
theorem dX12_reaches_1 : decode cX12_reaches 1 = .ok (.ifCond .ge 5, 3) := by decide +kernel
theorem dX12_reaches_4 : decode cX12_reaches 4 = .ok (.iconst 0, 1) := by decide +kernel
theorem dX12_reaches_5 : decode cX12_reaches 5 = .ok (.ireturn, 1) := by decide +kernel
theorem dX12_reaches_6 : decode cX12_reaches 6 = .ok (.iload_n 2, 1) := by decide +kernel
theorem dX12_reaches_7 : decode cX12_reaches 7 = .ok (.ifCond .ne 20, 3) := by decide +kernel
theorem dX12_reaches_10 : decode cX12_reaches 10 = .ok (.aload_n 0, 1) := by decide +kernel
theorem dX12_reaches_11 : decode cX12_reaches 11 = .ok (.getfield 27, 3) := by decide +kernel
theorem dX12_reaches_14 : decode cX12_reaches 14 = .ok (.iload_n 1, 1) := by decide +kernel
theorem dX12_reaches_15 : decode cX12_reaches 15 = .ok (.laload, 1) := by decide +kernel
theorem dX12_reaches_16 : decode cX12_reaches 16 = .ok (.lload_n 3, 1) := by decide +kernel
theorem dX12_reaches_17 : decode cX12_reaches 17 = .ok (.lcmp, 1) := by decide +kernel
theorem dX12_reaches_18 : decode cX12_reaches 18 = .ok (.ifCond .ne 7, 3) := by decide +kernel
theorem dX12_reaches_21 : decode cX12_reaches 21 = .ok (.iconst 1, 1) := by decide +kernel
theorem dX12_reaches_22 : decode cX12_reaches 22 = .ok (.goto 4, 3) := by decide +kernel
theorem dX12_reaches_25 : decode cX12_reaches 25 = .ok (.iconst 0, 1) := by decide +kernel
theorem dX12_reaches_26 : decode cX12_reaches 26 = .ok (.ireturn, 1) := by decide +kernel
theorem dX12_reaches_27 : decode cX12_reaches 27 = .ok (.iconst 0, 1) := by decide +kernel
theorem dX12_reaches_28 : decode cX12_reaches 28 = .ok (.istore 5, 2) := by decide +kernel
theorem dX12_reaches_30 : decode cX12_reaches 30 = .ok (.iconst 0, 1) := by decide +kernel
theorem dX12_reaches_31 : decode cX12_reaches 31 = .ok (.istore 6, 2) := by decide +kernel
theorem dX12_reaches_33 : decode cX12_reaches 33 = .ok (.iload 6, 2) := by decide +kernel
theorem dX12_reaches_35 : decode cX12_reaches 35 = .ok (.aload_n 0, 1) := by decide +kernel
theorem dX12_reaches_36 : decode cX12_reaches 36 = .ok (.getfield 222, 3) := by decide +kernel
theorem dX12_reaches_39 : decode cX12_reaches 39 = .ok (.if_icmp .ge 119, 3) := by decide +kernel
theorem dX12_reaches_42 : decode cX12_reaches 42 = .ok (.aload_n 0, 1) := by decide +kernel
theorem dX12_reaches_43 : decode cX12_reaches 43 = .ok (.getfield 36, 3) := by decide +kernel
theorem dX12_reaches_46 : decode cX12_reaches 46 = .ok (.iload 6, 2) := by decide +kernel
theorem dX12_reaches_48 : decode cX12_reaches 48 = .ok (.laload, 1) := by decide +kernel
theorem dX12_reaches_49 : decode cX12_reaches 49 = .ok (.aload_n 0, 1) := by decide +kernel
theorem dX12_reaches_50 : decode cX12_reaches 50 = .ok (.getfield 27, 3) := by decide +kernel
theorem dX12_reaches_53 : decode cX12_reaches 53 = .ok (.iload_n 1, 1) := by decide +kernel
theorem dX12_reaches_54 : decode cX12_reaches 54 = .ok (.laload, 1) := by decide +kernel
theorem dX12_reaches_55 : decode cX12_reaches 55 = .ok (.lcmp, 1) := by decide +kernel
theorem dX12_reaches_56 : decode cX12_reaches 56 = .ok (.ifCond .ne 24, 3) := by decide +kernel
theorem dX12_reaches_59 : decode cX12_reaches 59 = .ok (.aload_n 0, 1) := by decide +kernel
theorem dX12_reaches_60 : decode cX12_reaches 60 = .ok (.getfield 39, 3) := by decide +kernel
theorem dX12_reaches_63 : decode cX12_reaches 63 = .ok (.iload 6, 2) := by decide +kernel
theorem dX12_reaches_65 : decode cX12_reaches 65 = .ok (.laload, 1) := by decide +kernel
theorem dX12_reaches_66 : decode cX12_reaches 66 = .ok (.aload_n 0, 1) := by decide +kernel
theorem dX12_reaches_67 : decode cX12_reaches 67 = .ok (.getfield 20, 3) := by decide +kernel
theorem dX12_reaches_70 : decode cX12_reaches 70 = .ok (.iload_n 2, 1) := by decide +kernel
theorem dX12_reaches_71 : decode cX12_reaches 71 = .ok (.laload, 1) := by decide +kernel
theorem dX12_reaches_72 : decode cX12_reaches 72 = .ok (.lcmp, 1) := by decide +kernel
theorem dX12_reaches_73 : decode cX12_reaches 73 = .ok (.ifCond .ne 7, 3) := by decide +kernel
theorem dX12_reaches_76 : decode cX12_reaches 76 = .ok (.iconst 1, 1) := by decide +kernel
theorem dX12_reaches_77 : decode cX12_reaches 77 = .ok (.goto 4, 3) := by decide +kernel
theorem dX12_reaches_80 : decode cX12_reaches 80 = .ok (.iconst 0, 1) := by decide +kernel
theorem dX12_reaches_81 : decode cX12_reaches 81 = .ok (.istore 7, 2) := by decide +kernel
theorem dX12_reaches_83 : decode cX12_reaches 83 = .ok (.aload_n 0, 1) := by decide +kernel
theorem dX12_reaches_84 : decode cX12_reaches 84 = .ok (.getfield 24, 3) := by decide +kernel
theorem dX12_reaches_87 : decode cX12_reaches 87 = .ok (.iload_n 2, 1) := by decide +kernel
theorem dX12_reaches_88 : decode cX12_reaches 88 = .ok (.iaload, 1) := by decide +kernel
theorem dX12_reaches_89 : decode cX12_reaches 89 = .ok (.istore 8, 2) := by decide +kernel
theorem dX12_reaches_91 : decode cX12_reaches 91 = .ok (.iload 5, 2) := by decide +kernel
theorem dX12_reaches_93 : decode cX12_reaches 93 = .ok (.ifCond .ne 52, 3) := by decide +kernel
theorem dX12_reaches_96 : decode cX12_reaches 96 = .ok (.iload 7, 2) := by decide +kernel
theorem dX12_reaches_98 : decode cX12_reaches 98 = .ok (.ifCond .eq 51, 3) := by decide +kernel
theorem dX12_reaches_101 : decode cX12_reaches 101 = .ok (.iload 8, 2) := by decide +kernel
theorem dX12_reaches_103 : decode cX12_reaches 103 = .ok (.iconst 1, 1) := by decide +kernel
theorem dX12_reaches_104 : decode cX12_reaches 104 = .ok (.if_icmp .eq 41, 3) := by decide +kernel
theorem dX12_reaches_107 : decode cX12_reaches 107 = .ok (.iload 8, 2) := by decide +kernel
theorem dX12_reaches_109 : decode cX12_reaches 109 = .ok (.ifCond .ne 15, 3) := by decide +kernel
theorem dX12_reaches_112 : decode cX12_reaches 112 = .ok (.aload_n 0, 1) := by decide +kernel
theorem dX12_reaches_113 : decode cX12_reaches 113 = .ok (.getfield 42, 3) := by decide +kernel
theorem dX12_reaches_116 : decode cX12_reaches 116 = .ok (.iload 6, 2) := by decide +kernel
theorem dX12_reaches_118 : decode cX12_reaches 118 = .ok (.laload, 1) := by decide +kernel
theorem dX12_reaches_119 : decode cX12_reaches 119 = .ok (.lload_n 3, 1) := by decide +kernel
theorem dX12_reaches_120 : decode cX12_reaches 120 = .ok (.lcmp, 1) := by decide +kernel
theorem dX12_reaches_121 : decode cX12_reaches 121 = .ok (.ifCond .eq 24, 3) := by decide +kernel
theorem dX12_reaches_124 : decode cX12_reaches 124 = .ok (.iload 8, 2) := by decide +kernel
theorem dX12_reaches_126 : decode cX12_reaches 126 = .ok (.iconst 2, 1) := by decide +kernel
theorem dX12_reaches_127 : decode cX12_reaches 127 = .ok (.if_icmp .ne 22, 3) := by decide +kernel
theorem dX12_reaches_130 : decode cX12_reaches 130 = .ok (.aload_n 0, 1) := by decide +kernel
theorem dX12_reaches_131 : decode cX12_reaches 131 = .ok (.lload_n 3, 1) := by decide +kernel
theorem dX12_reaches_132 : decode cX12_reaches 132 = .ok (.aload_n 0, 1) := by decide +kernel
theorem dX12_reaches_133 : decode cX12_reaches 133 = .ok (.getfield 42, 3) := by decide +kernel
theorem dX12_reaches_136 : decode cX12_reaches 136 = .ok (.iload 6, 2) := by decide +kernel
theorem dX12_reaches_138 : decode cX12_reaches 138 = .ok (.laload, 1) := by decide +kernel
theorem dX12_reaches_139 : decode cX12_reaches 139 = .ok (.invokevirtual 241, 3) := by decide +kernel
theorem dX12_reaches_142 : decode cX12_reaches 142 = .ok (.ifCond .eq 7, 3) := by decide +kernel
theorem dX12_reaches_145 : decode cX12_reaches 145 = .ok (.iconst 1, 1) := by decide +kernel
theorem dX12_reaches_146 : decode cX12_reaches 146 = .ok (.goto 4, 3) := by decide +kernel
theorem dX12_reaches_149 : decode cX12_reaches 149 = .ok (.iconst 0, 1) := by decide +kernel
theorem dX12_reaches_150 : decode cX12_reaches 150 = .ok (.istore 5, 2) := by decide +kernel
theorem dX12_reaches_152 : decode cX12_reaches 152 = .ok (.iinc 6 1, 3) := by decide +kernel
theorem dX12_reaches_155 : decode cX12_reaches 155 = .ok (.goto (-122), 3) := by decide +kernel
theorem dX12_reaches_158 : decode cX12_reaches 158 = .ok (.iload 5, 2) := by decide +kernel
theorem dX12_reaches_160 : decode cX12_reaches 160 = .ok (.ireturn, 1) := by decide +kernel
def f_X12_reaches_150 (k33 : Nat → Int32 → Int32 → Int64 → Int32 → Int32 → AH → Option (Int32 × AH)) (a0 : Nat) (x1 : Int32) (x2 : Int32) (x3 : Int64) (x6 : Int32) (s0 : Int32) (h : AH) : Option (Int32 × AH) := k33 a0 x1 x2 x3 s0 (x6 + 1) h
set_option maxRecDepth 20000 in
set_option maxHeartbeats 4000000 in
theorem t_X12_reaches_150 {Ω : Om} {k33 : Nat → Int32 → Int32 → Int64 → Int32 → Int32 → AH → Option (Int32 × AH)} (c33 : ∀ (a0 : Nat) (x1 : Int32) (x2 : Int32) (x3 : Int64) (x5 : Int32) (x6 : Int32) (h : AH) (q : Int32 × AH), k33 a0 x1 x2 x3 x5 x6 h = some q → Go Ω M_X12_reaches 33 [(0, vR Ω (some a0)), (1, .int x1), (2, .int x2), (3, .long x3), (5, .int x5), (6, .int x6)] [] h (some (.int q.1)) q.2) (a0 : Nat) (x1 : Int32) (x2 : Int32) (x3 : Int64) (x6 : Int32) (s0 : Int32) (h : AH) (q : Int32 × AH) (hf : f_X12_reaches_150 k33 a0 x1 x2 x3 x6 s0 h = some q) : Go Ω M_X12_reaches 150 [(0, vR Ω (some a0)), (1, .int x1), (2, .int x2), (3, .long x3), (6, .int x6)] [.int s0] h (some (.int q.1)) q.2 := by
  unfold f_X12_reaches_150 at hf
  refine go_istore (i := 5) (lv' := [(5, .int s0), (0, vR Ω (some a0)), (1, .int x1), (2, .int x2), (3, .long x3), (6, .int x6)]) dX12_reaches_150 (by decide) (by first | rfl | simp [catR, catI, catJ]) ?_
  refine go_iinc (j := 5) (v := x6 + 1) (lv' := [(6, .int (x6 + 1)), (5, .int s0), (0, vR Ω (some a0)), (1, .int x1), (2, .int x2), (3, .long x3)]) dX12_reaches_152 rfl rfl (by decide) (by first | rfl | simp [catR, catI, catJ]) ?_
  refine go_goto (tgt := 33) dX12_reaches_155 (by decide) ?_
  refine go_sub (lv' := [(0, vR Ω (some a0)), (1, .int x1), (2, .int x2), (3, .long x3), (5, .int s0), (6, .int (x6 + 1))]) [2, 3, 4, 5, 1, 0] rfl ?_
  exact c33 a0 x1 x2 x3 s0 (x6 + 1) h q hf
def f_X12_reaches_124 (k33 : Nat → Int32 → Int32 → Int64 → Int32 → Int32 → AH → Option (Int32 × AH)) (a0 : Nat) (x1 : Int32) (x2 : Int32) (x3 : Int64) (x6 : Int32) (x8 : Int32) (h : AH) : Option (Int32 × AH) := (if x8 = 2 then
    rdR h a0 13 16 fun r_1 =>
    nn r_1 fun a_2 =>
    arJ h a_2 x6 fun x_3 =>
    kg h a0 13 (bd (f_X12_fits a0 x3 x_3 h) fun x_6 h_5 =>
    (if x_6 = 0 then
      f_X12_reaches_150 k33 a0 x1 x2 x3 x6 0 h_5
    else
      f_X12_reaches_150 k33 a0 x1 x2 x3 x6 1 h_5))
  else
    f_X12_reaches_150 k33 a0 x1 x2 x3 x6 0 h)
set_option maxRecDepth 20000 in
set_option maxHeartbeats 4000000 in
theorem t_X12_reaches_124 {Ω : Om} {k33 : Nat → Int32 → Int32 → Int64 → Int32 → Int32 → AH → Option (Int32 × AH)} (c33 : ∀ (a0 : Nat) (x1 : Int32) (x2 : Int32) (x3 : Int64) (x5 : Int32) (x6 : Int32) (h : AH) (q : Int32 × AH), k33 a0 x1 x2 x3 x5 x6 h = some q → Go Ω M_X12_reaches 33 [(0, vR Ω (some a0)), (1, .int x1), (2, .int x2), (3, .long x3), (5, .int x5), (6, .int x6)] [] h (some (.int q.1)) q.2) (a0 : Nat) (x1 : Int32) (x2 : Int32) (x3 : Int64) (x6 : Int32) (x8 : Int32) (h : AH) (q : Int32 × AH) (hf : f_X12_reaches_124 k33 a0 x1 x2 x3 x6 x8 h = some q) : Go Ω M_X12_reaches 124 [(0, vR Ω (some a0)), (1, .int x1), (2, .int x2), (3, .long x3), (6, .int x6), (8, .int x8)] [] h (some (.int q.1)) q.2 := by
  unfold f_X12_reaches_124 at hf
  refine go_iload dX12_reaches_124 5 rfl ?_
  refine go_iconst 2 dX12_reaches_126 rfl ?_
  refine go_icmp_ne (tgt := 149) dX12_reaches_127 (by decide) hf (fun hf => ?_) (fun hf => ?_)
  · refine go_iconst 0 dX12_reaches_149 rfl ?_
    refine go_sub (lv' := [(0, vR Ω (some a0)), (1, .int x1), (2, .int x2), (3, .long x3), (6, .int x6)]) [0, 1, 2, 3, 4] rfl ?_
    exact t_X12_reaches_150 c33 a0 x1 x2 x3 x6 0 h q hf
  · refine go_aload_n dX12_reaches_130 rfl 0 rfl ?_
    refine go_lload_n dX12_reaches_131 rfl 3 rfl ?_
    refine go_aload_n dX12_reaches_132 rfl 0 rfl ?_
    refine go_getR dX12_reaches_133 fl_1135_0 (fun _ _ => rfl) hf (fun r_1 hf => ?_)
    refine go_iload dX12_reaches_136 4 rfl ?_
    obtain ⟨a_2, rfl, hga_2⟩ := nn_some hf
    have hf := hga_2
    refine go_laload dX12_reaches_138 hf (fun x_3 hf => ?_)
    obtain ⟨hk, hf⟩ := kg_some hf
    obtain ⟨z_4, hc, hf⟩ := bd_some hf
    refine go_callV (y2 := M_X12_fits) (c2 := 13) dX12_reaches_139 mo_X12_fits ⟨Nat.le_of_ble_eq_true rfl, Nat.le_of_ble_eq_true rfl⟩ na_X12_fits w1567 w1569 (by decide) rfl w109 hk [.long x3, .long x_3] rfl (n_X12_fits (a0) x3 x_3) rfl (csum (Nat.le_of_ble_eq_true rfl)) (t_X12_fits (a0) x3 x_3 h _ hc) ?_
    obtain ⟨x_6, h_5⟩ := z_4
    refine go_if_eq (tgt := 149) dX12_reaches_142 (by decide) hf (fun hf => ?_) (fun hf => ?_)
    · refine go_iconst 0 dX12_reaches_149 rfl ?_
      refine go_sub (lv' := [(0, vR Ω (some a0)), (1, .int x1), (2, .int x2), (3, .long x3), (6, .int x6)]) [0, 1, 2, 3, 4] rfl ?_
      exact t_X12_reaches_150 c33 a0 x1 x2 x3 x6 0 h_5 q hf
    · refine go_iconst 1 dX12_reaches_145 rfl ?_
      refine go_goto (tgt := 150) dX12_reaches_146 (by decide) ?_
      refine go_sub (lv' := [(0, vR Ω (some a0)), (1, .int x1), (2, .int x2), (3, .long x3), (6, .int x6)]) [0, 1, 2, 3, 4] rfl ?_
      exact t_X12_reaches_150 c33 a0 x1 x2 x3 x6 1 h_5 q hf
def f_X12_reaches_81 (k33 : Nat → Int32 → Int32 → Int64 → Int32 → Int32 → AH → Option (Int32 × AH)) (a0 : Nat) (x1 : Int32) (x2 : Int32) (x3 : Int64) (x5 : Int32) (x6 : Int32) (s0 : Int32) (h : AH) : Option (Int32 × AH) := rdR h a0 13 7 fun r_1 =>
  nn r_1 fun a_2 =>
  arI h a_2 x2 fun x_3 =>
  (if x5 = 0 then
    (if s0 = 0 then
      f_X12_reaches_150 k33 a0 x1 x2 x3 x6 0 h
    else
      (if x_3 = 1 then
        f_X12_reaches_150 k33 a0 x1 x2 x3 x6 1 h
      else
        (if x_3 = 0 then
          rdR h a0 13 16 fun r_4 =>
          nn r_4 fun a_5 =>
          arJ h a_5 x6 fun x_6 =>
          (if (lg_cmp x_6 x3) = 0 then
            f_X12_reaches_150 k33 a0 x1 x2 x3 x6 1 h
          else
            f_X12_reaches_124 k33 a0 x1 x2 x3 x6 x_3 h)
        else
          f_X12_reaches_124 k33 a0 x1 x2 x3 x6 x_3 h)))
  else
    f_X12_reaches_150 k33 a0 x1 x2 x3 x6 1 h)
set_option maxRecDepth 20000 in
set_option maxHeartbeats 4000000 in
theorem t_X12_reaches_81 {Ω : Om} {k33 : Nat → Int32 → Int32 → Int64 → Int32 → Int32 → AH → Option (Int32 × AH)} (c33 : ∀ (a0 : Nat) (x1 : Int32) (x2 : Int32) (x3 : Int64) (x5 : Int32) (x6 : Int32) (h : AH) (q : Int32 × AH), k33 a0 x1 x2 x3 x5 x6 h = some q → Go Ω M_X12_reaches 33 [(0, vR Ω (some a0)), (1, .int x1), (2, .int x2), (3, .long x3), (5, .int x5), (6, .int x6)] [] h (some (.int q.1)) q.2) (a0 : Nat) (x1 : Int32) (x2 : Int32) (x3 : Int64) (x5 : Int32) (x6 : Int32) (s0 : Int32) (h : AH) (q : Int32 × AH) (hf : f_X12_reaches_81 k33 a0 x1 x2 x3 x5 x6 s0 h = some q) : Go Ω M_X12_reaches 81 [(0, vR Ω (some a0)), (1, .int x1), (2, .int x2), (3, .long x3), (5, .int x5), (6, .int x6)] [.int s0] h (some (.int q.1)) q.2 := by
  unfold f_X12_reaches_81 at hf
  refine go_istore (i := 7) (lv' := [(7, .int s0), (0, vR Ω (some a0)), (1, .int x1), (2, .int x2), (3, .long x3), (5, .int x5), (6, .int x6)]) dX12_reaches_81 (by decide) (by first | rfl | simp [catR, catI, catJ]) ?_
  refine go_aload_n dX12_reaches_83 rfl 1 rfl ?_
  refine go_getR dX12_reaches_84 fl_1126_0 (fun _ _ => rfl) hf (fun r_1 hf => ?_)
  refine go_iload_n dX12_reaches_87 rfl 3 rfl ?_
  obtain ⟨a_2, rfl, hga_2⟩ := nn_some hf
  have hf := hga_2
  refine go_iaload dX12_reaches_88 hf (fun x_3 hf => ?_)
  refine go_istore (i := 8) (lv' := [(8, .int x_3), (7, .int s0), (0, vR Ω (some a0)), (1, .int x1), (2, .int x2), (3, .long x3), (5, .int x5), (6, .int x6)]) dX12_reaches_89 (by decide) (by first | rfl | simp [catR, catI, catJ]) ?_
  refine go_iload dX12_reaches_91 6 rfl ?_
  refine go_if_ne (tgt := 145) dX12_reaches_93 (by decide) hf (fun hf => ?_) (fun hf => ?_)
  · refine go_iconst 1 dX12_reaches_145 rfl ?_
    refine go_goto (tgt := 150) dX12_reaches_146 (by decide) ?_
    refine go_sub (lv' := [(0, vR Ω (some a0)), (1, .int x1), (2, .int x2), (3, .long x3), (6, .int x6)]) [2, 3, 4, 5, 7] rfl ?_
    exact t_X12_reaches_150 c33 a0 x1 x2 x3 x6 1 h q hf
  · refine go_iload dX12_reaches_96 1 rfl ?_
    refine go_if_eq (tgt := 149) dX12_reaches_98 (by decide) hf (fun hf => ?_) (fun hf => ?_)
    · refine go_iconst 0 dX12_reaches_149 rfl ?_
      refine go_sub (lv' := [(0, vR Ω (some a0)), (1, .int x1), (2, .int x2), (3, .long x3), (6, .int x6)]) [2, 3, 4, 5, 7] rfl ?_
      exact t_X12_reaches_150 c33 a0 x1 x2 x3 x6 0 h q hf
    · refine go_iload dX12_reaches_101 0 rfl ?_
      refine go_iconst 1 dX12_reaches_103 rfl ?_
      refine go_icmp_eq (tgt := 145) dX12_reaches_104 (by decide) hf (fun hf => ?_) (fun hf => ?_)
      · refine go_iconst 1 dX12_reaches_145 rfl ?_
        refine go_goto (tgt := 150) dX12_reaches_146 (by decide) ?_
        refine go_sub (lv' := [(0, vR Ω (some a0)), (1, .int x1), (2, .int x2), (3, .long x3), (6, .int x6)]) [2, 3, 4, 5, 7] rfl ?_
        exact t_X12_reaches_150 c33 a0 x1 x2 x3 x6 1 h q hf
      · refine go_iload dX12_reaches_107 0 rfl ?_
        refine go_if_ne (tgt := 124) dX12_reaches_109 (by decide) hf (fun hf => ?_) (fun hf => ?_)
        · refine go_sub (lv' := [(0, vR Ω (some a0)), (1, .int x1), (2, .int x2), (3, .long x3), (6, .int x6), (8, .int x_3)]) [2, 3, 4, 5, 7, 0] rfl ?_
          exact t_X12_reaches_124 c33 a0 x1 x2 x3 x6 x_3 h q hf
        · refine go_aload_n dX12_reaches_112 rfl 2 rfl ?_
          refine go_getR dX12_reaches_113 fl_1135_0 (fun _ _ => rfl) hf (fun r_4 hf => ?_)
          refine go_iload dX12_reaches_116 7 rfl ?_
          obtain ⟨a_5, rfl, hga_5⟩ := nn_some hf
          have hf := hga_5
          refine go_laload dX12_reaches_118 hf (fun x_6 hf => ?_)
          refine go_lload_n dX12_reaches_119 rfl 5 rfl ?_
          refine go_lcmp dX12_reaches_120 ?_
          refine go_if_eq (tgt := 145) dX12_reaches_121 (by decide) hf (fun hf => ?_) (fun hf => ?_)
          · refine go_iconst 1 dX12_reaches_145 rfl ?_
            refine go_goto (tgt := 150) dX12_reaches_146 (by decide) ?_
            refine go_sub (lv' := [(0, vR Ω (some a0)), (1, .int x1), (2, .int x2), (3, .long x3), (6, .int x6)]) [2, 3, 4, 5, 7] rfl ?_
            exact t_X12_reaches_150 c33 a0 x1 x2 x3 x6 1 h q hf
          · refine go_sub (lv' := [(0, vR Ω (some a0)), (1, .int x1), (2, .int x2), (3, .long x3), (6, .int x6), (8, .int x_3)]) [2, 3, 4, 5, 7, 0] rfl ?_
            exact t_X12_reaches_124 c33 a0 x1 x2 x3 x6 x_3 h q hf
def f_X12_reaches_33 : Nat → Nat → Int32 → Int32 → Int64 → Int32 → Int32 → AH → Option (Int32 × AH)
  | 0, _, _, _, _, _, _, _ => none
  | n + 1, a0, x1, x2, x3, x5, x6, h => rdI h a0 13 13 fun x_1 =>
    (if x_1 ≤ x6 then
      rz x5 (some (x5, h))
    else
      rdR h a0 13 14 fun r_2 =>
      nn r_2 fun a_3 =>
      arJ h a_3 x6 fun x_4 =>
      rdR h a0 13 10 fun r_5 =>
      nn r_5 fun a_6 =>
      arJ h a_6 x1 fun x_7 =>
      (if (lg_cmp x_4 x_7) = 0 then
        rdR h a0 13 15 fun r_8 =>
        nn r_8 fun a_9 =>
        arJ h a_9 x6 fun x_10 =>
        rdR h a0 13 6 fun r_11 =>
        nn r_11 fun a_12 =>
        arJ h a_12 x2 fun x_13 =>
        (if (lg_cmp x_10 x_13) = 0 then
          f_X12_reaches_81 (fun a0 x1 x2 x3 x5 x6 h => f_X12_reaches_33 n a0 x1 x2 x3 x5 x6 h) a0 x1 x2 x3 x5 x6 1 h
        else
          f_X12_reaches_81 (fun a0 x1 x2 x3 x5 x6 h => f_X12_reaches_33 n a0 x1 x2 x3 x5 x6 h) a0 x1 x2 x3 x5 x6 0 h)
      else
        f_X12_reaches_81 (fun a0 x1 x2 x3 x5 x6 h => f_X12_reaches_33 n a0 x1 x2 x3 x5 x6 h) a0 x1 x2 x3 x5 x6 0 h))
set_option maxRecDepth 20000 in
set_option maxHeartbeats 4000000 in
theorem t_X12_reaches_33 {Ω : Om} : ∀ (n : Nat) (a0 : Nat) (x1 : Int32) (x2 : Int32) (x3 : Int64) (x5 : Int32) (x6 : Int32) (h : AH) (q : Int32 × AH), f_X12_reaches_33 n a0 x1 x2 x3 x5 x6 h = some q → Go Ω M_X12_reaches 33 [(0, vR Ω (some a0)), (1, .int x1), (2, .int x2), (3, .long x3), (5, .int x5), (6, .int x6)] [] h (some (.int q.1)) q.2 := by
  intro n
  induction n with
  | zero => intro a0 x1 x2 x3 x5 x6 h q hf; cases hf
  | succ n ih =>
    intro a0 x1 x2 x3 x5 x6 h q hf
    rw [f_X12_reaches_33] at hf
    refine go_iload dX12_reaches_33 5 rfl ?_
    refine go_aload_n dX12_reaches_35 rfl 0 rfl ?_
    refine go_getI dX12_reaches_36 fl_1132_0 (fun _ _ => rfl) hf (fun x_1 hf => ?_)
    refine go_icmp_ge (tgt := 158) dX12_reaches_39 (by decide) hf (fun hf => ?_) (fun hf => ?_)
    · refine go_iload dX12_reaches_158 4 rfl ?_
      exact go_zreturn dX12_reaches_160 rfl hf
    · refine go_aload_n dX12_reaches_42 rfl 0 rfl ?_
      refine go_getR dX12_reaches_43 fl_1133_0 (fun _ _ => rfl) hf (fun r_2 hf => ?_)
      refine go_iload dX12_reaches_46 5 rfl ?_
      obtain ⟨a_3, rfl, hga_3⟩ := nn_some hf
      have hf := hga_3
      refine go_laload dX12_reaches_48 hf (fun x_4 hf => ?_)
      refine go_aload_n dX12_reaches_49 rfl 0 rfl ?_
      refine go_getR dX12_reaches_50 fl_1129_0 (fun _ _ => rfl) hf (fun r_5 hf => ?_)
      refine go_iload_n dX12_reaches_53 rfl 1 rfl ?_
      obtain ⟨a_6, rfl, hga_6⟩ := nn_some hf
      have hf := hga_6
      refine go_laload dX12_reaches_54 hf (fun x_7 hf => ?_)
      refine go_lcmp dX12_reaches_55 ?_
      refine go_if_ne (tgt := 80) dX12_reaches_56 (by decide) hf (fun hf => ?_) (fun hf => ?_)
      · refine go_iconst 0 dX12_reaches_80 rfl ?_
        refine go_sub (lv' := [(0, vR Ω (some a0)), (1, .int x1), (2, .int x2), (3, .long x3), (5, .int x5), (6, .int x6)]) [0, 1, 2, 3, 4, 5] rfl ?_
        exact t_X12_reaches_81 ih a0 x1 x2 x3 x5 x6 0 h q hf
      · refine go_aload_n dX12_reaches_59 rfl 0 rfl ?_
        refine go_getR dX12_reaches_60 fl_1134_0 (fun _ _ => rfl) hf (fun r_8 hf => ?_)
        refine go_iload dX12_reaches_63 5 rfl ?_
        obtain ⟨a_9, rfl, hga_9⟩ := nn_some hf
        have hf := hga_9
        refine go_laload dX12_reaches_65 hf (fun x_10 hf => ?_)
        refine go_aload_n dX12_reaches_66 rfl 0 rfl ?_
        refine go_getR dX12_reaches_67 fl_1125_0 (fun _ _ => rfl) hf (fun r_11 hf => ?_)
        refine go_iload_n dX12_reaches_70 rfl 2 rfl ?_
        obtain ⟨a_12, rfl, hga_12⟩ := nn_some hf
        have hf := hga_12
        refine go_laload dX12_reaches_71 hf (fun x_13 hf => ?_)
        refine go_lcmp dX12_reaches_72 ?_
        refine go_if_ne (tgt := 80) dX12_reaches_73 (by decide) hf (fun hf => ?_) (fun hf => ?_)
        · refine go_iconst 0 dX12_reaches_80 rfl ?_
          refine go_sub (lv' := [(0, vR Ω (some a0)), (1, .int x1), (2, .int x2), (3, .long x3), (5, .int x5), (6, .int x6)]) [0, 1, 2, 3, 4, 5] rfl ?_
          exact t_X12_reaches_81 ih a0 x1 x2 x3 x5 x6 0 h q hf
        · refine go_iconst 1 dX12_reaches_76 rfl ?_
          refine go_goto (tgt := 81) dX12_reaches_77 (by decide) ?_
          refine go_sub (lv' := [(0, vR Ω (some a0)), (1, .int x1), (2, .int x2), (3, .long x3), (5, .int x5), (6, .int x6)]) [0, 1, 2, 3, 4, 5] rfl ?_
          exact t_X12_reaches_81 ih a0 x1 x2 x3 x5 x6 1 h q hf
def f_X12_reaches (a0 : Nat) (x1 : Int32) (x2 : Int32) (x3 : Int64) (h : AH) : Option (Int32 × AH) := (if 0 ≤ x2 then
    (if x2 = 0 then
      rdR h a0 13 10 fun r_1 =>
      nn r_1 fun a_2 =>
      arJ h a_2 x1 fun x_3 =>
      (if (lg_cmp x_3 x3) = 0 then
        rz 1 (some (1, h))
      else
        rz 0 (some (0, h)))
    else
      f_X12_reaches_33 FU a0 x1 x2 x3 0 0 h)
  else
    rz 0 (some (0, h)))
set_option maxRecDepth 20000 in
set_option maxHeartbeats 4000000 in
theorem t_X12_reaches {Ω : Om} (a0 : Nat) (x1 : Int32) (x2 : Int32) (x3 : Int64) (h : AH) (q : Int32 × AH) (hf : f_X12_reaches a0 x1 x2 x3 h = some q) : Go Ω M_X12_reaches 0 (lv_args 0 [vR Ω (some a0), .int x1, .int x2, .long x3]) [] h (some (.int q.1)) q.2 := by
  unfold f_X12_reaches at hf
  rw [la_R, la_I, la_I, la_J, la_0]
  refine go_sub (lv' := [(0, vR Ω (some a0)), (1, .int x1), (2, .int x2), (3, .long x3)]) [0, 1, 2, 3] rfl ?_
  refine go_iload_n dX12_reaches_0 rfl 2 rfl ?_
  refine go_if_ge (tgt := 6) dX12_reaches_1 (by decide) hf (fun hf => ?_) (fun hf => ?_)
  · refine go_iload_n dX12_reaches_6 rfl 2 rfl ?_
    refine go_if_ne (tgt := 27) dX12_reaches_7 (by decide) hf (fun hf => ?_) (fun hf => ?_)
    · refine go_iconst 0 dX12_reaches_27 rfl ?_
      refine go_istore (i := 5) (lv' := [(5, .int 0), (0, vR Ω (some a0)), (1, .int x1), (2, .int x2), (3, .long x3)]) dX12_reaches_28 (by decide) (by first | rfl | simp [catR, catI, catJ]) ?_
      refine go_iconst 0 dX12_reaches_30 rfl ?_
      refine go_istore (i := 6) (lv' := [(6, .int 0), (5, .int 0), (0, vR Ω (some a0)), (1, .int x1), (2, .int x2), (3, .long x3)]) dX12_reaches_31 (by decide) (by first | rfl | simp [catR, catI, catJ]) ?_
      refine go_sub (lv' := [(0, vR Ω (some a0)), (1, .int x1), (2, .int x2), (3, .long x3), (5, .int 0), (6, .int 0)]) [2, 3, 4, 5, 1, 0] rfl ?_
      exact t_X12_reaches_33 FU a0 x1 x2 x3 0 0 h q hf
    · refine go_aload_n dX12_reaches_10 rfl 0 rfl ?_
      refine go_getR dX12_reaches_11 fl_1129_0 (fun _ _ => rfl) hf (fun r_1 hf => ?_)
      refine go_iload_n dX12_reaches_14 rfl 1 rfl ?_
      obtain ⟨a_2, rfl, hga_2⟩ := nn_some hf
      have hf := hga_2
      refine go_laload dX12_reaches_15 hf (fun x_3 hf => ?_)
      refine go_lload_n dX12_reaches_16 rfl 3 rfl ?_
      refine go_lcmp dX12_reaches_17 ?_
      refine go_if_ne (tgt := 25) dX12_reaches_18 (by decide) hf (fun hf => ?_) (fun hf => ?_)
      · refine go_iconst 0 dX12_reaches_25 rfl ?_
        exact go_zreturn dX12_reaches_26 rfl hf
      · refine go_iconst 1 dX12_reaches_21 rfl ?_
        refine go_goto (tgt := 26) dX12_reaches_22 (by decide) ?_
        exact go_zreturn dX12_reaches_26 rfl hf
  · refine go_iconst 0 dX12_reaches_4 rfl ?_
    exact go_zreturn dX12_reaches_5 rfl hf

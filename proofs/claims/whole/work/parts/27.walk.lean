/-! printed by wip/whole/gen: functions and their walks -/
-- LetterBrokerModel.complete(I)V
theorem dX12_complete_0 : decode cX12_complete 0 = .ok (.aload_n 0, 1) := by decide +kernel
theorem dX12_complete_1 : decode cX12_complete 1 = .ok (.getfield 103, 3) := by decide +kernel
theorem dX12_complete_4 : decode cX12_complete 4 = .ok (.iload_n 1, 1) := by decide +kernel
theorem dX12_complete_5 : decode cX12_complete 5 = .ok (.iconst 0, 1) := by decide +kernel
theorem dX12_complete_6 : decode cX12_complete 6 = .ok (.iastore, 1) := by decide +kernel
theorem dX12_complete_7 : decode cX12_complete 7 = .ok (.aload_n 0, 1) := by decide +kernel
theorem dX12_complete_8 : decode cX12_complete 8 = .ok (.getfield 100, 3) := by decide +kernel
theorem dX12_complete_11 : decode cX12_complete 11 = .ok (.iload_n 1, 1) := by decide +kernel
theorem dX12_complete_12 : decode cX12_complete 12 = .ok (.baload, 1) := by decide +kernel
theorem dX12_complete_13 : decode cX12_complete 13 = .ok (.ifCond .ne 42, 3) := by decide +kernel
theorem dX12_complete_16 : decode cX12_complete 16 = .ok (.aload_n 0, 1) := by decide +kernel
theorem dX12_complete_17 : decode cX12_complete 17 = .ok (.iload_n 1, 1) := by decide +kernel
theorem dX12_complete_18 : decode cX12_complete 18 = .ok (.aload_n 0, 1) := by decide +kernel
theorem dX12_complete_19 : decode cX12_complete 19 = .ok (.getfield 106, 3) := by decide +kernel
theorem dX12_complete_22 : decode cX12_complete 22 = .ok (.iload_n 1, 1) := by decide +kernel
theorem dX12_complete_23 : decode cX12_complete 23 = .ok (.laload, 1) := by decide +kernel
theorem dX12_complete_24 : decode cX12_complete 24 = .ok (.aload_n 0, 1) := by decide +kernel
theorem dX12_complete_25 : decode cX12_complete 25 = .ok (.getfield 109, 3) := by decide +kernel
theorem dX12_complete_28 : decode cX12_complete 28 = .ok (.iload_n 1, 1) := by decide +kernel
theorem dX12_complete_29 : decode cX12_complete 29 = .ok (.laload, 1) := by decide +kernel
theorem dX12_complete_30 : decode cX12_complete 30 = .ok (.aload_n 0, 1) := by decide +kernel
theorem dX12_complete_31 : decode cX12_complete 31 = .ok (.getfield 112, 3) := by decide +kernel
theorem dX12_complete_34 : decode cX12_complete 34 = .ok (.iload_n 1, 1) := by decide +kernel
theorem dX12_complete_35 : decode cX12_complete 35 = .ok (.baload, 1) := by decide +kernel
theorem dX12_complete_36 : decode cX12_complete 36 = .ok (.aload_n 0, 1) := by decide +kernel
theorem dX12_complete_37 : decode cX12_complete 37 = .ok (.getfield 115, 3) := by decide +kernel
theorem dX12_complete_40 : decode cX12_complete 40 = .ok (.iload_n 1, 1) := by decide +kernel
theorem dX12_complete_41 : decode cX12_complete 41 = .ok (.iaload, 1) := by decide +kernel
theorem dX12_complete_42 : decode cX12_complete 42 = .ok (.aload_n 0, 1) := by decide +kernel
theorem dX12_complete_43 : decode cX12_complete 43 = .ok (.getfield 121, 3) := by decide +kernel
theorem dX12_complete_46 : decode cX12_complete 46 = .ok (.iload_n 1, 1) := by decide +kernel
theorem dX12_complete_47 : decode cX12_complete 47 = .ok (.laload, 1) := by decide +kernel
theorem dX12_complete_48 : decode cX12_complete 48 = .ok (.invokevirtual 266, 3) := by decide +kernel
theorem dX12_complete_51 : decode cX12_complete 51 = .ok (.pop, 1) := by decide +kernel
theorem dX12_complete_52 : decode cX12_complete 52 = .ok (.goto 114, 3) := by decide +kernel
theorem dX12_complete_55 : decode cX12_complete 55 = .ok (.aload_n 0, 1) := by decide +kernel
theorem dX12_complete_56 : decode cX12_complete 56 = .ok (.getfield 124, 3) := by decide +kernel
theorem dX12_complete_59 : decode cX12_complete 59 = .ok (.iload_n 1, 1) := by decide +kernel
theorem dX12_complete_60 : decode cX12_complete 60 = .ok (.iaload, 1) := by decide +kernel
theorem dX12_complete_61 : decode cX12_complete 61 = .ok (.bipush 12, 2) := by decide +kernel
theorem dX12_complete_63 : decode cX12_complete 63 = .ok (.if_icmp .ne 14, 3) := by decide +kernel
theorem dX12_complete_66 : decode cX12_complete 66 = .ok (.aload_n 0, 1) := by decide +kernel
theorem dX12_complete_67 : decode cX12_complete 67 = .ok (.iload_n 1, 1) := by decide +kernel
theorem dX12_complete_68 : decode cX12_complete 68 = .ok (.sipush 506, 3) := by decide +kernel
theorem dX12_complete_71 : decode cX12_complete 71 = .ok (.invokevirtual 252, 3) := by decide +kernel
theorem dX12_complete_74 : decode cX12_complete 74 = .ok (.goto 92, 3) := by decide +kernel
theorem dX12_complete_77 : decode cX12_complete 77 = .ok (.bipush 12, 2) := by decide +kernel
theorem dX12_complete_79 : decode cX12_complete 79 = .ok (.iload_n 1, 1) := by decide +kernel
theorem dX12_complete_80 : decode cX12_complete 80 = .ok (.imul, 1) := by decide +kernel
theorem dX12_complete_81 : decode cX12_complete 81 = .ok (.aload_n 0, 1) := by decide +kernel
theorem dX12_complete_82 : decode cX12_complete 82 = .ok (.getfield 124, 3) := by decide +kernel
theorem dX12_complete_85 : decode cX12_complete 85 = .ok (.iload_n 1, 1) := by decide +kernel
theorem dX12_complete_86 : decode cX12_complete 86 = .ok (.iaload, 1) := by decide +kernel
theorem dX12_complete_87 : decode cX12_complete 87 = .ok (.iadd, 1) := by decide +kernel
theorem dX12_complete_88 : decode cX12_complete 88 = .ok (.istore_n 2, 1) := by decide +kernel
theorem dX12_complete_89 : decode cX12_complete 89 = .ok (.aload_n 0, 1) := by decide +kernel
theorem dX12_complete_90 : decode cX12_complete 90 = .ok (.getfield 127, 3) := by decide +kernel
theorem dX12_complete_93 : decode cX12_complete 93 = .ok (.iload_n 2, 1) := by decide +kernel
theorem dX12_complete_94 : decode cX12_complete 94 = .ok (.iconst 0, 1) := by decide +kernel
theorem dX12_complete_95 : decode cX12_complete 95 = .ok (.iastore, 1) := by decide +kernel
theorem dX12_complete_96 : decode cX12_complete 96 = .ok (.aload_n 0, 1) := by decide +kernel
theorem dX12_complete_97 : decode cX12_complete 97 = .ok (.getfield 130, 3) := by decide +kernel
theorem dX12_complete_100 : decode cX12_complete 100 = .ok (.iload_n 2, 1) := by decide +kernel
theorem dX12_complete_101 : decode cX12_complete 101 = .ok (.aload_n 0, 1) := by decide +kernel
theorem dX12_complete_102 : decode cX12_complete 102 = .ok (.getfield 106, 3) := by decide +kernel
theorem dX12_complete_105 : decode cX12_complete 105 = .ok (.iload_n 1, 1) := by decide +kernel
theorem dX12_complete_106 : decode cX12_complete 106 = .ok (.laload, 1) := by decide +kernel
theorem dX12_complete_107 : decode cX12_complete 107 = .ok (.lastore, 1) := by decide +kernel
theorem dX12_complete_108 : decode cX12_complete 108 = .ok (.aload_n 0, 1) := by decide +kernel
theorem dX12_complete_109 : decode cX12_complete 109 = .ok (.getfield 133, 3) := by decide +kernel
theorem dX12_complete_112 : decode cX12_complete 112 = .ok (.iload_n 2, 1) := by decide +kernel
theorem dX12_complete_113 : decode cX12_complete 113 = .ok (.aload_n 0, 1) := by decide +kernel
theorem dX12_complete_114 : decode cX12_complete 114 = .ok (.getfield 109, 3) := by decide +kernel
theorem dX12_complete_117 : decode cX12_complete 117 = .ok (.iload_n 1, 1) := by decide +kernel
theorem dX12_complete_118 : decode cX12_complete 118 = .ok (.laload, 1) := by decide +kernel
theorem dX12_complete_119 : decode cX12_complete 119 = .ok (.lastore, 1) := by decide +kernel
theorem dX12_complete_120 : decode cX12_complete 120 = .ok (.aload_n 0, 1) := by decide +kernel
theorem dX12_complete_121 : decode cX12_complete 121 = .ok (.getfield 136, 3) := by decide +kernel
theorem dX12_complete_124 : decode cX12_complete 124 = .ok (.iload_n 2, 1) := by decide +kernel
theorem dX12_complete_125 : decode cX12_complete 125 = .ok (.aload_n 0, 1) := by decide +kernel
theorem dX12_complete_126 : decode cX12_complete 126 = .ok (.getfield 112, 3) := by decide +kernel
theorem dX12_complete_129 : decode cX12_complete 129 = .ok (.iload_n 1, 1) := by decide +kernel
theorem dX12_complete_130 : decode cX12_complete 130 = .ok (.baload, 1) := by decide +kernel
theorem dX12_complete_131 : decode cX12_complete 131 = .ok (.bastore, 1) := by decide +kernel
theorem dX12_complete_132 : decode cX12_complete 132 = .ok (.aload_n 0, 1) := by decide +kernel
theorem dX12_complete_133 : decode cX12_complete 133 = .ok (.getfield 139, 3) := by decide +kernel
theorem dX12_complete_136 : decode cX12_complete 136 = .ok (.iload_n 2, 1) := by decide +kernel
theorem dX12_complete_137 : decode cX12_complete 137 = .ok (.aload_n 0, 1) := by decide +kernel
theorem dX12_complete_138 : decode cX12_complete 138 = .ok (.getfield 115, 3) := by decide +kernel
theorem dX12_complete_141 : decode cX12_complete 141 = .ok (.iload_n 1, 1) := by decide +kernel
theorem dX12_complete_142 : decode cX12_complete 142 = .ok (.iaload, 1) := by decide +kernel
theorem dX12_complete_143 : decode cX12_complete 143 = .ok (.iastore, 1) := by decide +kernel
theorem dX12_complete_144 : decode cX12_complete 144 = .ok (.aload_n 0, 1) := by decide +kernel
theorem dX12_complete_145 : decode cX12_complete 145 = .ok (.getfield 142, 3) := by decide +kernel
theorem dX12_complete_148 : decode cX12_complete 148 = .ok (.iload_n 2, 1) := by decide +kernel
theorem dX12_complete_149 : decode cX12_complete 149 = .ok (.aload_n 0, 1) := by decide +kernel
theorem dX12_complete_150 : decode cX12_complete 150 = .ok (.getfield 121, 3) := by decide +kernel
theorem dX12_complete_153 : decode cX12_complete 153 = .ok (.iload_n 1, 1) := by decide +kernel
theorem dX12_complete_154 : decode cX12_complete 154 = .ok (.laload, 1) := by decide +kernel
theorem dX12_complete_155 : decode cX12_complete 155 = .ok (.lastore, 1) := by decide +kernel
theorem dX12_complete_156 : decode cX12_complete 156 = .ok (.aload_n 0, 1) := by decide +kernel
theorem dX12_complete_157 : decode cX12_complete 157 = .ok (.getfield 124, 3) := by decide +kernel
theorem dX12_complete_160 : decode cX12_complete 160 = .ok (.iload_n 1, 1) := by decide +kernel
theorem dX12_complete_161 : decode cX12_complete 161 = .ok (.dup2, 1) := by decide +kernel
theorem dX12_complete_162 : decode cX12_complete 162 = .ok (.iaload, 1) := by decide +kernel
theorem dX12_complete_163 : decode cX12_complete 163 = .ok (.iconst 1, 1) := by decide +kernel
theorem dX12_complete_164 : decode cX12_complete 164 = .ok (.iadd, 1) := by decide +kernel
theorem dX12_complete_165 : decode cX12_complete 165 = .ok (.iastore, 1) := by decide +kernel
theorem dX12_complete_166 : decode cX12_complete 166 = .ok (.return_, 1) := by decide +kernel
def f_X12_complete (a0 : Nat) (x1 : Int32) (h : AH) : Option (Unit × AH) := rdR h a0 13 40 fun r_1 =>
  nn r_1 fun a_2 =>
  asI h a_2 x1 0 fun h_3 =>
  rdR h_3 a0 13 39 fun r_4 =>
  nn r_4 fun a_5 =>
  arZ h_3 a_5 x1 fun x_6 =>
  (if x_6 = 0 then
    rdR h_3 a0 13 41 fun r_53 =>
    nn r_53 fun a_54 =>
    arJ h_3 a_54 x1 fun x_55 =>
    rdR h_3 a0 13 42 fun r_56 =>
    nn r_56 fun a_57 =>
    arJ h_3 a_57 x1 fun x_58 =>
    rdR h_3 a0 13 43 fun r_59 =>
    nn r_59 fun a_60 =>
    arZ h_3 a_60 x1 fun x_61 =>
    rdR h_3 a0 13 44 fun r_62 =>
    nn r_62 fun a_63 =>
    arI h_3 a_63 x1 fun x_64 =>
    rdR h_3 a0 13 46 fun r_65 =>
    nn r_65 fun a_66 =>
    arJ h_3 a_66 x1 fun x_67 =>
    kg h_3 a0 13 (bd (f_X12_route a0 x1 x_55 x_58 x_61 x_64 x_67 h_3) fun x_70 h_69 =>
    some ((), h_69))
  else
    rdR h_3 a0 13 47 fun r_7 =>
    nn r_7 fun a_8 =>
    arI h_3 a_8 x1 fun x_9 =>
    (if x_9 = 12 then
      kg h_3 a0 13 (bd (f_X12_soft a0 x1 506 h_3) fun _ h_52 =>
      some ((), h_52))
    else
      rdR h_3 a0 13 47 fun r_10 =>
      nn r_10 fun a_11 =>
      arI h_3 a_11 x1 fun x_12 =>
      lt ((12 * x1) + x_12) fun x_13 =>
      rdR h_3 a0 13 48 fun r_14 =>
      nn r_14 fun a_15 =>
      asI h_3 a_15 x_13 0 fun h_16 =>
      rdR h_16 a0 13 49 fun r_17 =>
      rdR h_16 a0 13 41 fun r_18 =>
      nn r_18 fun a_19 =>
      arJ h_16 a_19 x1 fun x_20 =>
      nn r_17 fun a_21 =>
      asJ h_16 a_21 x_13 x_20 fun h_22 =>
      rdR h_22 a0 13 50 fun r_23 =>
      rdR h_22 a0 13 42 fun r_24 =>
      nn r_24 fun a_25 =>
      arJ h_22 a_25 x1 fun x_26 =>
      nn r_23 fun a_27 =>
      asJ h_22 a_27 x_13 x_26 fun h_28 =>
      rdR h_28 a0 13 51 fun r_29 =>
      rdR h_28 a0 13 43 fun r_30 =>
      nn r_30 fun a_31 =>
      arZ h_28 a_31 x1 fun x_32 =>
      nn r_29 fun a_33 =>
      asZ h_28 a_33 x_13 x_32 fun h_34 =>
      rdR h_34 a0 13 52 fun r_35 =>
      rdR h_34 a0 13 44 fun r_36 =>
      nn r_36 fun a_37 =>
      arI h_34 a_37 x1 fun x_38 =>
      nn r_35 fun a_39 =>
      asI h_34 a_39 x_13 x_38 fun h_40 =>
      rdR h_40 a0 13 53 fun r_41 =>
      rdR h_40 a0 13 46 fun r_42 =>
      nn r_42 fun a_43 =>
      arJ h_40 a_43 x1 fun x_44 =>
      nn r_41 fun a_45 =>
      asJ h_40 a_45 x_13 x_44 fun h_46 =>
      rdR h_46 a0 13 47 fun r_47 =>
      nn r_47 fun a_48 =>
      arI h_46 a_48 x1 fun x_49 =>
      asI h_46 a_48 x1 (x_49 + 1) fun h_50 =>
      some ((), h_50)))
set_option maxRecDepth 20000 in
set_option maxHeartbeats 4000000 in
theorem t_X12_complete {Ω : Om} (a0 : Nat) (x1 : Int32) (h : AH) (q : Unit × AH) (hf : f_X12_complete a0 x1 h = some q) : Go Ω M_X12_complete 0 (lv_args 0 [vR Ω (some a0), .int x1]) [] h none q.2 := by
  unfold f_X12_complete at hf
  rw [la_R, la_I, la_0]
  refine go_sub (lv' := [(0, vR Ω (some a0)), (1, .int x1)]) [0, 1] rfl ?_
  refine go_aload_n dX12_complete_0 rfl 0 rfl ?_
  refine go_getR dX12_complete_1 fl_1159_0 (fun _ _ => rfl) hf (fun r_1 hf => ?_)
  refine go_iload_n dX12_complete_4 rfl 1 rfl ?_
  refine go_iconst 0 dX12_complete_5 rfl ?_
  obtain ⟨a_2, rfl, hga_2⟩ := nn_some hf
  have hf := hga_2
  refine go_iastore dX12_complete_6 hf (fun h_3 hf => ?_)
  refine go_aload_n dX12_complete_7 rfl 0 rfl ?_
  refine go_getR dX12_complete_8 fl_1158_0 (fun _ _ => rfl) hf (fun r_4 hf => ?_)
  refine go_iload_n dX12_complete_11 rfl 1 rfl ?_
  obtain ⟨a_5, rfl, hga_5⟩ := nn_some hf
  have hf := hga_5
  refine go_zaload dX12_complete_12 hf (fun x_6 hf => ?_)
  refine go_if_ne (tgt := 55) dX12_complete_13 (by decide) hf (fun hf => ?_) (fun hf => ?_)
  · refine go_aload_n dX12_complete_55 rfl 0 rfl ?_
    refine go_getR dX12_complete_56 fl_1166_0 (fun _ _ => rfl) hf (fun r_7 hf => ?_)
    refine go_iload_n dX12_complete_59 rfl 1 rfl ?_
    obtain ⟨a_8, rfl, hga_8⟩ := nn_some hf
    have hf := hga_8
    refine go_iaload dX12_complete_60 hf (fun x_9 hf => ?_)
    refine go_bipush 12 dX12_complete_61 (by decide) ?_
    refine go_icmp_ne (tgt := 77) dX12_complete_63 (by decide) hf (fun hf => ?_) (fun hf => ?_)
    · refine go_bipush 12 dX12_complete_77 (by decide) ?_
      refine go_iload_n dX12_complete_79 rfl 1 rfl ?_
      refine go_imul dX12_complete_80 ?_
      refine go_aload_n dX12_complete_81 rfl 0 rfl ?_
      refine go_getR dX12_complete_82 fl_1166_0 (fun _ _ => rfl) hf (fun r_10 hf => ?_)
      refine go_iload_n dX12_complete_85 rfl 1 rfl ?_
      obtain ⟨a_11, rfl, hga_11⟩ := nn_some hf
      have hf := hga_11
      refine go_iaload dX12_complete_86 hf (fun x_12 hf => ?_)
      refine go_iadd dX12_complete_87 ?_
      refine lt_I hf (fun x_13 hf => ?_)
      refine go_istore_n (i := 2) (lv' := [(2, .int x_13), (0, vR Ω (some a0)), (1, .int x1)]) dX12_complete_88 rfl (by decide) (by first | rfl | simp [catR, catI, catJ]) ?_
      refine go_aload_n dX12_complete_89 rfl 1 rfl ?_
      refine go_getR dX12_complete_90 fl_1167_0 (fun _ _ => rfl) hf (fun r_14 hf => ?_)
      refine go_iload_n dX12_complete_93 rfl 0 rfl ?_
      refine go_iconst 0 dX12_complete_94 rfl ?_
      obtain ⟨a_15, rfl, hga_15⟩ := nn_some hf
      have hf := hga_15
      refine go_iastore dX12_complete_95 hf (fun h_16 hf => ?_)
      refine go_aload_n dX12_complete_96 rfl 1 rfl ?_
      refine go_getR dX12_complete_97 fl_1168_0 (fun _ _ => rfl) hf (fun r_17 hf => ?_)
      refine go_iload_n dX12_complete_100 rfl 0 rfl ?_
      refine go_aload_n dX12_complete_101 rfl 1 rfl ?_
      refine go_getR dX12_complete_102 fl_1160_0 (fun _ _ => rfl) hf (fun r_18 hf => ?_)
      refine go_iload_n dX12_complete_105 rfl 2 rfl ?_
      obtain ⟨a_19, rfl, hga_19⟩ := nn_some hf
      have hf := hga_19
      refine go_laload dX12_complete_106 hf (fun x_20 hf => ?_)
      obtain ⟨a_21, rfl, hga_21⟩ := nn_some hf
      have hf := hga_21
      refine go_lastore dX12_complete_107 hf (fun h_22 hf => ?_)
      refine go_aload_n dX12_complete_108 rfl 1 rfl ?_
      refine go_getR dX12_complete_109 fl_1169_0 (fun _ _ => rfl) hf (fun r_23 hf => ?_)
      refine go_iload_n dX12_complete_112 rfl 0 rfl ?_
      refine go_aload_n dX12_complete_113 rfl 1 rfl ?_
      refine go_getR dX12_complete_114 fl_1161_0 (fun _ _ => rfl) hf (fun r_24 hf => ?_)
      refine go_iload_n dX12_complete_117 rfl 2 rfl ?_
      obtain ⟨a_25, rfl, hga_25⟩ := nn_some hf
      have hf := hga_25
      refine go_laload dX12_complete_118 hf (fun x_26 hf => ?_)
      obtain ⟨a_27, rfl, hga_27⟩ := nn_some hf
      have hf := hga_27
      refine go_lastore dX12_complete_119 hf (fun h_28 hf => ?_)
      refine go_aload_n dX12_complete_120 rfl 1 rfl ?_
      refine go_getR dX12_complete_121 fl_1170_0 (fun _ _ => rfl) hf (fun r_29 hf => ?_)
      refine go_iload_n dX12_complete_124 rfl 0 rfl ?_
      refine go_aload_n dX12_complete_125 rfl 1 rfl ?_
      refine go_getR dX12_complete_126 fl_1162_0 (fun _ _ => rfl) hf (fun r_30 hf => ?_)
      refine go_iload_n dX12_complete_129 rfl 2 rfl ?_
      obtain ⟨a_31, rfl, hga_31⟩ := nn_some hf
      have hf := hga_31
      refine go_zaload dX12_complete_130 hf (fun x_32 hf => ?_)
      obtain ⟨a_33, rfl, hga_33⟩ := nn_some hf
      have hf := hga_33
      refine go_zastore dX12_complete_131 hf (fun h_34 hf => ?_)
      refine go_aload_n dX12_complete_132 rfl 1 rfl ?_
      refine go_getR dX12_complete_133 fl_1171_0 (fun _ _ => rfl) hf (fun r_35 hf => ?_)
      refine go_iload_n dX12_complete_136 rfl 0 rfl ?_
      refine go_aload_n dX12_complete_137 rfl 1 rfl ?_
      refine go_getR dX12_complete_138 fl_1163_0 (fun _ _ => rfl) hf (fun r_36 hf => ?_)
      refine go_iload_n dX12_complete_141 rfl 2 rfl ?_
      obtain ⟨a_37, rfl, hga_37⟩ := nn_some hf
      have hf := hga_37
      refine go_iaload dX12_complete_142 hf (fun x_38 hf => ?_)
      obtain ⟨a_39, rfl, hga_39⟩ := nn_some hf
      have hf := hga_39
      refine go_iastore dX12_complete_143 hf (fun h_40 hf => ?_)
      refine go_aload_n dX12_complete_144 rfl 1 rfl ?_
      refine go_getR dX12_complete_145 fl_1172_0 (fun _ _ => rfl) hf (fun r_41 hf => ?_)
      refine go_iload_n dX12_complete_148 rfl 0 rfl ?_
      refine go_aload_n dX12_complete_149 rfl 1 rfl ?_
      refine go_getR dX12_complete_150 fl_1165_0 (fun _ _ => rfl) hf (fun r_42 hf => ?_)
      refine go_iload_n dX12_complete_153 rfl 2 rfl ?_
      obtain ⟨a_43, rfl, hga_43⟩ := nn_some hf
      have hf := hga_43
      refine go_laload dX12_complete_154 hf (fun x_44 hf => ?_)
      obtain ⟨a_45, rfl, hga_45⟩ := nn_some hf
      have hf := hga_45
      refine go_lastore dX12_complete_155 hf (fun h_46 hf => ?_)
      refine go_aload_n dX12_complete_156 rfl 1 rfl ?_
      refine go_getR dX12_complete_157 fl_1166_0 (fun _ _ => rfl) hf (fun r_47 hf => ?_)
      refine go_iload_n dX12_complete_160 rfl 2 rfl ?_
      refine go_dup2 dX12_complete_161 rfl catR ?_
      obtain ⟨a_48, rfl, hga_48⟩ := nn_some hf
      have hf := hga_48
      refine go_iaload dX12_complete_162 hf (fun x_49 hf => ?_)
      refine go_iconst 1 dX12_complete_163 rfl ?_
      refine go_iadd dX12_complete_164 ?_
      refine go_iastore dX12_complete_165 hf (fun h_50 hf => ?_)
      exact go_return dX12_complete_166 rfl hf
    · refine go_aload_n dX12_complete_66 rfl 0 rfl ?_
      refine go_iload_n dX12_complete_67 rfl 1 rfl ?_
      refine go_sipush 506 dX12_complete_68 (by decide) ?_
      obtain ⟨hk, hf⟩ := kg_some hf
      obtain ⟨z_51, hc, hf⟩ := bd_some hf
      refine go_callV (y2 := M_X12_soft) (c2 := 13) dX12_complete_71 mo_X12_soft ⟨Nat.le_of_ble_eq_true rfl, Nat.le_of_ble_eq_true rfl⟩ na_X12_soft w1432 w1434 (by decide) rfl w76 hk [.int x1, .int 506] rfl (n_X12_soft (a0) x1 506) rfl (csum (Nat.le_of_ble_eq_true rfl)) (t_X12_soft (a0) x1 506 h_3 _ hc) ?_
      obtain ⟨_, h_52⟩ := z_51
      refine go_goto (tgt := 166) dX12_complete_74 (by decide) ?_
      exact go_return dX12_complete_166 rfl hf
  · refine go_aload_n dX12_complete_16 rfl 0 rfl ?_
    refine go_iload_n dX12_complete_17 rfl 1 rfl ?_
    refine go_aload_n dX12_complete_18 rfl 0 rfl ?_
    refine go_getR dX12_complete_19 fl_1160_0 (fun _ _ => rfl) hf (fun r_53 hf => ?_)
    refine go_iload_n dX12_complete_22 rfl 1 rfl ?_
    obtain ⟨a_54, rfl, hga_54⟩ := nn_some hf
    have hf := hga_54
    refine go_laload dX12_complete_23 hf (fun x_55 hf => ?_)
    refine go_aload_n dX12_complete_24 rfl 0 rfl ?_
    refine go_getR dX12_complete_25 fl_1161_0 (fun _ _ => rfl) hf (fun r_56 hf => ?_)
    refine go_iload_n dX12_complete_28 rfl 1 rfl ?_
    obtain ⟨a_57, rfl, hga_57⟩ := nn_some hf
    have hf := hga_57
    refine go_laload dX12_complete_29 hf (fun x_58 hf => ?_)
    refine go_aload_n dX12_complete_30 rfl 0 rfl ?_
    refine go_getR dX12_complete_31 fl_1162_0 (fun _ _ => rfl) hf (fun r_59 hf => ?_)
    refine go_iload_n dX12_complete_34 rfl 1 rfl ?_
    obtain ⟨a_60, rfl, hga_60⟩ := nn_some hf
    have hf := hga_60
    refine go_zaload dX12_complete_35 hf (fun x_61 hf => ?_)
    refine go_aload_n dX12_complete_36 rfl 0 rfl ?_
    refine go_getR dX12_complete_37 fl_1163_0 (fun _ _ => rfl) hf (fun r_62 hf => ?_)
    refine go_iload_n dX12_complete_40 rfl 1 rfl ?_
    obtain ⟨a_63, rfl, hga_63⟩ := nn_some hf
    have hf := hga_63
    refine go_iaload dX12_complete_41 hf (fun x_64 hf => ?_)
    refine go_aload_n dX12_complete_42 rfl 0 rfl ?_
    refine go_getR dX12_complete_43 fl_1165_0 (fun _ _ => rfl) hf (fun r_65 hf => ?_)
    refine go_iload_n dX12_complete_46 rfl 1 rfl ?_
    obtain ⟨a_66, rfl, hga_66⟩ := nn_some hf
    have hf := hga_66
    refine go_laload dX12_complete_47 hf (fun x_67 hf => ?_)
    obtain ⟨hk, hf⟩ := kg_some hf
    obtain ⟨z_68, hc, hf⟩ := bd_some hf
    refine go_callV (y2 := M_X12_route) (c2 := 13) dX12_complete_48 mo_X12_route ⟨Nat.le_of_ble_eq_true rfl, Nat.le_of_ble_eq_true rfl⟩ na_X12_route w1559 w1561 (by decide) rfl w107 hk [.int x1, .long x_55, .long x_58, .int x_61, .int x_64, .long x_67] rfl (n_X12_route (a0) x1 x_55 x_58 x_61 x_64 x_67) rfl (csum (Nat.le_of_ble_eq_true rfl)) (t_X12_route (a0) x1 x_55 x_58 x_61 x_64 x_67 h_3 _ hc) ?_
    obtain ⟨x_70, h_69⟩ := z_68
    refine go_pop dX12_complete_51 rfl ?_
    refine go_goto (tgt := 166) dX12_complete_52 (by decide) ?_
    exact go_return dX12_complete_166 rfl hf
-- LetterBrokerModel.shut()V
theorem dX12_shut_0 : decode cX12_shut 0 = .ok (.aload_n 0, 1) := by decide +kernel
theorem dX12_shut_1 : decode cX12_shut 1 = .ok (.iconst 5, 1) := by decide +kernel
theorem dX12_shut_2 : decode cX12_shut 2 = .ok (.putfield 207, 3) := by decide +kernel
theorem dX12_shut_5 : decode cX12_shut 5 = .ok (.aload_n 0, 1) := by decide +kernel
theorem dX12_shut_6 : decode cX12_shut 6 = .ok (.iconst 0, 1) := by decide +kernel
theorem dX12_shut_7 : decode cX12_shut 7 = .ok (.putfield 210, 3) := by decide +kernel
theorem dX12_shut_10 : decode cX12_shut 10 = .ok (.iconst 1, 1) := by decide +kernel
theorem dX12_shut_11 : decode cX12_shut 11 = .ok (.istore_n 1, 1) := by decide +kernel
theorem dX12_shut_12 : decode cX12_shut 12 = .ok (.iload_n 1, 1) := by decide +kernel
theorem dX12_shut_13 : decode cX12_shut 13 = .ok (.iconst 4, 1) := by decide +kernel
theorem dX12_shut_14 : decode cX12_shut 14 = .ok (.if_icmp .ge 32, 3) := by decide +kernel
theorem dX12_shut_17 : decode cX12_shut 17 = .ok (.aload_n 0, 1) := by decide +kernel
theorem dX12_shut_18 : decode cX12_shut 18 = .ok (.getfield 88, 3) := by decide +kernel
theorem dX12_shut_21 : decode cX12_shut 21 = .ok (.iload_n 1, 1) := by decide +kernel
theorem dX12_shut_22 : decode cX12_shut 22 = .ok (.iaload, 1) := by decide +kernel
theorem dX12_shut_23 : decode cX12_shut 23 = .ok (.iconst 1, 1) := by decide +kernel
theorem dX12_shut_24 : decode cX12_shut 24 = .ok (.if_icmp .ne 9, 3) := by decide +kernel
theorem dX12_shut_27 : decode cX12_shut 27 = .ok (.aload_n 0, 1) := by decide +kernel
theorem dX12_shut_28 : decode cX12_shut 28 = .ok (.iload_n 1, 1) := by decide +kernel
theorem dX12_shut_29 : decode cX12_shut 29 = .ok (.iconst 0, 1) := by decide +kernel
theorem dX12_shut_30 : decode cX12_shut 30 = .ok (.invokevirtual 213, 3) := by decide +kernel
theorem dX12_shut_33 : decode cX12_shut 33 = .ok (.aload_n 0, 1) := by decide +kernel
theorem dX12_shut_34 : decode cX12_shut 34 = .ok (.getfield 88, 3) := by decide +kernel
theorem dX12_shut_37 : decode cX12_shut 37 = .ok (.iload_n 1, 1) := by decide +kernel
theorem dX12_shut_38 : decode cX12_shut 38 = .ok (.iconst 0, 1) := by decide +kernel
theorem dX12_shut_39 : decode cX12_shut 39 = .ok (.iastore, 1) := by decide +kernel
theorem dX12_shut_40 : decode cX12_shut 40 = .ok (.iinc 1 1, 3) := by decide +kernel
theorem dX12_shut_43 : decode cX12_shut 43 = .ok (.goto (-31), 3) := by decide +kernel
theorem dX12_shut_46 : decode cX12_shut 46 = .ok (.return_, 1) := by decide +kernel
def f_X12_shut_33 (k12 : Nat → Int32 → AH → Option (Unit × AH)) (a0 : Nat) (x1 : Int32) (h : AH) : Option (Unit × AH) := rdR h a0 13 35 fun r_1 =>
  nn r_1 fun a_2 =>
  asI h a_2 x1 0 fun h_3 =>
  k12 a0 (x1 + 1) h_3
set_option maxRecDepth 20000 in
set_option maxHeartbeats 4000000 in
theorem t_X12_shut_33 {Ω : Om} {k12 : Nat → Int32 → AH → Option (Unit × AH)} (c12 : ∀ (a0 : Nat) (x1 : Int32) (h : AH) (q : Unit × AH), k12 a0 x1 h = some q → Go Ω M_X12_shut 12 [(0, vR Ω (some a0)), (1, .int x1)] [] h none q.2) (a0 : Nat) (x1 : Int32) (h : AH) (q : Unit × AH) (hf : f_X12_shut_33 k12 a0 x1 h = some q) : Go Ω M_X12_shut 33 [(0, vR Ω (some a0)), (1, .int x1)] [] h none q.2 := by
  unfold f_X12_shut_33 at hf
  refine go_aload_n dX12_shut_33 rfl 0 rfl ?_
  refine go_getR dX12_shut_34 fl_1154_0 (fun _ _ => rfl) hf (fun r_1 hf => ?_)
  refine go_iload_n dX12_shut_37 rfl 1 rfl ?_
  refine go_iconst 0 dX12_shut_38 rfl ?_
  obtain ⟨a_2, rfl, hga_2⟩ := nn_some hf
  have hf := hga_2
  refine go_iastore dX12_shut_39 hf (fun h_3 hf => ?_)
  refine go_iinc (j := 1) (v := x1 + 1) (lv' := [(1, .int (x1 + 1)), (0, vR Ω (some a0))]) dX12_shut_40 rfl rfl (by decide) (by first | rfl | simp [catR, catI, catJ]) ?_
  refine go_goto (tgt := 12) dX12_shut_43 (by decide) ?_
  refine go_sub (lv' := [(0, vR Ω (some a0)), (1, .int (x1 + 1))]) [1, 0] rfl ?_
  exact c12 a0 (x1 + 1) h_3 q hf
def f_X12_shut_12 : Nat → Nat → Int32 → AH → Option (Unit × AH)
  | 0, _, _, _ => none
  | n + 1, a0, x1, h => (if 4 ≤ x1 then
      some ((), h)
    else
      rdR h a0 13 35 fun r_1 =>
      nn r_1 fun a_2 =>
      arI h a_2 x1 fun x_3 =>
      (if x_3 = 1 then
        kg h a0 13 (bd (f_X12_endChannel a0 x1 0 h) fun _ h_5 =>
        f_X12_shut_33 (fun a0 x1 h => f_X12_shut_12 n a0 x1 h) a0 x1 h_5)
      else
        f_X12_shut_33 (fun a0 x1 h => f_X12_shut_12 n a0 x1 h) a0 x1 h))
set_option maxRecDepth 20000 in
set_option maxHeartbeats 4000000 in
theorem t_X12_shut_12 {Ω : Om} : ∀ (n : Nat) (a0 : Nat) (x1 : Int32) (h : AH) (q : Unit × AH), f_X12_shut_12 n a0 x1 h = some q → Go Ω M_X12_shut 12 [(0, vR Ω (some a0)), (1, .int x1)] [] h none q.2 := by
  intro n
  induction n with
  | zero => intro a0 x1 h q hf; cases hf
  | succ n ih =>
    intro a0 x1 h q hf
    rw [f_X12_shut_12] at hf
    refine go_iload_n dX12_shut_12 rfl 1 rfl ?_
    refine go_iconst 4 dX12_shut_13 rfl ?_
    refine go_icmp_ge (tgt := 46) dX12_shut_14 (by decide) hf (fun hf => ?_) (fun hf => ?_)
    · exact go_return dX12_shut_46 rfl hf
    · refine go_aload_n dX12_shut_17 rfl 0 rfl ?_
      refine go_getR dX12_shut_18 fl_1154_0 (fun _ _ => rfl) hf (fun r_1 hf => ?_)
      refine go_iload_n dX12_shut_21 rfl 1 rfl ?_
      obtain ⟨a_2, rfl, hga_2⟩ := nn_some hf
      have hf := hga_2
      refine go_iaload dX12_shut_22 hf (fun x_3 hf => ?_)
      refine go_iconst 1 dX12_shut_23 rfl ?_
      refine go_icmp_ne (tgt := 33) dX12_shut_24 (by decide) hf (fun hf => ?_) (fun hf => ?_)
      · refine go_sub (lv' := [(0, vR Ω (some a0)), (1, .int x1)]) [0, 1] rfl ?_
        exact t_X12_shut_33 ih a0 x1 h q hf
      · refine go_aload_n dX12_shut_27 rfl 0 rfl ?_
        refine go_iload_n dX12_shut_28 rfl 1 rfl ?_
        refine go_iconst 0 dX12_shut_29 rfl ?_
        obtain ⟨hk, hf⟩ := kg_some hf
        obtain ⟨z_4, hc, hf⟩ := bd_some hf
        refine go_callV (y2 := M_X12_endChannel) (c2 := 13) dX12_shut_30 mo_X12_endChannel ⟨Nat.le_of_ble_eq_true rfl, Nat.le_of_ble_eq_true rfl⟩ na_X12_endChannel w1349 w1351 (by decide) rfl w56 hk [.int x1, .int 0] rfl (n_X12_endChannel (a0) x1 0) rfl (csum (Nat.le_of_ble_eq_true rfl)) (t_X12_endChannel (a0) x1 0 h _ hc) ?_
        obtain ⟨_, h_5⟩ := z_4
        refine go_sub (lv' := [(0, vR Ω (some a0)), (1, .int x1)]) [0, 1] rfl ?_
        exact t_X12_shut_33 ih a0 x1 h_5 q hf
def f_X12_shut (a0 : Nat) (h : AH) : Option (Unit × AH) := wrI h a0 13 0 5 fun h_1 =>
  wrI h_1 a0 13 2 0 fun h_2 =>
  f_X12_shut_12 FU a0 1 h_2
set_option maxRecDepth 20000 in
set_option maxHeartbeats 4000000 in
theorem t_X12_shut {Ω : Om} (a0 : Nat) (h : AH) (q : Unit × AH) (hf : f_X12_shut a0 h = some q) : Go Ω M_X12_shut 0 (lv_args 0 [vR Ω (some a0)]) [] h none q.2 := by
  unfold f_X12_shut at hf
  rw [la_R, la_0]
  refine go_sub (lv' := [(0, vR Ω (some a0))]) [0] rfl ?_
  refine go_aload_n dX12_shut_0 rfl 0 rfl ?_
  refine go_iconst 5 dX12_shut_1 rfl ?_
  refine go_putI dX12_shut_2 fl_1119_0 (fun q hq => by cases hq; exact Or.inl rfl) (fun _ _ => rfl) rfl hf (fun h_1 hf => ?_)
  refine go_aload_n dX12_shut_5 rfl 0 rfl ?_
  refine go_iconst 0 dX12_shut_6 rfl ?_
  refine go_putI dX12_shut_7 fl_1121_0 (fun q hq => by cases hq; exact Or.inl rfl) (fun _ _ => rfl) rfl hf (fun h_2 hf => ?_)
  refine go_iconst 1 dX12_shut_10 rfl ?_
  refine go_istore_n (i := 1) (lv' := [(1, .int 1), (0, vR Ω (some a0))]) dX12_shut_11 rfl (by decide) (by first | rfl | simp [catR, catI, catJ]) ?_
  refine go_sub (lv' := [(0, vR Ω (some a0)), (1, .int 1)]) [1, 0] rfl ?_
  exact t_X12_shut_12 FU a0 1 h_2 q hf
-- LetterBrokerModel.hard(I)V
theorem dX12_hard_0 : decode cX12_hard 0 = .ok (.aload_n 0, 1) := by decide +kernel
theorem dX12_hard_1 : decode cX12_hard 1 = .ok (.iconst 0, 1) := by decide +kernel
theorem dX12_hard_2 : decode cX12_hard 2 = .ok (.bipush 10, 2) := by decide +kernel
theorem dX12_hard_4 : decode cX12_hard 4 = .ok (.bipush 50, 2) := by decide +kernel
theorem dX12_hard_6 : decode cX12_hard 6 = .ok (.invokevirtual 168, 3) := by decide +kernel
theorem dX12_hard_9 : decode cX12_hard 9 = .ok (.aload_n 0, 1) := by decide +kernel
theorem dX12_hard_10 : decode cX12_hard 10 = .ok (.iload_n 1, 1) := by decide +kernel
theorem dX12_hard_11 : decode cX12_hard 11 = .ok (.invokevirtual 216, 3) := by decide +kernel
theorem dX12_hard_14 : decode cX12_hard 14 = .ok (.aload_n 0, 1) := by decide +kernel
theorem dX12_hard_15 : decode cX12_hard 15 = .ok (.invokevirtual 172, 3) := by decide +kernel
theorem dX12_hard_18 : decode cX12_hard 18 = .ok (.aload_n 0, 1) := by decide +kernel
theorem dX12_hard_19 : decode cX12_hard 19 = .ok (.invokevirtual 219, 3) := by decide +kernel
theorem dX12_hard_22 : decode cX12_hard 22 = .ok (.return_, 1) := by decide +kernel
def f_X12_hard (a0 : Nat) (x1 : Int32) (h : AH) : Option (Unit × AH) := kg h a0 13 (bd (f_X12_method a0 0 10 50 h) fun _ h_2 =>
  kg h_2 a0 13 (bd (f_X12_putShort a0 x1 h_2) fun _ h_4 =>
  kg h_4 a0 13 (bd (f_X12_finish a0 h_4) fun _ h_6 =>
  kg h_6 a0 13 (bd (f_X12_shut a0 h_6) fun _ h_8 =>
  some ((), h_8)))))
set_option maxRecDepth 20000 in
set_option maxHeartbeats 4000000 in
theorem t_X12_hard {Ω : Om} (a0 : Nat) (x1 : Int32) (h : AH) (q : Unit × AH) (hf : f_X12_hard a0 x1 h = some q) : Go Ω M_X12_hard 0 (lv_args 0 [vR Ω (some a0), .int x1]) [] h none q.2 := by
  unfold f_X12_hard at hf
  rw [la_R, la_I, la_0]
  refine go_sub (lv' := [(0, vR Ω (some a0)), (1, .int x1)]) [0, 1] rfl ?_
  refine go_aload_n dX12_hard_0 rfl 0 rfl ?_
  refine go_iconst 0 dX12_hard_1 rfl ?_
  refine go_bipush 10 dX12_hard_2 (by decide) ?_
  refine go_bipush 50 dX12_hard_4 (by decide) ?_
  obtain ⟨hk, hf⟩ := kg_some hf
  obtain ⟨z_1, hc, hf⟩ := bd_some hf
  refine go_callV (y2 := M_X12_method) (c2 := 13) dX12_hard_6 mo_X12_method ⟨Nat.le_of_ble_eq_true rfl, Nat.le_of_ble_eq_true rfl⟩ na_X12_method w1325 w1327 (by decide) rfl w50 hk [.int 0, .int 10, .int 50] rfl (n_X12_method (a0) 0 10 50) rfl (csum (Nat.le_of_ble_eq_true rfl)) (t_X12_method (a0) 0 10 50 h _ hc) ?_
  obtain ⟨_, h_2⟩ := z_1
  refine go_aload_n dX12_hard_9 rfl 0 rfl ?_
  refine go_iload_n dX12_hard_10 rfl 1 rfl ?_
  obtain ⟨hk, hf⟩ := kg_some hf
  obtain ⟨z_3, hc, hf⟩ := bd_some hf
  refine go_callV (y2 := M_X12_putShort) (c2 := 13) dX12_hard_11 mo_X12_putShort ⟨Nat.le_of_ble_eq_true rfl, Nat.le_of_ble_eq_true rfl⟩ na_X12_putShort w1337 w1339 (by decide) rfl w53 hk [.int x1] rfl (n_X12_putShort (a0) x1) rfl (csum (Nat.le_of_ble_eq_true rfl)) (t_X12_putShort (a0) x1 h_2 _ hc) ?_
  obtain ⟨_, h_4⟩ := z_3
  refine go_aload_n dX12_hard_14 rfl 0 rfl ?_
  obtain ⟨hk, hf⟩ := kg_some hf
  obtain ⟨z_5, hc, hf⟩ := bd_some hf
  refine go_callV (y2 := M_X12_finish) (c2 := 13) dX12_hard_15 mo_X12_finish ⟨Nat.le_of_ble_eq_true rfl, Nat.le_of_ble_eq_true rfl⟩ na_X12_finish w1341 w1343 (by decide) rfl w54 hk [] rfl (n_X12_finish (a0)) rfl (csum (Nat.le_of_ble_eq_true rfl)) (t_X12_finish (a0) h_4 _ hc) ?_
  obtain ⟨_, h_6⟩ := z_5
  refine go_aload_n dX12_hard_18 rfl 0 rfl ?_
  obtain ⟨hk, hf⟩ := kg_some hf
  obtain ⟨z_7, hc, hf⟩ := bd_some hf
  refine go_callV (y2 := M_X12_shut) (c2 := 13) dX12_hard_19 mo_X12_shut ⟨Nat.le_of_ble_eq_true rfl, Nat.le_of_ble_eq_true rfl⟩ na_X12_shut w1345 w1347 (by decide) rfl w55 hk [] rfl (n_X12_shut (a0)) rfl (csum (Nat.le_of_ble_eq_true rfl)) (t_X12_shut (a0) h_6 _ hc) ?_
  obtain ⟨_, h_8⟩ := z_7
  exact go_return dX12_hard_22 rfl hf
-- LetterBrokerModel.body()V
theorem dX12_body_0 : decode cX12_body 0 = .ok (.aload_n 0, 1) := by decide +kernel
theorem dX12_body_1 : decode cX12_body 1 = .ok (.getfield 318, 3) := by decide +kernel
theorem dX12_body_4 : decode cX12_body 4 = .ok (.istore_n 1, 1) := by decide +kernel
theorem dX12_body_5 : decode cX12_body 5 = .ok (.aload_n 0, 1) := by decide +kernel
theorem dX12_body_6 : decode cX12_body 6 = .ok (.getfield 304, 3) := by decide +kernel
theorem dX12_body_9 : decode cX12_body 9 = .ok (.aload_n 0, 1) := by decide +kernel
theorem dX12_body_10 : decode cX12_body 10 = .ok (.getfield 301, 3) := by decide +kernel
theorem dX12_body_13 : decode cX12_body 13 = .ok (.if_icmp .eq 21, 3) := by decide +kernel
theorem dX12_body_16 : decode cX12_body 16 = .ok (.aload_n 0, 1) := by decide +kernel
theorem dX12_body_17 : decode cX12_body 17 = .ok (.getfield 304, 3) := by decide +kernel
theorem dX12_body_20 : decode cX12_body 20 = .ok (.aload_n 0, 1) := by decide +kernel
theorem dX12_body_21 : decode cX12_body 21 = .ok (.getfield 301, 3) := by decide +kernel
theorem dX12_body_24 : decode cX12_body 24 = .ok (.isub, 1) := by decide +kernel
theorem dX12_body_25 : decode cX12_body 25 = .ok (.aload_n 0, 1) := by decide +kernel
theorem dX12_body_26 : decode cX12_body 26 = .ok (.getfield 118, 3) := by decide +kernel
theorem dX12_body_29 : decode cX12_body 29 = .ok (.iload_n 1, 1) := by decide +kernel
theorem dX12_body_30 : decode cX12_body 30 = .ok (.iaload, 1) := by decide +kernel
theorem dX12_body_31 : decode cX12_body 31 = .ok (.if_icmp .le 11, 3) := by decide +kernel
theorem dX12_body_34 : decode cX12_body 34 = .ok (.aload_n 0, 1) := by decide +kernel
theorem dX12_body_35 : decode cX12_body 35 = .ok (.sipush 501, 3) := by decide +kernel
theorem dX12_body_38 : decode cX12_body 38 = .ok (.invokevirtual 315, 3) := by decide +kernel
theorem dX12_body_41 : decode cX12_body 41 = .ok (.return_, 1) := by decide +kernel
theorem dX12_body_42 : decode cX12_body 42 = .ok (.aload_n 0, 1) := by decide +kernel
theorem dX12_body_43 : decode cX12_body 43 = .ok (.getfield 301, 3) := by decide +kernel
theorem dX12_body_46 : decode cX12_body 46 = .ok (.istore_n 2, 1) := by decide +kernel
theorem dX12_body_47 : decode cX12_body 47 = .ok (.iload_n 2, 1) := by decide +kernel
theorem dX12_body_48 : decode cX12_body 48 = .ok (.aload_n 0, 1) := by decide +kernel
theorem dX12_body_49 : decode cX12_body 49 = .ok (.getfield 304, 3) := by decide +kernel
theorem dX12_body_52 : decode cX12_body 52 = .ok (.if_icmp .ge 32, 3) := by decide +kernel
theorem dX12_body_55 : decode cX12_body 55 = .ok (.aload_n 0, 1) := by decide +kernel
theorem dX12_body_56 : decode cX12_body 56 = .ok (.getfield 121, 3) := by decide +kernel
theorem dX12_body_59 : decode cX12_body 59 = .ok (.iload_n 1, 1) := by decide +kernel
theorem dX12_body_60 : decode cX12_body 60 = .ok (.aload_n 0, 1) := by decide +kernel
theorem dX12_body_61 : decode cX12_body 61 = .ok (.getfield 121, 3) := by decide +kernel
theorem dX12_body_64 : decode cX12_body 64 = .ok (.iload_n 1, 1) := by decide +kernel
theorem dX12_body_65 : decode cX12_body 65 = .ok (.laload, 1) := by decide +kernel
theorem dX12_body_66 : decode cX12_body 66 = .ok (.bipush 8, 2) := by decide +kernel
theorem dX12_body_68 : decode cX12_body 68 = .ok (.lshl, 1) := by decide +kernel
theorem dX12_body_69 : decode cX12_body 69 = .ok (.aload_n 0, 1) := by decide +kernel
theorem dX12_body_70 : decode cX12_body 70 = .ok (.getfield 7, 3) := by decide +kernel
theorem dX12_body_73 : decode cX12_body 73 = .ok (.iload_n 2, 1) := by decide +kernel
theorem dX12_body_74 : decode cX12_body 74 = .ok (.iaload, 1) := by decide +kernel
theorem dX12_body_75 : decode cX12_body 75 = .ok (.i2l, 1) := by decide +kernel
theorem dX12_body_76 : decode cX12_body 76 = .ok (.lor, 1) := by decide +kernel
theorem dX12_body_77 : decode cX12_body 77 = .ok (.lastore, 1) := by decide +kernel
theorem dX12_body_78 : decode cX12_body 78 = .ok (.iinc 2 1, 3) := by decide +kernel
theorem dX12_body_81 : decode cX12_body 81 = .ok (.goto (-34), 3) := by decide +kernel
theorem dX12_body_84 : decode cX12_body 84 = .ok (.aload_n 0, 1) := by decide +kernel
theorem dX12_body_85 : decode cX12_body 85 = .ok (.getfield 118, 3) := by decide +kernel
theorem dX12_body_88 : decode cX12_body 88 = .ok (.iload_n 1, 1) := by decide +kernel
theorem dX12_body_89 : decode cX12_body 89 = .ok (.dup2, 1) := by decide +kernel
theorem dX12_body_90 : decode cX12_body 90 = .ok (.iaload, 1) := by decide +kernel
theorem dX12_body_91 : decode cX12_body 91 = .ok (.aload_n 0, 1) := by decide +kernel
theorem dX12_body_92 : decode cX12_body 92 = .ok (.getfield 304, 3) := by decide +kernel
theorem dX12_body_95 : decode cX12_body 95 = .ok (.aload_n 0, 1) := by decide +kernel
theorem dX12_body_96 : decode cX12_body 96 = .ok (.getfield 301, 3) := by decide +kernel
theorem dX12_body_99 : decode cX12_body 99 = .ok (.isub, 1) := by decide +kernel
theorem dX12_body_100 : decode cX12_body 100 = .ok (.isub, 1) := by decide +kernel
theorem dX12_body_101 : decode cX12_body 101 = .ok (.iastore, 1) := by decide +kernel
theorem dX12_body_102 : decode cX12_body 102 = .ok (.aload_n 0, 1) := by decide +kernel
theorem dX12_body_103 : decode cX12_body 103 = .ok (.getfield 118, 3) := by decide +kernel
theorem dX12_body_106 : decode cX12_body 106 = .ok (.iload_n 1, 1) := by decide +kernel
theorem dX12_body_107 : decode cX12_body 107 = .ok (.iaload, 1) := by decide +kernel
theorem dX12_body_108 : decode cX12_body 108 = .ok (.ifCond .ne 8, 3) := by decide +kernel
theorem dX12_body_111 : decode cX12_body 111 = .ok (.aload_n 0, 1) := by decide +kernel
theorem dX12_body_112 : decode cX12_body 112 = .ok (.iload_n 1, 1) := by decide +kernel
theorem dX12_body_113 : decode cX12_body 113 = .ok (.invokevirtual 423, 3) := by decide +kernel
theorem dX12_body_116 : decode cX12_body 116 = .ok (.return_, 1) := by decide +kernel
def f_X12_body_34 (a0 : Nat) (h : AH) : Option (Unit × AH) := kg h a0 13 (bd (f_X12_hard a0 501 h) fun _ h_2 =>
  some ((), h_2))
set_option maxRecDepth 20000 in
set_option maxHeartbeats 4000000 in
theorem t_X12_body_34 {Ω : Om} (a0 : Nat) (h : AH) (q : Unit × AH) (hf : f_X12_body_34 a0 h = some q) : Go Ω M_X12_body 34 [(0, vR Ω (some a0))] [] h none q.2 := by
  unfold f_X12_body_34 at hf
  refine go_aload_n dX12_body_34 rfl 0 rfl ?_
  refine go_sipush 501 dX12_body_35 (by decide) ?_
  obtain ⟨hk, hf⟩ := kg_some hf
  obtain ⟨z_1, hc, hf⟩ := bd_some hf
  refine go_callV (y2 := M_X12_hard) (c2 := 13) dX12_body_38 mo_X12_hard ⟨Nat.le_of_ble_eq_true rfl, Nat.le_of_ble_eq_true rfl⟩ na_X12_hard w1321 w1323 (by decide) rfl w49 hk [.int 501] rfl (n_X12_hard (a0) 501) rfl (csum (Nat.le_of_ble_eq_true rfl)) (t_X12_hard (a0) 501 h _ hc) ?_
  obtain ⟨_, h_2⟩ := z_1
  exact go_return dX12_body_41 rfl hf
def f_X12_body_84 (a0 : Nat) (x1 : Int32) (h : AH) : Option (Unit × AH) := rdR h a0 13 45 fun r_1 =>
  nn r_1 fun a_2 =>
  arI h a_2 x1 fun x_3 =>
  rdI h a0 13 56 fun x_4 =>
  rdI h a0 13 55 fun x_5 =>
  asI h a_2 x1 (x_3 - (x_4 - x_5)) fun h_6 =>
  rdR h_6 a0 13 45 fun r_7 =>
  nn r_7 fun a_8 =>
  arI h_6 a_8 x1 fun x_9 =>
  (if x_9 = 0 then
    kg h_6 a0 13 (bd (f_X12_complete a0 x1 h_6) fun _ h_11 =>
    some ((), h_11))
  else
    some ((), h_6))
set_option maxRecDepth 20000 in
set_option maxHeartbeats 4000000 in
theorem t_X12_body_84 {Ω : Om} (a0 : Nat) (x1 : Int32) (h : AH) (q : Unit × AH) (hf : f_X12_body_84 a0 x1 h = some q) : Go Ω M_X12_body 84 [(0, vR Ω (some a0)), (1, .int x1)] [] h none q.2 := by
  unfold f_X12_body_84 at hf
  refine go_aload_n dX12_body_84 rfl 0 rfl ?_
  refine go_getR dX12_body_85 fl_1164_0 (fun _ _ => rfl) hf (fun r_1 hf => ?_)
  refine go_iload_n dX12_body_88 rfl 1 rfl ?_
  refine go_dup2 dX12_body_89 rfl catR ?_
  obtain ⟨a_2, rfl, hga_2⟩ := nn_some hf
  have hf := hga_2
  refine go_iaload dX12_body_90 hf (fun x_3 hf => ?_)
  refine go_aload_n dX12_body_91 rfl 0 rfl ?_
  refine go_getI dX12_body_92 fl_1175_0 (fun _ _ => rfl) hf (fun x_4 hf => ?_)
  refine go_aload_n dX12_body_95 rfl 0 rfl ?_
  refine go_getI dX12_body_96 fl_1174_0 (fun _ _ => rfl) hf (fun x_5 hf => ?_)
  refine go_isub dX12_body_99 ?_
  refine go_isub dX12_body_100 ?_
  refine go_iastore dX12_body_101 hf (fun h_6 hf => ?_)
  refine go_aload_n dX12_body_102 rfl 0 rfl ?_
  refine go_getR dX12_body_103 fl_1164_0 (fun _ _ => rfl) hf (fun r_7 hf => ?_)
  refine go_iload_n dX12_body_106 rfl 1 rfl ?_
  obtain ⟨a_8, rfl, hga_8⟩ := nn_some hf
  have hf := hga_8
  refine go_iaload dX12_body_107 hf (fun x_9 hf => ?_)
  refine go_if_ne (tgt := 116) dX12_body_108 (by decide) hf (fun hf => ?_) (fun hf => ?_)
  · exact go_return dX12_body_116 rfl hf
  · refine go_aload_n dX12_body_111 rfl 0 rfl ?_
    refine go_iload_n dX12_body_112 rfl 1 rfl ?_
    obtain ⟨hk, hf⟩ := kg_some hf
    obtain ⟨z_10, hc, hf⟩ := bd_some hf
    refine go_callV (y2 := M_X12_complete) (c2 := 13) dX12_body_113 mo_X12_complete ⟨Nat.le_of_ble_eq_true rfl, Nat.le_of_ble_eq_true rfl⟩ na_X12_complete w1585 w1587 (by decide) rfl w112 hk [.int x1] rfl (n_X12_complete (a0) x1) rfl (csum (Nat.le_of_ble_eq_true rfl)) (t_X12_complete (a0) x1 h_6 _ hc) ?_
    obtain ⟨_, h_11⟩ := z_10
    exact go_return dX12_body_116 rfl hf
def f_X12_body_47 : Nat → Nat → Int32 → Int32 → AH → Option (Unit × AH)
  | 0, _, _, _, _ => none
  | n + 1, a0, x1, x2, h => rdI h a0 13 56 fun x_1 =>
    (if x_1 ≤ x2 then
      f_X12_body_84 a0 x1 h
    else
      rdR h a0 13 46 fun r_2 =>
      rdR h a0 13 46 fun r_3 =>
      nn r_3 fun a_4 =>
      arJ h a_4 x1 fun x_5 =>
      rdR h a0 13 1 fun r_6 =>
      nn r_6 fun a_7 =>
      arI h a_7 x2 fun x_8 =>
      nn r_2 fun a_9 =>
      asJ h a_9 x1 ((x_5 <<< ((8 : Int32).toInt64 &&& 63)) ||| x_8.toInt64) fun h_10 =>
      f_X12_body_47 n a0 x1 (x2 + 1) h_10)
set_option maxRecDepth 20000 in
set_option maxHeartbeats 4000000 in
theorem t_X12_body_47 {Ω : Om} : ∀ (n : Nat) (a0 : Nat) (x1 : Int32) (x2 : Int32) (h : AH) (q : Unit × AH), f_X12_body_47 n a0 x1 x2 h = some q → Go Ω M_X12_body 47 [(0, vR Ω (some a0)), (1, .int x1), (2, .int x2)] [] h none q.2 := by
  intro n
  induction n with
  | zero => intro a0 x1 x2 h q hf; cases hf
  | succ n ih =>
    intro a0 x1 x2 h q hf
    rw [f_X12_body_47] at hf
    refine go_iload_n dX12_body_47 rfl 2 rfl ?_
    refine go_aload_n dX12_body_48 rfl 0 rfl ?_
    refine go_getI dX12_body_49 fl_1175_0 (fun _ _ => rfl) hf (fun x_1 hf => ?_)
    refine go_icmp_ge (tgt := 84) dX12_body_52 (by decide) hf (fun hf => ?_) (fun hf => ?_)
    · refine go_sub (lv' := [(0, vR Ω (some a0)), (1, .int x1)]) [0, 1] rfl ?_
      exact t_X12_body_84 a0 x1 h q hf
    · refine go_aload_n dX12_body_55 rfl 0 rfl ?_
      refine go_getR dX12_body_56 fl_1165_0 (fun _ _ => rfl) hf (fun r_2 hf => ?_)
      refine go_iload_n dX12_body_59 rfl 1 rfl ?_
      refine go_aload_n dX12_body_60 rfl 0 rfl ?_
      refine go_getR dX12_body_61 fl_1165_0 (fun _ _ => rfl) hf (fun r_3 hf => ?_)
      refine go_iload_n dX12_body_64 rfl 1 rfl ?_
      obtain ⟨a_4, rfl, hga_4⟩ := nn_some hf
      have hf := hga_4
      refine go_laload dX12_body_65 hf (fun x_5 hf => ?_)
      refine go_bipush 8 dX12_body_66 (by decide) ?_
      refine go_lshl dX12_body_68 ?_
      refine go_aload_n dX12_body_69 rfl 0 rfl ?_
      refine go_getR dX12_body_70 fl_1120_0 (fun _ _ => rfl) hf (fun r_6 hf => ?_)
      refine go_iload_n dX12_body_73 rfl 2 rfl ?_
      obtain ⟨a_7, rfl, hga_7⟩ := nn_some hf
      have hf := hga_7
      refine go_iaload dX12_body_74 hf (fun x_8 hf => ?_)
      refine go_i2l dX12_body_75 ?_
      refine go_lor dX12_body_76 ?_
      obtain ⟨a_9, rfl, hga_9⟩ := nn_some hf
      have hf := hga_9
      refine go_lastore dX12_body_77 hf (fun h_10 hf => ?_)
      refine go_iinc (j := 2) (v := x2 + 1) (lv' := [(2, .int (x2 + 1)), (0, vR Ω (some a0)), (1, .int x1)]) dX12_body_78 rfl rfl (by decide) (by first | rfl | simp [catR, catI, catJ]) ?_
      refine go_goto (tgt := 47) dX12_body_81 (by decide) ?_
      refine go_sub (lv' := [(0, vR Ω (some a0)), (1, .int x1), (2, .int (x2 + 1))]) [1, 2, 0] rfl ?_
      exact ih a0 x1 (x2 + 1) h_10 q hf
def f_X12_body (a0 : Nat) (h : AH) : Option (Unit × AH) := rdI h a0 13 54 fun x_1 =>
  rdI h a0 13 56 fun x_2 =>
  rdI h a0 13 55 fun x_3 =>
  (if x_2 = x_3 then
    f_X12_body_34 a0 h
  else
    rdI h a0 13 56 fun x_4 =>
    rdI h a0 13 55 fun x_5 =>
    rdR h a0 13 45 fun r_6 =>
    nn r_6 fun a_7 =>
    arI h a_7 x_1 fun x_8 =>
    (if (x_4 - x_5) ≤ x_8 then
      rdI h a0 13 55 fun x_9 =>
      f_X12_body_47 FU a0 x_1 x_9 h
    else
      f_X12_body_34 a0 h))
set_option maxRecDepth 20000 in
set_option maxHeartbeats 4000000 in
theorem t_X12_body {Ω : Om} (a0 : Nat) (h : AH) (q : Unit × AH) (hf : f_X12_body a0 h = some q) : Go Ω M_X12_body 0 (lv_args 0 [vR Ω (some a0)]) [] h none q.2 := by
  unfold f_X12_body at hf
  rw [la_R, la_0]
  refine go_sub (lv' := [(0, vR Ω (some a0))]) [0] rfl ?_
  refine go_aload_n dX12_body_0 rfl 0 rfl ?_
  refine go_getI dX12_body_1 fl_1173_0 (fun _ _ => rfl) hf (fun x_1 hf => ?_)
  refine go_istore_n (i := 1) (lv' := [(1, .int x_1), (0, vR Ω (some a0))]) dX12_body_4 rfl (by decide) (by first | rfl | simp [catR, catI, catJ]) ?_
  refine go_aload_n dX12_body_5 rfl 1 rfl ?_
  refine go_getI dX12_body_6 fl_1175_0 (fun _ _ => rfl) hf (fun x_2 hf => ?_)
  refine go_aload_n dX12_body_9 rfl 1 rfl ?_
  refine go_getI dX12_body_10 fl_1174_0 (fun _ _ => rfl) hf (fun x_3 hf => ?_)
  refine go_icmp_eq (tgt := 34) dX12_body_13 (by decide) hf (fun hf => ?_) (fun hf => ?_)
  · refine go_sub (lv' := [(0, vR Ω (some a0))]) [1] rfl ?_
    exact t_X12_body_34 a0 h q hf
  · refine go_aload_n dX12_body_16 rfl 1 rfl ?_
    refine go_getI dX12_body_17 fl_1175_0 (fun _ _ => rfl) hf (fun x_4 hf => ?_)
    refine go_aload_n dX12_body_20 rfl 1 rfl ?_
    refine go_getI dX12_body_21 fl_1174_0 (fun _ _ => rfl) hf (fun x_5 hf => ?_)
    refine go_isub dX12_body_24 ?_
    refine go_aload_n dX12_body_25 rfl 1 rfl ?_
    refine go_getR dX12_body_26 fl_1164_0 (fun _ _ => rfl) hf (fun r_6 hf => ?_)
    refine go_iload_n dX12_body_29 rfl 0 rfl ?_
    obtain ⟨a_7, rfl, hga_7⟩ := nn_some hf
    have hf := hga_7
    refine go_iaload dX12_body_30 hf (fun x_8 hf => ?_)
    refine go_icmp_le (tgt := 42) dX12_body_31 (by decide) hf (fun hf => ?_) (fun hf => ?_)
    · refine go_aload_n dX12_body_42 rfl 1 rfl ?_
      refine go_getI dX12_body_43 fl_1174_0 (fun _ _ => rfl) hf (fun x_9 hf => ?_)
      refine go_istore_n (i := 2) (lv' := [(2, .int x_9), (1, .int x_1), (0, vR Ω (some a0))]) dX12_body_46 rfl (by decide) (by first | rfl | simp [catR, catI, catJ]) ?_
      refine go_sub (lv' := [(0, vR Ω (some a0)), (1, .int x_1), (2, .int x_9)]) [2, 1, 0] rfl ?_
      exact t_X12_body_47 FU a0 x_1 x_9 h q hf
    · refine go_sub (lv' := [(0, vR Ω (some a0))]) [1] rfl ?_
      exact t_X12_body_34 a0 h q hf
-- LetterBrokerModel.isJust()Z
theorem dX12_isJust_0 : decode cX12_isJust 0 = .ok (.aload_n 0, 1) := by decide +kernel
theorem dX12_isJust_1 : decode cX12_isJust 1 = .ok (.getfield 307, 3) := by decide +kernel
theorem dX12_isJust_4 : decode cX12_isJust 4 = .ok (.ifCond .ne 14, 3) := by decide +kernel
theorem dX12_isJust_7 : decode cX12_isJust 7 = .ok (.aload_n 0, 1) := by decide +kernel
theorem dX12_isJust_8 : decode cX12_isJust 8 = .ok (.getfield 301, 3) := by decide +kernel
theorem dX12_isJust_11 : decode cX12_isJust 11 = .ok (.aload_n 0, 1) := by decide +kernel
theorem dX12_isJust_12 : decode cX12_isJust 12 = .ok (.getfield 304, 3) := by decide +kernel
theorem dX12_isJust_15 : decode cX12_isJust 15 = .ok (.if_icmp .eq 12, 3) := by decide +kernel
theorem dX12_isJust_18 : decode cX12_isJust 18 = .ok (.aload_n 0, 1) := by decide +kernel
theorem dX12_isJust_19 : decode cX12_isJust 19 = .ok (.sipush 501, 3) := by decide +kernel
theorem dX12_isJust_22 : decode cX12_isJust 22 = .ok (.invokevirtual 315, 3) := by decide +kernel
theorem dX12_isJust_25 : decode cX12_isJust 25 = .ok (.iconst 0, 1) := by decide +kernel
theorem dX12_isJust_26 : decode cX12_isJust 26 = .ok (.ireturn, 1) := by decide +kernel
theorem dX12_isJust_27 : decode cX12_isJust 27 = .ok (.iconst 1, 1) := by decide +kernel
theorem dX12_isJust_28 : decode cX12_isJust 28 = .ok (.ireturn, 1) := by decide +kernel
def f_X12_isJust_18 (a0 : Nat) (h : AH) : Option (Int32 × AH) := kg h a0 13 (bd (f_X12_hard a0 501 h) fun _ h_2 =>
  rz 0 (some (0, h_2)))
set_option maxRecDepth 20000 in
set_option maxHeartbeats 4000000 in
theorem t_X12_isJust_18 {Ω : Om} (a0 : Nat) (h : AH) (q : Int32 × AH) (hf : f_X12_isJust_18 a0 h = some q) : Go Ω M_X12_isJust 18 [(0, vR Ω (some a0))] [] h (some (.int q.1)) q.2 := by
  unfold f_X12_isJust_18 at hf
  refine go_aload_n dX12_isJust_18 rfl 0 rfl ?_
  refine go_sipush 501 dX12_isJust_19 (by decide) ?_
  obtain ⟨hk, hf⟩ := kg_some hf
  obtain ⟨z_1, hc, hf⟩ := bd_some hf
  refine go_callV (y2 := M_X12_hard) (c2 := 13) dX12_isJust_22 mo_X12_hard ⟨Nat.le_of_ble_eq_true rfl, Nat.le_of_ble_eq_true rfl⟩ na_X12_hard w1321 w1323 (by decide) rfl w49 hk [.int 501] rfl (n_X12_hard (a0) 501) rfl (csum (Nat.le_of_ble_eq_true rfl)) (t_X12_hard (a0) 501 h _ hc) ?_
  obtain ⟨_, h_2⟩ := z_1
  refine go_iconst 0 dX12_isJust_25 rfl ?_
  exact go_zreturn dX12_isJust_26 rfl hf
def f_X12_isJust (a0 : Nat) (h : AH) : Option (Int32 × AH) := rdI h a0 13 57 fun x_1 =>
  (if x_1 = 0 then
    rdI h a0 13 55 fun x_2 =>
    rdI h a0 13 56 fun x_3 =>
    (if x_2 = x_3 then
      rz 1 (some (1, h))
    else
      f_X12_isJust_18 a0 h)
  else
    f_X12_isJust_18 a0 h)
set_option maxRecDepth 20000 in
set_option maxHeartbeats 4000000 in
theorem t_X12_isJust {Ω : Om} (a0 : Nat) (h : AH) (q : Int32 × AH) (hf : f_X12_isJust a0 h = some q) : Go Ω M_X12_isJust 0 (lv_args 0 [vR Ω (some a0)]) [] h (some (.int q.1)) q.2 := by
  unfold f_X12_isJust at hf
  rw [la_R, la_0]
  refine go_sub (lv' := [(0, vR Ω (some a0))]) [0] rfl ?_
  refine go_aload_n dX12_isJust_0 rfl 0 rfl ?_
  refine go_getI dX12_isJust_1 fl_1176_0 (fun _ _ => rfl) hf (fun x_1 hf => ?_)
  refine go_if_ne (tgt := 18) dX12_isJust_4 (by decide) hf (fun hf => ?_) (fun hf => ?_)
  · refine go_sub (lv' := [(0, vR Ω (some a0))]) [0] rfl ?_
    exact t_X12_isJust_18 a0 h q hf
  · refine go_aload_n dX12_isJust_7 rfl 0 rfl ?_
    refine go_getI dX12_isJust_8 fl_1174_0 (fun _ _ => rfl) hf (fun x_2 hf => ?_)
    refine go_aload_n dX12_isJust_11 rfl 0 rfl ?_
    refine go_getI dX12_isJust_12 fl_1175_0 (fun _ _ => rfl) hf (fun x_3 hf => ?_)
    refine go_icmp_eq (tgt := 27) dX12_isJust_15 (by decide) hf (fun hf => ?_) (fun hf => ?_)
    · refine go_iconst 1 dX12_isJust_27 rfl ?_
      exact go_zreturn dX12_isJust_28 rfl hf
    · refine go_sub (lv' := [(0, vR Ω (some a0))]) [0] rfl ?_
      exact t_X12_isJust_18 a0 h q hf
-- LetterBrokerModel.next()I
theorem dX12_next_0 : decode cX12_next 0 = .ok (.aload_n 0, 1) := by decide +kernel
theorem dX12_next_1 : decode cX12_next 1 = .ok (.getfield 301, 3) := by decide +kernel
theorem dX12_next_4 : decode cX12_next 4 = .ok (.aload_n 0, 1) := by decide +kernel
theorem dX12_next_5 : decode cX12_next 5 = .ok (.getfield 304, 3) := by decide +kernel
theorem dX12_next_8 : decode cX12_next 8 = .ok (.if_icmp .lt 10, 3) := by decide +kernel
theorem dX12_next_11 : decode cX12_next 11 = .ok (.aload_n 0, 1) := by decide +kernel
theorem dX12_next_12 : decode cX12_next 12 = .ok (.iconst 1, 1) := by decide +kernel
theorem dX12_next_13 : decode cX12_next 13 = .ok (.putfield 307, 3) := by decide +kernel
theorem dX12_next_16 : decode cX12_next 16 = .ok (.iconst 0, 1) := by decide +kernel
theorem dX12_next_17 : decode cX12_next 17 = .ok (.ireturn, 1) := by decide +kernel
theorem dX12_next_18 : decode cX12_next 18 = .ok (.aload_n 0, 1) := by decide +kernel
theorem dX12_next_19 : decode cX12_next 19 = .ok (.dup, 1) := by decide +kernel
theorem dX12_next_20 : decode cX12_next 20 = .ok (.getfield 301, 3) := by decide +kernel
theorem dX12_next_23 : decode cX12_next 23 = .ok (.iconst 1, 1) := by decide +kernel
theorem dX12_next_24 : decode cX12_next 24 = .ok (.iadd, 1) := by decide +kernel
theorem dX12_next_25 : decode cX12_next 25 = .ok (.putfield 301, 3) := by decide +kernel
theorem dX12_next_28 : decode cX12_next 28 = .ok (.aload_n 0, 1) := by decide +kernel
theorem dX12_next_29 : decode cX12_next 29 = .ok (.getfield 7, 3) := by decide +kernel
theorem dX12_next_32 : decode cX12_next 32 = .ok (.aload_n 0, 1) := by decide +kernel
theorem dX12_next_33 : decode cX12_next 33 = .ok (.getfield 301, 3) := by decide +kernel
theorem dX12_next_36 : decode cX12_next 36 = .ok (.iconst 1, 1) := by decide +kernel
theorem dX12_next_37 : decode cX12_next 37 = .ok (.isub, 1) := by decide +kernel
theorem dX12_next_38 : decode cX12_next 38 = .ok (.iaload, 1) := by decide +kernel
theorem dX12_next_39 : decode cX12_next 39 = .ok (.ireturn, 1) := by decide +kernel
def f_X12_next (a0 : Nat) (h : AH) : Option (Int32 × AH) := rdI h a0 13 55 fun x_1 =>
  rdI h a0 13 56 fun x_2 =>
  (if x_1 < x_2 then
    rdI h a0 13 55 fun x_3 =>
    wrI h a0 13 55 (x_3 + 1) fun h_4 =>
    rdR h_4 a0 13 1 fun r_5 =>
    rdI h_4 a0 13 55 fun x_6 =>
    nn r_5 fun a_7 =>
    arI h_4 a_7 (x_6 - 1) fun x_8 =>
    some (x_8, h_4)
  else
    wrZ h a0 13 57 1 fun h_9 =>
    some (0, h_9))
set_option maxRecDepth 20000 in
set_option maxHeartbeats 4000000 in
theorem t_X12_next {Ω : Om} (a0 : Nat) (h : AH) (q : Int32 × AH) (hf : f_X12_next a0 h = some q) : Go Ω M_X12_next 0 (lv_args 0 [vR Ω (some a0)]) [] h (some (.int q.1)) q.2 := by
  unfold f_X12_next at hf
  rw [la_R, la_0]
  refine go_sub (lv' := [(0, vR Ω (some a0))]) [0] rfl ?_
  refine go_aload_n dX12_next_0 rfl 0 rfl ?_
  refine go_getI dX12_next_1 fl_1174_0 (fun _ _ => rfl) hf (fun x_1 hf => ?_)
  refine go_aload_n dX12_next_4 rfl 0 rfl ?_
  refine go_getI dX12_next_5 fl_1175_0 (fun _ _ => rfl) hf (fun x_2 hf => ?_)
  refine go_icmp_lt (tgt := 18) dX12_next_8 (by decide) hf (fun hf => ?_) (fun hf => ?_)
  · refine go_aload_n dX12_next_18 rfl 0 rfl ?_
    refine go_dup dX12_next_19 catR ?_
    refine go_getI dX12_next_20 fl_1174_0 (fun _ _ => rfl) hf (fun x_3 hf => ?_)
    refine go_iconst 1 dX12_next_23 rfl ?_
    refine go_iadd dX12_next_24 ?_
    refine go_putI dX12_next_25 fl_1174_0 (fun q hq => by cases hq; exact Or.inl rfl) (fun _ _ => rfl) rfl hf (fun h_4 hf => ?_)
    refine go_aload_n dX12_next_28 rfl 0 rfl ?_
    refine go_getR dX12_next_29 fl_1120_0 (fun _ _ => rfl) hf (fun r_5 hf => ?_)
    refine go_aload_n dX12_next_32 rfl 0 rfl ?_
    refine go_getI dX12_next_33 fl_1174_0 (fun _ _ => rfl) hf (fun x_6 hf => ?_)
    refine go_iconst 1 dX12_next_36 rfl ?_
    refine go_isub dX12_next_37 ?_
    obtain ⟨a_7, rfl, hga_7⟩ := nn_some hf
    have hf := hga_7
    refine go_iaload dX12_next_38 hf (fun x_8 hf => ?_)
    exact go_ireturn dX12_next_39 rfl hf
  · refine go_aload_n dX12_next_11 rfl 0 rfl ?_
    refine go_iconst 1 dX12_next_12 rfl ?_
    refine go_putZ dX12_next_13 fl_1176_0 (fun q hq => by cases hq; exact Or.inl rfl) (fun _ _ => rfl) rfl hf (fun h_9 hf => ?_)
    refine go_iconst 0 dX12_next_16 rfl ?_
    exact go_ireturn dX12_next_17 rfl hf
-- LetterBrokerModel.say(III)V
theorem dX12_say_0 : decode cX12_say 0 = .ok (.aload_n 0, 1) := by decide +kernel
theorem dX12_say_1 : decode cX12_say 1 = .ok (.iload_n 1, 1) := by decide +kernel
theorem dX12_say_2 : decode cX12_say 2 = .ok (.iload_n 2, 1) := by decide +kernel
theorem dX12_say_3 : decode cX12_say 3 = .ok (.iload_n 3, 1) := by decide +kernel
theorem dX12_say_4 : decode cX12_say 4 = .ok (.invokevirtual 168, 3) := by decide +kernel
theorem dX12_say_7 : decode cX12_say 7 = .ok (.aload_n 0, 1) := by decide +kernel
theorem dX12_say_8 : decode cX12_say 8 = .ok (.invokevirtual 172, 3) := by decide +kernel
theorem dX12_say_11 : decode cX12_say 11 = .ok (.return_, 1) := by decide +kernel
def f_X12_say (a0 : Nat) (x1 : Int32) (x2 : Int32) (x3 : Int32) (h : AH) : Option (Unit × AH) := kg h a0 13 (bd (f_X12_method a0 x1 x2 x3 h) fun _ h_2 =>
  kg h_2 a0 13 (bd (f_X12_finish a0 h_2) fun _ h_4 =>
  some ((), h_4)))
set_option maxRecDepth 20000 in
set_option maxHeartbeats 4000000 in
theorem t_X12_say {Ω : Om} (a0 : Nat) (x1 : Int32) (x2 : Int32) (x3 : Int32) (h : AH) (q : Unit × AH) (hf : f_X12_say a0 x1 x2 x3 h = some q) : Go Ω M_X12_say 0 (lv_args 0 [vR Ω (some a0), .int x1, .int x2, .int x3]) [] h none q.2 := by
  unfold f_X12_say at hf
  rw [la_R, la_I, la_I, la_I, la_0]
  refine go_sub (lv' := [(0, vR Ω (some a0)), (1, .int x1), (2, .int x2), (3, .int x3)]) [0, 1, 2, 3] rfl ?_
  refine go_aload_n dX12_say_0 rfl 0 rfl ?_
  refine go_iload_n dX12_say_1 rfl 1 rfl ?_
  refine go_iload_n dX12_say_2 rfl 2 rfl ?_
  refine go_iload_n dX12_say_3 rfl 3 rfl ?_
  obtain ⟨hk, hf⟩ := kg_some hf
  obtain ⟨z_1, hc, hf⟩ := bd_some hf
  refine go_callV (y2 := M_X12_method) (c2 := 13) dX12_say_4 mo_X12_method ⟨Nat.le_of_ble_eq_true rfl, Nat.le_of_ble_eq_true rfl⟩ na_X12_method w1325 w1327 (by decide) rfl w50 hk [.int x1, .int x2, .int x3] rfl (n_X12_method (a0) x1 x2 x3) rfl (csum (Nat.le_of_ble_eq_true rfl)) (t_X12_method (a0) x1 x2 x3 h _ hc) ?_
  obtain ⟨_, h_2⟩ := z_1
  refine go_aload_n dX12_say_7 rfl 0 rfl ?_
  obtain ⟨hk, hf⟩ := kg_some hf
  obtain ⟨z_3, hc, hf⟩ := bd_some hf
  refine go_callV (y2 := M_X12_finish) (c2 := 13) dX12_say_8 mo_X12_finish ⟨Nat.le_of_ble_eq_true rfl, Nat.le_of_ble_eq_true rfl⟩ na_X12_finish w1341 w1343 (by decide) rfl w54 hk [] rfl (n_X12_finish (a0)) rfl (csum (Nat.le_of_ble_eq_true rfl)) (t_X12_finish (a0) h_2 _ hc) ?_
  obtain ⟨_, h_4⟩ := z_3
  exact go_return dX12_say_11 rfl hf
-- LetterBrokerModel.channelMethod(I)V
theorem dX12_channelMethod_0 : decode cX12_channelMethod 0 = .ok (.aload_n 0, 1) := by decide +kernel
theorem dX12_channelMethod_1 : decode cX12_channelMethod 1 = .ok (.getfield 318, 3) := by decide +kernel
theorem dX12_channelMethod_4 : decode cX12_channelMethod 4 = .ok (.istore_n 2, 1) := by decide +kernel
theorem dX12_channelMethod_5 : decode cX12_channelMethod 5 = .ok (.iload_n 1, 1) := by decide +kernel
theorem dX12_channelMethod_6 : decode cX12_channelMethod 6 = .ok (.bipush 20, 2) := by decide +kernel
theorem dX12_channelMethod_8 : decode cX12_channelMethod 8 = .ok (.if_icmp .ne 10, 3) := by decide +kernel
theorem dX12_channelMethod_11 : decode cX12_channelMethod 11 = .ok (.aload_n 0, 1) := by decide +kernel
theorem dX12_channelMethod_12 : decode cX12_channelMethod 12 = .ok (.invokevirtual 311, 3) := by decide +kernel
theorem dX12_channelMethod_15 : decode cX12_channelMethod 15 = .ok (.goto 4, 3) := by decide +kernel
theorem dX12_channelMethod_18 : decode cX12_channelMethod 18 = .ok (.iconst 0, 1) := by decide +kernel
theorem dX12_channelMethod_19 : decode cX12_channelMethod 19 = .ok (.istore_n 3, 1) := by decide +kernel
theorem dX12_channelMethod_20 : decode cX12_channelMethod 20 = .ok (.aload_n 0, 1) := by decide +kernel
theorem dX12_channelMethod_21 : decode cX12_channelMethod 21 = .ok (.invokevirtual 329, 3) := by decide +kernel
theorem dX12_channelMethod_24 : decode cX12_channelMethod 24 = .ok (.ifCond .ne 4, 3) := by decide +kernel
theorem dX12_channelMethod_27 : decode cX12_channelMethod 27 = .ok (.return_, 1) := by decide +kernel
theorem dX12_channelMethod_28 : decode cX12_channelMethod 28 = .ok (.iload_n 1, 1) := by decide +kernel
theorem dX12_channelMethod_29 : decode cX12_channelMethod 29 = .ok (.bipush 10, 2) := by decide +kernel
theorem dX12_channelMethod_31 : decode cX12_channelMethod 31 = .ok (.if_icmp .ne 43, 3) := by decide +kernel
theorem dX12_channelMethod_34 : decode cX12_channelMethod 34 = .ok (.aload_n 0, 1) := by decide +kernel
theorem dX12_channelMethod_35 : decode cX12_channelMethod 35 = .ok (.getfield 88, 3) := by decide +kernel
theorem dX12_channelMethod_38 : decode cX12_channelMethod 38 = .ok (.iload_n 2, 1) := by decide +kernel
theorem dX12_channelMethod_39 : decode cX12_channelMethod 39 = .ok (.iconst 1, 1) := by decide +kernel
theorem dX12_channelMethod_40 : decode cX12_channelMethod 40 = .ok (.iastore, 1) := by decide +kernel
theorem dX12_channelMethod_41 : decode cX12_channelMethod 41 = .ok (.aload_n 0, 1) := by decide +kernel
theorem dX12_channelMethod_42 : decode cX12_channelMethod 42 = .ok (.getfield 91, 3) := by decide +kernel
theorem dX12_channelMethod_45 : decode cX12_channelMethod 45 = .ok (.iload_n 2, 1) := by decide +kernel
theorem dX12_channelMethod_46 : decode cX12_channelMethod 46 = .ok (.iconst 0, 1) := by decide +kernel
theorem dX12_channelMethod_47 : decode cX12_channelMethod 47 = .ok (.iastore, 1) := by decide +kernel
theorem dX12_channelMethod_48 : decode cX12_channelMethod 48 = .ok (.aload_n 0, 1) := by decide +kernel
theorem dX12_channelMethod_49 : decode cX12_channelMethod 49 = .ok (.getfield 94, 3) := by decide +kernel
theorem dX12_channelMethod_52 : decode cX12_channelMethod 52 = .ok (.iload_n 2, 1) := by decide +kernel
theorem dX12_channelMethod_53 : decode cX12_channelMethod 53 = .ok (.iconst 1, 1) := by decide +kernel
theorem dX12_channelMethod_54 : decode cX12_channelMethod 54 = .ok (.bastore, 1) := by decide +kernel
theorem dX12_channelMethod_55 : decode cX12_channelMethod 55 = .ok (.aload_n 0, 1) := by decide +kernel
theorem dX12_channelMethod_56 : decode cX12_channelMethod 56 = .ok (.getfield 97, 3) := by decide +kernel
theorem dX12_channelMethod_59 : decode cX12_channelMethod 59 = .ok (.iload_n 2, 1) := by decide +kernel
theorem dX12_channelMethod_60 : decode cX12_channelMethod 60 = .ok (.iconst 0, 1) := by decide +kernel
theorem dX12_channelMethod_61 : decode cX12_channelMethod 61 = .ok (.iastore, 1) := by decide +kernel
theorem dX12_channelMethod_62 : decode cX12_channelMethod 62 = .ok (.aload_n 0, 1) := by decide +kernel
theorem dX12_channelMethod_63 : decode cX12_channelMethod 63 = .ok (.iload_n 2, 1) := by decide +kernel
theorem dX12_channelMethod_64 : decode cX12_channelMethod 64 = .ok (.bipush 20, 2) := by decide +kernel
theorem dX12_channelMethod_66 : decode cX12_channelMethod 66 = .ok (.bipush 11, 2) := by decide +kernel
theorem dX12_channelMethod_68 : decode cX12_channelMethod 68 = .ok (.invokevirtual 278, 3) := by decide +kernel
theorem dX12_channelMethod_71 : decode cX12_channelMethod 71 = .ok (.goto 60, 3) := by decide +kernel
theorem dX12_channelMethod_74 : decode cX12_channelMethod 74 = .ok (.iload_n 1, 1) := by decide +kernel
theorem dX12_channelMethod_75 : decode cX12_channelMethod 75 = .ok (.bipush 20, 2) := by decide +kernel
theorem dX12_channelMethod_77 : decode cX12_channelMethod 77 = .ok (.if_icmp .ne 39, 3) := by decide +kernel
theorem dX12_channelMethod_80 : decode cX12_channelMethod 80 = .ok (.aload_n 0, 1) := by decide +kernel
theorem dX12_channelMethod_81 : decode cX12_channelMethod 81 = .ok (.getfield 94, 3) := by decide +kernel
theorem dX12_channelMethod_84 : decode cX12_channelMethod 84 = .ok (.iload_n 2, 1) := by decide +kernel
theorem dX12_channelMethod_85 : decode cX12_channelMethod 85 = .ok (.iload_n 3, 1) := by decide +kernel
theorem dX12_channelMethod_86 : decode cX12_channelMethod 86 = .ok (.ifCond .eq 7, 3) := by decide +kernel
theorem dX12_channelMethod_89 : decode cX12_channelMethod 89 = .ok (.iconst 1, 1) := by decide +kernel
theorem dX12_channelMethod_90 : decode cX12_channelMethod 90 = .ok (.goto 4, 3) := by decide +kernel
theorem dX12_channelMethod_93 : decode cX12_channelMethod 93 = .ok (.iconst 0, 1) := by decide +kernel
theorem dX12_channelMethod_94 : decode cX12_channelMethod 94 = .ok (.bastore, 1) := by decide +kernel
theorem dX12_channelMethod_95 : decode cX12_channelMethod 95 = .ok (.aload_n 0, 1) := by decide +kernel
theorem dX12_channelMethod_96 : decode cX12_channelMethod 96 = .ok (.iload_n 2, 1) := by decide +kernel
theorem dX12_channelMethod_97 : decode cX12_channelMethod 97 = .ok (.bipush 20, 2) := by decide +kernel
theorem dX12_channelMethod_99 : decode cX12_channelMethod 99 = .ok (.bipush 21, 2) := by decide +kernel
theorem dX12_channelMethod_101 : decode cX12_channelMethod 101 = .ok (.invokevirtual 168, 3) := by decide +kernel
theorem dX12_channelMethod_104 : decode cX12_channelMethod 104 = .ok (.aload_n 0, 1) := by decide +kernel
theorem dX12_channelMethod_105 : decode cX12_channelMethod 105 = .ok (.iload_n 3, 1) := by decide +kernel
theorem dX12_channelMethod_106 : decode cX12_channelMethod 106 = .ok (.invokevirtual 157, 3) := by decide +kernel
theorem dX12_channelMethod_109 : decode cX12_channelMethod 109 = .ok (.aload_n 0, 1) := by decide +kernel
theorem dX12_channelMethod_110 : decode cX12_channelMethod 110 = .ok (.invokevirtual 172, 3) := by decide +kernel
theorem dX12_channelMethod_113 : decode cX12_channelMethod 113 = .ok (.goto 18, 3) := by decide +kernel
theorem dX12_channelMethod_116 : decode cX12_channelMethod 116 = .ok (.aload_n 0, 1) := by decide +kernel
theorem dX12_channelMethod_117 : decode cX12_channelMethod 117 = .ok (.iload_n 2, 1) := by decide +kernel
theorem dX12_channelMethod_118 : decode cX12_channelMethod 118 = .ok (.iconst 0, 1) := by decide +kernel
theorem dX12_channelMethod_119 : decode cX12_channelMethod 119 = .ok (.invokevirtual 213, 3) := by decide +kernel
theorem dX12_channelMethod_122 : decode cX12_channelMethod 122 = .ok (.aload_n 0, 1) := by decide +kernel
theorem dX12_channelMethod_123 : decode cX12_channelMethod 123 = .ok (.iload_n 2, 1) := by decide +kernel
theorem dX12_channelMethod_124 : decode cX12_channelMethod 124 = .ok (.bipush 20, 2) := by decide +kernel
theorem dX12_channelMethod_126 : decode cX12_channelMethod 126 = .ok (.bipush 41, 2) := by decide +kernel
theorem dX12_channelMethod_128 : decode cX12_channelMethod 128 = .ok (.invokevirtual 278, 3) := by decide +kernel
theorem dX12_channelMethod_131 : decode cX12_channelMethod 131 = .ok (.return_, 1) := by decide +kernel
def f_X12_channelMethod_94 (a0 : Nat) (x2 : Int32) (x3 : Int32) (s0 : Int32) (s1 : Int32) (s2 : Option Nat) (h : AH) : Option (Unit × AH) := nn s2 fun a_1 =>
  asZ h a_1 s1 s0 fun h_2 =>
  kg h_2 a0 13 (bd (f_X12_method a0 x2 20 21 h_2) fun _ h_4 =>
  kg h_4 a0 13 (bd (f_X12_put a0 x3 h_4) fun _ h_6 =>
  kg h_6 a0 13 (bd (f_X12_finish a0 h_6) fun _ h_8 =>
  some ((), h_8))))
set_option maxRecDepth 20000 in
set_option maxHeartbeats 4000000 in
theorem t_X12_channelMethod_94 {Ω : Om} (a0 : Nat) (x2 : Int32) (x3 : Int32) (s0 : Int32) (s1 : Int32) (s2 : Option Nat) (h : AH) (q : Unit × AH) (hf : f_X12_channelMethod_94 a0 x2 x3 s0 s1 s2 h = some q) : Go Ω M_X12_channelMethod 94 [(0, vR Ω (some a0)), (2, .int x2), (3, .int x3)] [.int s0, .int s1, vR Ω s2] h none q.2 := by
  unfold f_X12_channelMethod_94 at hf
  obtain ⟨a_1, rfl, hga_1⟩ := nn_some hf
  have hf := hga_1
  refine go_zastore dX12_channelMethod_94 hf (fun h_2 hf => ?_)
  refine go_aload_n dX12_channelMethod_95 rfl 0 rfl ?_
  refine go_iload_n dX12_channelMethod_96 rfl 1 rfl ?_
  refine go_bipush 20 dX12_channelMethod_97 (by decide) ?_
  refine go_bipush 21 dX12_channelMethod_99 (by decide) ?_
  obtain ⟨hk, hf⟩ := kg_some hf
  obtain ⟨z_3, hc, hf⟩ := bd_some hf
  refine go_callV (y2 := M_X12_method) (c2 := 13) dX12_channelMethod_101 mo_X12_method ⟨Nat.le_of_ble_eq_true rfl, Nat.le_of_ble_eq_true rfl⟩ na_X12_method w1325 w1327 (by decide) rfl w50 hk [.int x2, .int 20, .int 21] rfl (n_X12_method (a0) x2 20 21) rfl (csum (Nat.le_of_ble_eq_true rfl)) (t_X12_method (a0) x2 20 21 h_2 _ hc) ?_
  obtain ⟨_, h_4⟩ := z_3
  refine go_aload_n dX12_channelMethod_104 rfl 0 rfl ?_
  refine go_iload_n dX12_channelMethod_105 rfl 2 rfl ?_
  obtain ⟨hk, hf⟩ := kg_some hf
  obtain ⟨z_5, hc, hf⟩ := bd_some hf
  refine go_callV (y2 := M_X12_put) (c2 := 13) dX12_channelMethod_106 mo_X12_put ⟨Nat.le_of_ble_eq_true rfl, Nat.le_of_ble_eq_true rfl⟩ na_X12_put w1333 w1335 (by decide) rfl w52 hk [.int x3] rfl (n_X12_put (a0) x3) rfl (csum (Nat.le_of_ble_eq_true rfl)) (t_X12_put (a0) x3 h_4 _ hc) ?_
  obtain ⟨_, h_6⟩ := z_5
  refine go_aload_n dX12_channelMethod_109 rfl 0 rfl ?_
  obtain ⟨hk, hf⟩ := kg_some hf
  obtain ⟨z_7, hc, hf⟩ := bd_some hf
  refine go_callV (y2 := M_X12_finish) (c2 := 13) dX12_channelMethod_110 mo_X12_finish ⟨Nat.le_of_ble_eq_true rfl, Nat.le_of_ble_eq_true rfl⟩ na_X12_finish w1341 w1343 (by decide) rfl w54 hk [] rfl (n_X12_finish (a0)) rfl (csum (Nat.le_of_ble_eq_true rfl)) (t_X12_finish (a0) h_6 _ hc) ?_
  obtain ⟨_, h_8⟩ := z_7
  refine go_goto (tgt := 131) dX12_channelMethod_113 (by decide) ?_
  exact go_return dX12_channelMethod_131 rfl hf
def f_X12_channelMethod_19 (a0 : Nat) (x1 : Int32) (x2 : Int32) (s0 : Int32) (h : AH) : Option (Unit × AH) := kg h a0 13 (bd (f_X12_isJust a0 h) fun x_3 h_2 =>
  (if x_3 = 0 then
    some ((), h_2)
  else
    (if x1 = 10 then
      rdR h_2 a0 13 35 fun r_9 =>
      nn r_9 fun a_10 =>
      asI h_2 a_10 x2 1 fun h_11 =>
      rdR h_11 a0 13 36 fun r_12 =>
      nn r_12 fun a_13 =>
      asI h_11 a_13 x2 0 fun h_14 =>
      rdR h_14 a0 13 37 fun r_15 =>
      nn r_15 fun a_16 =>
      asZ h_14 a_16 x2 1 fun h_17 =>
      rdR h_17 a0 13 38 fun r_18 =>
      nn r_18 fun a_19 =>
      asI h_17 a_19 x2 0 fun h_20 =>
      kg h_20 a0 13 (bd (f_X12_say a0 x2 20 11 h_20) fun _ h_22 =>
      some ((), h_22))
    else
      (if x1 = 20 then
        rdR h_2 a0 13 37 fun r_8 =>
        (if s0 = 0 then
          f_X12_channelMethod_94 a0 x2 s0 0 x2 r_8 h_2
        else
          f_X12_channelMethod_94 a0 x2 s0 1 x2 r_8 h_2)
      else
        kg h_2 a0 13 (bd (f_X12_endChannel a0 x2 0 h_2) fun _ h_5 =>
        kg h_5 a0 13 (bd (f_X12_say a0 x2 20 41 h_5) fun _ h_7 =>
        some ((), h_7)))))))
set_option maxRecDepth 20000 in
set_option maxHeartbeats 4000000 in
theorem t_X12_channelMethod_19 {Ω : Om} (a0 : Nat) (x1 : Int32) (x2 : Int32) (s0 : Int32) (h : AH) (q : Unit × AH) (hf : f_X12_channelMethod_19 a0 x1 x2 s0 h = some q) : Go Ω M_X12_channelMethod 19 [(0, vR Ω (some a0)), (1, .int x1), (2, .int x2)] [.int s0] h none q.2 := by
  unfold f_X12_channelMethod_19 at hf
  refine go_istore_n (i := 3) (lv' := [(3, .int s0), (0, vR Ω (some a0)), (1, .int x1), (2, .int x2)]) dX12_channelMethod_19 rfl (by decide) (by first | rfl | simp [catR, catI, catJ]) ?_
  refine go_aload_n dX12_channelMethod_20 rfl 1 rfl ?_
  obtain ⟨hk, hf⟩ := kg_some hf
  obtain ⟨z_1, hc, hf⟩ := bd_some hf
  refine go_callV (y2 := M_X12_isJust) (c2 := 13) dX12_channelMethod_21 mo_X12_isJust ⟨Nat.le_of_ble_eq_true rfl, Nat.le_of_ble_eq_true rfl⟩ na_X12_isJust w1405 w1407 (by decide) rfl w70 hk [] rfl (n_X12_isJust (a0)) rfl (csum (Nat.le_of_ble_eq_true rfl)) (t_X12_isJust (a0) h _ hc) ?_
  obtain ⟨x_3, h_2⟩ := z_1
  refine go_if_ne (tgt := 28) dX12_channelMethod_24 (by decide) hf (fun hf => ?_) (fun hf => ?_)
  · refine go_iload_n dX12_channelMethod_28 rfl 2 rfl ?_
    refine go_bipush 10 dX12_channelMethod_29 (by decide) ?_
    refine go_icmp_ne (tgt := 74) dX12_channelMethod_31 (by decide) hf (fun hf => ?_) (fun hf => ?_)
    · refine go_iload_n dX12_channelMethod_74 rfl 2 rfl ?_
      refine go_bipush 20 dX12_channelMethod_75 (by decide) ?_
      refine go_icmp_ne (tgt := 116) dX12_channelMethod_77 (by decide) hf (fun hf => ?_) (fun hf => ?_)
      · refine go_aload_n dX12_channelMethod_116 rfl 1 rfl ?_
        refine go_iload_n dX12_channelMethod_117 rfl 3 rfl ?_
        refine go_iconst 0 dX12_channelMethod_118 rfl ?_
        obtain ⟨hk, hf⟩ := kg_some hf
        obtain ⟨z_4, hc, hf⟩ := bd_some hf
        refine go_callV (y2 := M_X12_endChannel) (c2 := 13) dX12_channelMethod_119 mo_X12_endChannel ⟨Nat.le_of_ble_eq_true rfl, Nat.le_of_ble_eq_true rfl⟩ na_X12_endChannel w1349 w1351 (by decide) rfl w56 hk [.int x2, .int 0] rfl (n_X12_endChannel (a0) x2 0) rfl (csum (Nat.le_of_ble_eq_true rfl)) (t_X12_endChannel (a0) x2 0 h_2 _ hc) ?_
        obtain ⟨_, h_5⟩ := z_4
        refine go_aload_n dX12_channelMethod_122 rfl 1 rfl ?_
        refine go_iload_n dX12_channelMethod_123 rfl 3 rfl ?_
        refine go_bipush 20 dX12_channelMethod_124 (by decide) ?_
        refine go_bipush 41 dX12_channelMethod_126 (by decide) ?_
        obtain ⟨hk, hf⟩ := kg_some hf
        obtain ⟨z_6, hc, hf⟩ := bd_some hf
        refine go_callV (y2 := M_X12_say) (c2 := 13) dX12_channelMethod_128 mo_X12_say ⟨Nat.le_of_ble_eq_true rfl, Nat.le_of_ble_eq_true rfl⟩ na_X12_say w1381 w1383 (by decide) rfl w64 hk [.int x2, .int 20, .int 41] rfl (n_X12_say (a0) x2 20 41) rfl (csum (Nat.le_of_ble_eq_true rfl)) (t_X12_say (a0) x2 20 41 h_5 _ hc) ?_
        obtain ⟨_, h_7⟩ := z_6
        exact go_return dX12_channelMethod_131 rfl hf
      · refine go_aload_n dX12_channelMethod_80 rfl 1 rfl ?_
        refine go_getR dX12_channelMethod_81 fl_1156_0 (fun _ _ => rfl) hf (fun r_8 hf => ?_)
        refine go_iload_n dX12_channelMethod_84 rfl 3 rfl ?_
        refine go_iload_n dX12_channelMethod_85 rfl 0 rfl ?_
        refine go_if_eq (tgt := 93) dX12_channelMethod_86 (by decide) hf (fun hf => ?_) (fun hf => ?_)
        · refine go_iconst 0 dX12_channelMethod_93 rfl ?_
          refine go_sub (lv' := [(0, vR Ω (some a0)), (2, .int x2), (3, .int s0)]) [1, 3, 0] rfl ?_
          exact t_X12_channelMethod_94 a0 x2 s0 0 x2 r_8 h_2 q hf
        · refine go_iconst 1 dX12_channelMethod_89 rfl ?_
          refine go_goto (tgt := 94) dX12_channelMethod_90 (by decide) ?_
          refine go_sub (lv' := [(0, vR Ω (some a0)), (2, .int x2), (3, .int s0)]) [1, 3, 0] rfl ?_
          exact t_X12_channelMethod_94 a0 x2 s0 1 x2 r_8 h_2 q hf
    · refine go_aload_n dX12_channelMethod_34 rfl 1 rfl ?_
      refine go_getR dX12_channelMethod_35 fl_1154_0 (fun _ _ => rfl) hf (fun r_9 hf => ?_)
      refine go_iload_n dX12_channelMethod_38 rfl 3 rfl ?_
      refine go_iconst 1 dX12_channelMethod_39 rfl ?_
      obtain ⟨a_10, rfl, hga_10⟩ := nn_some hf
      have hf := hga_10
      refine go_iastore dX12_channelMethod_40 hf (fun h_11 hf => ?_)
      refine go_aload_n dX12_channelMethod_41 rfl 1 rfl ?_
      refine go_getR dX12_channelMethod_42 fl_1155_0 (fun _ _ => rfl) hf (fun r_12 hf => ?_)
      refine go_iload_n dX12_channelMethod_45 rfl 3 rfl ?_
      refine go_iconst 0 dX12_channelMethod_46 rfl ?_
      obtain ⟨a_13, rfl, hga_13⟩ := nn_some hf
      have hf := hga_13
      refine go_iastore dX12_channelMethod_47 hf (fun h_14 hf => ?_)
      refine go_aload_n dX12_channelMethod_48 rfl 1 rfl ?_
      refine go_getR dX12_channelMethod_49 fl_1156_0 (fun _ _ => rfl) hf (fun r_15 hf => ?_)
      refine go_iload_n dX12_channelMethod_52 rfl 3 rfl ?_
      refine go_iconst 1 dX12_channelMethod_53 rfl ?_
      obtain ⟨a_16, rfl, hga_16⟩ := nn_some hf
      have hf := hga_16
      refine go_zastore dX12_channelMethod_54 hf (fun h_17 hf => ?_)
      refine go_aload_n dX12_channelMethod_55 rfl 1 rfl ?_
      refine go_getR dX12_channelMethod_56 fl_1157_0 (fun _ _ => rfl) hf (fun r_18 hf => ?_)
      refine go_iload_n dX12_channelMethod_59 rfl 3 rfl ?_
      refine go_iconst 0 dX12_channelMethod_60 rfl ?_
      obtain ⟨a_19, rfl, hga_19⟩ := nn_some hf
      have hf := hga_19
      refine go_iastore dX12_channelMethod_61 hf (fun h_20 hf => ?_)
      refine go_aload_n dX12_channelMethod_62 rfl 1 rfl ?_
      refine go_iload_n dX12_channelMethod_63 rfl 3 rfl ?_
      refine go_bipush 20 dX12_channelMethod_64 (by decide) ?_
      refine go_bipush 11 dX12_channelMethod_66 (by decide) ?_
      obtain ⟨hk, hf⟩ := kg_some hf
      obtain ⟨z_21, hc, hf⟩ := bd_some hf
      refine go_callV (y2 := M_X12_say) (c2 := 13) dX12_channelMethod_68 mo_X12_say ⟨Nat.le_of_ble_eq_true rfl, Nat.le_of_ble_eq_true rfl⟩ na_X12_say w1381 w1383 (by decide) rfl w64 hk [.int x2, .int 20, .int 11] rfl (n_X12_say (a0) x2 20 11) rfl (csum (Nat.le_of_ble_eq_true rfl)) (t_X12_say (a0) x2 20 11 h_20 _ hc) ?_
      obtain ⟨_, h_22⟩ := z_21
      refine go_goto (tgt := 131) dX12_channelMethod_71 (by decide) ?_
      exact go_return dX12_channelMethod_131 rfl hf
  · exact go_return dX12_channelMethod_27 rfl hf
def f_X12_channelMethod (a0 : Nat) (x1 : Int32) (h : AH) : Option (Unit × AH) := rdI h a0 13 54 fun x_1 =>
  (if x1 = 20 then
    kg h a0 13 (bd (f_X12_next a0 h) fun x_4 h_3 =>
    f_X12_channelMethod_19 a0 x1 x_1 x_4 h_3)
  else
    f_X12_channelMethod_19 a0 x1 x_1 0 h)
set_option maxRecDepth 20000 in
set_option maxHeartbeats 4000000 in
theorem t_X12_channelMethod {Ω : Om} (a0 : Nat) (x1 : Int32) (h : AH) (q : Unit × AH) (hf : f_X12_channelMethod a0 x1 h = some q) : Go Ω M_X12_channelMethod 0 (lv_args 0 [vR Ω (some a0), .int x1]) [] h none q.2 := by
  unfold f_X12_channelMethod at hf
  rw [la_R, la_I, la_0]
  refine go_sub (lv' := [(0, vR Ω (some a0)), (1, .int x1)]) [0, 1] rfl ?_
  refine go_aload_n dX12_channelMethod_0 rfl 0 rfl ?_
  refine go_getI dX12_channelMethod_1 fl_1173_0 (fun _ _ => rfl) hf (fun x_1 hf => ?_)
  refine go_istore_n (i := 2) (lv' := [(2, .int x_1), (0, vR Ω (some a0)), (1, .int x1)]) dX12_channelMethod_4 rfl (by decide) (by first | rfl | simp [catR, catI, catJ]) ?_
  refine go_iload_n dX12_channelMethod_5 rfl 2 rfl ?_
  refine go_bipush 20 dX12_channelMethod_6 (by decide) ?_
  refine go_icmp_ne (tgt := 18) dX12_channelMethod_8 (by decide) hf (fun hf => ?_) (fun hf => ?_)
  · refine go_iconst 0 dX12_channelMethod_18 rfl ?_
    refine go_sub (lv' := [(0, vR Ω (some a0)), (1, .int x1), (2, .int x_1)]) [1, 2, 0] rfl ?_
    exact t_X12_channelMethod_19 a0 x1 x_1 0 h q hf
  · refine go_aload_n dX12_channelMethod_11 rfl 1 rfl ?_
    obtain ⟨hk, hf⟩ := kg_some hf
    obtain ⟨z_2, hc, hf⟩ := bd_some hf
    refine go_callV (y2 := M_X12_next) (c2 := 13) dX12_channelMethod_12 mo_X12_next ⟨Nat.le_of_ble_eq_true rfl, Nat.le_of_ble_eq_true rfl⟩ na_X12_next w1397 w1399 (by decide) rfl w68 hk [] rfl (n_X12_next (a0)) rfl (csum (Nat.le_of_ble_eq_true rfl)) (t_X12_next (a0) h _ hc) ?_
    obtain ⟨x_4, h_3⟩ := z_2
    refine go_goto (tgt := 19) dX12_channelMethod_15 (by decide) ?_
    refine go_sub (lv' := [(0, vR Ω (some a0)), (1, .int x1), (2, .int x_1)]) [1, 2, 0] rfl ?_
    exact t_X12_channelMethod_19 a0 x1 x_1 x_4 h_3 q hf
-- LetterBrokerModel.hasBindings(J)Z
theorem dX12_hasBindings_0 : decode cX12_hasBindings 0 = .ok (.iconst 0, 1) := by decide +kernel
theorem dX12_hasBindings_1 : decode cX12_hasBindings 1 = .ok (.istore_n 3, 1) := by decide +kernel
theorem dX12_hasBindings_2 : decode cX12_hasBindings 2 = .ok (.iconst 0, 1) := by decide +kernel
theorem dX12_hasBindings_3 : decode cX12_hasBindings 3 = .ok (.istore 4, 2) := by decide +kernel
theorem dX12_hasBindings_5 : decode cX12_hasBindings 5 = .ok (.iload 4, 2) := by decide +kernel
theorem dX12_hasBindings_7 : decode cX12_hasBindings 7 = .ok (.aload_n 0, 1) := by decide +kernel
theorem dX12_hasBindings_8 : decode cX12_hasBindings 8 = .ok (.getfield 222, 3) := by decide +kernel
theorem dX12_hasBindings_11 : decode cX12_hasBindings 11 = .ok (.if_icmp .ge 31, 3) := by decide +kernel
theorem dX12_hasBindings_14 : decode cX12_hasBindings 14 = .ok (.iload_n 3, 1) := by decide +kernel
theorem dX12_hasBindings_15 : decode cX12_hasBindings 15 = .ok (.ifCond .ne 15, 3) := by decide +kernel
theorem dX12_hasBindings_18 : decode cX12_hasBindings 18 = .ok (.aload_n 0, 1) := by decide +kernel
theorem dX12_hasBindings_19 : decode cX12_hasBindings 19 = .ok (.getfield 39, 3) := by decide +kernel
theorem dX12_hasBindings_22 : decode cX12_hasBindings 22 = .ok (.iload 4, 2) := by decide +kernel
theorem dX12_hasBindings_24 : decode cX12_hasBindings 24 = .ok (.laload, 1) := by decide +kernel
theorem dX12_hasBindings_25 : decode cX12_hasBindings 25 = .ok (.lload_n 1, 1) := by decide +kernel
theorem dX12_hasBindings_26 : decode cX12_hasBindings 26 = .ok (.lcmp, 1) := by decide +kernel
theorem dX12_hasBindings_27 : decode cX12_hasBindings 27 = .ok (.ifCond .ne 7, 3) := by decide +kernel
theorem dX12_hasBindings_30 : decode cX12_hasBindings 30 = .ok (.iconst 1, 1) := by decide +kernel
theorem dX12_hasBindings_31 : decode cX12_hasBindings 31 = .ok (.goto 4, 3) := by decide +kernel
theorem dX12_hasBindings_34 : decode cX12_hasBindings 34 = .ok (.iconst 0, 1) := by decide +kernel
theorem dX12_hasBindings_35 : decode cX12_hasBindings 35 = .ok (.istore_n 3, 1) := by decide +kernel
theorem dX12_hasBindings_36 : decode cX12_hasBindings 36 = .ok (.iinc 4 1, 3) := by decide +kernel
theorem dX12_hasBindings_39 : decode cX12_hasBindings 39 = .ok (.goto (-34), 3) := by decide +kernel
theorem dX12_hasBindings_42 : decode cX12_hasBindings 42 = .ok (.iload_n 3, 1) := by decide +kernel
theorem dX12_hasBindings_43 : decode cX12_hasBindings 43 = .ok (.ireturn, 1) := by decide +kernel
def f_X12_hasBindings_35 (k5 : Nat → Int64 → Int32 → Int32 → AH → Option (Int32 × AH)) (a0 : Nat) (x1 : Int64) (x4 : Int32) (s0 : Int32) (h : AH) : Option (Int32 × AH) := k5 a0 x1 s0 (x4 + 1) h
set_option maxRecDepth 20000 in
set_option maxHeartbeats 4000000 in
theorem t_X12_hasBindings_35 {Ω : Om} {k5 : Nat → Int64 → Int32 → Int32 → AH → Option (Int32 × AH)} (c5 : ∀ (a0 : Nat) (x1 : Int64) (x3 : Int32) (x4 : Int32) (h : AH) (q : Int32 × AH), k5 a0 x1 x3 x4 h = some q → Go Ω M_X12_hasBindings 5 [(0, vR Ω (some a0)), (1, .long x1), (3, .int x3), (4, .int x4)] [] h (some (.int q.1)) q.2) (a0 : Nat) (x1 : Int64) (x4 : Int32) (s0 : Int32) (h : AH) (q : Int32 × AH) (hf : f_X12_hasBindings_35 k5 a0 x1 x4 s0 h = some q) : Go Ω M_X12_hasBindings 35 [(0, vR Ω (some a0)), (1, .long x1), (4, .int x4)] [.int s0] h (some (.int q.1)) q.2 := by
  unfold f_X12_hasBindings_35 at hf
  refine go_istore_n (i := 3) (lv' := [(3, .int s0), (0, vR Ω (some a0)), (1, .long x1), (4, .int x4)]) dX12_hasBindings_35 rfl (by decide) (by first | rfl | simp [catR, catI, catJ]) ?_
  refine go_iinc (j := 3) (v := x4 + 1) (lv' := [(4, .int (x4 + 1)), (3, .int s0), (0, vR Ω (some a0)), (1, .long x1)]) dX12_hasBindings_36 rfl rfl (by decide) (by first | rfl | simp [catR, catI, catJ]) ?_
  refine go_goto (tgt := 5) dX12_hasBindings_39 (by decide) ?_
  refine go_sub (lv' := [(0, vR Ω (some a0)), (1, .long x1), (3, .int s0), (4, .int (x4 + 1))]) [2, 3, 1, 0] rfl ?_
  exact c5 a0 x1 s0 (x4 + 1) h q hf
def f_X12_hasBindings_5 : Nat → Nat → Int64 → Int32 → Int32 → AH → Option (Int32 × AH)
  | 0, _, _, _, _, _ => none
  | n + 1, a0, x1, x3, x4, h => rdI h a0 13 13 fun x_1 =>
    (if x_1 ≤ x4 then
      rz x3 (some (x3, h))
    else
      (if x3 = 0 then
        rdR h a0 13 15 fun r_2 =>
        nn r_2 fun a_3 =>
        arJ h a_3 x4 fun x_4 =>
        (if (lg_cmp x_4 x1) = 0 then
          f_X12_hasBindings_35 (fun a0 x1 x3 x4 h => f_X12_hasBindings_5 n a0 x1 x3 x4 h) a0 x1 x4 1 h
        else
          f_X12_hasBindings_35 (fun a0 x1 x3 x4 h => f_X12_hasBindings_5 n a0 x1 x3 x4 h) a0 x1 x4 0 h)
      else
        f_X12_hasBindings_35 (fun a0 x1 x3 x4 h => f_X12_hasBindings_5 n a0 x1 x3 x4 h) a0 x1 x4 1 h))
set_option maxRecDepth 20000 in
set_option maxHeartbeats 4000000 in
theorem t_X12_hasBindings_5 {Ω : Om} : ∀ (n : Nat) (a0 : Nat) (x1 : Int64) (x3 : Int32) (x4 : Int32) (h : AH) (q : Int32 × AH), f_X12_hasBindings_5 n a0 x1 x3 x4 h = some q → Go Ω M_X12_hasBindings 5 [(0, vR Ω (some a0)), (1, .long x1), (3, .int x3), (4, .int x4)] [] h (some (.int q.1)) q.2 := by
  intro n
  induction n with
  | zero => intro a0 x1 x3 x4 h q hf; cases hf
  | succ n ih =>
    intro a0 x1 x3 x4 h q hf
    rw [f_X12_hasBindings_5] at hf
    refine go_iload dX12_hasBindings_5 3 rfl ?_
    refine go_aload_n dX12_hasBindings_7 rfl 0 rfl ?_
    refine go_getI dX12_hasBindings_8 fl_1132_0 (fun _ _ => rfl) hf (fun x_1 hf => ?_)
    refine go_icmp_ge (tgt := 42) dX12_hasBindings_11 (by decide) hf (fun hf => ?_) (fun hf => ?_)
    · refine go_iload_n dX12_hasBindings_42 rfl 2 rfl ?_
      exact go_zreturn dX12_hasBindings_43 rfl hf
    · refine go_iload_n dX12_hasBindings_14 rfl 2 rfl ?_
      refine go_if_ne (tgt := 30) dX12_hasBindings_15 (by decide) hf (fun hf => ?_) (fun hf => ?_)
      · refine go_iconst 1 dX12_hasBindings_30 rfl ?_
        refine go_goto (tgt := 35) dX12_hasBindings_31 (by decide) ?_
        refine go_sub (lv' := [(0, vR Ω (some a0)), (1, .long x1), (4, .int x4)]) [0, 1, 3] rfl ?_
        exact t_X12_hasBindings_35 ih a0 x1 x4 1 h q hf
      · refine go_aload_n dX12_hasBindings_18 rfl 0 rfl ?_
        refine go_getR dX12_hasBindings_19 fl_1134_0 (fun _ _ => rfl) hf (fun r_2 hf => ?_)
        refine go_iload dX12_hasBindings_22 3 rfl ?_
        obtain ⟨a_3, rfl, hga_3⟩ := nn_some hf
        have hf := hga_3
        refine go_laload dX12_hasBindings_24 hf (fun x_4 hf => ?_)
        refine go_lload_n dX12_hasBindings_25 rfl 1 rfl ?_
        refine go_lcmp dX12_hasBindings_26 ?_
        refine go_if_ne (tgt := 34) dX12_hasBindings_27 (by decide) hf (fun hf => ?_) (fun hf => ?_)
        · refine go_iconst 0 dX12_hasBindings_34 rfl ?_
          refine go_sub (lv' := [(0, vR Ω (some a0)), (1, .long x1), (4, .int x4)]) [0, 1, 3] rfl ?_
          exact t_X12_hasBindings_35 ih a0 x1 x4 0 h q hf
        · refine go_iconst 1 dX12_hasBindings_30 rfl ?_
          refine go_goto (tgt := 35) dX12_hasBindings_31 (by decide) ?_
          refine go_sub (lv' := [(0, vR Ω (some a0)), (1, .long x1), (4, .int x4)]) [0, 1, 3] rfl ?_
          exact t_X12_hasBindings_35 ih a0 x1 x4 1 h q hf
def f_X12_hasBindings (a0 : Nat) (x1 : Int64) (h : AH) : Option (Int32 × AH) := f_X12_hasBindings_5 FU a0 x1 0 0 h
set_option maxRecDepth 20000 in
set_option maxHeartbeats 4000000 in
theorem t_X12_hasBindings {Ω : Om} (a0 : Nat) (x1 : Int64) (h : AH) (q : Int32 × AH) (hf : f_X12_hasBindings a0 x1 h = some q) : Go Ω M_X12_hasBindings 0 (lv_args 0 [vR Ω (some a0), .long x1]) [] h (some (.int q.1)) q.2 := by
  unfold f_X12_hasBindings at hf
  rw [la_R, la_J, la_0]
  refine go_sub (lv' := [(0, vR Ω (some a0)), (1, .long x1)]) [0, 1] rfl ?_
  refine go_iconst 0 dX12_hasBindings_0 rfl ?_
  refine go_istore_n (i := 3) (lv' := [(3, .int 0), (0, vR Ω (some a0)), (1, .long x1)]) dX12_hasBindings_1 rfl (by decide) (by first | rfl | simp [catR, catI, catJ]) ?_
  refine go_iconst 0 dX12_hasBindings_2 rfl ?_
  refine go_istore (i := 4) (lv' := [(4, .int 0), (3, .int 0), (0, vR Ω (some a0)), (1, .long x1)]) dX12_hasBindings_3 (by decide) (by first | rfl | simp [catR, catI, catJ]) ?_
  refine go_sub (lv' := [(0, vR Ω (some a0)), (1, .long x1), (3, .int 0), (4, .int 0)]) [2, 3, 1, 0] rfl ?_
  exact t_X12_hasBindings_5 FU a0 x1 0 0 h q hf
-- LetterBrokerModel.nextName()J
theorem dX12_nextName_0 : decode cX12_nextName 0 = .ok (.aload_n 0, 1) := by decide +kernel
theorem dX12_nextName_1 : decode cX12_nextName 1 = .ok (.invokevirtual 311, 3) := by decide +kernel
theorem dX12_nextName_4 : decode cX12_nextName 4 = .ok (.istore_n 1, 1) := by decide +kernel
theorem dX12_nextName_5 : decode cX12_nextName 5 = .ok (.aload_n 0, 1) := by decide +kernel
theorem dX12_nextName_6 : decode cX12_nextName 6 = .ok (.aload_n 0, 1) := by decide +kernel
theorem dX12_nextName_7 : decode cX12_nextName 7 = .ok (.getfield 307, 3) := by decide +kernel
theorem dX12_nextName_10 : decode cX12_nextName 10 = .ok (.ifCond .ne 9, 3) := by decide +kernel
theorem dX12_nextName_13 : decode cX12_nextName 13 = .ok (.iload_n 1, 1) := by decide +kernel
theorem dX12_nextName_14 : decode cX12_nextName 14 = .ok (.bipush 8, 2) := by decide +kernel
theorem dX12_nextName_16 : decode cX12_nextName 16 = .ok (.if_icmp .le 7, 3) := by decide +kernel
theorem dX12_nextName_19 : decode cX12_nextName 19 = .ok (.iconst 1, 1) := by decide +kernel
theorem dX12_nextName_20 : decode cX12_nextName 20 = .ok (.goto 4, 3) := by decide +kernel
theorem dX12_nextName_23 : decode cX12_nextName 23 = .ok (.iconst 0, 1) := by decide +kernel
theorem dX12_nextName_24 : decode cX12_nextName 24 = .ok (.putfield 307, 3) := by decide +kernel
theorem dX12_nextName_27 : decode cX12_nextName 27 = .ok (.lconst 0, 1) := by decide +kernel
theorem dX12_nextName_28 : decode cX12_nextName 28 = .ok (.lstore_n 2, 1) := by decide +kernel
theorem dX12_nextName_29 : decode cX12_nextName 29 = .ok (.iconst 0, 1) := by decide +kernel
theorem dX12_nextName_30 : decode cX12_nextName 30 = .ok (.istore 4, 2) := by decide +kernel
theorem dX12_nextName_32 : decode cX12_nextName 32 = .ok (.iload 4, 2) := by decide +kernel
theorem dX12_nextName_34 : decode cX12_nextName 34 = .ok (.iload_n 1, 1) := by decide +kernel
theorem dX12_nextName_35 : decode cX12_nextName 35 = .ok (.if_icmp .ge 61, 3) := by decide +kernel
theorem dX12_nextName_38 : decode cX12_nextName 38 = .ok (.aload_n 0, 1) := by decide +kernel
theorem dX12_nextName_39 : decode cX12_nextName 39 = .ok (.getfield 307, 3) := by decide +kernel
theorem dX12_nextName_42 : decode cX12_nextName 42 = .ok (.ifCond .ne 54, 3) := by decide +kernel
theorem dX12_nextName_45 : decode cX12_nextName 45 = .ok (.aload_n 0, 1) := by decide +kernel
theorem dX12_nextName_46 : decode cX12_nextName 46 = .ok (.invokevirtual 311, 3) := by decide +kernel
theorem dX12_nextName_49 : decode cX12_nextName 49 = .ok (.istore 5, 2) := by decide +kernel
theorem dX12_nextName_51 : decode cX12_nextName 51 = .ok (.aload_n 0, 1) := by decide +kernel
theorem dX12_nextName_52 : decode cX12_nextName 52 = .ok (.aload_n 0, 1) := by decide +kernel
theorem dX12_nextName_53 : decode cX12_nextName 53 = .ok (.getfield 307, 3) := by decide +kernel
theorem dX12_nextName_56 : decode cX12_nextName 56 = .ok (.ifCond .ne 17, 3) := by decide +kernel
theorem dX12_nextName_59 : decode cX12_nextName 59 = .ok (.iload 5, 2) := by decide +kernel
theorem dX12_nextName_61 : decode cX12_nextName 61 = .ok (.bipush 33, 2) := by decide +kernel
theorem dX12_nextName_63 : decode cX12_nextName 63 = .ok (.if_icmp .lt 10, 3) := by decide +kernel
theorem dX12_nextName_66 : decode cX12_nextName 66 = .ok (.iload 5, 2) := by decide +kernel
theorem dX12_nextName_68 : decode cX12_nextName 68 = .ok (.bipush 126, 2) := by decide +kernel
theorem dX12_nextName_70 : decode cX12_nextName 70 = .ok (.if_icmp .le 7, 3) := by decide +kernel
theorem dX12_nextName_73 : decode cX12_nextName 73 = .ok (.iconst 1, 1) := by decide +kernel
theorem dX12_nextName_74 : decode cX12_nextName 74 = .ok (.goto 4, 3) := by decide +kernel
theorem dX12_nextName_77 : decode cX12_nextName 77 = .ok (.iconst 0, 1) := by decide +kernel
theorem dX12_nextName_78 : decode cX12_nextName 78 = .ok (.putfield 307, 3) := by decide +kernel
theorem dX12_nextName_81 : decode cX12_nextName 81 = .ok (.lload_n 2, 1) := by decide +kernel
theorem dX12_nextName_82 : decode cX12_nextName 82 = .ok (.bipush 8, 2) := by decide +kernel
theorem dX12_nextName_84 : decode cX12_nextName 84 = .ok (.lshl, 1) := by decide +kernel
theorem dX12_nextName_85 : decode cX12_nextName 85 = .ok (.iload 5, 2) := by decide +kernel
theorem dX12_nextName_87 : decode cX12_nextName 87 = .ok (.i2l, 1) := by decide +kernel
theorem dX12_nextName_88 : decode cX12_nextName 88 = .ok (.lor, 1) := by decide +kernel
theorem dX12_nextName_89 : decode cX12_nextName 89 = .ok (.lstore_n 2, 1) := by decide +kernel
theorem dX12_nextName_90 : decode cX12_nextName 90 = .ok (.iinc 4 1, 3) := by decide +kernel
theorem dX12_nextName_93 : decode cX12_nextName 93 = .ok (.goto (-61), 3) := by decide +kernel
theorem dX12_nextName_96 : decode cX12_nextName 96 = .ok (.lload_n 2, 1) := by decide +kernel
theorem dX12_nextName_97 : decode cX12_nextName 97 = .ok (.lreturn, 1) := by decide +kernel
def f_X12_nextName_78 (k32 : Nat → Int32 → Int64 → Int32 → AH → Option (Int64 × AH)) (a0 : Nat) (x1 : Int32) (x2 : Int64) (x4 : Int32) (x5 : Int32) (s0 : Int32) (s1 : Option Nat) (h : AH) : Option (Int64 × AH) := nn s1 fun a_1 =>
  wrZ h a_1 13 57 s0 fun h_2 =>
  lt ((x2 <<< ((8 : Int32).toInt64 &&& 63)) ||| x5.toInt64) fun x_3 =>
  k32 a0 x1 x_3 (x4 + 1) h_2
set_option maxRecDepth 20000 in
set_option maxHeartbeats 4000000 in
theorem t_X12_nextName_78 {Ω : Om} {k32 : Nat → Int32 → Int64 → Int32 → AH → Option (Int64 × AH)} (c32 : ∀ (a0 : Nat) (x1 : Int32) (x2 : Int64) (x4 : Int32) (h : AH) (q : Int64 × AH), k32 a0 x1 x2 x4 h = some q → Go Ω M_X12_nextName 32 [(0, vR Ω (some a0)), (1, .int x1), (2, .long x2), (4, .int x4)] [] h (some (.long q.1)) q.2) (a0 : Nat) (x1 : Int32) (x2 : Int64) (x4 : Int32) (x5 : Int32) (s0 : Int32) (s1 : Option Nat) (h : AH) (q : Int64 × AH) (hf : f_X12_nextName_78 k32 a0 x1 x2 x4 x5 s0 s1 h = some q) : Go Ω M_X12_nextName 78 [(0, vR Ω (some a0)), (1, .int x1), (2, .long x2), (4, .int x4), (5, .int x5)] [.int s0, vR Ω s1] h (some (.long q.1)) q.2 := by
  unfold f_X12_nextName_78 at hf
  obtain ⟨a_1, rfl, hga_1⟩ := nn_some hf
  have hf := hga_1
  refine go_putZ dX12_nextName_78 fl_1176_0 (fun q hq => by cases hq; exact Or.inl rfl) (fun _ _ => rfl) rfl hf (fun h_2 hf => ?_)
  refine go_lload_n dX12_nextName_81 rfl 2 rfl ?_
  refine go_bipush 8 dX12_nextName_82 (by decide) ?_
  refine go_lshl dX12_nextName_84 ?_
  refine go_iload dX12_nextName_85 4 rfl ?_
  refine go_i2l dX12_nextName_87 ?_
  refine go_lor dX12_nextName_88 ?_
  refine lt_J hf (fun x_3 hf => ?_)
  refine go_lstore_n (i := 2) (lv' := [(2, .long x_3), (0, vR Ω (some a0)), (1, .int x1), (4, .int x4), (5, .int x5)]) dX12_nextName_89 rfl (by decide) (by first | rfl | simp [catR, catI, catJ]) ?_
  refine go_iinc (j := 3) (v := x4 + 1) (lv' := [(4, .int (x4 + 1)), (2, .long x_3), (0, vR Ω (some a0)), (1, .int x1), (5, .int x5)]) dX12_nextName_90 rfl rfl (by decide) (by first | rfl | simp [catR, catI, catJ]) ?_
  refine go_goto (tgt := 32) dX12_nextName_93 (by decide) ?_
  refine go_sub (lv' := [(0, vR Ω (some a0)), (1, .int x1), (2, .long x_3), (4, .int (x4 + 1))]) [2, 3, 1, 0] rfl ?_
  exact c32 a0 x1 x_3 (x4 + 1) h_2 q hf
def f_X12_nextName_96 (x2 : Int64) (h : AH) : Option (Int64 × AH) := some (x2, h)
set_option maxRecDepth 20000 in
set_option maxHeartbeats 4000000 in
theorem t_X12_nextName_96 {Ω : Om} (x2 : Int64) (h : AH) (q : Int64 × AH) (hf : f_X12_nextName_96 x2 h = some q) : Go Ω M_X12_nextName 96 [(2, .long x2)] [] h (some (.long q.1)) q.2 := by
  unfold f_X12_nextName_96 at hf
  refine go_lload_n dX12_nextName_96 rfl 0 rfl ?_
  exact go_lreturn dX12_nextName_97 rfl hf
def f_X12_nextName_32 : Nat → Nat → Int32 → Int64 → Int32 → AH → Option (Int64 × AH)
  | 0, _, _, _, _, _ => none
  | n + 1, a0, x1, x2, x4, h => (if x1 ≤ x4 then
      f_X12_nextName_96 x2 h
    else
      rdI h a0 13 57 fun x_1 =>
      (if x_1 = 0 then
        kg h a0 13 (bd (f_X12_next a0 h) fun x_4 h_3 =>
        rdI h_3 a0 13 57 fun x_5 =>
        (if x_5 = 0 then
          (if x_4 < 33 then
            f_X12_nextName_78 (fun a0 x1 x2 x4 h => f_X12_nextName_32 n a0 x1 x2 x4 h) a0 x1 x2 x4 x_4 1 (some a0) h_3
          else
            (if x_4 ≤ 126 then
              f_X12_nextName_78 (fun a0 x1 x2 x4 h => f_X12_nextName_32 n a0 x1 x2 x4 h) a0 x1 x2 x4 x_4 0 (some a0) h_3
            else
              f_X12_nextName_78 (fun a0 x1 x2 x4 h => f_X12_nextName_32 n a0 x1 x2 x4 h) a0 x1 x2 x4 x_4 1 (some a0) h_3))
        else
          f_X12_nextName_78 (fun a0 x1 x2 x4 h => f_X12_nextName_32 n a0 x1 x2 x4 h) a0 x1 x2 x4 x_4 1 (some a0) h_3))
      else
        f_X12_nextName_96 x2 h))
set_option maxRecDepth 20000 in
set_option maxHeartbeats 4000000 in
theorem t_X12_nextName_32 {Ω : Om} : ∀ (n : Nat) (a0 : Nat) (x1 : Int32) (x2 : Int64) (x4 : Int32) (h : AH) (q : Int64 × AH), f_X12_nextName_32 n a0 x1 x2 x4 h = some q → Go Ω M_X12_nextName 32 [(0, vR Ω (some a0)), (1, .int x1), (2, .long x2), (4, .int x4)] [] h (some (.long q.1)) q.2 := by
  intro n
  induction n with
  | zero => intro a0 x1 x2 x4 h q hf; cases hf
  | succ n ih =>
    intro a0 x1 x2 x4 h q hf
    rw [f_X12_nextName_32] at hf
    refine go_iload dX12_nextName_32 3 rfl ?_
    refine go_iload_n dX12_nextName_34 rfl 1 rfl ?_
    refine go_icmp_ge (tgt := 96) dX12_nextName_35 (by decide) hf (fun hf => ?_) (fun hf => ?_)
    · refine go_sub (lv' := [(2, .long x2)]) [2] rfl ?_
      exact t_X12_nextName_96 x2 h q hf
    · refine go_aload_n dX12_nextName_38 rfl 0 rfl ?_
      refine go_getI dX12_nextName_39 fl_1176_0 (fun _ _ => rfl) hf (fun x_1 hf => ?_)
      refine go_if_ne (tgt := 96) dX12_nextName_42 (by decide) hf (fun hf => ?_) (fun hf => ?_)
      · refine go_sub (lv' := [(2, .long x2)]) [2] rfl ?_
        exact t_X12_nextName_96 x2 h q hf
      · refine go_aload_n dX12_nextName_45 rfl 0 rfl ?_
        obtain ⟨hk, hf⟩ := kg_some hf
        obtain ⟨z_2, hc, hf⟩ := bd_some hf
        refine go_callV (y2 := M_X12_next) (c2 := 13) dX12_nextName_46 mo_X12_next ⟨Nat.le_of_ble_eq_true rfl, Nat.le_of_ble_eq_true rfl⟩ na_X12_next w1397 w1399 (by decide) rfl w68 hk [] rfl (n_X12_next (a0)) rfl (csum (Nat.le_of_ble_eq_true rfl)) (t_X12_next (a0) h _ hc) ?_
        obtain ⟨x_4, h_3⟩ := z_2
        refine go_istore (i := 5) (lv' := [(5, .int x_4), (0, vR Ω (some a0)), (1, .int x1), (2, .long x2), (4, .int x4)]) dX12_nextName_49 (by decide) (by first | rfl | simp [catR, catI, catJ]) ?_
        refine go_aload_n dX12_nextName_51 rfl 1 rfl ?_
        refine go_aload_n dX12_nextName_52 rfl 1 rfl ?_
        refine go_getI dX12_nextName_53 fl_1176_0 (fun _ _ => rfl) hf (fun x_5 hf => ?_)
        refine go_if_ne (tgt := 73) dX12_nextName_56 (by decide) hf (fun hf => ?_) (fun hf => ?_)
        · refine go_iconst 1 dX12_nextName_73 rfl ?_
          refine go_goto (tgt := 78) dX12_nextName_74 (by decide) ?_
          refine go_sub (lv' := [(0, vR Ω (some a0)), (1, .int x1), (2, .long x2), (4, .int x4), (5, .int x_4)]) [1, 2, 3, 4, 0] rfl ?_
          exact t_X12_nextName_78 ih a0 x1 x2 x4 x_4 1 (some a0) h_3 q hf
        · refine go_iload dX12_nextName_59 0 rfl ?_
          refine go_bipush 33 dX12_nextName_61 (by decide) ?_
          refine go_icmp_lt (tgt := 73) dX12_nextName_63 (by decide) hf (fun hf => ?_) (fun hf => ?_)
          · refine go_iconst 1 dX12_nextName_73 rfl ?_
            refine go_goto (tgt := 78) dX12_nextName_74 (by decide) ?_
            refine go_sub (lv' := [(0, vR Ω (some a0)), (1, .int x1), (2, .long x2), (4, .int x4), (5, .int x_4)]) [1, 2, 3, 4, 0] rfl ?_
            exact t_X12_nextName_78 ih a0 x1 x2 x4 x_4 1 (some a0) h_3 q hf
          · refine go_iload dX12_nextName_66 0 rfl ?_
            refine go_bipush 126 dX12_nextName_68 (by decide) ?_
            refine go_icmp_le (tgt := 77) dX12_nextName_70 (by decide) hf (fun hf => ?_) (fun hf => ?_)
            · refine go_iconst 0 dX12_nextName_77 rfl ?_
              refine go_sub (lv' := [(0, vR Ω (some a0)), (1, .int x1), (2, .long x2), (4, .int x4), (5, .int x_4)]) [1, 2, 3, 4, 0] rfl ?_
              exact t_X12_nextName_78 ih a0 x1 x2 x4 x_4 0 (some a0) h_3 q hf
            · refine go_iconst 1 dX12_nextName_73 rfl ?_
              refine go_goto (tgt := 78) dX12_nextName_74 (by decide) ?_
              refine go_sub (lv' := [(0, vR Ω (some a0)), (1, .int x1), (2, .long x2), (4, .int x4), (5, .int x_4)]) [1, 2, 3, 4, 0] rfl ?_
              exact t_X12_nextName_78 ih a0 x1 x2 x4 x_4 1 (some a0) h_3 q hf
def f_X12_nextName_24 (a0 : Nat) (x1 : Int32) (s0 : Int32) (s1 : Option Nat) (h : AH) : Option (Int64 × AH) := nn s1 fun a_1 =>
  wrZ h a_1 13 57 s0 fun h_2 =>
  f_X12_nextName_32 FU a0 x1 0 0 h_2
set_option maxRecDepth 20000 in
set_option maxHeartbeats 4000000 in
theorem t_X12_nextName_24 {Ω : Om} (a0 : Nat) (x1 : Int32) (s0 : Int32) (s1 : Option Nat) (h : AH) (q : Int64 × AH) (hf : f_X12_nextName_24 a0 x1 s0 s1 h = some q) : Go Ω M_X12_nextName 24 [(0, vR Ω (some a0)), (1, .int x1)] [.int s0, vR Ω s1] h (some (.long q.1)) q.2 := by
  unfold f_X12_nextName_24 at hf
  obtain ⟨a_1, rfl, hga_1⟩ := nn_some hf
  have hf := hga_1
  refine go_putZ dX12_nextName_24 fl_1176_0 (fun q hq => by cases hq; exact Or.inl rfl) (fun _ _ => rfl) rfl hf (fun h_2 hf => ?_)
  refine go_lconst 0 dX12_nextName_27 rfl ?_
  refine go_lstore_n (i := 2) (lv' := [(2, .long 0), (0, vR Ω (some a0)), (1, .int x1)]) dX12_nextName_28 rfl (by decide) (by first | rfl | simp [catR, catI, catJ]) ?_
  refine go_iconst 0 dX12_nextName_29 rfl ?_
  refine go_istore (i := 4) (lv' := [(4, .int 0), (2, .long 0), (0, vR Ω (some a0)), (1, .int x1)]) dX12_nextName_30 (by decide) (by first | rfl | simp [catR, catI, catJ]) ?_
  refine go_sub (lv' := [(0, vR Ω (some a0)), (1, .int x1), (2, .long 0), (4, .int 0)]) [2, 3, 1, 0] rfl ?_
  exact t_X12_nextName_32 FU a0 x1 0 0 h_2 q hf
def f_X12_nextName (a0 : Nat) (h : AH) : Option (Int64 × AH) := kg h a0 13 (bd (f_X12_next a0 h) fun x_3 h_2 =>
  rdI h_2 a0 13 57 fun x_4 =>
  (if x_4 = 0 then
    (if x_3 ≤ 8 then
      f_X12_nextName_24 a0 x_3 0 (some a0) h_2
    else
      f_X12_nextName_24 a0 x_3 1 (some a0) h_2)
  else
    f_X12_nextName_24 a0 x_3 1 (some a0) h_2))
set_option maxRecDepth 20000 in
set_option maxHeartbeats 4000000 in
theorem t_X12_nextName {Ω : Om} (a0 : Nat) (h : AH) (q : Int64 × AH) (hf : f_X12_nextName a0 h = some q) : Go Ω M_X12_nextName 0 (lv_args 0 [vR Ω (some a0)]) [] h (some (.long q.1)) q.2 := by
  unfold f_X12_nextName at hf
  rw [la_R, la_0]
  refine go_sub (lv' := [(0, vR Ω (some a0))]) [0] rfl ?_
  refine go_aload_n dX12_nextName_0 rfl 0 rfl ?_
  obtain ⟨hk, hf⟩ := kg_some hf
  obtain ⟨z_1, hc, hf⟩ := bd_some hf
  refine go_callV (y2 := M_X12_next) (c2 := 13) dX12_nextName_1 mo_X12_next ⟨Nat.le_of_ble_eq_true rfl, Nat.le_of_ble_eq_true rfl⟩ na_X12_next w1397 w1399 (by decide) rfl w68 hk [] rfl (n_X12_next (a0)) rfl (csum (Nat.le_of_ble_eq_true rfl)) (t_X12_next (a0) h _ hc) ?_
  obtain ⟨x_3, h_2⟩ := z_1
  refine go_istore_n (i := 1) (lv' := [(1, .int x_3), (0, vR Ω (some a0))]) dX12_nextName_4 rfl (by decide) (by first | rfl | simp [catR, catI, catJ]) ?_
  refine go_aload_n dX12_nextName_5 rfl 1 rfl ?_
  refine go_aload_n dX12_nextName_6 rfl 1 rfl ?_
  refine go_getI dX12_nextName_7 fl_1176_0 (fun _ _ => rfl) hf (fun x_4 hf => ?_)
  refine go_if_ne (tgt := 19) dX12_nextName_10 (by decide) hf (fun hf => ?_) (fun hf => ?_)
  · refine go_iconst 1 dX12_nextName_19 rfl ?_
    refine go_goto (tgt := 24) dX12_nextName_20 (by decide) ?_
    refine go_sub (lv' := [(0, vR Ω (some a0)), (1, .int x_3)]) [1, 0] rfl ?_
    exact t_X12_nextName_24 a0 x_3 1 (some a0) h_2 q hf
  · refine go_iload_n dX12_nextName_13 rfl 0 rfl ?_
    refine go_bipush 8 dX12_nextName_14 (by decide) ?_
    refine go_icmp_le (tgt := 23) dX12_nextName_16 (by decide) hf (fun hf => ?_) (fun hf => ?_)
    · refine go_iconst 0 dX12_nextName_23 rfl ?_
      refine go_sub (lv' := [(0, vR Ω (some a0)), (1, .int x_3)]) [1, 0] rfl ?_
      exact t_X12_nextName_24 a0 x_3 0 (some a0) h_2 q hf
    · refine go_iconst 1 dX12_nextName_19 rfl ?_
      refine go_goto (tgt := 24) dX12_nextName_20 (by decide) ?_
      refine go_sub (lv' := [(0, vR Ω (some a0)), (1, .int x_3)]) [1, 0] rfl ?_
      exact t_X12_nextName_24 a0 x_3 1 (some a0) h_2 q hf

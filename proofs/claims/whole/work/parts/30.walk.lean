/-! printed by wip/whole/gen: functions and their walks -/
-- LetterBrokerModel.settleOrKeep(IIIZ)V
theorem dX12_settleOrKeep_0 : decode cX12_settleOrKeep 0 = .ok (.iload 4, 2) := by decide +kernel
theorem dX12_settleOrKeep_2 : decode cX12_settleOrKeep 2 = .ok (.ifCond .eq 11, 3) := by decide +kernel
theorem dX12_settleOrKeep_5 : decode cX12_settleOrKeep 5 = .ok (.iload_n 3, 1) := by decide +kernel
theorem dX12_settleOrKeep_6 : decode cX12_settleOrKeep 6 = .ok (.ifCond .ne 7, 3) := by decide +kernel
theorem dX12_settleOrKeep_9 : decode cX12_settleOrKeep 9 = .ok (.iconst 1, 1) := by decide +kernel
theorem dX12_settleOrKeep_10 : decode cX12_settleOrKeep 10 = .ok (.goto 4, 3) := by decide +kernel
theorem dX12_settleOrKeep_13 : decode cX12_settleOrKeep 13 = .ok (.iconst 0, 1) := by decide +kernel
theorem dX12_settleOrKeep_14 : decode cX12_settleOrKeep 14 = .ok (.istore 5, 2) := by decide +kernel
theorem dX12_settleOrKeep_16 : decode cX12_settleOrKeep 16 = .ok (.iconst 0, 1) := by decide +kernel
theorem dX12_settleOrKeep_17 : decode cX12_settleOrKeep 17 = .ok (.istore 6, 2) := by decide +kernel
theorem dX12_settleOrKeep_19 : decode cX12_settleOrKeep 19 = .ok (.iload 6, 2) := by decide +kernel
theorem dX12_settleOrKeep_21 : decode cX12_settleOrKeep 21 = .ok (.aload_n 0, 1) := by decide +kernel
theorem dX12_settleOrKeep_22 : decode cX12_settleOrKeep 22 = .ok (.getfield 179, 3) := by decide +kernel
theorem dX12_settleOrKeep_25 : decode cX12_settleOrKeep 25 = .ok (.if_icmp .ge 34, 3) := by decide +kernel
theorem dX12_settleOrKeep_28 : decode cX12_settleOrKeep 28 = .ok (.iload 5, 2) := by decide +kernel
theorem dX12_settleOrKeep_30 : decode cX12_settleOrKeep 30 = .ok (.ifCond .ne 16, 3) := by decide +kernel
theorem dX12_settleOrKeep_33 : decode cX12_settleOrKeep 33 = .ok (.aload_n 0, 1) := by decide +kernel
theorem dX12_settleOrKeep_34 : decode cX12_settleOrKeep 34 = .ok (.iload 6, 2) := by decide +kernel
theorem dX12_settleOrKeep_36 : decode cX12_settleOrKeep 36 = .ok (.iload_n 1, 1) := by decide +kernel
theorem dX12_settleOrKeep_37 : decode cX12_settleOrKeep 37 = .ok (.iload_n 3, 1) := by decide +kernel
theorem dX12_settleOrKeep_38 : decode cX12_settleOrKeep 38 = .ok (.iload 4, 2) := by decide +kernel
theorem dX12_settleOrKeep_40 : decode cX12_settleOrKeep 40 = .ok (.invokevirtual 270, 3) := by decide +kernel
theorem dX12_settleOrKeep_43 : decode cX12_settleOrKeep 43 = .ok (.ifCond .eq 7, 3) := by decide +kernel
theorem dX12_settleOrKeep_46 : decode cX12_settleOrKeep 46 = .ok (.iconst 1, 1) := by decide +kernel
theorem dX12_settleOrKeep_47 : decode cX12_settleOrKeep 47 = .ok (.goto 4, 3) := by decide +kernel
theorem dX12_settleOrKeep_50 : decode cX12_settleOrKeep 50 = .ok (.iconst 0, 1) := by decide +kernel
theorem dX12_settleOrKeep_51 : decode cX12_settleOrKeep 51 = .ok (.istore 5, 2) := by decide +kernel
theorem dX12_settleOrKeep_53 : decode cX12_settleOrKeep 53 = .ok (.iinc 6 1, 3) := by decide +kernel
theorem dX12_settleOrKeep_56 : decode cX12_settleOrKeep 56 = .ok (.goto (-37), 3) := by decide +kernel
theorem dX12_settleOrKeep_59 : decode cX12_settleOrKeep 59 = .ok (.iload 5, 2) := by decide +kernel
theorem dX12_settleOrKeep_61 : decode cX12_settleOrKeep 61 = .ok (.ifCond .ne 14, 3) := by decide +kernel
theorem dX12_settleOrKeep_64 : decode cX12_settleOrKeep 64 = .ok (.aload_n 0, 1) := by decide +kernel
theorem dX12_settleOrKeep_65 : decode cX12_settleOrKeep 65 = .ok (.iload_n 1, 1) := by decide +kernel
theorem dX12_settleOrKeep_66 : decode cX12_settleOrKeep 66 = .ok (.sipush 406, 3) := by decide +kernel
theorem dX12_settleOrKeep_69 : decode cX12_settleOrKeep 69 = .ok (.invokevirtual 252, 3) := by decide +kernel
theorem dX12_settleOrKeep_72 : decode cX12_settleOrKeep 72 = .ok (.goto 95, 3) := by decide +kernel
theorem dX12_settleOrKeep_75 : decode cX12_settleOrKeep 75 = .ok (.aload_n 0, 1) := by decide +kernel
theorem dX12_settleOrKeep_76 : decode cX12_settleOrKeep 76 = .ok (.getfield 100, 3) := by decide +kernel
theorem dX12_settleOrKeep_79 : decode cX12_settleOrKeep 79 = .ok (.iload_n 1, 1) := by decide +kernel
theorem dX12_settleOrKeep_80 : decode cX12_settleOrKeep 80 = .ok (.baload, 1) := by decide +kernel
theorem dX12_settleOrKeep_81 : decode cX12_settleOrKeep 81 = .ok (.ifCond .ne 15, 3) := by decide +kernel
theorem dX12_settleOrKeep_84 : decode cX12_settleOrKeep 84 = .ok (.aload_n 0, 1) := by decide +kernel
theorem dX12_settleOrKeep_85 : decode cX12_settleOrKeep 85 = .ok (.iload_n 1, 1) := by decide +kernel
theorem dX12_settleOrKeep_86 : decode cX12_settleOrKeep 86 = .ok (.iload_n 2, 1) := by decide +kernel
theorem dX12_settleOrKeep_87 : decode cX12_settleOrKeep 87 = .ok (.iload_n 3, 1) := by decide +kernel
theorem dX12_settleOrKeep_88 : decode cX12_settleOrKeep 88 = .ok (.iload 4, 2) := by decide +kernel
theorem dX12_settleOrKeep_90 : decode cX12_settleOrKeep 90 = .ok (.invokevirtual 274, 3) := by decide +kernel
theorem dX12_settleOrKeep_93 : decode cX12_settleOrKeep 93 = .ok (.goto 74, 3) := by decide +kernel
theorem dX12_settleOrKeep_96 : decode cX12_settleOrKeep 96 = .ok (.aload_n 0, 1) := by decide +kernel
theorem dX12_settleOrKeep_97 : decode cX12_settleOrKeep 97 = .ok (.getfield 124, 3) := by decide +kernel
theorem dX12_settleOrKeep_100 : decode cX12_settleOrKeep 100 = .ok (.iload_n 1, 1) := by decide +kernel
theorem dX12_settleOrKeep_101 : decode cX12_settleOrKeep 101 = .ok (.iaload, 1) := by decide +kernel
theorem dX12_settleOrKeep_102 : decode cX12_settleOrKeep 102 = .ok (.bipush 12, 2) := by decide +kernel
theorem dX12_settleOrKeep_104 : decode cX12_settleOrKeep 104 = .ok (.if_icmp .ne 14, 3) := by decide +kernel
theorem dX12_settleOrKeep_107 : decode cX12_settleOrKeep 107 = .ok (.aload_n 0, 1) := by decide +kernel
theorem dX12_settleOrKeep_108 : decode cX12_settleOrKeep 108 = .ok (.iload_n 1, 1) := by decide +kernel
theorem dX12_settleOrKeep_109 : decode cX12_settleOrKeep 109 = .ok (.sipush 506, 3) := by decide +kernel
theorem dX12_settleOrKeep_112 : decode cX12_settleOrKeep 112 = .ok (.invokevirtual 252, 3) := by decide +kernel
theorem dX12_settleOrKeep_115 : decode cX12_settleOrKeep 115 = .ok (.goto 52, 3) := by decide +kernel
theorem dX12_settleOrKeep_118 : decode cX12_settleOrKeep 118 = .ok (.bipush 12, 2) := by decide +kernel
theorem dX12_settleOrKeep_120 : decode cX12_settleOrKeep 120 = .ok (.iload_n 1, 1) := by decide +kernel
theorem dX12_settleOrKeep_121 : decode cX12_settleOrKeep 121 = .ok (.imul, 1) := by decide +kernel
theorem dX12_settleOrKeep_122 : decode cX12_settleOrKeep 122 = .ok (.aload_n 0, 1) := by decide +kernel
theorem dX12_settleOrKeep_123 : decode cX12_settleOrKeep 123 = .ok (.getfield 124, 3) := by decide +kernel
theorem dX12_settleOrKeep_126 : decode cX12_settleOrKeep 126 = .ok (.iload_n 1, 1) := by decide +kernel
theorem dX12_settleOrKeep_127 : decode cX12_settleOrKeep 127 = .ok (.iaload, 1) := by decide +kernel
theorem dX12_settleOrKeep_128 : decode cX12_settleOrKeep 128 = .ok (.iadd, 1) := by decide +kernel
theorem dX12_settleOrKeep_129 : decode cX12_settleOrKeep 129 = .ok (.istore 6, 2) := by decide +kernel
theorem dX12_settleOrKeep_131 : decode cX12_settleOrKeep 131 = .ok (.aload_n 0, 1) := by decide +kernel
theorem dX12_settleOrKeep_132 : decode cX12_settleOrKeep 132 = .ok (.getfield 127, 3) := by decide +kernel
theorem dX12_settleOrKeep_135 : decode cX12_settleOrKeep 135 = .ok (.iload 6, 2) := by decide +kernel
theorem dX12_settleOrKeep_137 : decode cX12_settleOrKeep 137 = .ok (.iload_n 2, 1) := by decide +kernel
theorem dX12_settleOrKeep_138 : decode cX12_settleOrKeep 138 = .ok (.iastore, 1) := by decide +kernel
theorem dX12_settleOrKeep_139 : decode cX12_settleOrKeep 139 = .ok (.aload_n 0, 1) := by decide +kernel
theorem dX12_settleOrKeep_140 : decode cX12_settleOrKeep 140 = .ok (.getfield 130, 3) := by decide +kernel
theorem dX12_settleOrKeep_143 : decode cX12_settleOrKeep 143 = .ok (.iload 6, 2) := by decide +kernel
theorem dX12_settleOrKeep_145 : decode cX12_settleOrKeep 145 = .ok (.iload_n 3, 1) := by decide +kernel
theorem dX12_settleOrKeep_146 : decode cX12_settleOrKeep 146 = .ok (.i2l, 1) := by decide +kernel
theorem dX12_settleOrKeep_147 : decode cX12_settleOrKeep 147 = .ok (.lastore, 1) := by decide +kernel
theorem dX12_settleOrKeep_148 : decode cX12_settleOrKeep 148 = .ok (.aload_n 0, 1) := by decide +kernel
theorem dX12_settleOrKeep_149 : decode cX12_settleOrKeep 149 = .ok (.getfield 136, 3) := by decide +kernel
theorem dX12_settleOrKeep_152 : decode cX12_settleOrKeep 152 = .ok (.iload 6, 2) := by decide +kernel
theorem dX12_settleOrKeep_154 : decode cX12_settleOrKeep 154 = .ok (.iload 4, 2) := by decide +kernel
theorem dX12_settleOrKeep_156 : decode cX12_settleOrKeep 156 = .ok (.bastore, 1) := by decide +kernel
theorem dX12_settleOrKeep_157 : decode cX12_settleOrKeep 157 = .ok (.aload_n 0, 1) := by decide +kernel
theorem dX12_settleOrKeep_158 : decode cX12_settleOrKeep 158 = .ok (.getfield 124, 3) := by decide +kernel
theorem dX12_settleOrKeep_161 : decode cX12_settleOrKeep 161 = .ok (.iload_n 1, 1) := by decide +kernel
theorem dX12_settleOrKeep_162 : decode cX12_settleOrKeep 162 = .ok (.dup2, 1) := by decide +kernel
theorem dX12_settleOrKeep_163 : decode cX12_settleOrKeep 163 = .ok (.iaload, 1) := by decide +kernel
theorem dX12_settleOrKeep_164 : decode cX12_settleOrKeep 164 = .ok (.iconst 1, 1) := by decide +kernel
theorem dX12_settleOrKeep_165 : decode cX12_settleOrKeep 165 = .ok (.iadd, 1) := by decide +kernel
theorem dX12_settleOrKeep_166 : decode cX12_settleOrKeep 166 = .ok (.iastore, 1) := by decide +kernel
theorem dX12_settleOrKeep_167 : decode cX12_settleOrKeep 167 = .ok (.return_, 1) := by decide +kernel
def f_X12_settleOrKeep_51 (k19 : Nat → Int32 → Int32 → Int32 → Int32 → Int32 → Int32 → AH → Option (Unit × AH)) (a0 : Nat) (x1 : Int32) (x2 : Int32) (x3 : Int32) (x4 : Int32) (x6 : Int32) (s0 : Int32) (h : AH) : Option (Unit × AH) := k19 a0 x1 x2 x3 x4 s0 (x6 + 1) h
set_option maxRecDepth 20000 in
set_option maxHeartbeats 4000000 in
theorem t_X12_settleOrKeep_51 {Ω : Om} {k19 : Nat → Int32 → Int32 → Int32 → Int32 → Int32 → Int32 → AH → Option (Unit × AH)} (c19 : ∀ (a0 : Nat) (x1 : Int32) (x2 : Int32) (x3 : Int32) (x4 : Int32) (x5 : Int32) (x6 : Int32) (h : AH) (q : Unit × AH), k19 a0 x1 x2 x3 x4 x5 x6 h = some q → Go Ω M_X12_settleOrKeep 19 [(0, vR Ω (some a0)), (1, .int x1), (2, .int x2), (3, .int x3), (4, .int x4), (5, .int x5), (6, .int x6)] [] h none q.2) (a0 : Nat) (x1 : Int32) (x2 : Int32) (x3 : Int32) (x4 : Int32) (x6 : Int32) (s0 : Int32) (h : AH) (q : Unit × AH) (hf : f_X12_settleOrKeep_51 k19 a0 x1 x2 x3 x4 x6 s0 h = some q) : Go Ω M_X12_settleOrKeep 51 [(0, vR Ω (some a0)), (1, .int x1), (2, .int x2), (3, .int x3), (4, .int x4), (6, .int x6)] [.int s0] h none q.2 := by
  unfold f_X12_settleOrKeep_51 at hf
  refine go_istore (i := 5) (lv' := [(5, .int s0), (0, vR Ω (some a0)), (1, .int x1), (2, .int x2), (3, .int x3), (4, .int x4), (6, .int x6)]) dX12_settleOrKeep_51 (by decide) (by first | rfl | simp [catR, catI, catJ]) ?_
  refine go_iinc (j := 6) (v := x6 + 1) (lv' := [(6, .int (x6 + 1)), (5, .int s0), (0, vR Ω (some a0)), (1, .int x1), (2, .int x2), (3, .int x3), (4, .int x4)]) dX12_settleOrKeep_53 rfl rfl (by decide) (by first | rfl | simp [catR, catI, catJ]) ?_
  refine go_goto (tgt := 19) dX12_settleOrKeep_56 (by decide) ?_
  refine go_sub (lv' := [(0, vR Ω (some a0)), (1, .int x1), (2, .int x2), (3, .int x3), (4, .int x4), (5, .int s0), (6, .int (x6 + 1))]) [2, 3, 4, 5, 6, 1, 0] rfl ?_
  exact c19 a0 x1 x2 x3 x4 s0 (x6 + 1) h q hf
def f_X12_settleOrKeep_59 (a0 : Nat) (x1 : Int32) (x2 : Int32) (x3 : Int32) (x4 : Int32) (x5 : Int32) (h : AH) : Option (Unit × AH) := (if x5 = 0 then
    kg h a0 13 (bd (f_X12_soft a0 x1 406 h) fun _ h_29 =>
    some ((), h_29))
  else
    rdR h a0 13 39 fun r_1 =>
    nn r_1 fun a_2 =>
    arZ h a_2 x1 fun x_3 =>
    (if x_3 = 0 then
      kg h a0 13 (bd (f_X12_settle a0 x1 x2 x3 x4 h) fun _ h_27 =>
      some ((), h_27))
    else
      rdR h a0 13 47 fun r_4 =>
      nn r_4 fun a_5 =>
      arI h a_5 x1 fun x_6 =>
      (if x_6 = 12 then
        kg h a0 13 (bd (f_X12_soft a0 x1 506 h) fun _ h_25 =>
        some ((), h_25))
      else
        rdR h a0 13 47 fun r_7 =>
        nn r_7 fun a_8 =>
        arI h a_8 x1 fun x_9 =>
        lt ((12 * x1) + x_9) fun x_10 =>
        rdR h a0 13 48 fun r_11 =>
        nn r_11 fun a_12 =>
        asI h a_12 x_10 x2 fun h_13 =>
        rdR h_13 a0 13 49 fun r_14 =>
        nn r_14 fun a_15 =>
        asJ h_13 a_15 x_10 x3.toInt64 fun h_16 =>
        rdR h_16 a0 13 51 fun r_17 =>
        nn r_17 fun a_18 =>
        asZ h_16 a_18 x_10 x4 fun h_19 =>
        rdR h_19 a0 13 47 fun r_20 =>
        nn r_20 fun a_21 =>
        arI h_19 a_21 x1 fun x_22 =>
        asI h_19 a_21 x1 (x_22 + 1) fun h_23 =>
        some ((), h_23))))
set_option maxRecDepth 20000 in
set_option maxHeartbeats 4000000 in
theorem t_X12_settleOrKeep_59 {Ω : Om} (a0 : Nat) (x1 : Int32) (x2 : Int32) (x3 : Int32) (x4 : Int32) (x5 : Int32) (h : AH) (q : Unit × AH) (hf : f_X12_settleOrKeep_59 a0 x1 x2 x3 x4 x5 h = some q) : Go Ω M_X12_settleOrKeep 59 [(0, vR Ω (some a0)), (1, .int x1), (2, .int x2), (3, .int x3), (4, .int x4), (5, .int x5)] [] h none q.2 := by
  unfold f_X12_settleOrKeep_59 at hf
  refine go_iload dX12_settleOrKeep_59 5 rfl ?_
  refine go_if_ne (tgt := 75) dX12_settleOrKeep_61 (by decide) hf (fun hf => ?_) (fun hf => ?_)
  · refine go_aload_n dX12_settleOrKeep_75 rfl 0 rfl ?_
    refine go_getR dX12_settleOrKeep_76 fl_1158_0 (fun _ _ => rfl) hf (fun r_1 hf => ?_)
    refine go_iload_n dX12_settleOrKeep_79 rfl 1 rfl ?_
    obtain ⟨a_2, rfl, hga_2⟩ := nn_some hf
    have hf := hga_2
    refine go_zaload dX12_settleOrKeep_80 hf (fun x_3 hf => ?_)
    refine go_if_ne (tgt := 96) dX12_settleOrKeep_81 (by decide) hf (fun hf => ?_) (fun hf => ?_)
    · refine go_aload_n dX12_settleOrKeep_96 rfl 0 rfl ?_
      refine go_getR dX12_settleOrKeep_97 fl_1166_0 (fun _ _ => rfl) hf (fun r_4 hf => ?_)
      refine go_iload_n dX12_settleOrKeep_100 rfl 1 rfl ?_
      obtain ⟨a_5, rfl, hga_5⟩ := nn_some hf
      have hf := hga_5
      refine go_iaload dX12_settleOrKeep_101 hf (fun x_6 hf => ?_)
      refine go_bipush 12 dX12_settleOrKeep_102 (by decide) ?_
      refine go_icmp_ne (tgt := 118) dX12_settleOrKeep_104 (by decide) hf (fun hf => ?_) (fun hf => ?_)
      · refine go_bipush 12 dX12_settleOrKeep_118 (by decide) ?_
        refine go_iload_n dX12_settleOrKeep_120 rfl 1 rfl ?_
        refine go_imul dX12_settleOrKeep_121 ?_
        refine go_aload_n dX12_settleOrKeep_122 rfl 0 rfl ?_
        refine go_getR dX12_settleOrKeep_123 fl_1166_0 (fun _ _ => rfl) hf (fun r_7 hf => ?_)
        refine go_iload_n dX12_settleOrKeep_126 rfl 1 rfl ?_
        obtain ⟨a_8, rfl, hga_8⟩ := nn_some hf
        have hf := hga_8
        refine go_iaload dX12_settleOrKeep_127 hf (fun x_9 hf => ?_)
        refine go_iadd dX12_settleOrKeep_128 ?_
        refine lt_I hf (fun x_10 hf => ?_)
        refine go_istore (i := 6) (lv' := [(6, .int x_10), (0, vR Ω (some a0)), (1, .int x1), (2, .int x2), (3, .int x3), (4, .int x4), (5, .int x5)]) dX12_settleOrKeep_129 (by decide) (by first | rfl | simp [catR, catI, catJ]) ?_
        refine go_aload_n dX12_settleOrKeep_131 rfl 1 rfl ?_
        refine go_getR dX12_settleOrKeep_132 fl_1167_0 (fun _ _ => rfl) hf (fun r_11 hf => ?_)
        refine go_iload dX12_settleOrKeep_135 0 rfl ?_
        refine go_iload_n dX12_settleOrKeep_137 rfl 3 rfl ?_
        obtain ⟨a_12, rfl, hga_12⟩ := nn_some hf
        have hf := hga_12
        refine go_iastore dX12_settleOrKeep_138 hf (fun h_13 hf => ?_)
        refine go_aload_n dX12_settleOrKeep_139 rfl 1 rfl ?_
        refine go_getR dX12_settleOrKeep_140 fl_1168_0 (fun _ _ => rfl) hf (fun r_14 hf => ?_)
        refine go_iload dX12_settleOrKeep_143 0 rfl ?_
        refine go_iload_n dX12_settleOrKeep_145 rfl 4 rfl ?_
        refine go_i2l dX12_settleOrKeep_146 ?_
        obtain ⟨a_15, rfl, hga_15⟩ := nn_some hf
        have hf := hga_15
        refine go_lastore dX12_settleOrKeep_147 hf (fun h_16 hf => ?_)
        refine go_aload_n dX12_settleOrKeep_148 rfl 1 rfl ?_
        refine go_getR dX12_settleOrKeep_149 fl_1170_0 (fun _ _ => rfl) hf (fun r_17 hf => ?_)
        refine go_iload dX12_settleOrKeep_152 0 rfl ?_
        refine go_iload dX12_settleOrKeep_154 5 rfl ?_
        obtain ⟨a_18, rfl, hga_18⟩ := nn_some hf
        have hf := hga_18
        refine go_zastore dX12_settleOrKeep_156 hf (fun h_19 hf => ?_)
        refine go_aload_n dX12_settleOrKeep_157 rfl 1 rfl ?_
        refine go_getR dX12_settleOrKeep_158 fl_1166_0 (fun _ _ => rfl) hf (fun r_20 hf => ?_)
        refine go_iload_n dX12_settleOrKeep_161 rfl 2 rfl ?_
        refine go_dup2 dX12_settleOrKeep_162 rfl catR ?_
        obtain ⟨a_21, rfl, hga_21⟩ := nn_some hf
        have hf := hga_21
        refine go_iaload dX12_settleOrKeep_163 hf (fun x_22 hf => ?_)
        refine go_iconst 1 dX12_settleOrKeep_164 rfl ?_
        refine go_iadd dX12_settleOrKeep_165 ?_
        refine go_iastore dX12_settleOrKeep_166 hf (fun h_23 hf => ?_)
        exact go_return dX12_settleOrKeep_167 rfl hf
      · refine go_aload_n dX12_settleOrKeep_107 rfl 0 rfl ?_
        refine go_iload_n dX12_settleOrKeep_108 rfl 1 rfl ?_
        refine go_sipush 506 dX12_settleOrKeep_109 (by decide) ?_
        obtain ⟨hk, hf⟩ := kg_some hf
        obtain ⟨z_24, hc, hf⟩ := bd_some hf
        refine go_callV (y2 := M_X12_soft) (c2 := 13) dX12_settleOrKeep_112 mo_X12_soft ⟨Nat.le_of_ble_eq_true rfl, Nat.le_of_ble_eq_true rfl⟩ na_X12_soft w1432 w1434 (by decide) rfl w76 hk [.int x1, .int 506] rfl (n_X12_soft (a0) x1 506) rfl (csum (Nat.le_of_ble_eq_true rfl)) (t_X12_soft (a0) x1 506 h _ hc) ?_
        obtain ⟨_, h_25⟩ := z_24
        refine go_goto (tgt := 167) dX12_settleOrKeep_115 (by decide) ?_
        exact go_return dX12_settleOrKeep_167 rfl hf
    · refine go_aload_n dX12_settleOrKeep_84 rfl 0 rfl ?_
      refine go_iload_n dX12_settleOrKeep_85 rfl 1 rfl ?_
      refine go_iload_n dX12_settleOrKeep_86 rfl 2 rfl ?_
      refine go_iload_n dX12_settleOrKeep_87 rfl 3 rfl ?_
      refine go_iload dX12_settleOrKeep_88 4 rfl ?_
      obtain ⟨hk, hf⟩ := kg_some hf
      obtain ⟨z_26, hc, hf⟩ := bd_some hf
      refine go_callV (y2 := M_X12_settle) (c2 := 13) dX12_settleOrKeep_90 mo_X12_settle ⟨Nat.le_of_ble_eq_true rfl, Nat.le_of_ble_eq_true rfl⟩ na_X12_settle w1547 w1549 (by decide) rfl w104 hk [.int x1, .int x2, .int x3, .int x4] rfl (n_X12_settle (a0) x1 x2 x3 x4) rfl (csum (Nat.le_of_ble_eq_true rfl)) (t_X12_settle (a0) x1 x2 x3 x4 h _ hc) ?_
      obtain ⟨_, h_27⟩ := z_26
      refine go_goto (tgt := 167) dX12_settleOrKeep_93 (by decide) ?_
      exact go_return dX12_settleOrKeep_167 rfl hf
  · refine go_aload_n dX12_settleOrKeep_64 rfl 0 rfl ?_
    refine go_iload_n dX12_settleOrKeep_65 rfl 1 rfl ?_
    refine go_sipush 406 dX12_settleOrKeep_66 (by decide) ?_
    obtain ⟨hk, hf⟩ := kg_some hf
    obtain ⟨z_28, hc, hf⟩ := bd_some hf
    refine go_callV (y2 := M_X12_soft) (c2 := 13) dX12_settleOrKeep_69 mo_X12_soft ⟨Nat.le_of_ble_eq_true rfl, Nat.le_of_ble_eq_true rfl⟩ na_X12_soft w1432 w1434 (by decide) rfl w76 hk [.int x1, .int 406] rfl (n_X12_soft (a0) x1 406) rfl (csum (Nat.le_of_ble_eq_true rfl)) (t_X12_soft (a0) x1 406 h _ hc) ?_
    obtain ⟨_, h_29⟩ := z_28
    refine go_goto (tgt := 167) dX12_settleOrKeep_72 (by decide) ?_
    exact go_return dX12_settleOrKeep_167 rfl hf
def f_X12_settleOrKeep_19 : Nat → Nat → Int32 → Int32 → Int32 → Int32 → Int32 → Int32 → AH → Option (Unit × AH)
  | 0, _, _, _, _, _, _, _, _ => none
  | n + 1, a0, x1, x2, x3, x4, x5, x6, h => rdI h a0 13 24 fun x_1 =>
    (if x_1 ≤ x6 then
      f_X12_settleOrKeep_59 a0 x1 x2 x3 x4 x5 h
    else
      (if x5 = 0 then
        kg h a0 13 (bd (f_X12_isMeant a0 x6 x1 x3 x4 h) fun x_4 h_3 =>
        (if x_4 = 0 then
          f_X12_settleOrKeep_51 (fun a0 x1 x2 x3 x4 x5 x6 h => f_X12_settleOrKeep_19 n a0 x1 x2 x3 x4 x5 x6 h) a0 x1 x2 x3 x4 x6 0 h_3
        else
          f_X12_settleOrKeep_51 (fun a0 x1 x2 x3 x4 x5 x6 h => f_X12_settleOrKeep_19 n a0 x1 x2 x3 x4 x5 x6 h) a0 x1 x2 x3 x4 x6 1 h_3))
      else
        f_X12_settleOrKeep_51 (fun a0 x1 x2 x3 x4 x5 x6 h => f_X12_settleOrKeep_19 n a0 x1 x2 x3 x4 x5 x6 h) a0 x1 x2 x3 x4 x6 1 h))
set_option maxRecDepth 20000 in
set_option maxHeartbeats 4000000 in
theorem t_X12_settleOrKeep_19 {Ω : Om} : ∀ (n : Nat) (a0 : Nat) (x1 : Int32) (x2 : Int32) (x3 : Int32) (x4 : Int32) (x5 : Int32) (x6 : Int32) (h : AH) (q : Unit × AH), f_X12_settleOrKeep_19 n a0 x1 x2 x3 x4 x5 x6 h = some q → Go Ω M_X12_settleOrKeep 19 [(0, vR Ω (some a0)), (1, .int x1), (2, .int x2), (3, .int x3), (4, .int x4), (5, .int x5), (6, .int x6)] [] h none q.2 := by
  intro n
  induction n with
  | zero => intro a0 x1 x2 x3 x4 x5 x6 h q hf; cases hf
  | succ n ih =>
    intro a0 x1 x2 x3 x4 x5 x6 h q hf
    rw [f_X12_settleOrKeep_19] at hf
    refine go_iload dX12_settleOrKeep_19 6 rfl ?_
    refine go_aload_n dX12_settleOrKeep_21 rfl 0 rfl ?_
    refine go_getI dX12_settleOrKeep_22 fl_1143_0 (fun _ _ => rfl) hf (fun x_1 hf => ?_)
    refine go_icmp_ge (tgt := 59) dX12_settleOrKeep_25 (by decide) hf (fun hf => ?_) (fun hf => ?_)
    · refine go_sub (lv' := [(0, vR Ω (some a0)), (1, .int x1), (2, .int x2), (3, .int x3), (4, .int x4), (5, .int x5)]) [0, 1, 2, 3, 4, 5] rfl ?_
      exact t_X12_settleOrKeep_59 a0 x1 x2 x3 x4 x5 h q hf
    · refine go_iload dX12_settleOrKeep_28 5 rfl ?_
      refine go_if_ne (tgt := 46) dX12_settleOrKeep_30 (by decide) hf (fun hf => ?_) (fun hf => ?_)
      · refine go_iconst 1 dX12_settleOrKeep_46 rfl ?_
        refine go_goto (tgt := 51) dX12_settleOrKeep_47 (by decide) ?_
        refine go_sub (lv' := [(0, vR Ω (some a0)), (1, .int x1), (2, .int x2), (3, .int x3), (4, .int x4), (6, .int x6)]) [0, 1, 2, 3, 4, 6] rfl ?_
        exact t_X12_settleOrKeep_51 ih a0 x1 x2 x3 x4 x6 1 h q hf
      · refine go_aload_n dX12_settleOrKeep_33 rfl 0 rfl ?_
        refine go_iload dX12_settleOrKeep_34 6 rfl ?_
        refine go_iload_n dX12_settleOrKeep_36 rfl 1 rfl ?_
        refine go_iload_n dX12_settleOrKeep_37 rfl 3 rfl ?_
        refine go_iload dX12_settleOrKeep_38 4 rfl ?_
        obtain ⟨hk, hf⟩ := kg_some hf
        obtain ⟨z_2, hc, hf⟩ := bd_some hf
        refine go_callV (y2 := M_X12_isMeant) (c2 := 13) dX12_settleOrKeep_40 mo_X12_isMeant ⟨Nat.le_of_ble_eq_true rfl, Nat.le_of_ble_eq_true rfl⟩ na_X12_isMeant w1543 w1545 (by decide) rfl w103 hk [.int x6, .int x1, .int x3, .int x4] rfl (n_X12_isMeant (a0) x6 x1 x3 x4) rfl (csum (Nat.le_of_ble_eq_true rfl)) (t_X12_isMeant (a0) x6 x1 x3 x4 h _ hc) ?_
        obtain ⟨x_4, h_3⟩ := z_2
        refine go_if_eq (tgt := 50) dX12_settleOrKeep_43 (by decide) hf (fun hf => ?_) (fun hf => ?_)
        · refine go_iconst 0 dX12_settleOrKeep_50 rfl ?_
          refine go_sub (lv' := [(0, vR Ω (some a0)), (1, .int x1), (2, .int x2), (3, .int x3), (4, .int x4), (6, .int x6)]) [0, 1, 2, 3, 4, 6] rfl ?_
          exact t_X12_settleOrKeep_51 ih a0 x1 x2 x3 x4 x6 0 h_3 q hf
        · refine go_iconst 1 dX12_settleOrKeep_46 rfl ?_
          refine go_goto (tgt := 51) dX12_settleOrKeep_47 (by decide) ?_
          refine go_sub (lv' := [(0, vR Ω (some a0)), (1, .int x1), (2, .int x2), (3, .int x3), (4, .int x4), (6, .int x6)]) [0, 1, 2, 3, 4, 6] rfl ?_
          exact t_X12_settleOrKeep_51 ih a0 x1 x2 x3 x4 x6 1 h_3 q hf
def f_X12_settleOrKeep (a0 : Nat) (x1 : Int32) (x2 : Int32) (x3 : Int32) (x4 : Int32) (h : AH) : Option (Unit × AH) := (if x4 = 0 then
    f_X12_settleOrKeep_19 FU a0 x1 x2 x3 x4 0 0 h
  else
    (if x3 = 0 then
      f_X12_settleOrKeep_19 FU a0 x1 x2 x3 x4 1 0 h
    else
      f_X12_settleOrKeep_19 FU a0 x1 x2 x3 x4 0 0 h))
set_option maxRecDepth 20000 in
set_option maxHeartbeats 4000000 in
theorem t_X12_settleOrKeep {Ω : Om} (a0 : Nat) (x1 : Int32) (x2 : Int32) (x3 : Int32) (x4 : Int32) (h : AH) (q : Unit × AH) (hf : f_X12_settleOrKeep a0 x1 x2 x3 x4 h = some q) : Go Ω M_X12_settleOrKeep 0 (lv_args 0 [vR Ω (some a0), .int x1, .int x2, .int x3, .int x4]) [] h none q.2 := by
  unfold f_X12_settleOrKeep at hf
  rw [la_R, la_I, la_I, la_I, la_I, la_0]
  refine go_sub (lv' := [(0, vR Ω (some a0)), (1, .int x1), (2, .int x2), (3, .int x3), (4, .int x4)]) [0, 1, 2, 3, 4] rfl ?_
  refine go_iload dX12_settleOrKeep_0 4 rfl ?_
  refine go_if_eq (tgt := 13) dX12_settleOrKeep_2 (by decide) hf (fun hf => ?_) (fun hf => ?_)
  · refine go_iconst 0 dX12_settleOrKeep_13 rfl ?_
    refine go_istore (i := 5) (lv' := [(5, .int 0), (0, vR Ω (some a0)), (1, .int x1), (2, .int x2), (3, .int x3), (4, .int x4)]) dX12_settleOrKeep_14 (by decide) (by first | rfl | simp [catR, catI, catJ]) ?_
    refine go_iconst 0 dX12_settleOrKeep_16 rfl ?_
    refine go_istore (i := 6) (lv' := [(6, .int 0), (5, .int 0), (0, vR Ω (some a0)), (1, .int x1), (2, .int x2), (3, .int x3), (4, .int x4)]) dX12_settleOrKeep_17 (by decide) (by first | rfl | simp [catR, catI, catJ]) ?_
    refine go_sub (lv' := [(0, vR Ω (some a0)), (1, .int x1), (2, .int x2), (3, .int x3), (4, .int x4), (5, .int 0), (6, .int 0)]) [2, 3, 4, 5, 6, 1, 0] rfl ?_
    exact t_X12_settleOrKeep_19 FU a0 x1 x2 x3 x4 0 0 h q hf
  · refine go_iload_n dX12_settleOrKeep_5 rfl 3 rfl ?_
    refine go_if_ne (tgt := 13) dX12_settleOrKeep_6 (by decide) hf (fun hf => ?_) (fun hf => ?_)
    · refine go_iconst 0 dX12_settleOrKeep_13 rfl ?_
      refine go_istore (i := 5) (lv' := [(5, .int 0), (0, vR Ω (some a0)), (1, .int x1), (2, .int x2), (3, .int x3), (4, .int x4)]) dX12_settleOrKeep_14 (by decide) (by first | rfl | simp [catR, catI, catJ]) ?_
      refine go_iconst 0 dX12_settleOrKeep_16 rfl ?_
      refine go_istore (i := 6) (lv' := [(6, .int 0), (5, .int 0), (0, vR Ω (some a0)), (1, .int x1), (2, .int x2), (3, .int x3), (4, .int x4)]) dX12_settleOrKeep_17 (by decide) (by first | rfl | simp [catR, catI, catJ]) ?_
      refine go_sub (lv' := [(0, vR Ω (some a0)), (1, .int x1), (2, .int x2), (3, .int x3), (4, .int x4), (5, .int 0), (6, .int 0)]) [2, 3, 4, 5, 6, 1, 0] rfl ?_
      exact t_X12_settleOrKeep_19 FU a0 x1 x2 x3 x4 0 0 h q hf
    · refine go_iconst 1 dX12_settleOrKeep_9 rfl ?_
      refine go_goto (tgt := 14) dX12_settleOrKeep_10 (by decide) ?_
      refine go_istore (i := 5) (lv' := [(5, .int 1), (0, vR Ω (some a0)), (1, .int x1), (2, .int x2), (3, .int x3), (4, .int x4)]) dX12_settleOrKeep_14 (by decide) (by first | rfl | simp [catR, catI, catJ]) ?_
      refine go_iconst 0 dX12_settleOrKeep_16 rfl ?_
      refine go_istore (i := 6) (lv' := [(6, .int 0), (5, .int 1), (0, vR Ω (some a0)), (1, .int x1), (2, .int x2), (3, .int x3), (4, .int x4)]) dX12_settleOrKeep_17 (by decide) (by first | rfl | simp [catR, catI, catJ]) ?_
      refine go_sub (lv' := [(0, vR Ω (some a0)), (1, .int x1), (2, .int x2), (3, .int x3), (4, .int x4), (5, .int 1), (6, .int 0)]) [2, 3, 4, 5, 6, 1, 0] rfl ?_
      exact t_X12_settleOrKeep_19 FU a0 x1 x2 x3 x4 1 0 h q hf
-- LetterBrokerModel.letterMethod(I)V
theorem dX12_letterMethod_0 : decode cX12_letterMethod 0 = .ok (.aload_n 0, 1) := by decide +kernel
theorem dX12_letterMethod_1 : decode cX12_letterMethod 1 = .ok (.getfield 318, 3) := by decide +kernel
theorem dX12_letterMethod_4 : decode cX12_letterMethod 4 = .ok (.istore_n 2, 1) := by decide +kernel
theorem dX12_letterMethod_5 : decode cX12_letterMethod 5 = .ok (.iload_n 1, 1) := by decide +kernel
theorem dX12_letterMethod_6 : decode cX12_letterMethod 6 = .ok (.lookupswitch 218 #[(10, 74), (20, 105), (30, 112), (40, 119), (70, 126), (80, 133), (90, 133), (120, 133)], 74) := by decide +kernel
theorem dX12_letterMethod_80 : decode cX12_letterMethod 80 = .ok (.aload_n 0, 1) := by decide +kernel
theorem dX12_letterMethod_81 : decode cX12_letterMethod 81 = .ok (.invokevirtual 311, 3) := by decide +kernel
theorem dX12_letterMethod_84 : decode cX12_letterMethod 84 = .ok (.istore_n 3, 1) := by decide +kernel
theorem dX12_letterMethod_85 : decode cX12_letterMethod 85 = .ok (.aload_n 0, 1) := by decide +kernel
theorem dX12_letterMethod_86 : decode cX12_letterMethod 86 = .ok (.invokevirtual 329, 3) := by decide +kernel
theorem dX12_letterMethod_89 : decode cX12_letterMethod 89 = .ok (.ifCond .eq 156, 3) := by decide +kernel
theorem dX12_letterMethod_92 : decode cX12_letterMethod 92 = .ok (.aload_n 0, 1) := by decide +kernel
theorem dX12_letterMethod_93 : decode cX12_letterMethod 93 = .ok (.getfield 91, 3) := by decide +kernel
theorem dX12_letterMethod_96 : decode cX12_letterMethod 96 = .ok (.iload_n 2, 1) := by decide +kernel
theorem dX12_letterMethod_97 : decode cX12_letterMethod 97 = .ok (.iload_n 3, 1) := by decide +kernel
theorem dX12_letterMethod_98 : decode cX12_letterMethod 98 = .ok (.iastore, 1) := by decide +kernel
theorem dX12_letterMethod_99 : decode cX12_letterMethod 99 = .ok (.aload_n 0, 1) := by decide +kernel
theorem dX12_letterMethod_100 : decode cX12_letterMethod 100 = .ok (.iload_n 2, 1) := by decide +kernel
theorem dX12_letterMethod_101 : decode cX12_letterMethod 101 = .ok (.bipush 60, 2) := by decide +kernel
theorem dX12_letterMethod_103 : decode cX12_letterMethod 103 = .ok (.bipush 11, 2) := by decide +kernel
theorem dX12_letterMethod_105 : decode cX12_letterMethod 105 = .ok (.invokevirtual 278, 3) := by decide +kernel
theorem dX12_letterMethod_108 : decode cX12_letterMethod 108 = .ok (.goto 137, 3) := by decide +kernel
theorem dX12_letterMethod_111 : decode cX12_letterMethod 111 = .ok (.aload_n 0, 1) := by decide +kernel
theorem dX12_letterMethod_112 : decode cX12_letterMethod 112 = .ok (.invokevirtual 380, 3) := by decide +kernel
theorem dX12_letterMethod_115 : decode cX12_letterMethod 115 = .ok (.goto 130, 3) := by decide +kernel
theorem dX12_letterMethod_118 : decode cX12_letterMethod 118 = .ok (.aload_n 0, 1) := by decide +kernel
theorem dX12_letterMethod_119 : decode cX12_letterMethod 119 = .ok (.invokevirtual 383, 3) := by decide +kernel
theorem dX12_letterMethod_122 : decode cX12_letterMethod 122 = .ok (.goto 123, 3) := by decide +kernel
theorem dX12_letterMethod_125 : decode cX12_letterMethod 125 = .ok (.aload_n 0, 1) := by decide +kernel
theorem dX12_letterMethod_126 : decode cX12_letterMethod 126 = .ok (.invokevirtual 386, 3) := by decide +kernel
theorem dX12_letterMethod_129 : decode cX12_letterMethod 129 = .ok (.goto 116, 3) := by decide +kernel
theorem dX12_letterMethod_132 : decode cX12_letterMethod 132 = .ok (.aload_n 0, 1) := by decide +kernel
theorem dX12_letterMethod_133 : decode cX12_letterMethod 133 = .ok (.invokevirtual 389, 3) := by decide +kernel
theorem dX12_letterMethod_136 : decode cX12_letterMethod 136 = .ok (.goto 109, 3) := by decide +kernel
theorem dX12_letterMethod_139 : decode cX12_letterMethod 139 = .ok (.aload_n 0, 1) := by decide +kernel
theorem dX12_letterMethod_140 : decode cX12_letterMethod 140 = .ok (.invokevirtual 392, 3) := by decide +kernel
theorem dX12_letterMethod_143 : decode cX12_letterMethod 143 = .ok (.istore 4, 2) := by decide +kernel
theorem dX12_letterMethod_145 : decode cX12_letterMethod 145 = .ok (.iload_n 1, 1) := by decide +kernel
theorem dX12_letterMethod_146 : decode cX12_letterMethod 146 = .ok (.bipush 90, 2) := by decide +kernel
theorem dX12_letterMethod_148 : decode cX12_letterMethod 148 = .ok (.if_icmp .eq 14, 3) := by decide +kernel
theorem dX12_letterMethod_151 : decode cX12_letterMethod 151 = .ok (.aload_n 0, 1) := by decide +kernel
theorem dX12_letterMethod_152 : decode cX12_letterMethod 152 = .ok (.invokevirtual 325, 3) := by decide +kernel
theorem dX12_letterMethod_155 : decode cX12_letterMethod 155 = .ok (.ifCond .eq 7, 3) := by decide +kernel
theorem dX12_letterMethod_158 : decode cX12_letterMethod 158 = .ok (.iconst 1, 1) := by decide +kernel
theorem dX12_letterMethod_159 : decode cX12_letterMethod 159 = .ok (.goto 4, 3) := by decide +kernel
theorem dX12_letterMethod_162 : decode cX12_letterMethod 162 = .ok (.iconst 0, 1) := by decide +kernel
theorem dX12_letterMethod_163 : decode cX12_letterMethod 163 = .ok (.istore 5, 2) := by decide +kernel
theorem dX12_letterMethod_165 : decode cX12_letterMethod 165 = .ok (.iload_n 1, 1) := by decide +kernel
theorem dX12_letterMethod_166 : decode cX12_letterMethod 166 = .ok (.bipush 80, 2) := by decide +kernel
theorem dX12_letterMethod_168 : decode cX12_letterMethod 168 = .ok (.if_icmp .eq 14, 3) := by decide +kernel
theorem dX12_letterMethod_171 : decode cX12_letterMethod 171 = .ok (.aload_n 0, 1) := by decide +kernel
theorem dX12_letterMethod_172 : decode cX12_letterMethod 172 = .ok (.invokevirtual 325, 3) := by decide +kernel
theorem dX12_letterMethod_175 : decode cX12_letterMethod 175 = .ok (.ifCond .eq 7, 3) := by decide +kernel
theorem dX12_letterMethod_178 : decode cX12_letterMethod 178 = .ok (.iconst 1, 1) := by decide +kernel
theorem dX12_letterMethod_179 : decode cX12_letterMethod 179 = .ok (.goto 4, 3) := by decide +kernel
theorem dX12_letterMethod_182 : decode cX12_letterMethod 182 = .ok (.iconst 0, 1) := by decide +kernel
theorem dX12_letterMethod_183 : decode cX12_letterMethod 183 = .ok (.istore 6, 2) := by decide +kernel
theorem dX12_letterMethod_185 : decode cX12_letterMethod 185 = .ok (.aload_n 0, 1) := by decide +kernel
theorem dX12_letterMethod_186 : decode cX12_letterMethod 186 = .ok (.invokevirtual 329, 3) := by decide +kernel
theorem dX12_letterMethod_189 : decode cX12_letterMethod 189 = .ok (.ifCond .eq 56, 3) := by decide +kernel
theorem dX12_letterMethod_192 : decode cX12_letterMethod 192 = .ok (.aload_n 0, 1) := by decide +kernel
theorem dX12_letterMethod_193 : decode cX12_letterMethod 193 = .ok (.iload_n 2, 1) := by decide +kernel
theorem dX12_letterMethod_194 : decode cX12_letterMethod 194 = .ok (.iload_n 1, 1) := by decide +kernel
theorem dX12_letterMethod_195 : decode cX12_letterMethod 195 = .ok (.bipush 80, 2) := by decide +kernel
theorem dX12_letterMethod_197 : decode cX12_letterMethod 197 = .ok (.if_icmp .ne 7, 3) := by decide +kernel
theorem dX12_letterMethod_200 : decode cX12_letterMethod 200 = .ok (.iconst 1, 1) := by decide +kernel
theorem dX12_letterMethod_201 : decode cX12_letterMethod 201 = .ok (.goto 13, 3) := by decide +kernel
theorem dX12_letterMethod_204 : decode cX12_letterMethod 204 = .ok (.iload 6, 2) := by decide +kernel
theorem dX12_letterMethod_206 : decode cX12_letterMethod 206 = .ok (.ifCond .eq 7, 3) := by decide +kernel
theorem dX12_letterMethod_209 : decode cX12_letterMethod 209 = .ok (.iconst 2, 1) := by decide +kernel
theorem dX12_letterMethod_210 : decode cX12_letterMethod 210 = .ok (.goto 4, 3) := by decide +kernel
theorem dX12_letterMethod_213 : decode cX12_letterMethod 213 = .ok (.iconst 3, 1) := by decide +kernel
theorem dX12_letterMethod_214 : decode cX12_letterMethod 214 = .ok (.iload 4, 2) := by decide +kernel
theorem dX12_letterMethod_216 : decode cX12_letterMethod 216 = .ok (.iload 5, 2) := by decide +kernel
theorem dX12_letterMethod_218 : decode cX12_letterMethod 218 = .ok (.invokevirtual 395, 3) := by decide +kernel
theorem dX12_letterMethod_221 : decode cX12_letterMethod 221 = .ok (.goto 24, 3) := by decide +kernel
theorem dX12_letterMethod_224 : decode cX12_letterMethod 224 = .ok (.aload_n 0, 1) := by decide +kernel
theorem dX12_letterMethod_225 : decode cX12_letterMethod 225 = .ok (.invokevirtual 329, 3) := by decide +kernel
theorem dX12_letterMethod_228 : decode cX12_letterMethod 228 = .ok (.ifCond .eq 17, 3) := by decide +kernel
theorem dX12_letterMethod_231 : decode cX12_letterMethod 231 = .ok (.aload_n 0, 1) := by decide +kernel
theorem dX12_letterMethod_232 : decode cX12_letterMethod 232 = .ok (.iload_n 2, 1) := by decide +kernel
theorem dX12_letterMethod_233 : decode cX12_letterMethod 233 = .ok (.invokevirtual 204, 3) := by decide +kernel
theorem dX12_letterMethod_236 : decode cX12_letterMethod 236 = .ok (.aload_n 0, 1) := by decide +kernel
theorem dX12_letterMethod_237 : decode cX12_letterMethod 237 = .ok (.iload_n 2, 1) := by decide +kernel
theorem dX12_letterMethod_238 : decode cX12_letterMethod 238 = .ok (.bipush 60, 2) := by decide +kernel
theorem dX12_letterMethod_240 : decode cX12_letterMethod 240 = .ok (.bipush 111, 2) := by decide +kernel
theorem dX12_letterMethod_242 : decode cX12_letterMethod 242 = .ok (.invokevirtual 278, 3) := by decide +kernel
theorem dX12_letterMethod_245 : decode cX12_letterMethod 245 = .ok (.return_, 1) := by decide +kernel
def f_X12_letterMethod_214 (x4 : Int32) (x5 : Int32) (s0 : Int32) (s1 : Int32) (s2 : Option Nat) (h : AH) : Option (Unit × AH) := nn s2 fun a_1 =>
  kg h a_1 13 (bd (f_X12_settleOrKeep a_1 s1 s0 x4 x5 h) fun _ h_3 =>
  some ((), h_3))
set_option maxRecDepth 20000 in
set_option maxHeartbeats 4000000 in
theorem t_X12_letterMethod_214 {Ω : Om} (x4 : Int32) (x5 : Int32) (s0 : Int32) (s1 : Int32) (s2 : Option Nat) (h : AH) (q : Unit × AH) (hf : f_X12_letterMethod_214 x4 x5 s0 s1 s2 h = some q) : Go Ω M_X12_letterMethod 214 [(4, .int x4), (5, .int x5)] [.int s0, .int s1, vR Ω s2] h none q.2 := by
  unfold f_X12_letterMethod_214 at hf
  refine go_iload dX12_letterMethod_214 0 rfl ?_
  refine go_iload dX12_letterMethod_216 1 rfl ?_
  obtain ⟨a_1, rfl, hga_1⟩ := nn_some hf
  have hf := hga_1
  obtain ⟨hk, hf⟩ := kg_some hf
  obtain ⟨z_2, hc, hf⟩ := bd_some hf
  refine go_callV (y2 := M_X12_settleOrKeep) (c2 := 13) dX12_letterMethod_218 mo_X12_settleOrKeep ⟨Nat.le_of_ble_eq_true rfl, Nat.le_of_ble_eq_true rfl⟩ na_X12_settleOrKeep w1539 w1541 (by decide) rfl w102 hk [.int s1, .int s0, .int x4, .int x5] rfl (n_X12_settleOrKeep (a_1) s1 s0 x4 x5) rfl (csum (Nat.le_of_ble_eq_true rfl)) (t_X12_settleOrKeep (a_1) s1 s0 x4 x5 h _ hc) ?_
  obtain ⟨_, h_3⟩ := z_2
  refine go_goto (tgt := 245) dX12_letterMethod_221 (by decide) ?_
  exact go_return dX12_letterMethod_245 rfl hf
def f_X12_letterMethod_183 (a0 : Nat) (x1 : Int32) (x2 : Int32) (x4 : Int32) (x5 : Int32) (s0 : Int32) (h : AH) : Option (Unit × AH) := kg h a0 13 (bd (f_X12_isJust a0 h) fun x_3 h_2 =>
  (if x_3 = 0 then
    some ((), h_2)
  else
    (if x1 = 80 then
      f_X12_letterMethod_214 x4 x5 1 x2 (some a0) h_2
    else
      (if s0 = 0 then
        f_X12_letterMethod_214 x4 x5 3 x2 (some a0) h_2
      else
        f_X12_letterMethod_214 x4 x5 2 x2 (some a0) h_2))))
set_option maxRecDepth 20000 in
set_option maxHeartbeats 4000000 in
theorem t_X12_letterMethod_183 {Ω : Om} (a0 : Nat) (x1 : Int32) (x2 : Int32) (x4 : Int32) (x5 : Int32) (s0 : Int32) (h : AH) (q : Unit × AH) (hf : f_X12_letterMethod_183 a0 x1 x2 x4 x5 s0 h = some q) : Go Ω M_X12_letterMethod 183 [(0, vR Ω (some a0)), (1, .int x1), (2, .int x2), (4, .int x4), (5, .int x5)] [.int s0] h none q.2 := by
  unfold f_X12_letterMethod_183 at hf
  refine go_istore (i := 6) (lv' := [(6, .int s0), (0, vR Ω (some a0)), (1, .int x1), (2, .int x2), (4, .int x4), (5, .int x5)]) dX12_letterMethod_183 (by decide) (by first | rfl | simp [catR, catI, catJ]) ?_
  refine go_aload_n dX12_letterMethod_185 rfl 1 rfl ?_
  obtain ⟨hk, hf⟩ := kg_some hf
  obtain ⟨z_1, hc, hf⟩ := bd_some hf
  refine go_callV (y2 := M_X12_isJust) (c2 := 13) dX12_letterMethod_186 mo_X12_isJust ⟨Nat.le_of_ble_eq_true rfl, Nat.le_of_ble_eq_true rfl⟩ na_X12_isJust w1405 w1407 (by decide) rfl w70 hk [] rfl (n_X12_isJust (a0)) rfl (csum (Nat.le_of_ble_eq_true rfl)) (t_X12_isJust (a0) h _ hc) ?_
  obtain ⟨x_3, h_2⟩ := z_1
  refine go_if_eq (tgt := 245) dX12_letterMethod_189 (by decide) hf (fun hf => ?_) (fun hf => ?_)
  · exact go_return dX12_letterMethod_245 rfl hf
  · refine go_aload_n dX12_letterMethod_192 rfl 1 rfl ?_
    refine go_iload_n dX12_letterMethod_193 rfl 3 rfl ?_
    refine go_iload_n dX12_letterMethod_194 rfl 2 rfl ?_
    refine go_bipush 80 dX12_letterMethod_195 (by decide) ?_
    refine go_icmp_ne (tgt := 204) dX12_letterMethod_197 (by decide) hf (fun hf => ?_) (fun hf => ?_)
    · refine go_iload dX12_letterMethod_204 0 rfl ?_
      refine go_if_eq (tgt := 213) dX12_letterMethod_206 (by decide) hf (fun hf => ?_) (fun hf => ?_)
      · refine go_iconst 3 dX12_letterMethod_213 rfl ?_
        refine go_sub (lv' := [(4, .int x4), (5, .int x5)]) [4, 5] rfl ?_
        exact t_X12_letterMethod_214 x4 x5 3 x2 (some a0) h_2 q hf
      · refine go_iconst 2 dX12_letterMethod_209 rfl ?_
        refine go_goto (tgt := 214) dX12_letterMethod_210 (by decide) ?_
        refine go_sub (lv' := [(4, .int x4), (5, .int x5)]) [4, 5] rfl ?_
        exact t_X12_letterMethod_214 x4 x5 2 x2 (some a0) h_2 q hf
    · refine go_iconst 1 dX12_letterMethod_200 rfl ?_
      refine go_goto (tgt := 214) dX12_letterMethod_201 (by decide) ?_
      refine go_sub (lv' := [(4, .int x4), (5, .int x5)]) [4, 5] rfl ?_
      exact t_X12_letterMethod_214 x4 x5 1 x2 (some a0) h_2 q hf
def f_X12_letterMethod_163 (a0 : Nat) (x1 : Int32) (x2 : Int32) (x4 : Int32) (s0 : Int32) (h : AH) : Option (Unit × AH) := (if x1 = 80 then
    f_X12_letterMethod_183 a0 x1 x2 x4 s0 0 h
  else
    kg h a0 13 (bd (f_X12_nextTruth a0 h) fun x_3 h_2 =>
    (if x_3 = 0 then
      f_X12_letterMethod_183 a0 x1 x2 x4 s0 0 h_2
    else
      f_X12_letterMethod_183 a0 x1 x2 x4 s0 1 h_2)))
set_option maxRecDepth 20000 in
set_option maxHeartbeats 4000000 in
theorem t_X12_letterMethod_163 {Ω : Om} (a0 : Nat) (x1 : Int32) (x2 : Int32) (x4 : Int32) (s0 : Int32) (h : AH) (q : Unit × AH) (hf : f_X12_letterMethod_163 a0 x1 x2 x4 s0 h = some q) : Go Ω M_X12_letterMethod 163 [(0, vR Ω (some a0)), (1, .int x1), (2, .int x2), (4, .int x4)] [.int s0] h none q.2 := by
  unfold f_X12_letterMethod_163 at hf
  refine go_istore (i := 5) (lv' := [(5, .int s0), (0, vR Ω (some a0)), (1, .int x1), (2, .int x2), (4, .int x4)]) dX12_letterMethod_163 (by decide) (by first | rfl | simp [catR, catI, catJ]) ?_
  refine go_iload_n dX12_letterMethod_165 rfl 2 rfl ?_
  refine go_bipush 80 dX12_letterMethod_166 (by decide) ?_
  refine go_icmp_eq (tgt := 182) dX12_letterMethod_168 (by decide) hf (fun hf => ?_) (fun hf => ?_)
  · refine go_iconst 0 dX12_letterMethod_182 rfl ?_
    refine go_sub (lv' := [(0, vR Ω (some a0)), (1, .int x1), (2, .int x2), (4, .int x4), (5, .int s0)]) [1, 2, 3, 4, 0] rfl ?_
    exact t_X12_letterMethod_183 a0 x1 x2 x4 s0 0 h q hf
  · refine go_aload_n dX12_letterMethod_171 rfl 1 rfl ?_
    obtain ⟨hk, hf⟩ := kg_some hf
    obtain ⟨z_1, hc, hf⟩ := bd_some hf
    refine go_callV (y2 := M_X12_nextTruth) (c2 := 13) dX12_letterMethod_172 mo_X12_nextTruth ⟨Nat.le_of_ble_eq_true rfl, Nat.le_of_ble_eq_true rfl⟩ na_X12_nextTruth w1424 w1426 (by decide) rfl w74 hk [] rfl (n_X12_nextTruth (a0)) rfl (csum (Nat.le_of_ble_eq_true rfl)) (t_X12_nextTruth (a0) h _ hc) ?_
    obtain ⟨x_3, h_2⟩ := z_1
    refine go_if_eq (tgt := 182) dX12_letterMethod_175 (by decide) hf (fun hf => ?_) (fun hf => ?_)
    · refine go_iconst 0 dX12_letterMethod_182 rfl ?_
      refine go_sub (lv' := [(0, vR Ω (some a0)), (1, .int x1), (2, .int x2), (4, .int x4), (5, .int s0)]) [1, 2, 3, 4, 0] rfl ?_
      exact t_X12_letterMethod_183 a0 x1 x2 x4 s0 0 h_2 q hf
    · refine go_iconst 1 dX12_letterMethod_178 rfl ?_
      refine go_goto (tgt := 183) dX12_letterMethod_179 (by decide) ?_
      refine go_sub (lv' := [(0, vR Ω (some a0)), (1, .int x1), (2, .int x2), (4, .int x4), (5, .int s0)]) [1, 2, 3, 4, 0] rfl ?_
      exact t_X12_letterMethod_183 a0 x1 x2 x4 s0 1 h_2 q hf
def f_X12_letterMethod (a0 : Nat) (x1 : Int32) (h : AH) : Option (Unit × AH) := rdI h a0 13 54 fun x_1 =>
  (if x1 = 10 then
    kg h a0 13 (bd (f_X12_next a0 h) fun x_4 h_3 =>
    kg h_3 a0 13 (bd (f_X12_isJust a0 h_3) fun x_7 h_6 =>
    (if x_7 = 0 then
      some ((), h_6)
    else
      rdR h_6 a0 13 36 fun r_8 =>
      nn r_8 fun a_9 =>
      asI h_6 a_9 x_1 x_4 fun h_10 =>
      kg h_10 a0 13 (bd (f_X12_say a0 x_1 60 11 h_10) fun _ h_12 =>
      some ((), h_12)))))
  else (if x1 = 20 then
    kg h a0 13 (bd (f_X12_consume a0 h) fun _ h_14 =>
    some ((), h_14))
  else (if x1 = 30 then
    kg h a0 13 (bd (f_X12_cancel a0 h) fun _ h_16 =>
    some ((), h_16))
  else (if x1 = 40 then
    kg h a0 13 (bd (f_X12_publish a0 h) fun _ h_18 =>
    some ((), h_18))
  else (if x1 = 70 then
    kg h a0 13 (bd (f_X12_get a0 h) fun _ h_20 =>
    some ((), h_20))
  else (if x1 = 80 then
    kg h a0 13 (bd (f_X12_nextShort a0 h) fun x_23 h_22 =>
    (if x1 = 90 then
      f_X12_letterMethod_163 a0 x1 x_1 x_23 0 h_22
    else
      kg h_22 a0 13 (bd (f_X12_nextTruth a0 h_22) fun x_26 h_25 =>
      (if x_26 = 0 then
        f_X12_letterMethod_163 a0 x1 x_1 x_23 0 h_25
      else
        f_X12_letterMethod_163 a0 x1 x_1 x_23 1 h_25))))
  else (if x1 = 90 then
    kg h a0 13 (bd (f_X12_nextShort a0 h) fun x_29 h_28 =>
    (if x1 = 90 then
      f_X12_letterMethod_163 a0 x1 x_1 x_29 0 h_28
    else
      kg h_28 a0 13 (bd (f_X12_nextTruth a0 h_28) fun x_32 h_31 =>
      (if x_32 = 0 then
        f_X12_letterMethod_163 a0 x1 x_1 x_29 0 h_31
      else
        f_X12_letterMethod_163 a0 x1 x_1 x_29 1 h_31))))
  else (if x1 = 120 then
    kg h a0 13 (bd (f_X12_nextShort a0 h) fun x_35 h_34 =>
    (if x1 = 90 then
      f_X12_letterMethod_163 a0 x1 x_1 x_35 0 h_34
    else
      kg h_34 a0 13 (bd (f_X12_nextTruth a0 h_34) fun x_38 h_37 =>
      (if x_38 = 0 then
        f_X12_letterMethod_163 a0 x1 x_1 x_35 0 h_37
      else
        f_X12_letterMethod_163 a0 x1 x_1 x_35 1 h_37))))
  else kg h a0 13 (bd (f_X12_isJust a0 h) fun x_41 h_40 =>
  (if x_41 = 0 then
    some ((), h_40)
  else
    kg h_40 a0 13 (bd (f_X12_allBack a0 x_1 h_40) fun _ h_43 =>
    kg h_43 a0 13 (bd (f_X12_say a0 x_1 60 111 h_43) fun _ h_45 =>
    some ((), h_45)))))))))))))
set_option maxRecDepth 20000 in
set_option maxHeartbeats 4000000 in
theorem t_X12_letterMethod {Ω : Om} (a0 : Nat) (x1 : Int32) (h : AH) (q : Unit × AH) (hf : f_X12_letterMethod a0 x1 h = some q) : Go Ω M_X12_letterMethod 0 (lv_args 0 [vR Ω (some a0), .int x1]) [] h none q.2 := by
  unfold f_X12_letterMethod at hf
  rw [la_R, la_I, la_0]
  refine go_sub (lv' := [(0, vR Ω (some a0)), (1, .int x1)]) [0, 1] rfl ?_
  refine go_aload_n dX12_letterMethod_0 rfl 0 rfl ?_
  refine go_getI dX12_letterMethod_1 fl_1173_0 (fun _ _ => rfl) hf (fun x_1 hf => ?_)
  refine go_istore_n (i := 2) (lv' := [(2, .int x_1), (0, vR Ω (some a0)), (1, .int x1)]) dX12_letterMethod_4 rfl (by decide) (by first | rfl | simp [catR, catI, catJ]) ?_
  refine go_iload_n dX12_letterMethod_5 rfl 2 rfl ?_
  by_cases e0 : x1 = 10
  · rw [if_pos e0] at hf
    refine go_lsw1 (off := 74) (tgt := 80) dX12_letterMethod_6 (by decide) (by rw [e0]; decide) (by decide) ?_
    refine go_aload_n dX12_letterMethod_80 rfl 1 rfl ?_
    obtain ⟨hk, hf⟩ := kg_some hf
    obtain ⟨z_2, hc, hf⟩ := bd_some hf
    refine go_callV (y2 := M_X12_next) (c2 := 13) dX12_letterMethod_81 mo_X12_next ⟨Nat.le_of_ble_eq_true rfl, Nat.le_of_ble_eq_true rfl⟩ na_X12_next w1397 w1399 (by decide) rfl w68 hk [] rfl (n_X12_next (a0)) rfl (csum (Nat.le_of_ble_eq_true rfl)) (t_X12_next (a0) h _ hc) ?_
    obtain ⟨x_4, h_3⟩ := z_2
    refine go_istore_n (i := 3) (lv' := [(3, .int x_4), (2, .int x_1), (0, vR Ω (some a0)), (1, .int x1)]) dX12_letterMethod_84 rfl (by decide) (by first | rfl | simp [catR, catI, catJ]) ?_
    refine go_aload_n dX12_letterMethod_85 rfl 2 rfl ?_
    obtain ⟨hk, hf⟩ := kg_some hf
    obtain ⟨z_5, hc, hf⟩ := bd_some hf
    refine go_callV (y2 := M_X12_isJust) (c2 := 13) dX12_letterMethod_86 mo_X12_isJust ⟨Nat.le_of_ble_eq_true rfl, Nat.le_of_ble_eq_true rfl⟩ na_X12_isJust w1405 w1407 (by decide) rfl w70 hk [] rfl (n_X12_isJust (a0)) rfl (csum (Nat.le_of_ble_eq_true rfl)) (t_X12_isJust (a0) h_3 _ hc) ?_
    obtain ⟨x_7, h_6⟩ := z_5
    refine go_if_eq (tgt := 245) dX12_letterMethod_89 (by decide) hf (fun hf => ?_) (fun hf => ?_)
    · exact go_return dX12_letterMethod_245 rfl hf
    · refine go_aload_n dX12_letterMethod_92 rfl 2 rfl ?_
      refine go_getR dX12_letterMethod_93 fl_1155_0 (fun _ _ => rfl) hf (fun r_8 hf => ?_)
      refine go_iload_n dX12_letterMethod_96 rfl 1 rfl ?_
      refine go_iload_n dX12_letterMethod_97 rfl 0 rfl ?_
      obtain ⟨a_9, rfl, hga_9⟩ := nn_some hf
      have hf := hga_9
      refine go_iastore dX12_letterMethod_98 hf (fun h_10 hf => ?_)
      refine go_aload_n dX12_letterMethod_99 rfl 2 rfl ?_
      refine go_iload_n dX12_letterMethod_100 rfl 1 rfl ?_
      refine go_bipush 60 dX12_letterMethod_101 (by decide) ?_
      refine go_bipush 11 dX12_letterMethod_103 (by decide) ?_
      obtain ⟨hk, hf⟩ := kg_some hf
      obtain ⟨z_11, hc, hf⟩ := bd_some hf
      refine go_callV (y2 := M_X12_say) (c2 := 13) dX12_letterMethod_105 mo_X12_say ⟨Nat.le_of_ble_eq_true rfl, Nat.le_of_ble_eq_true rfl⟩ na_X12_say w1381 w1383 (by decide) rfl w64 hk [.int x_1, .int 60, .int 11] rfl (n_X12_say (a0) x_1 60 11) rfl (csum (Nat.le_of_ble_eq_true rfl)) (t_X12_say (a0) x_1 60 11 h_10 _ hc) ?_
      obtain ⟨_, h_12⟩ := z_11
      refine go_goto (tgt := 245) dX12_letterMethod_108 (by decide) ?_
      exact go_return dX12_letterMethod_245 rfl hf
  rw [if_neg e0] at hf
  by_cases e1 : x1 = 20
  · rw [if_pos e1] at hf
    refine go_lsw1 (off := 105) (tgt := 111) dX12_letterMethod_6 (by decide) (by rw [e1]; decide) (by decide) ?_
    refine go_aload_n dX12_letterMethod_111 rfl 1 rfl ?_
    obtain ⟨hk, hf⟩ := kg_some hf
    obtain ⟨z_13, hc, hf⟩ := bd_some hf
    refine go_callV (y2 := M_X12_consume) (c2 := 13) dX12_letterMethod_112 mo_X12_consume ⟨Nat.le_of_ble_eq_true rfl, Nat.le_of_ble_eq_true rfl⟩ na_X12_consume w1503 w1505 (by decide) rfl w93 hk [] rfl (n_X12_consume (a0)) rfl (csum (Nat.le_of_ble_eq_true rfl)) (t_X12_consume (a0) h _ hc) ?_
    obtain ⟨_, h_14⟩ := z_13
    refine go_goto (tgt := 245) dX12_letterMethod_115 (by decide) ?_
    exact go_return dX12_letterMethod_245 rfl hf
  rw [if_neg e1] at hf
  by_cases e2 : x1 = 30
  · rw [if_pos e2] at hf
    refine go_lsw1 (off := 112) (tgt := 118) dX12_letterMethod_6 (by decide) (by rw [e2]; decide) (by decide) ?_
    refine go_aload_n dX12_letterMethod_118 rfl 1 rfl ?_
    obtain ⟨hk, hf⟩ := kg_some hf
    obtain ⟨z_15, hc, hf⟩ := bd_some hf
    refine go_callV (y2 := M_X12_cancel) (c2 := 13) dX12_letterMethod_119 mo_X12_cancel ⟨Nat.le_of_ble_eq_true rfl, Nat.le_of_ble_eq_true rfl⟩ na_X12_cancel w1511 w1513 (by decide) rfl w95 hk [] rfl (n_X12_cancel (a0)) rfl (csum (Nat.le_of_ble_eq_true rfl)) (t_X12_cancel (a0) h _ hc) ?_
    obtain ⟨_, h_16⟩ := z_15
    refine go_goto (tgt := 245) dX12_letterMethod_122 (by decide) ?_
    exact go_return dX12_letterMethod_245 rfl hf
  rw [if_neg e2] at hf
  by_cases e3 : x1 = 40
  · rw [if_pos e3] at hf
    refine go_lsw1 (off := 119) (tgt := 125) dX12_letterMethod_6 (by decide) (by rw [e3]; decide) (by decide) ?_
    refine go_aload_n dX12_letterMethod_125 rfl 1 rfl ?_
    obtain ⟨hk, hf⟩ := kg_some hf
    obtain ⟨z_17, hc, hf⟩ := bd_some hf
    refine go_callV (y2 := M_X12_publish) (c2 := 13) dX12_letterMethod_126 mo_X12_publish ⟨Nat.le_of_ble_eq_true rfl, Nat.le_of_ble_eq_true rfl⟩ na_X12_publish w1515 w1517 (by decide) rfl w96 hk [] rfl (n_X12_publish (a0)) rfl (csum (Nat.le_of_ble_eq_true rfl)) (t_X12_publish (a0) h _ hc) ?_
    obtain ⟨_, h_18⟩ := z_17
    refine go_goto (tgt := 245) dX12_letterMethod_129 (by decide) ?_
    exact go_return dX12_letterMethod_245 rfl hf
  rw [if_neg e3] at hf
  by_cases e4 : x1 = 70
  · rw [if_pos e4] at hf
    refine go_lsw1 (off := 126) (tgt := 132) dX12_letterMethod_6 (by decide) (by rw [e4]; decide) (by decide) ?_
    refine go_aload_n dX12_letterMethod_132 rfl 1 rfl ?_
    obtain ⟨hk, hf⟩ := kg_some hf
    obtain ⟨z_19, hc, hf⟩ := bd_some hf
    refine go_callV (y2 := M_X12_get) (c2 := 13) dX12_letterMethod_133 mo_X12_get ⟨Nat.le_of_ble_eq_true rfl, Nat.le_of_ble_eq_true rfl⟩ na_X12_get w1519 w1521 (by decide) rfl w97 hk [] rfl (n_X12_get (a0)) rfl (csum (Nat.le_of_ble_eq_true rfl)) (t_X12_get (a0) h _ hc) ?_
    obtain ⟨_, h_20⟩ := z_19
    refine go_goto (tgt := 245) dX12_letterMethod_136 (by decide) ?_
    exact go_return dX12_letterMethod_245 rfl hf
  rw [if_neg e4] at hf
  by_cases e5 : x1 = 80
  · rw [if_pos e5] at hf
    refine go_lsw1 (off := 133) (tgt := 139) dX12_letterMethod_6 (by decide) (by rw [e5]; decide) (by decide) ?_
    refine go_aload_n dX12_letterMethod_139 rfl 1 rfl ?_
    obtain ⟨hk, hf⟩ := kg_some hf
    obtain ⟨z_21, hc, hf⟩ := bd_some hf
    refine go_callV (y2 := M_X12_nextShort) (c2 := 13) dX12_letterMethod_140 mo_X12_nextShort ⟨Nat.le_of_ble_eq_true rfl, Nat.le_of_ble_eq_true rfl⟩ na_X12_nextShort w1535 w1537 (by decide) rfl w101 hk [] rfl (n_X12_nextShort (a0)) rfl (csum (Nat.le_of_ble_eq_true rfl)) (t_X12_nextShort (a0) h _ hc) ?_
    obtain ⟨x_23, h_22⟩ := z_21
    refine go_istore (i := 4) (lv' := [(4, .int x_23), (2, .int x_1), (0, vR Ω (some a0)), (1, .int x1)]) dX12_letterMethod_143 (by decide) (by first | rfl | simp [catR, catI, catJ]) ?_
    refine go_iload_n dX12_letterMethod_145 rfl 3 rfl ?_
    refine go_bipush 90 dX12_letterMethod_146 (by decide) ?_
    refine go_icmp_eq (tgt := 162) dX12_letterMethod_148 (by decide) hf (fun hf => ?_) (fun hf => ?_)
    · refine go_iconst 0 dX12_letterMethod_162 rfl ?_
      refine go_sub (lv' := [(0, vR Ω (some a0)), (1, .int x1), (2, .int x_1), (4, .int x_23)]) [2, 3, 1, 0] rfl ?_
      exact t_X12_letterMethod_163 a0 x1 x_1 x_23 0 h_22 q hf
    · refine go_aload_n dX12_letterMethod_151 rfl 2 rfl ?_
      obtain ⟨hk, hf⟩ := kg_some hf
      obtain ⟨z_24, hc, hf⟩ := bd_some hf
      refine go_callV (y2 := M_X12_nextTruth) (c2 := 13) dX12_letterMethod_152 mo_X12_nextTruth ⟨Nat.le_of_ble_eq_true rfl, Nat.le_of_ble_eq_true rfl⟩ na_X12_nextTruth w1424 w1426 (by decide) rfl w74 hk [] rfl (n_X12_nextTruth (a0)) rfl (csum (Nat.le_of_ble_eq_true rfl)) (t_X12_nextTruth (a0) h_22 _ hc) ?_
      obtain ⟨x_26, h_25⟩ := z_24
      refine go_if_eq (tgt := 162) dX12_letterMethod_155 (by decide) hf (fun hf => ?_) (fun hf => ?_)
      · refine go_iconst 0 dX12_letterMethod_162 rfl ?_
        refine go_sub (lv' := [(0, vR Ω (some a0)), (1, .int x1), (2, .int x_1), (4, .int x_23)]) [2, 3, 1, 0] rfl ?_
        exact t_X12_letterMethod_163 a0 x1 x_1 x_23 0 h_25 q hf
      · refine go_iconst 1 dX12_letterMethod_158 rfl ?_
        refine go_goto (tgt := 163) dX12_letterMethod_159 (by decide) ?_
        refine go_sub (lv' := [(0, vR Ω (some a0)), (1, .int x1), (2, .int x_1), (4, .int x_23)]) [2, 3, 1, 0] rfl ?_
        exact t_X12_letterMethod_163 a0 x1 x_1 x_23 1 h_25 q hf
  rw [if_neg e5] at hf
  by_cases e6 : x1 = 90
  · rw [if_pos e6] at hf
    refine go_lsw1 (off := 133) (tgt := 139) dX12_letterMethod_6 (by decide) (by rw [e6]; decide) (by decide) ?_
    refine go_aload_n dX12_letterMethod_139 rfl 1 rfl ?_
    obtain ⟨hk, hf⟩ := kg_some hf
    obtain ⟨z_27, hc, hf⟩ := bd_some hf
    refine go_callV (y2 := M_X12_nextShort) (c2 := 13) dX12_letterMethod_140 mo_X12_nextShort ⟨Nat.le_of_ble_eq_true rfl, Nat.le_of_ble_eq_true rfl⟩ na_X12_nextShort w1535 w1537 (by decide) rfl w101 hk [] rfl (n_X12_nextShort (a0)) rfl (csum (Nat.le_of_ble_eq_true rfl)) (t_X12_nextShort (a0) h _ hc) ?_
    obtain ⟨x_29, h_28⟩ := z_27
    refine go_istore (i := 4) (lv' := [(4, .int x_29), (2, .int x_1), (0, vR Ω (some a0)), (1, .int x1)]) dX12_letterMethod_143 (by decide) (by first | rfl | simp [catR, catI, catJ]) ?_
    refine go_iload_n dX12_letterMethod_145 rfl 3 rfl ?_
    refine go_bipush 90 dX12_letterMethod_146 (by decide) ?_
    refine go_icmp_eq (tgt := 162) dX12_letterMethod_148 (by decide) hf (fun hf => ?_) (fun hf => ?_)
    · refine go_iconst 0 dX12_letterMethod_162 rfl ?_
      refine go_sub (lv' := [(0, vR Ω (some a0)), (1, .int x1), (2, .int x_1), (4, .int x_29)]) [2, 3, 1, 0] rfl ?_
      exact t_X12_letterMethod_163 a0 x1 x_1 x_29 0 h_28 q hf
    · refine go_aload_n dX12_letterMethod_151 rfl 2 rfl ?_
      obtain ⟨hk, hf⟩ := kg_some hf
      obtain ⟨z_30, hc, hf⟩ := bd_some hf
      refine go_callV (y2 := M_X12_nextTruth) (c2 := 13) dX12_letterMethod_152 mo_X12_nextTruth ⟨Nat.le_of_ble_eq_true rfl, Nat.le_of_ble_eq_true rfl⟩ na_X12_nextTruth w1424 w1426 (by decide) rfl w74 hk [] rfl (n_X12_nextTruth (a0)) rfl (csum (Nat.le_of_ble_eq_true rfl)) (t_X12_nextTruth (a0) h_28 _ hc) ?_
      obtain ⟨x_32, h_31⟩ := z_30
      refine go_if_eq (tgt := 162) dX12_letterMethod_155 (by decide) hf (fun hf => ?_) (fun hf => ?_)
      · refine go_iconst 0 dX12_letterMethod_162 rfl ?_
        refine go_sub (lv' := [(0, vR Ω (some a0)), (1, .int x1), (2, .int x_1), (4, .int x_29)]) [2, 3, 1, 0] rfl ?_
        exact t_X12_letterMethod_163 a0 x1 x_1 x_29 0 h_31 q hf
      · refine go_iconst 1 dX12_letterMethod_158 rfl ?_
        refine go_goto (tgt := 163) dX12_letterMethod_159 (by decide) ?_
        refine go_sub (lv' := [(0, vR Ω (some a0)), (1, .int x1), (2, .int x_1), (4, .int x_29)]) [2, 3, 1, 0] rfl ?_
        exact t_X12_letterMethod_163 a0 x1 x_1 x_29 1 h_31 q hf
  rw [if_neg e6] at hf
  by_cases e7 : x1 = 120
  · rw [if_pos e7] at hf
    refine go_lsw1 (off := 133) (tgt := 139) dX12_letterMethod_6 (by decide) (by rw [e7]; decide) (by decide) ?_
    refine go_aload_n dX12_letterMethod_139 rfl 1 rfl ?_
    obtain ⟨hk, hf⟩ := kg_some hf
    obtain ⟨z_33, hc, hf⟩ := bd_some hf
    refine go_callV (y2 := M_X12_nextShort) (c2 := 13) dX12_letterMethod_140 mo_X12_nextShort ⟨Nat.le_of_ble_eq_true rfl, Nat.le_of_ble_eq_true rfl⟩ na_X12_nextShort w1535 w1537 (by decide) rfl w101 hk [] rfl (n_X12_nextShort (a0)) rfl (csum (Nat.le_of_ble_eq_true rfl)) (t_X12_nextShort (a0) h _ hc) ?_
    obtain ⟨x_35, h_34⟩ := z_33
    refine go_istore (i := 4) (lv' := [(4, .int x_35), (2, .int x_1), (0, vR Ω (some a0)), (1, .int x1)]) dX12_letterMethod_143 (by decide) (by first | rfl | simp [catR, catI, catJ]) ?_
    refine go_iload_n dX12_letterMethod_145 rfl 3 rfl ?_
    refine go_bipush 90 dX12_letterMethod_146 (by decide) ?_
    refine go_icmp_eq (tgt := 162) dX12_letterMethod_148 (by decide) hf (fun hf => ?_) (fun hf => ?_)
    · refine go_iconst 0 dX12_letterMethod_162 rfl ?_
      refine go_sub (lv' := [(0, vR Ω (some a0)), (1, .int x1), (2, .int x_1), (4, .int x_35)]) [2, 3, 1, 0] rfl ?_
      exact t_X12_letterMethod_163 a0 x1 x_1 x_35 0 h_34 q hf
    · refine go_aload_n dX12_letterMethod_151 rfl 2 rfl ?_
      obtain ⟨hk, hf⟩ := kg_some hf
      obtain ⟨z_36, hc, hf⟩ := bd_some hf
      refine go_callV (y2 := M_X12_nextTruth) (c2 := 13) dX12_letterMethod_152 mo_X12_nextTruth ⟨Nat.le_of_ble_eq_true rfl, Nat.le_of_ble_eq_true rfl⟩ na_X12_nextTruth w1424 w1426 (by decide) rfl w74 hk [] rfl (n_X12_nextTruth (a0)) rfl (csum (Nat.le_of_ble_eq_true rfl)) (t_X12_nextTruth (a0) h_34 _ hc) ?_
      obtain ⟨x_38, h_37⟩ := z_36
      refine go_if_eq (tgt := 162) dX12_letterMethod_155 (by decide) hf (fun hf => ?_) (fun hf => ?_)
      · refine go_iconst 0 dX12_letterMethod_162 rfl ?_
        refine go_sub (lv' := [(0, vR Ω (some a0)), (1, .int x1), (2, .int x_1), (4, .int x_35)]) [2, 3, 1, 0] rfl ?_
        exact t_X12_letterMethod_163 a0 x1 x_1 x_35 0 h_37 q hf
      · refine go_iconst 1 dX12_letterMethod_158 rfl ?_
        refine go_goto (tgt := 163) dX12_letterMethod_159 (by decide) ?_
        refine go_sub (lv' := [(0, vR Ω (some a0)), (1, .int x1), (2, .int x_1), (4, .int x_35)]) [2, 3, 1, 0] rfl ?_
        exact t_X12_letterMethod_163 a0 x1 x_1 x_35 1 h_37 q hf
  rw [if_neg e7] at hf
  refine go_lsw1 (off := 218) (tgt := 224) dX12_letterMethod_6 (by decide) (lk_c (ti (by decide) e0) (lk_c (ti (by decide) e1) (lk_c (ti (by decide) e2) (lk_c (ti (by decide) e3) (lk_c (ti (by decide) e4) (lk_c (ti (by decide) e5) (lk_c (ti (by decide) e6) (lk_c (ti (by decide) e7) rfl)))))))) (by decide) ?_
  refine go_aload_n dX12_letterMethod_224 rfl 1 rfl ?_
  obtain ⟨hk, hf⟩ := kg_some hf
  obtain ⟨z_39, hc, hf⟩ := bd_some hf
  refine go_callV (y2 := M_X12_isJust) (c2 := 13) dX12_letterMethod_225 mo_X12_isJust ⟨Nat.le_of_ble_eq_true rfl, Nat.le_of_ble_eq_true rfl⟩ na_X12_isJust w1405 w1407 (by decide) rfl w70 hk [] rfl (n_X12_isJust (a0)) rfl (csum (Nat.le_of_ble_eq_true rfl)) (t_X12_isJust (a0) h _ hc) ?_
  obtain ⟨x_41, h_40⟩ := z_39
  refine go_if_eq (tgt := 245) dX12_letterMethod_228 (by decide) hf (fun hf => ?_) (fun hf => ?_)
  · exact go_return dX12_letterMethod_245 rfl hf
  · refine go_aload_n dX12_letterMethod_231 rfl 1 rfl ?_
    refine go_iload_n dX12_letterMethod_232 rfl 0 rfl ?_
    obtain ⟨hk, hf⟩ := kg_some hf
    obtain ⟨z_42, hc, hf⟩ := bd_some hf
    refine go_callV (y2 := M_X12_allBack) (c2 := 13) dX12_letterMethod_233 mo_X12_allBack ⟨Nat.le_of_ble_eq_true rfl, Nat.le_of_ble_eq_true rfl⟩ na_X12_allBack w1357 w1359 (by decide) rfl w58 hk [.int x_1] rfl (n_X12_allBack (a0) x_1) rfl (csum (Nat.le_of_ble_eq_true rfl)) (t_X12_allBack (a0) x_1 h_40 _ hc) ?_
    obtain ⟨_, h_43⟩ := z_42
    refine go_aload_n dX12_letterMethod_236 rfl 1 rfl ?_
    refine go_iload_n dX12_letterMethod_237 rfl 0 rfl ?_
    refine go_bipush 60 dX12_letterMethod_238 (by decide) ?_
    refine go_bipush 111 dX12_letterMethod_240 (by decide) ?_
    obtain ⟨hk, hf⟩ := kg_some hf
    obtain ⟨z_44, hc, hf⟩ := bd_some hf
    refine go_callV (y2 := M_X12_say) (c2 := 13) dX12_letterMethod_242 mo_X12_say ⟨Nat.le_of_ble_eq_true rfl, Nat.le_of_ble_eq_true rfl⟩ na_X12_say w1381 w1383 (by decide) rfl w64 hk [.int x_1, .int 60, .int 111] rfl (n_X12_say (a0) x_1 60 111) rfl (csum (Nat.le_of_ble_eq_true rfl)) (t_X12_say (a0) x_1 60 111 h_43 _ hc) ?_
    obtain ⟨_, h_45⟩ := z_44
    exact go_return dX12_letterMethod_245 rfl hf
-- LetterBrokerModel.lineMethod(II)V
theorem dX12_lineMethod_0 : decode cX12_lineMethod 0 = .ok (.aload_n 0, 1) := by decide +kernel
theorem dX12_lineMethod_1 : decode cX12_lineMethod 1 = .ok (.getfield 207, 3) := by decide +kernel
theorem dX12_lineMethod_4 : decode cX12_lineMethod 4 = .ok (.iconst 1, 1) := by decide +kernel
theorem dX12_lineMethod_5 : decode cX12_lineMethod 5 = .ok (.if_icmp .ne 8, 3) := by decide +kernel
theorem dX12_lineMethod_8 : decode cX12_lineMethod 8 = .ok (.bipush 11, 2) := by decide +kernel
theorem dX12_lineMethod_10 : decode cX12_lineMethod 10 = .ok (.goto 31, 3) := by decide +kernel
theorem dX12_lineMethod_13 : decode cX12_lineMethod 13 = .ok (.aload_n 0, 1) := by decide +kernel
theorem dX12_lineMethod_14 : decode cX12_lineMethod 14 = .ok (.getfield 207, 3) := by decide +kernel
theorem dX12_lineMethod_17 : decode cX12_lineMethod 17 = .ok (.iconst 2, 1) := by decide +kernel
theorem dX12_lineMethod_18 : decode cX12_lineMethod 18 = .ok (.if_icmp .ne 8, 3) := by decide +kernel
theorem dX12_lineMethod_21 : decode cX12_lineMethod 21 = .ok (.bipush 31, 2) := by decide +kernel
theorem dX12_lineMethod_23 : decode cX12_lineMethod 23 = .ok (.goto 18, 3) := by decide +kernel
theorem dX12_lineMethod_26 : decode cX12_lineMethod 26 = .ok (.aload_n 0, 1) := by decide +kernel
theorem dX12_lineMethod_27 : decode cX12_lineMethod 27 = .ok (.getfield 207, 3) := by decide +kernel
theorem dX12_lineMethod_30 : decode cX12_lineMethod 30 = .ok (.iconst 3, 1) := by decide +kernel
theorem dX12_lineMethod_31 : decode cX12_lineMethod 31 = .ok (.if_icmp .ne 8, 3) := by decide +kernel
theorem dX12_lineMethod_34 : decode cX12_lineMethod 34 = .ok (.bipush 40, 2) := by decide +kernel
theorem dX12_lineMethod_36 : decode cX12_lineMethod 36 = .ok (.goto 5, 3) := by decide +kernel
theorem dX12_lineMethod_39 : decode cX12_lineMethod 39 = .ok (.bipush 50, 2) := by decide +kernel
theorem dX12_lineMethod_41 : decode cX12_lineMethod 41 = .ok (.istore_n 3, 1) := by decide +kernel
theorem dX12_lineMethod_42 : decode cX12_lineMethod 42 = .ok (.iload_n 1, 1) := by decide +kernel
theorem dX12_lineMethod_43 : decode cX12_lineMethod 43 = .ok (.bipush 10, 2) := by decide +kernel
theorem dX12_lineMethod_45 : decode cX12_lineMethod 45 = .ok (.if_icmp .ne 8, 3) := by decide +kernel
theorem dX12_lineMethod_48 : decode cX12_lineMethod 48 = .ok (.iload_n 2, 1) := by decide +kernel
theorem dX12_lineMethod_49 : decode cX12_lineMethod 49 = .ok (.iload_n 3, 1) := by decide +kernel
theorem dX12_lineMethod_50 : decode cX12_lineMethod 50 = .ok (.if_icmp .eq 11, 3) := by decide +kernel
theorem dX12_lineMethod_53 : decode cX12_lineMethod 53 = .ok (.aload_n 0, 1) := by decide +kernel
theorem dX12_lineMethod_54 : decode cX12_lineMethod 54 = .ok (.sipush 503, 3) := by decide +kernel
theorem dX12_lineMethod_57 : decode cX12_lineMethod 57 = .ok (.invokevirtual 315, 3) := by decide +kernel
theorem dX12_lineMethod_60 : decode cX12_lineMethod 60 = .ok (.return_, 1) := by decide +kernel
theorem dX12_lineMethod_61 : decode cX12_lineMethod 61 = .ok (.aload_n 0, 1) := by decide +kernel
theorem dX12_lineMethod_62 : decode cX12_lineMethod 62 = .ok (.invokevirtual 329, 3) := by decide +kernel
theorem dX12_lineMethod_65 : decode cX12_lineMethod 65 = .ok (.ifCond .ne 4, 3) := by decide +kernel
theorem dX12_lineMethod_68 : decode cX12_lineMethod 68 = .ok (.return_, 1) := by decide +kernel
theorem dX12_lineMethod_69 : decode cX12_lineMethod 69 = .ok (.aload_n 0, 1) := by decide +kernel
theorem dX12_lineMethod_70 : decode cX12_lineMethod 70 = .ok (.getfield 207, 3) := by decide +kernel
theorem dX12_lineMethod_73 : decode cX12_lineMethod 73 = .ok (.iconst 1, 1) := by decide +kernel
theorem dX12_lineMethod_74 : decode cX12_lineMethod 74 = .ok (.if_icmp .ne 20, 3) := by decide +kernel
theorem dX12_lineMethod_77 : decode cX12_lineMethod 77 = .ok (.aload_n 0, 1) := by decide +kernel
theorem dX12_lineMethod_78 : decode cX12_lineMethod 78 = .ok (.iconst 0, 1) := by decide +kernel
theorem dX12_lineMethod_79 : decode cX12_lineMethod 79 = .ok (.bipush 10, 2) := by decide +kernel
theorem dX12_lineMethod_81 : decode cX12_lineMethod 81 = .ok (.bipush 30, 2) := by decide +kernel
theorem dX12_lineMethod_83 : decode cX12_lineMethod 83 = .ok (.invokevirtual 278, 3) := by decide +kernel
theorem dX12_lineMethod_86 : decode cX12_lineMethod 86 = .ok (.aload_n 0, 1) := by decide +kernel
theorem dX12_lineMethod_87 : decode cX12_lineMethod 87 = .ok (.iconst 2, 1) := by decide +kernel
theorem dX12_lineMethod_88 : decode cX12_lineMethod 88 = .ok (.putfield 207, 3) := by decide +kernel
theorem dX12_lineMethod_91 : decode cX12_lineMethod 91 = .ok (.goto 57, 3) := by decide +kernel
theorem dX12_lineMethod_94 : decode cX12_lineMethod 94 = .ok (.aload_n 0, 1) := by decide +kernel
theorem dX12_lineMethod_95 : decode cX12_lineMethod 95 = .ok (.getfield 207, 3) := by decide +kernel
theorem dX12_lineMethod_98 : decode cX12_lineMethod 98 = .ok (.iconst 2, 1) := by decide +kernel
theorem dX12_lineMethod_99 : decode cX12_lineMethod 99 = .ok (.if_icmp .ne 11, 3) := by decide +kernel
theorem dX12_lineMethod_102 : decode cX12_lineMethod 102 = .ok (.aload_n 0, 1) := by decide +kernel
theorem dX12_lineMethod_103 : decode cX12_lineMethod 103 = .ok (.iconst 3, 1) := by decide +kernel
theorem dX12_lineMethod_104 : decode cX12_lineMethod 104 = .ok (.putfield 207, 3) := by decide +kernel
theorem dX12_lineMethod_107 : decode cX12_lineMethod 107 = .ok (.goto 41, 3) := by decide +kernel
theorem dX12_lineMethod_110 : decode cX12_lineMethod 110 = .ok (.aload_n 0, 1) := by decide +kernel
theorem dX12_lineMethod_111 : decode cX12_lineMethod 111 = .ok (.getfield 207, 3) := by decide +kernel
theorem dX12_lineMethod_114 : decode cX12_lineMethod 114 = .ok (.iconst 3, 1) := by decide +kernel
theorem dX12_lineMethod_115 : decode cX12_lineMethod 115 = .ok (.if_icmp .ne 20, 3) := by decide +kernel
theorem dX12_lineMethod_118 : decode cX12_lineMethod 118 = .ok (.aload_n 0, 1) := by decide +kernel
theorem dX12_lineMethod_119 : decode cX12_lineMethod 119 = .ok (.iconst 0, 1) := by decide +kernel
theorem dX12_lineMethod_120 : decode cX12_lineMethod 120 = .ok (.bipush 10, 2) := by decide +kernel
theorem dX12_lineMethod_122 : decode cX12_lineMethod 122 = .ok (.bipush 41, 2) := by decide +kernel
theorem dX12_lineMethod_124 : decode cX12_lineMethod 124 = .ok (.invokevirtual 278, 3) := by decide +kernel
theorem dX12_lineMethod_127 : decode cX12_lineMethod 127 = .ok (.aload_n 0, 1) := by decide +kernel
theorem dX12_lineMethod_128 : decode cX12_lineMethod 128 = .ok (.iconst 4, 1) := by decide +kernel
theorem dX12_lineMethod_129 : decode cX12_lineMethod 129 = .ok (.putfield 207, 3) := by decide +kernel
theorem dX12_lineMethod_132 : decode cX12_lineMethod 132 = .ok (.goto 16, 3) := by decide +kernel
theorem dX12_lineMethod_135 : decode cX12_lineMethod 135 = .ok (.aload_n 0, 1) := by decide +kernel
theorem dX12_lineMethod_136 : decode cX12_lineMethod 136 = .ok (.iconst 0, 1) := by decide +kernel
theorem dX12_lineMethod_137 : decode cX12_lineMethod 137 = .ok (.bipush 10, 2) := by decide +kernel
theorem dX12_lineMethod_139 : decode cX12_lineMethod 139 = .ok (.bipush 51, 2) := by decide +kernel
theorem dX12_lineMethod_141 : decode cX12_lineMethod 141 = .ok (.invokevirtual 278, 3) := by decide +kernel
theorem dX12_lineMethod_144 : decode cX12_lineMethod 144 = .ok (.aload_n 0, 1) := by decide +kernel
theorem dX12_lineMethod_145 : decode cX12_lineMethod 145 = .ok (.invokevirtual 219, 3) := by decide +kernel
theorem dX12_lineMethod_148 : decode cX12_lineMethod 148 = .ok (.return_, 1) := by decide +kernel
def f_X12_lineMethod_53 (a0 : Nat) (h : AH) : Option (Unit × AH) := kg h a0 13 (bd (f_X12_hard a0 503 h) fun _ h_2 =>
  some ((), h_2))
set_option maxRecDepth 20000 in
set_option maxHeartbeats 4000000 in
theorem t_X12_lineMethod_53 {Ω : Om} (a0 : Nat) (h : AH) (q : Unit × AH) (hf : f_X12_lineMethod_53 a0 h = some q) : Go Ω M_X12_lineMethod 53 [(0, vR Ω (some a0))] [] h none q.2 := by
  unfold f_X12_lineMethod_53 at hf
  refine go_aload_n dX12_lineMethod_53 rfl 0 rfl ?_
  refine go_sipush 503 dX12_lineMethod_54 (by decide) ?_
  obtain ⟨hk, hf⟩ := kg_some hf
  obtain ⟨z_1, hc, hf⟩ := bd_some hf
  refine go_callV (y2 := M_X12_hard) (c2 := 13) dX12_lineMethod_57 mo_X12_hard ⟨Nat.le_of_ble_eq_true rfl, Nat.le_of_ble_eq_true rfl⟩ na_X12_hard w1321 w1323 (by decide) rfl w49 hk [.int 503] rfl (n_X12_hard (a0) 503) rfl (csum (Nat.le_of_ble_eq_true rfl)) (t_X12_hard (a0) 503 h _ hc) ?_
  obtain ⟨_, h_2⟩ := z_1
  exact go_return dX12_lineMethod_60 rfl hf
def f_X12_lineMethod_41 (a0 : Nat) (x1 : Int32) (x2 : Int32) (s0 : Int32) (h : AH) : Option (Unit × AH) := (if x1 = 10 then
    (if x2 = s0 then
      kg h a0 13 (bd (f_X12_isJust a0 h) fun x_3 h_2 =>
      (if x_3 = 0 then
        some ((), h_2)
      else
        rdI h_2 a0 13 0 fun x_4 =>
        (if x_4 = 1 then
          kg h_2 a0 13 (bd (f_X12_say a0 0 10 30 h_2) fun _ h_16 =>
          wrI h_16 a0 13 0 2 fun h_17 =>
          some ((), h_17))
        else
          rdI h_2 a0 13 0 fun x_5 =>
          (if x_5 = 2 then
            wrI h_2 a0 13 0 3 fun h_14 =>
            some ((), h_14)
          else
            rdI h_2 a0 13 0 fun x_6 =>
            (if x_6 = 3 then
              kg h_2 a0 13 (bd (f_X12_say a0 0 10 41 h_2) fun _ h_12 =>
              wrI h_12 a0 13 0 4 fun h_13 =>
              some ((), h_13))
            else
              kg h_2 a0 13 (bd (f_X12_say a0 0 10 51 h_2) fun _ h_8 =>
              kg h_8 a0 13 (bd (f_X12_shut a0 h_8) fun _ h_10 =>
              some ((), h_10))))))))
    else
      f_X12_lineMethod_53 a0 h)
  else
    f_X12_lineMethod_53 a0 h)
set_option maxRecDepth 20000 in
set_option maxHeartbeats 4000000 in
theorem t_X12_lineMethod_41 {Ω : Om} (a0 : Nat) (x1 : Int32) (x2 : Int32) (s0 : Int32) (h : AH) (q : Unit × AH) (hf : f_X12_lineMethod_41 a0 x1 x2 s0 h = some q) : Go Ω M_X12_lineMethod 41 [(0, vR Ω (some a0)), (1, .int x1), (2, .int x2)] [.int s0] h none q.2 := by
  unfold f_X12_lineMethod_41 at hf
  refine go_istore_n (i := 3) (lv' := [(3, .int s0), (0, vR Ω (some a0)), (1, .int x1), (2, .int x2)]) dX12_lineMethod_41 rfl (by decide) (by first | rfl | simp [catR, catI, catJ]) ?_
  refine go_iload_n dX12_lineMethod_42 rfl 2 rfl ?_
  refine go_bipush 10 dX12_lineMethod_43 (by decide) ?_
  refine go_icmp_ne (tgt := 53) dX12_lineMethod_45 (by decide) hf (fun hf => ?_) (fun hf => ?_)
  · refine go_sub (lv' := [(0, vR Ω (some a0))]) [1] rfl ?_
    exact t_X12_lineMethod_53 a0 h q hf
  · refine go_iload_n dX12_lineMethod_48 rfl 3 rfl ?_
    refine go_iload_n dX12_lineMethod_49 rfl 0 rfl ?_
    refine go_icmp_eq (tgt := 61) dX12_lineMethod_50 (by decide) hf (fun hf => ?_) (fun hf => ?_)
    · refine go_aload_n dX12_lineMethod_61 rfl 1 rfl ?_
      obtain ⟨hk, hf⟩ := kg_some hf
      obtain ⟨z_1, hc, hf⟩ := bd_some hf
      refine go_callV (y2 := M_X12_isJust) (c2 := 13) dX12_lineMethod_62 mo_X12_isJust ⟨Nat.le_of_ble_eq_true rfl, Nat.le_of_ble_eq_true rfl⟩ na_X12_isJust w1405 w1407 (by decide) rfl w70 hk [] rfl (n_X12_isJust (a0)) rfl (csum (Nat.le_of_ble_eq_true rfl)) (t_X12_isJust (a0) h _ hc) ?_
      obtain ⟨x_3, h_2⟩ := z_1
      refine go_if_ne (tgt := 69) dX12_lineMethod_65 (by decide) hf (fun hf => ?_) (fun hf => ?_)
      · refine go_aload_n dX12_lineMethod_69 rfl 1 rfl ?_
        refine go_getI dX12_lineMethod_70 fl_1119_0 (fun _ _ => rfl) hf (fun x_4 hf => ?_)
        refine go_iconst 1 dX12_lineMethod_73 rfl ?_
        refine go_icmp_ne (tgt := 94) dX12_lineMethod_74 (by decide) hf (fun hf => ?_) (fun hf => ?_)
        · refine go_aload_n dX12_lineMethod_94 rfl 1 rfl ?_
          refine go_getI dX12_lineMethod_95 fl_1119_0 (fun _ _ => rfl) hf (fun x_5 hf => ?_)
          refine go_iconst 2 dX12_lineMethod_98 rfl ?_
          refine go_icmp_ne (tgt := 110) dX12_lineMethod_99 (by decide) hf (fun hf => ?_) (fun hf => ?_)
          · refine go_aload_n dX12_lineMethod_110 rfl 1 rfl ?_
            refine go_getI dX12_lineMethod_111 fl_1119_0 (fun _ _ => rfl) hf (fun x_6 hf => ?_)
            refine go_iconst 3 dX12_lineMethod_114 rfl ?_
            refine go_icmp_ne (tgt := 135) dX12_lineMethod_115 (by decide) hf (fun hf => ?_) (fun hf => ?_)
            · refine go_aload_n dX12_lineMethod_135 rfl 1 rfl ?_
              refine go_iconst 0 dX12_lineMethod_136 rfl ?_
              refine go_bipush 10 dX12_lineMethod_137 (by decide) ?_
              refine go_bipush 51 dX12_lineMethod_139 (by decide) ?_
              obtain ⟨hk, hf⟩ := kg_some hf
              obtain ⟨z_7, hc, hf⟩ := bd_some hf
              refine go_callV (y2 := M_X12_say) (c2 := 13) dX12_lineMethod_141 mo_X12_say ⟨Nat.le_of_ble_eq_true rfl, Nat.le_of_ble_eq_true rfl⟩ na_X12_say w1381 w1383 (by decide) rfl w64 hk [.int 0, .int 10, .int 51] rfl (n_X12_say (a0) 0 10 51) rfl (csum (Nat.le_of_ble_eq_true rfl)) (t_X12_say (a0) 0 10 51 h_2 _ hc) ?_
              obtain ⟨_, h_8⟩ := z_7
              refine go_aload_n dX12_lineMethod_144 rfl 1 rfl ?_
              obtain ⟨hk, hf⟩ := kg_some hf
              obtain ⟨z_9, hc, hf⟩ := bd_some hf
              refine go_callV (y2 := M_X12_shut) (c2 := 13) dX12_lineMethod_145 mo_X12_shut ⟨Nat.le_of_ble_eq_true rfl, Nat.le_of_ble_eq_true rfl⟩ na_X12_shut w1345 w1347 (by decide) rfl w55 hk [] rfl (n_X12_shut (a0)) rfl (csum (Nat.le_of_ble_eq_true rfl)) (t_X12_shut (a0) h_8 _ hc) ?_
              obtain ⟨_, h_10⟩ := z_9
              exact go_return dX12_lineMethod_148 rfl hf
            · refine go_aload_n dX12_lineMethod_118 rfl 1 rfl ?_
              refine go_iconst 0 dX12_lineMethod_119 rfl ?_
              refine go_bipush 10 dX12_lineMethod_120 (by decide) ?_
              refine go_bipush 41 dX12_lineMethod_122 (by decide) ?_
              obtain ⟨hk, hf⟩ := kg_some hf
              obtain ⟨z_11, hc, hf⟩ := bd_some hf
              refine go_callV (y2 := M_X12_say) (c2 := 13) dX12_lineMethod_124 mo_X12_say ⟨Nat.le_of_ble_eq_true rfl, Nat.le_of_ble_eq_true rfl⟩ na_X12_say w1381 w1383 (by decide) rfl w64 hk [.int 0, .int 10, .int 41] rfl (n_X12_say (a0) 0 10 41) rfl (csum (Nat.le_of_ble_eq_true rfl)) (t_X12_say (a0) 0 10 41 h_2 _ hc) ?_
              obtain ⟨_, h_12⟩ := z_11
              refine go_aload_n dX12_lineMethod_127 rfl 1 rfl ?_
              refine go_iconst 4 dX12_lineMethod_128 rfl ?_
              refine go_putI dX12_lineMethod_129 fl_1119_0 (fun q hq => by cases hq; exact Or.inl rfl) (fun _ _ => rfl) rfl hf (fun h_13 hf => ?_)
              refine go_goto (tgt := 148) dX12_lineMethod_132 (by decide) ?_
              exact go_return dX12_lineMethod_148 rfl hf
          · refine go_aload_n dX12_lineMethod_102 rfl 1 rfl ?_
            refine go_iconst 3 dX12_lineMethod_103 rfl ?_
            refine go_putI dX12_lineMethod_104 fl_1119_0 (fun q hq => by cases hq; exact Or.inl rfl) (fun _ _ => rfl) rfl hf (fun h_14 hf => ?_)
            refine go_goto (tgt := 148) dX12_lineMethod_107 (by decide) ?_
            exact go_return dX12_lineMethod_148 rfl hf
        · refine go_aload_n dX12_lineMethod_77 rfl 1 rfl ?_
          refine go_iconst 0 dX12_lineMethod_78 rfl ?_
          refine go_bipush 10 dX12_lineMethod_79 (by decide) ?_
          refine go_bipush 30 dX12_lineMethod_81 (by decide) ?_
          obtain ⟨hk, hf⟩ := kg_some hf
          obtain ⟨z_15, hc, hf⟩ := bd_some hf
          refine go_callV (y2 := M_X12_say) (c2 := 13) dX12_lineMethod_83 mo_X12_say ⟨Nat.le_of_ble_eq_true rfl, Nat.le_of_ble_eq_true rfl⟩ na_X12_say w1381 w1383 (by decide) rfl w64 hk [.int 0, .int 10, .int 30] rfl (n_X12_say (a0) 0 10 30) rfl (csum (Nat.le_of_ble_eq_true rfl)) (t_X12_say (a0) 0 10 30 h_2 _ hc) ?_
          obtain ⟨_, h_16⟩ := z_15
          refine go_aload_n dX12_lineMethod_86 rfl 1 rfl ?_
          refine go_iconst 2 dX12_lineMethod_87 rfl ?_
          refine go_putI dX12_lineMethod_88 fl_1119_0 (fun q hq => by cases hq; exact Or.inl rfl) (fun _ _ => rfl) rfl hf (fun h_17 hf => ?_)
          refine go_goto (tgt := 148) dX12_lineMethod_91 (by decide) ?_
          exact go_return dX12_lineMethod_148 rfl hf
      · exact go_return dX12_lineMethod_68 rfl hf
    · refine go_sub (lv' := [(0, vR Ω (some a0))]) [1] rfl ?_
      exact t_X12_lineMethod_53 a0 h q hf
def f_X12_lineMethod (a0 : Nat) (x1 : Int32) (x2 : Int32) (h : AH) : Option (Unit × AH) := rdI h a0 13 0 fun x_1 =>
  (if x_1 = 1 then
    f_X12_lineMethod_41 a0 x1 x2 11 h
  else
    rdI h a0 13 0 fun x_2 =>
    (if x_2 = 2 then
      f_X12_lineMethod_41 a0 x1 x2 31 h
    else
      rdI h a0 13 0 fun x_3 =>
      (if x_3 = 3 then
        f_X12_lineMethod_41 a0 x1 x2 40 h
      else
        f_X12_lineMethod_41 a0 x1 x2 50 h)))
set_option maxRecDepth 20000 in
set_option maxHeartbeats 4000000 in
theorem t_X12_lineMethod {Ω : Om} (a0 : Nat) (x1 : Int32) (x2 : Int32) (h : AH) (q : Unit × AH) (hf : f_X12_lineMethod a0 x1 x2 h = some q) : Go Ω M_X12_lineMethod 0 (lv_args 0 [vR Ω (some a0), .int x1, .int x2]) [] h none q.2 := by
  unfold f_X12_lineMethod at hf
  rw [la_R, la_I, la_I, la_0]
  refine go_sub (lv' := [(0, vR Ω (some a0)), (1, .int x1), (2, .int x2)]) [0, 1, 2] rfl ?_
  refine go_aload_n dX12_lineMethod_0 rfl 0 rfl ?_
  refine go_getI dX12_lineMethod_1 fl_1119_0 (fun _ _ => rfl) hf (fun x_1 hf => ?_)
  refine go_iconst 1 dX12_lineMethod_4 rfl ?_
  refine go_icmp_ne (tgt := 13) dX12_lineMethod_5 (by decide) hf (fun hf => ?_) (fun hf => ?_)
  · refine go_aload_n dX12_lineMethod_13 rfl 0 rfl ?_
    refine go_getI dX12_lineMethod_14 fl_1119_0 (fun _ _ => rfl) hf (fun x_2 hf => ?_)
    refine go_iconst 2 dX12_lineMethod_17 rfl ?_
    refine go_icmp_ne (tgt := 26) dX12_lineMethod_18 (by decide) hf (fun hf => ?_) (fun hf => ?_)
    · refine go_aload_n dX12_lineMethod_26 rfl 0 rfl ?_
      refine go_getI dX12_lineMethod_27 fl_1119_0 (fun _ _ => rfl) hf (fun x_3 hf => ?_)
      refine go_iconst 3 dX12_lineMethod_30 rfl ?_
      refine go_icmp_ne (tgt := 39) dX12_lineMethod_31 (by decide) hf (fun hf => ?_) (fun hf => ?_)
      · refine go_bipush 50 dX12_lineMethod_39 (by decide) ?_
        refine go_sub (lv' := [(0, vR Ω (some a0)), (1, .int x1), (2, .int x2)]) [0, 1, 2] rfl ?_
        exact t_X12_lineMethod_41 a0 x1 x2 50 h q hf
      · refine go_bipush 40 dX12_lineMethod_34 (by decide) ?_
        refine go_goto (tgt := 41) dX12_lineMethod_36 (by decide) ?_
        refine go_sub (lv' := [(0, vR Ω (some a0)), (1, .int x1), (2, .int x2)]) [0, 1, 2] rfl ?_
        exact t_X12_lineMethod_41 a0 x1 x2 40 h q hf
    · refine go_bipush 31 dX12_lineMethod_21 (by decide) ?_
      refine go_goto (tgt := 41) dX12_lineMethod_23 (by decide) ?_
      refine go_sub (lv' := [(0, vR Ω (some a0)), (1, .int x1), (2, .int x2)]) [0, 1, 2] rfl ?_
      exact t_X12_lineMethod_41 a0 x1 x2 31 h q hf
  · refine go_bipush 11 dX12_lineMethod_8 (by decide) ?_
    refine go_goto (tgt := 41) dX12_lineMethod_10 (by decide) ?_
    refine go_sub (lv' := [(0, vR Ω (some a0)), (1, .int x1), (2, .int x2)]) [0, 1, 2] rfl ?_
    exact t_X12_lineMethod_41 a0 x1 x2 11 h q hf
-- LetterBrokerModel.bindingOf(JJJ)I
theorem dX12_bindingOf_0 : decode cX12_bindingOf 0 = .ok (.iconst 0, 1) := by decide +kernel
theorem dX12_bindingOf_1 : decode cX12_bindingOf 1 = .ok (.istore 7, 2) := by decide +kernel
theorem dX12_bindingOf_3 : decode cX12_bindingOf 3 = .ok (.iload 7, 2) := by decide +kernel
theorem dX12_bindingOf_5 : decode cX12_bindingOf 5 = .ok (.aload_n 0, 1) := by decide +kernel
theorem dX12_bindingOf_6 : decode cX12_bindingOf 6 = .ok (.getfield 222, 3) := by decide +kernel
theorem dX12_bindingOf_9 : decode cX12_bindingOf 9 = .ok (.if_icmp .ge 49, 3) := by decide +kernel
theorem dX12_bindingOf_12 : decode cX12_bindingOf 12 = .ok (.aload_n 0, 1) := by decide +kernel
theorem dX12_bindingOf_13 : decode cX12_bindingOf 13 = .ok (.getfield 36, 3) := by decide +kernel
theorem dX12_bindingOf_16 : decode cX12_bindingOf 16 = .ok (.iload 7, 2) := by decide +kernel
theorem dX12_bindingOf_18 : decode cX12_bindingOf 18 = .ok (.laload, 1) := by decide +kernel
theorem dX12_bindingOf_19 : decode cX12_bindingOf 19 = .ok (.lload_n 1, 1) := by decide +kernel
theorem dX12_bindingOf_20 : decode cX12_bindingOf 20 = .ok (.lcmp, 1) := by decide +kernel
theorem dX12_bindingOf_21 : decode cX12_bindingOf 21 = .ok (.ifCond .ne 31, 3) := by decide +kernel
theorem dX12_bindingOf_24 : decode cX12_bindingOf 24 = .ok (.aload_n 0, 1) := by decide +kernel
theorem dX12_bindingOf_25 : decode cX12_bindingOf 25 = .ok (.getfield 39, 3) := by decide +kernel
theorem dX12_bindingOf_28 : decode cX12_bindingOf 28 = .ok (.iload 7, 2) := by decide +kernel
theorem dX12_bindingOf_30 : decode cX12_bindingOf 30 = .ok (.laload, 1) := by decide +kernel
theorem dX12_bindingOf_31 : decode cX12_bindingOf 31 = .ok (.lload_n 3, 1) := by decide +kernel
theorem dX12_bindingOf_32 : decode cX12_bindingOf 32 = .ok (.lcmp, 1) := by decide +kernel
theorem dX12_bindingOf_33 : decode cX12_bindingOf 33 = .ok (.ifCond .ne 19, 3) := by decide +kernel
theorem dX12_bindingOf_36 : decode cX12_bindingOf 36 = .ok (.aload_n 0, 1) := by decide +kernel
theorem dX12_bindingOf_37 : decode cX12_bindingOf 37 = .ok (.getfield 42, 3) := by decide +kernel
theorem dX12_bindingOf_40 : decode cX12_bindingOf 40 = .ok (.iload 7, 2) := by decide +kernel
theorem dX12_bindingOf_42 : decode cX12_bindingOf 42 = .ok (.laload, 1) := by decide +kernel
theorem dX12_bindingOf_43 : decode cX12_bindingOf 43 = .ok (.lload 5, 2) := by decide +kernel
theorem dX12_bindingOf_45 : decode cX12_bindingOf 45 = .ok (.lcmp, 1) := by decide +kernel
theorem dX12_bindingOf_46 : decode cX12_bindingOf 46 = .ok (.ifCond .ne 6, 3) := by decide +kernel
theorem dX12_bindingOf_49 : decode cX12_bindingOf 49 = .ok (.iload 7, 2) := by decide +kernel
theorem dX12_bindingOf_51 : decode cX12_bindingOf 51 = .ok (.ireturn, 1) := by decide +kernel
theorem dX12_bindingOf_52 : decode cX12_bindingOf 52 = .ok (.iinc 7 1, 3) := by decide +kernel
theorem dX12_bindingOf_55 : decode cX12_bindingOf 55 = .ok (.goto (-52), 3) := by decide +kernel
theorem dX12_bindingOf_58 : decode cX12_bindingOf 58 = .ok (.iconst (-1), 1) := by decide +kernel
theorem dX12_bindingOf_59 : decode cX12_bindingOf 59 = .ok (.ireturn, 1) := by decide +kernel
def f_X12_bindingOf_52 (k3 : Nat → Int64 → Int64 → Int64 → Int32 → AH → Option (Int32 × AH)) (a0 : Nat) (x1 : Int64) (x3 : Int64) (x5 : Int64) (x7 : Int32) (h : AH) : Option (Int32 × AH) := k3 a0 x1 x3 x5 (x7 + 1) h
set_option maxRecDepth 20000 in
set_option maxHeartbeats 4000000 in
theorem t_X12_bindingOf_52 {Ω : Om} {k3 : Nat → Int64 → Int64 → Int64 → Int32 → AH → Option (Int32 × AH)} (c3 : ∀ (a0 : Nat) (x1 : Int64) (x3 : Int64) (x5 : Int64) (x7 : Int32) (h : AH) (q : Int32 × AH), k3 a0 x1 x3 x5 x7 h = some q → Go Ω M_X12_bindingOf 3 [(0, vR Ω (some a0)), (1, .long x1), (3, .long x3), (5, .long x5), (7, .int x7)] [] h (some (.int q.1)) q.2) (a0 : Nat) (x1 : Int64) (x3 : Int64) (x5 : Int64) (x7 : Int32) (h : AH) (q : Int32 × AH) (hf : f_X12_bindingOf_52 k3 a0 x1 x3 x5 x7 h = some q) : Go Ω M_X12_bindingOf 52 [(0, vR Ω (some a0)), (1, .long x1), (3, .long x3), (5, .long x5), (7, .int x7)] [] h (some (.int q.1)) q.2 := by
  unfold f_X12_bindingOf_52 at hf
  refine go_iinc (j := 4) (v := x7 + 1) (lv' := [(7, .int (x7 + 1)), (0, vR Ω (some a0)), (1, .long x1), (3, .long x3), (5, .long x5)]) dX12_bindingOf_52 rfl rfl (by decide) (by first | rfl | simp [catR, catI, catJ]) ?_
  refine go_goto (tgt := 3) dX12_bindingOf_55 (by decide) ?_
  refine go_sub (lv' := [(0, vR Ω (some a0)), (1, .long x1), (3, .long x3), (5, .long x5), (7, .int (x7 + 1))]) [1, 2, 3, 4, 0] rfl ?_
  exact c3 a0 x1 x3 x5 (x7 + 1) h q hf
def f_X12_bindingOf_3 : Nat → Nat → Int64 → Int64 → Int64 → Int32 → AH → Option (Int32 × AH)
  | 0, _, _, _, _, _, _ => none
  | n + 1, a0, x1, x3, x5, x7, h => rdI h a0 13 13 fun x_1 =>
    (if x_1 ≤ x7 then
      some (((-1)), h)
    else
      rdR h a0 13 14 fun r_2 =>
      nn r_2 fun a_3 =>
      arJ h a_3 x7 fun x_4 =>
      (if (lg_cmp x_4 x1) = 0 then
        rdR h a0 13 15 fun r_5 =>
        nn r_5 fun a_6 =>
        arJ h a_6 x7 fun x_7 =>
        (if (lg_cmp x_7 x3) = 0 then
          rdR h a0 13 16 fun r_8 =>
          nn r_8 fun a_9 =>
          arJ h a_9 x7 fun x_10 =>
          (if (lg_cmp x_10 x5) = 0 then
            some (x7, h)
          else
            f_X12_bindingOf_52 (fun a0 x1 x3 x5 x7 h => f_X12_bindingOf_3 n a0 x1 x3 x5 x7 h) a0 x1 x3 x5 x7 h)
        else
          f_X12_bindingOf_52 (fun a0 x1 x3 x5 x7 h => f_X12_bindingOf_3 n a0 x1 x3 x5 x7 h) a0 x1 x3 x5 x7 h)
      else
        f_X12_bindingOf_52 (fun a0 x1 x3 x5 x7 h => f_X12_bindingOf_3 n a0 x1 x3 x5 x7 h) a0 x1 x3 x5 x7 h))
set_option maxRecDepth 20000 in
set_option maxHeartbeats 4000000 in
theorem t_X12_bindingOf_3 {Ω : Om} : ∀ (n : Nat) (a0 : Nat) (x1 : Int64) (x3 : Int64) (x5 : Int64) (x7 : Int32) (h : AH) (q : Int32 × AH), f_X12_bindingOf_3 n a0 x1 x3 x5 x7 h = some q → Go Ω M_X12_bindingOf 3 [(0, vR Ω (some a0)), (1, .long x1), (3, .long x3), (5, .long x5), (7, .int x7)] [] h (some (.int q.1)) q.2 := by
  intro n
  induction n with
  | zero => intro a0 x1 x3 x5 x7 h q hf; cases hf
  | succ n ih =>
    intro a0 x1 x3 x5 x7 h q hf
    rw [f_X12_bindingOf_3] at hf
    refine go_iload dX12_bindingOf_3 4 rfl ?_
    refine go_aload_n dX12_bindingOf_5 rfl 0 rfl ?_
    refine go_getI dX12_bindingOf_6 fl_1132_0 (fun _ _ => rfl) hf (fun x_1 hf => ?_)
    refine go_icmp_ge (tgt := 58) dX12_bindingOf_9 (by decide) hf (fun hf => ?_) (fun hf => ?_)
    · refine go_iconst (-1) dX12_bindingOf_58 rfl ?_
      exact go_ireturn dX12_bindingOf_59 rfl hf
    · refine go_aload_n dX12_bindingOf_12 rfl 0 rfl ?_
      refine go_getR dX12_bindingOf_13 fl_1133_0 (fun _ _ => rfl) hf (fun r_2 hf => ?_)
      refine go_iload dX12_bindingOf_16 4 rfl ?_
      obtain ⟨a_3, rfl, hga_3⟩ := nn_some hf
      have hf := hga_3
      refine go_laload dX12_bindingOf_18 hf (fun x_4 hf => ?_)
      refine go_lload_n dX12_bindingOf_19 rfl 1 rfl ?_
      refine go_lcmp dX12_bindingOf_20 ?_
      refine go_if_ne (tgt := 52) dX12_bindingOf_21 (by decide) hf (fun hf => ?_) (fun hf => ?_)
      · refine go_sub (lv' := [(0, vR Ω (some a0)), (1, .long x1), (3, .long x3), (5, .long x5), (7, .int x7)]) [0, 1, 2, 3, 4] rfl ?_
        exact t_X12_bindingOf_52 ih a0 x1 x3 x5 x7 h q hf
      · refine go_aload_n dX12_bindingOf_24 rfl 0 rfl ?_
        refine go_getR dX12_bindingOf_25 fl_1134_0 (fun _ _ => rfl) hf (fun r_5 hf => ?_)
        refine go_iload dX12_bindingOf_28 4 rfl ?_
        obtain ⟨a_6, rfl, hga_6⟩ := nn_some hf
        have hf := hga_6
        refine go_laload dX12_bindingOf_30 hf (fun x_7 hf => ?_)
        refine go_lload_n dX12_bindingOf_31 rfl 2 rfl ?_
        refine go_lcmp dX12_bindingOf_32 ?_
        refine go_if_ne (tgt := 52) dX12_bindingOf_33 (by decide) hf (fun hf => ?_) (fun hf => ?_)
        · refine go_sub (lv' := [(0, vR Ω (some a0)), (1, .long x1), (3, .long x3), (5, .long x5), (7, .int x7)]) [0, 1, 2, 3, 4] rfl ?_
          exact t_X12_bindingOf_52 ih a0 x1 x3 x5 x7 h q hf
        · refine go_aload_n dX12_bindingOf_36 rfl 0 rfl ?_
          refine go_getR dX12_bindingOf_37 fl_1135_0 (fun _ _ => rfl) hf (fun r_8 hf => ?_)
          refine go_iload dX12_bindingOf_40 4 rfl ?_
          obtain ⟨a_9, rfl, hga_9⟩ := nn_some hf
          have hf := hga_9
          refine go_laload dX12_bindingOf_42 hf (fun x_10 hf => ?_)
          refine go_lload dX12_bindingOf_43 3 rfl ?_
          refine go_lcmp dX12_bindingOf_45 ?_
          refine go_if_ne (tgt := 52) dX12_bindingOf_46 (by decide) hf (fun hf => ?_) (fun hf => ?_)
          · refine go_sub (lv' := [(0, vR Ω (some a0)), (1, .long x1), (3, .long x3), (5, .long x5), (7, .int x7)]) [0, 1, 2, 3, 4] rfl ?_
            exact t_X12_bindingOf_52 ih a0 x1 x3 x5 x7 h q hf
          · refine go_iload dX12_bindingOf_49 4 rfl ?_
            exact go_ireturn dX12_bindingOf_51 rfl hf
def f_X12_bindingOf (a0 : Nat) (x1 : Int64) (x3 : Int64) (x5 : Int64) (h : AH) : Option (Int32 × AH) := f_X12_bindingOf_3 FU a0 x1 x3 x5 0 h
set_option maxRecDepth 20000 in
set_option maxHeartbeats 4000000 in
theorem t_X12_bindingOf {Ω : Om} (a0 : Nat) (x1 : Int64) (x3 : Int64) (x5 : Int64) (h : AH) (q : Int32 × AH) (hf : f_X12_bindingOf a0 x1 x3 x5 h = some q) : Go Ω M_X12_bindingOf 0 (lv_args 0 [vR Ω (some a0), .long x1, .long x3, .long x5]) [] h (some (.int q.1)) q.2 := by
  unfold f_X12_bindingOf at hf
  rw [la_R, la_J, la_J, la_J, la_0]
  refine go_sub (lv' := [(0, vR Ω (some a0)), (1, .long x1), (3, .long x3), (5, .long x5)]) [0, 1, 2, 3] rfl ?_
  refine go_iconst 0 dX12_bindingOf_0 rfl ?_
  refine go_istore (i := 7) (lv' := [(7, .int 0), (0, vR Ω (some a0)), (1, .long x1), (3, .long x3), (5, .long x5)]) dX12_bindingOf_1 (by decide) (by first | rfl | simp [catR, catI, catJ]) ?_
  refine go_sub (lv' := [(0, vR Ω (some a0)), (1, .long x1), (3, .long x3), (5, .long x5), (7, .int 0)]) [1, 2, 3, 4, 0] rfl ?_
  exact t_X12_bindingOf_3 FU a0 x1 x3 x5 0 h q hf
-- LetterBrokerModel.bind(I)V
theorem dX12_bind_0 : decode cX12_bind 0 = .ok (.aload_n 0, 1) := by decide +kernel
theorem dX12_bind_1 : decode cX12_bind 1 = .ok (.getfield 318, 3) := by decide +kernel
theorem dX12_bind_4 : decode cX12_bind 4 = .ok (.istore_n 2, 1) := by decide +kernel
theorem dX12_bind_5 : decode cX12_bind 5 = .ok (.aload_n 0, 1) := by decide +kernel
theorem dX12_bind_6 : decode cX12_bind 6 = .ok (.invokevirtual 321, 3) := by decide +kernel
theorem dX12_bind_9 : decode cX12_bind 9 = .ok (.lstore_n 3, 1) := by decide +kernel
theorem dX12_bind_10 : decode cX12_bind 10 = .ok (.aload_n 0, 1) := by decide +kernel
theorem dX12_bind_11 : decode cX12_bind 11 = .ok (.invokevirtual 321, 3) := by decide +kernel
theorem dX12_bind_14 : decode cX12_bind 14 = .ok (.lstore 5, 2) := by decide +kernel
theorem dX12_bind_16 : decode cX12_bind 16 = .ok (.aload_n 0, 1) := by decide +kernel
theorem dX12_bind_17 : decode cX12_bind 17 = .ok (.invokevirtual 321, 3) := by decide +kernel
theorem dX12_bind_20 : decode cX12_bind 20 = .ok (.lstore 7, 2) := by decide +kernel
theorem dX12_bind_22 : decode cX12_bind 22 = .ok (.aload_n 0, 1) := by decide +kernel
theorem dX12_bind_23 : decode cX12_bind 23 = .ok (.invokevirtual 329, 3) := by decide +kernel
theorem dX12_bind_26 : decode cX12_bind 26 = .ok (.ifCond .ne 4, 3) := by decide +kernel
theorem dX12_bind_29 : decode cX12_bind 29 = .ok (.return_, 1) := by decide +kernel
theorem dX12_bind_30 : decode cX12_bind 30 = .ok (.aload_n 0, 1) := by decide +kernel
theorem dX12_bind_31 : decode cX12_bind 31 = .ok (.lload_n 3, 1) := by decide +kernel
theorem dX12_bind_32 : decode cX12_bind 32 = .ok (.lload 5, 2) := by decide +kernel
theorem dX12_bind_34 : decode cX12_bind 34 = .ok (.lload 7, 2) := by decide +kernel
theorem dX12_bind_36 : decode cX12_bind 36 = .ok (.invokevirtual 354, 3) := by decide +kernel
theorem dX12_bind_39 : decode cX12_bind 39 = .ok (.istore 9, 2) := by decide +kernel
theorem dX12_bind_41 : decode cX12_bind 41 = .ok (.aload_n 0, 1) := by decide +kernel
theorem dX12_bind_42 : decode cX12_bind 42 = .ok (.lload_n 3, 1) := by decide +kernel
theorem dX12_bind_43 : decode cX12_bind 43 = .ok (.invokevirtual 342, 3) := by decide +kernel
theorem dX12_bind_46 : decode cX12_bind 46 = .ok (.ifCond .lt 12, 3) := by decide +kernel
theorem dX12_bind_49 : decode cX12_bind 49 = .ok (.aload_n 0, 1) := by decide +kernel
theorem dX12_bind_50 : decode cX12_bind 50 = .ok (.lload 5, 2) := by decide +kernel
theorem dX12_bind_52 : decode cX12_bind 52 = .ok (.invokevirtual 245, 3) := by decide +kernel
theorem dX12_bind_55 : decode cX12_bind 55 = .ok (.ifCond .ge 14, 3) := by decide +kernel
theorem dX12_bind_58 : decode cX12_bind 58 = .ok (.aload_n 0, 1) := by decide +kernel
theorem dX12_bind_59 : decode cX12_bind 59 = .ok (.iload_n 2, 1) := by decide +kernel
theorem dX12_bind_60 : decode cX12_bind 60 = .ok (.sipush 404, 3) := by decide +kernel
theorem dX12_bind_63 : decode cX12_bind 63 = .ok (.invokevirtual 252, 3) := by decide +kernel
theorem dX12_bind_66 : decode cX12_bind 66 = .ok (.goto 131, 3) := by decide +kernel
theorem dX12_bind_69 : decode cX12_bind 69 = .ok (.lload 5, 2) := by decide +kernel
theorem dX12_bind_71 : decode cX12_bind 71 = .ok (.lconst 0, 1) := by decide +kernel
theorem dX12_bind_72 : decode cX12_bind 72 = .ok (.lcmp, 1) := by decide +kernel
theorem dX12_bind_73 : decode cX12_bind 73 = .ok (.ifCond .ne 14, 3) := by decide +kernel
theorem dX12_bind_76 : decode cX12_bind 76 = .ok (.aload_n 0, 1) := by decide +kernel
theorem dX12_bind_77 : decode cX12_bind 77 = .ok (.iload_n 2, 1) := by decide +kernel
theorem dX12_bind_78 : decode cX12_bind 78 = .ok (.sipush 403, 3) := by decide +kernel
theorem dX12_bind_81 : decode cX12_bind 81 = .ok (.invokevirtual 252, 3) := by decide +kernel
theorem dX12_bind_84 : decode cX12_bind 84 = .ok (.goto 113, 3) := by decide +kernel
theorem dX12_bind_87 : decode cX12_bind 87 = .ok (.iload_n 1, 1) := by decide +kernel
theorem dX12_bind_88 : decode cX12_bind 88 = .ok (.bipush 50, 2) := by decide +kernel
theorem dX12_bind_90 : decode cX12_bind 90 = .ok (.if_icmp .ne 26, 3) := by decide +kernel
theorem dX12_bind_93 : decode cX12_bind 93 = .ok (.iload 9, 2) := by decide +kernel
theorem dX12_bind_95 : decode cX12_bind 95 = .ok (.ifCond .lt 9, 3) := by decide +kernel
theorem dX12_bind_98 : decode cX12_bind 98 = .ok (.aload_n 0, 1) := by decide +kernel
theorem dX12_bind_99 : decode cX12_bind 99 = .ok (.iload 9, 2) := by decide +kernel
theorem dX12_bind_101 : decode cX12_bind 101 = .ok (.invokevirtual 339, 3) := by decide +kernel
theorem dX12_bind_104 : decode cX12_bind 104 = .ok (.aload_n 0, 1) := by decide +kernel
theorem dX12_bind_105 : decode cX12_bind 105 = .ok (.iload_n 2, 1) := by decide +kernel
theorem dX12_bind_106 : decode cX12_bind 106 = .ok (.bipush 50, 2) := by decide +kernel
theorem dX12_bind_108 : decode cX12_bind 108 = .ok (.bipush 51, 2) := by decide +kernel
theorem dX12_bind_110 : decode cX12_bind 110 = .ok (.invokevirtual 278, 3) := by decide +kernel
theorem dX12_bind_113 : decode cX12_bind 113 = .ok (.goto 84, 3) := by decide +kernel
theorem dX12_bind_116 : decode cX12_bind 116 = .ok (.iload 9, 2) := by decide +kernel
theorem dX12_bind_118 : decode cX12_bind 118 = .ok (.ifCond .ge 23, 3) := by decide +kernel
theorem dX12_bind_121 : decode cX12_bind 121 = .ok (.aload_n 0, 1) := by decide +kernel
theorem dX12_bind_122 : decode cX12_bind 122 = .ok (.getfield 222, 3) := by decide +kernel
theorem dX12_bind_125 : decode cX12_bind 125 = .ok (.bipush 12, 2) := by decide +kernel
theorem dX12_bind_127 : decode cX12_bind 127 = .ok (.if_icmp .ne 14, 3) := by decide +kernel
theorem dX12_bind_130 : decode cX12_bind 130 = .ok (.aload_n 0, 1) := by decide +kernel
theorem dX12_bind_131 : decode cX12_bind 131 = .ok (.iload_n 2, 1) := by decide +kernel
theorem dX12_bind_132 : decode cX12_bind 132 = .ok (.sipush 506, 3) := by decide +kernel
theorem dX12_bind_135 : decode cX12_bind 135 = .ok (.invokevirtual 252, 3) := by decide +kernel
theorem dX12_bind_138 : decode cX12_bind 138 = .ok (.goto 59, 3) := by decide +kernel
theorem dX12_bind_141 : decode cX12_bind 141 = .ok (.iload 9, 2) := by decide +kernel
theorem dX12_bind_143 : decode cX12_bind 143 = .ok (.ifCond .ge 45, 3) := by decide +kernel
theorem dX12_bind_146 : decode cX12_bind 146 = .ok (.aload_n 0, 1) := by decide +kernel
theorem dX12_bind_147 : decode cX12_bind 147 = .ok (.getfield 36, 3) := by decide +kernel
theorem dX12_bind_150 : decode cX12_bind 150 = .ok (.aload_n 0, 1) := by decide +kernel
theorem dX12_bind_151 : decode cX12_bind 151 = .ok (.getfield 222, 3) := by decide +kernel
theorem dX12_bind_154 : decode cX12_bind 154 = .ok (.lload_n 3, 1) := by decide +kernel
theorem dX12_bind_155 : decode cX12_bind 155 = .ok (.lastore, 1) := by decide +kernel
theorem dX12_bind_156 : decode cX12_bind 156 = .ok (.aload_n 0, 1) := by decide +kernel
theorem dX12_bind_157 : decode cX12_bind 157 = .ok (.getfield 39, 3) := by decide +kernel
theorem dX12_bind_160 : decode cX12_bind 160 = .ok (.aload_n 0, 1) := by decide +kernel
theorem dX12_bind_161 : decode cX12_bind 161 = .ok (.getfield 222, 3) := by decide +kernel
theorem dX12_bind_164 : decode cX12_bind 164 = .ok (.lload 5, 2) := by decide +kernel
theorem dX12_bind_166 : decode cX12_bind 166 = .ok (.lastore, 1) := by decide +kernel
theorem dX12_bind_167 : decode cX12_bind 167 = .ok (.aload_n 0, 1) := by decide +kernel
theorem dX12_bind_168 : decode cX12_bind 168 = .ok (.getfield 42, 3) := by decide +kernel
theorem dX12_bind_171 : decode cX12_bind 171 = .ok (.aload_n 0, 1) := by decide +kernel
theorem dX12_bind_172 : decode cX12_bind 172 = .ok (.getfield 222, 3) := by decide +kernel
theorem dX12_bind_175 : decode cX12_bind 175 = .ok (.lload 7, 2) := by decide +kernel
theorem dX12_bind_177 : decode cX12_bind 177 = .ok (.lastore, 1) := by decide +kernel
theorem dX12_bind_178 : decode cX12_bind 178 = .ok (.aload_n 0, 1) := by decide +kernel
theorem dX12_bind_179 : decode cX12_bind 179 = .ok (.dup, 1) := by decide +kernel
theorem dX12_bind_180 : decode cX12_bind 180 = .ok (.getfield 222, 3) := by decide +kernel
theorem dX12_bind_183 : decode cX12_bind 183 = .ok (.iconst 1, 1) := by decide +kernel
theorem dX12_bind_184 : decode cX12_bind 184 = .ok (.iadd, 1) := by decide +kernel
theorem dX12_bind_185 : decode cX12_bind 185 = .ok (.putfield 222, 3) := by decide +kernel
theorem dX12_bind_188 : decode cX12_bind 188 = .ok (.aload_n 0, 1) := by decide +kernel
theorem dX12_bind_189 : decode cX12_bind 189 = .ok (.iload_n 2, 1) := by decide +kernel
theorem dX12_bind_190 : decode cX12_bind 190 = .ok (.bipush 50, 2) := by decide +kernel
theorem dX12_bind_192 : decode cX12_bind 192 = .ok (.bipush 21, 2) := by decide +kernel
theorem dX12_bind_194 : decode cX12_bind 194 = .ok (.invokevirtual 278, 3) := by decide +kernel
theorem dX12_bind_197 : decode cX12_bind 197 = .ok (.return_, 1) := by decide +kernel
def f_X12_bind_58 (a0 : Nat) (x2 : Int32) (h : AH) : Option (Unit × AH) := kg h a0 13 (bd (f_X12_soft a0 x2 404 h) fun _ h_2 =>
  some ((), h_2))
set_option maxRecDepth 20000 in
set_option maxHeartbeats 4000000 in
theorem t_X12_bind_58 {Ω : Om} (a0 : Nat) (x2 : Int32) (h : AH) (q : Unit × AH) (hf : f_X12_bind_58 a0 x2 h = some q) : Go Ω M_X12_bind 58 [(0, vR Ω (some a0)), (2, .int x2)] [] h none q.2 := by
  unfold f_X12_bind_58 at hf
  refine go_aload_n dX12_bind_58 rfl 0 rfl ?_
  refine go_iload_n dX12_bind_59 rfl 1 rfl ?_
  refine go_sipush 404 dX12_bind_60 (by decide) ?_
  obtain ⟨hk, hf⟩ := kg_some hf
  obtain ⟨z_1, hc, hf⟩ := bd_some hf
  refine go_callV (y2 := M_X12_soft) (c2 := 13) dX12_bind_63 mo_X12_soft ⟨Nat.le_of_ble_eq_true rfl, Nat.le_of_ble_eq_true rfl⟩ na_X12_soft w1432 w1434 (by decide) rfl w76 hk [.int x2, .int 404] rfl (n_X12_soft (a0) x2 404) rfl (csum (Nat.le_of_ble_eq_true rfl)) (t_X12_soft (a0) x2 404 h _ hc) ?_
  obtain ⟨_, h_2⟩ := z_1
  refine go_goto (tgt := 197) dX12_bind_66 (by decide) ?_
  exact go_return dX12_bind_197 rfl hf
def f_X12_bind_104 (a0 : Nat) (x2 : Int32) (h : AH) : Option (Unit × AH) := kg h a0 13 (bd (f_X12_say a0 x2 50 51 h) fun _ h_2 =>
  some ((), h_2))
set_option maxRecDepth 20000 in
set_option maxHeartbeats 4000000 in
theorem t_X12_bind_104 {Ω : Om} (a0 : Nat) (x2 : Int32) (h : AH) (q : Unit × AH) (hf : f_X12_bind_104 a0 x2 h = some q) : Go Ω M_X12_bind 104 [(0, vR Ω (some a0)), (2, .int x2)] [] h none q.2 := by
  unfold f_X12_bind_104 at hf
  refine go_aload_n dX12_bind_104 rfl 0 rfl ?_
  refine go_iload_n dX12_bind_105 rfl 1 rfl ?_
  refine go_bipush 50 dX12_bind_106 (by decide) ?_
  refine go_bipush 51 dX12_bind_108 (by decide) ?_
  obtain ⟨hk, hf⟩ := kg_some hf
  obtain ⟨z_1, hc, hf⟩ := bd_some hf
  refine go_callV (y2 := M_X12_say) (c2 := 13) dX12_bind_110 mo_X12_say ⟨Nat.le_of_ble_eq_true rfl, Nat.le_of_ble_eq_true rfl⟩ na_X12_say w1381 w1383 (by decide) rfl w64 hk [.int x2, .int 50, .int 51] rfl (n_X12_say (a0) x2 50 51) rfl (csum (Nat.le_of_ble_eq_true rfl)) (t_X12_say (a0) x2 50 51 h _ hc) ?_
  obtain ⟨_, h_2⟩ := z_1
  refine go_goto (tgt := 197) dX12_bind_113 (by decide) ?_
  exact go_return dX12_bind_197 rfl hf
def f_X12_bind_188 (a0 : Nat) (x2 : Int32) (h : AH) : Option (Unit × AH) := kg h a0 13 (bd (f_X12_say a0 x2 50 21 h) fun _ h_2 =>
  some ((), h_2))
set_option maxRecDepth 20000 in
set_option maxHeartbeats 4000000 in
theorem t_X12_bind_188 {Ω : Om} (a0 : Nat) (x2 : Int32) (h : AH) (q : Unit × AH) (hf : f_X12_bind_188 a0 x2 h = some q) : Go Ω M_X12_bind 188 [(0, vR Ω (some a0)), (2, .int x2)] [] h none q.2 := by
  unfold f_X12_bind_188 at hf
  refine go_aload_n dX12_bind_188 rfl 0 rfl ?_
  refine go_iload_n dX12_bind_189 rfl 1 rfl ?_
  refine go_bipush 50 dX12_bind_190 (by decide) ?_
  refine go_bipush 21 dX12_bind_192 (by decide) ?_
  obtain ⟨hk, hf⟩ := kg_some hf
  obtain ⟨z_1, hc, hf⟩ := bd_some hf
  refine go_callV (y2 := M_X12_say) (c2 := 13) dX12_bind_194 mo_X12_say ⟨Nat.le_of_ble_eq_true rfl, Nat.le_of_ble_eq_true rfl⟩ na_X12_say w1381 w1383 (by decide) rfl w64 hk [.int x2, .int 50, .int 21] rfl (n_X12_say (a0) x2 50 21) rfl (csum (Nat.le_of_ble_eq_true rfl)) (t_X12_say (a0) x2 50 21 h _ hc) ?_
  obtain ⟨_, h_2⟩ := z_1
  exact go_return dX12_bind_197 rfl hf
def f_X12_bind_141 (a0 : Nat) (x2 : Int32) (x3 : Int64) (x5 : Int64) (x7 : Int64) (x9 : Int32) (h : AH) : Option (Unit × AH) := (if 0 ≤ x9 then
    f_X12_bind_188 a0 x2 h
  else
    rdR h a0 13 14 fun r_1 =>
    rdI h a0 13 13 fun x_2 =>
    nn r_1 fun a_3 =>
    asJ h a_3 x_2 x3 fun h_4 =>
    rdR h_4 a0 13 15 fun r_5 =>
    rdI h_4 a0 13 13 fun x_6 =>
    nn r_5 fun a_7 =>
    asJ h_4 a_7 x_6 x5 fun h_8 =>
    rdR h_8 a0 13 16 fun r_9 =>
    rdI h_8 a0 13 13 fun x_10 =>
    nn r_9 fun a_11 =>
    asJ h_8 a_11 x_10 x7 fun h_12 =>
    rdI h_12 a0 13 13 fun x_13 =>
    wrI h_12 a0 13 13 (x_13 + 1) fun h_14 =>
    f_X12_bind_188 a0 x2 h_14)
set_option maxRecDepth 20000 in
set_option maxHeartbeats 4000000 in
theorem t_X12_bind_141 {Ω : Om} (a0 : Nat) (x2 : Int32) (x3 : Int64) (x5 : Int64) (x7 : Int64) (x9 : Int32) (h : AH) (q : Unit × AH) (hf : f_X12_bind_141 a0 x2 x3 x5 x7 x9 h = some q) : Go Ω M_X12_bind 141 [(0, vR Ω (some a0)), (2, .int x2), (3, .long x3), (5, .long x5), (7, .long x7), (9, .int x9)] [] h none q.2 := by
  unfold f_X12_bind_141 at hf
  refine go_iload dX12_bind_141 5 rfl ?_
  refine go_if_ge (tgt := 188) dX12_bind_143 (by decide) hf (fun hf => ?_) (fun hf => ?_)
  · refine go_sub (lv' := [(0, vR Ω (some a0)), (2, .int x2)]) [0, 1] rfl ?_
    exact t_X12_bind_188 a0 x2 h q hf
  · refine go_aload_n dX12_bind_146 rfl 0 rfl ?_
    refine go_getR dX12_bind_147 fl_1133_0 (fun _ _ => rfl) hf (fun r_1 hf => ?_)
    refine go_aload_n dX12_bind_150 rfl 0 rfl ?_
    refine go_getI dX12_bind_151 fl_1132_0 (fun _ _ => rfl) hf (fun x_2 hf => ?_)
    refine go_lload_n dX12_bind_154 rfl 2 rfl ?_
    obtain ⟨a_3, rfl, hga_3⟩ := nn_some hf
    have hf := hga_3
    refine go_lastore dX12_bind_155 hf (fun h_4 hf => ?_)
    refine go_aload_n dX12_bind_156 rfl 0 rfl ?_
    refine go_getR dX12_bind_157 fl_1134_0 (fun _ _ => rfl) hf (fun r_5 hf => ?_)
    refine go_aload_n dX12_bind_160 rfl 0 rfl ?_
    refine go_getI dX12_bind_161 fl_1132_0 (fun _ _ => rfl) hf (fun x_6 hf => ?_)
    refine go_lload dX12_bind_164 3 rfl ?_
    obtain ⟨a_7, rfl, hga_7⟩ := nn_some hf
    have hf := hga_7
    refine go_lastore dX12_bind_166 hf (fun h_8 hf => ?_)
    refine go_aload_n dX12_bind_167 rfl 0 rfl ?_
    refine go_getR dX12_bind_168 fl_1135_0 (fun _ _ => rfl) hf (fun r_9 hf => ?_)
    refine go_aload_n dX12_bind_171 rfl 0 rfl ?_
    refine go_getI dX12_bind_172 fl_1132_0 (fun _ _ => rfl) hf (fun x_10 hf => ?_)
    refine go_lload dX12_bind_175 4 rfl ?_
    obtain ⟨a_11, rfl, hga_11⟩ := nn_some hf
    have hf := hga_11
    refine go_lastore dX12_bind_177 hf (fun h_12 hf => ?_)
    refine go_aload_n dX12_bind_178 rfl 0 rfl ?_
    refine go_dup dX12_bind_179 catR ?_
    refine go_getI dX12_bind_180 fl_1132_0 (fun _ _ => rfl) hf (fun x_13 hf => ?_)
    refine go_iconst 1 dX12_bind_183 rfl ?_
    refine go_iadd dX12_bind_184 ?_
    refine go_putI dX12_bind_185 fl_1132_0 (fun q hq => by cases hq; exact Or.inl rfl) (fun _ _ => rfl) rfl hf (fun h_14 hf => ?_)
    refine go_sub (lv' := [(0, vR Ω (some a0)), (2, .int x2)]) [0, 1] rfl ?_
    exact t_X12_bind_188 a0 x2 h_14 q hf
def f_X12_bind (a0 : Nat) (x1 : Int32) (h : AH) : Option (Unit × AH) := rdI h a0 13 54 fun x_1 =>
  kg h a0 13 (bd (f_X12_nextName a0 h) fun x_4 h_3 =>
  kg h_3 a0 13 (bd (f_X12_nextName a0 h_3) fun x_7 h_6 =>
  kg h_6 a0 13 (bd (f_X12_nextName a0 h_6) fun x_10 h_9 =>
  kg h_9 a0 13 (bd (f_X12_isJust a0 h_9) fun x_13 h_12 =>
  (if x_13 = 0 then
    some ((), h_12)
  else
    kg h_12 a0 13 (bd (f_X12_bindingOf a0 x_4 x_7 x_10 h_12) fun x_16 h_15 =>
    kg h_15 a0 13 (bd (f_X12_queueOf a0 x_4 h_15) fun x_19 h_18 =>
    (if x_19 < 0 then
      f_X12_bind_58 a0 x_1 h_18
    else
      kg h_18 a0 13 (bd (f_X12_exchangeOf a0 x_7 h_18) fun x_22 h_21 =>
      (if 0 ≤ x_22 then
        (if (lg_cmp x_7 0) = 0 then
          kg h_21 a0 13 (bd (f_X12_soft a0 x_1 403 h_21) fun _ h_29 =>
          some ((), h_29))
        else
          (if x1 = 50 then
            (if x_16 < 0 then
              f_X12_bind_104 a0 x_1 h_21
            else
              kg h_21 a0 13 (bd (f_X12_removeBinding a0 x_16 h_21) fun _ h_27 =>
              f_X12_bind_104 a0 x_1 h_27))
          else
            (if 0 ≤ x_16 then
              f_X12_bind_141 a0 x_1 x_4 x_7 x_10 x_16 h_21
            else
              rdI h_21 a0 13 13 fun x_23 =>
              (if x_23 = 12 then
                kg h_21 a0 13 (bd (f_X12_soft a0 x_1 506 h_21) fun _ h_25 =>
                some ((), h_25))
              else
                f_X12_bind_141 a0 x_1 x_4 x_7 x_10 x_16 h_21))))
      else
        f_X12_bind_58 a0 x_1 h_21))))))))))
set_option maxRecDepth 20000 in
set_option maxHeartbeats 4000000 in
theorem t_X12_bind {Ω : Om} (a0 : Nat) (x1 : Int32) (h : AH) (q : Unit × AH) (hf : f_X12_bind a0 x1 h = some q) : Go Ω M_X12_bind 0 (lv_args 0 [vR Ω (some a0), .int x1]) [] h none q.2 := by
  unfold f_X12_bind at hf
  rw [la_R, la_I, la_0]
  refine go_sub (lv' := [(0, vR Ω (some a0)), (1, .int x1)]) [0, 1] rfl ?_
  refine go_aload_n dX12_bind_0 rfl 0 rfl ?_
  refine go_getI dX12_bind_1 fl_1173_0 (fun _ _ => rfl) hf (fun x_1 hf => ?_)
  refine go_istore_n (i := 2) (lv' := [(2, .int x_1), (0, vR Ω (some a0)), (1, .int x1)]) dX12_bind_4 rfl (by decide) (by first | rfl | simp [catR, catI, catJ]) ?_
  refine go_aload_n dX12_bind_5 rfl 1 rfl ?_
  obtain ⟨hk, hf⟩ := kg_some hf
  obtain ⟨z_2, hc, hf⟩ := bd_some hf
  refine go_callV (y2 := M_X12_nextName) (c2 := 13) dX12_bind_6 mo_X12_nextName ⟨Nat.le_of_ble_eq_true rfl, Nat.le_of_ble_eq_true rfl⟩ na_X12_nextName w1420 w1422 (by decide) rfl w73 hk [] rfl (n_X12_nextName (a0)) rfl (csum (Nat.le_of_ble_eq_true rfl)) (t_X12_nextName (a0) h _ hc) ?_
  obtain ⟨x_4, h_3⟩ := z_2
  refine go_lstore_n (i := 3) (lv' := [(3, .long x_4), (2, .int x_1), (0, vR Ω (some a0)), (1, .int x1)]) dX12_bind_9 rfl (by decide) (by first | rfl | simp [catR, catI, catJ]) ?_
  refine go_aload_n dX12_bind_10 rfl 2 rfl ?_
  obtain ⟨hk, hf⟩ := kg_some hf
  obtain ⟨z_5, hc, hf⟩ := bd_some hf
  refine go_callV (y2 := M_X12_nextName) (c2 := 13) dX12_bind_11 mo_X12_nextName ⟨Nat.le_of_ble_eq_true rfl, Nat.le_of_ble_eq_true rfl⟩ na_X12_nextName w1420 w1422 (by decide) rfl w73 hk [] rfl (n_X12_nextName (a0)) rfl (csum (Nat.le_of_ble_eq_true rfl)) (t_X12_nextName (a0) h_3 _ hc) ?_
  obtain ⟨x_7, h_6⟩ := z_5
  refine go_lstore (i := 5) (lv' := [(5, .long x_7), (3, .long x_4), (2, .int x_1), (0, vR Ω (some a0)), (1, .int x1)]) dX12_bind_14 (by decide) (by first | rfl | simp [catR, catI, catJ]) ?_
  refine go_aload_n dX12_bind_16 rfl 3 rfl ?_
  obtain ⟨hk, hf⟩ := kg_some hf
  obtain ⟨z_8, hc, hf⟩ := bd_some hf
  refine go_callV (y2 := M_X12_nextName) (c2 := 13) dX12_bind_17 mo_X12_nextName ⟨Nat.le_of_ble_eq_true rfl, Nat.le_of_ble_eq_true rfl⟩ na_X12_nextName w1420 w1422 (by decide) rfl w73 hk [] rfl (n_X12_nextName (a0)) rfl (csum (Nat.le_of_ble_eq_true rfl)) (t_X12_nextName (a0) h_6 _ hc) ?_
  obtain ⟨x_10, h_9⟩ := z_8
  refine go_lstore (i := 7) (lv' := [(7, .long x_10), (5, .long x_7), (3, .long x_4), (2, .int x_1), (0, vR Ω (some a0)), (1, .int x1)]) dX12_bind_20 (by decide) (by first | rfl | simp [catR, catI, catJ]) ?_
  refine go_aload_n dX12_bind_22 rfl 4 rfl ?_
  obtain ⟨hk, hf⟩ := kg_some hf
  obtain ⟨z_11, hc, hf⟩ := bd_some hf
  refine go_callV (y2 := M_X12_isJust) (c2 := 13) dX12_bind_23 mo_X12_isJust ⟨Nat.le_of_ble_eq_true rfl, Nat.le_of_ble_eq_true rfl⟩ na_X12_isJust w1405 w1407 (by decide) rfl w70 hk [] rfl (n_X12_isJust (a0)) rfl (csum (Nat.le_of_ble_eq_true rfl)) (t_X12_isJust (a0) h_9 _ hc) ?_
  obtain ⟨x_13, h_12⟩ := z_11
  refine go_if_ne (tgt := 30) dX12_bind_26 (by decide) hf (fun hf => ?_) (fun hf => ?_)
  · refine go_aload_n dX12_bind_30 rfl 4 rfl ?_
    refine go_lload_n dX12_bind_31 rfl 2 rfl ?_
    refine go_lload dX12_bind_32 1 rfl ?_
    refine go_lload dX12_bind_34 0 rfl ?_
    obtain ⟨hk, hf⟩ := kg_some hf
    obtain ⟨z_14, hc, hf⟩ := bd_some hf
    refine go_callV (y2 := M_X12_bindingOf) (c2 := 13) dX12_bind_36 mo_X12_bindingOf ⟨Nat.le_of_ble_eq_true rfl, Nat.le_of_ble_eq_true rfl⟩ na_X12_bindingOf w1479 w1481 (by decide) rfl w87 hk [.long x_4, .long x_7, .long x_10] rfl (n_X12_bindingOf (a0) x_4 x_7 x_10) rfl (csum (Nat.le_of_ble_eq_true rfl)) (t_X12_bindingOf (a0) x_4 x_7 x_10 h_12 _ hc) ?_
    obtain ⟨x_16, h_15⟩ := z_14
    refine go_istore (i := 9) (lv' := [(9, .int x_16), (7, .long x_10), (5, .long x_7), (3, .long x_4), (2, .int x_1), (0, vR Ω (some a0)), (1, .int x1)]) dX12_bind_39 (by decide) (by first | rfl | simp [catR, catI, catJ]) ?_
    refine go_aload_n dX12_bind_41 rfl 5 rfl ?_
    refine go_lload_n dX12_bind_42 rfl 3 rfl ?_
    obtain ⟨hk, hf⟩ := kg_some hf
    obtain ⟨z_17, hc, hf⟩ := bd_some hf
    refine go_callV (y2 := M_X12_queueOf) (c2 := 13) dX12_bind_43 mo_X12_queueOf ⟨Nat.le_of_ble_eq_true rfl, Nat.le_of_ble_eq_true rfl⟩ na_X12_queueOf w1456 w1458 (by decide) rfl w82 hk [.long x_4] rfl (n_X12_queueOf (a0) x_4) rfl (csum (Nat.le_of_ble_eq_true rfl)) (t_X12_queueOf (a0) x_4 h_15 _ hc) ?_
    obtain ⟨x_19, h_18⟩ := z_17
    refine go_if_lt (tgt := 58) dX12_bind_46 (by decide) hf (fun hf => ?_) (fun hf => ?_)
    · refine go_sub (lv' := [(0, vR Ω (some a0)), (2, .int x_1)]) [5, 4] rfl ?_
      exact t_X12_bind_58 a0 x_1 h_18 q hf
    · refine go_aload_n dX12_bind_49 rfl 5 rfl ?_
      refine go_lload dX12_bind_50 2 rfl ?_
      obtain ⟨hk, hf⟩ := kg_some hf
      obtain ⟨z_20, hc, hf⟩ := bd_some hf
      refine go_callV (y2 := M_X12_exchangeOf) (c2 := 13) dX12_bind_52 mo_X12_exchangeOf ⟨Nat.le_of_ble_eq_true rfl, Nat.le_of_ble_eq_true rfl⟩ na_X12_exchangeOf w1428 w1430 (by decide) rfl w75 hk [.long x_7] rfl (n_X12_exchangeOf (a0) x_7) rfl (csum (Nat.le_of_ble_eq_true rfl)) (t_X12_exchangeOf (a0) x_7 h_18 _ hc) ?_
      obtain ⟨x_22, h_21⟩ := z_20
      refine go_if_ge (tgt := 69) dX12_bind_55 (by decide) hf (fun hf => ?_) (fun hf => ?_)
      · refine go_lload dX12_bind_69 2 rfl ?_
        refine go_lconst 0 dX12_bind_71 rfl ?_
        refine go_lcmp dX12_bind_72 ?_
        refine go_if_ne (tgt := 87) dX12_bind_73 (by decide) hf (fun hf => ?_) (fun hf => ?_)
        · refine go_iload_n dX12_bind_87 rfl 6 rfl ?_
          refine go_bipush 50 dX12_bind_88 (by decide) ?_
          refine go_icmp_ne (tgt := 116) dX12_bind_90 (by decide) hf (fun hf => ?_) (fun hf => ?_)
          · refine go_iload dX12_bind_116 0 rfl ?_
            refine go_if_ge (tgt := 141) dX12_bind_118 (by decide) hf (fun hf => ?_) (fun hf => ?_)
            · refine go_sub (lv' := [(0, vR Ω (some a0)), (2, .int x_1), (3, .long x_4), (5, .long x_7), (7, .long x_10), (9, .int x_16)]) [5, 4, 3, 2, 1, 0] rfl ?_
              exact t_X12_bind_141 a0 x_1 x_4 x_7 x_10 x_16 h_21 q hf
            · refine go_aload_n dX12_bind_121 rfl 5 rfl ?_
              refine go_getI dX12_bind_122 fl_1132_0 (fun _ _ => rfl) hf (fun x_23 hf => ?_)
              refine go_bipush 12 dX12_bind_125 (by decide) ?_
              refine go_icmp_ne (tgt := 141) dX12_bind_127 (by decide) hf (fun hf => ?_) (fun hf => ?_)
              · refine go_sub (lv' := [(0, vR Ω (some a0)), (2, .int x_1), (3, .long x_4), (5, .long x_7), (7, .long x_10), (9, .int x_16)]) [5, 4, 3, 2, 1, 0] rfl ?_
                exact t_X12_bind_141 a0 x_1 x_4 x_7 x_10 x_16 h_21 q hf
              · refine go_aload_n dX12_bind_130 rfl 5 rfl ?_
                refine go_iload_n dX12_bind_131 rfl 4 rfl ?_
                refine go_sipush 506 dX12_bind_132 (by decide) ?_
                obtain ⟨hk, hf⟩ := kg_some hf
                obtain ⟨z_24, hc, hf⟩ := bd_some hf
                refine go_callV (y2 := M_X12_soft) (c2 := 13) dX12_bind_135 mo_X12_soft ⟨Nat.le_of_ble_eq_true rfl, Nat.le_of_ble_eq_true rfl⟩ na_X12_soft w1432 w1434 (by decide) rfl w76 hk [.int x_1, .int 506] rfl (n_X12_soft (a0) x_1 506) rfl (csum (Nat.le_of_ble_eq_true rfl)) (t_X12_soft (a0) x_1 506 h_21 _ hc) ?_
                obtain ⟨_, h_25⟩ := z_24
                refine go_goto (tgt := 197) dX12_bind_138 (by decide) ?_
                exact go_return dX12_bind_197 rfl hf
          · refine go_iload dX12_bind_93 0 rfl ?_
            refine go_if_lt (tgt := 104) dX12_bind_95 (by decide) hf (fun hf => ?_) (fun hf => ?_)
            · refine go_sub (lv' := [(0, vR Ω (some a0)), (2, .int x_1)]) [5, 4] rfl ?_
              exact t_X12_bind_104 a0 x_1 h_21 q hf
            · refine go_aload_n dX12_bind_98 rfl 5 rfl ?_
              refine go_iload dX12_bind_99 0 rfl ?_
              obtain ⟨hk, hf⟩ := kg_some hf
              obtain ⟨z_26, hc, hf⟩ := bd_some hf
              refine go_callV (y2 := M_X12_removeBinding) (c2 := 13) dX12_bind_101 mo_X12_removeBinding ⟨Nat.le_of_ble_eq_true rfl, Nat.le_of_ble_eq_true rfl⟩ na_X12_removeBinding w1444 w1446 (by decide) rfl w79 hk [.int x_16] rfl (n_X12_removeBinding (a0) x_16) rfl (csum (Nat.le_of_ble_eq_true rfl)) (t_X12_removeBinding (a0) x_16 h_21 _ hc) ?_
              obtain ⟨_, h_27⟩ := z_26
              refine go_sub (lv' := [(0, vR Ω (some a0)), (2, .int x_1)]) [5, 4] rfl ?_
              exact t_X12_bind_104 a0 x_1 h_27 q hf
        · refine go_aload_n dX12_bind_76 rfl 5 rfl ?_
          refine go_iload_n dX12_bind_77 rfl 4 rfl ?_
          refine go_sipush 403 dX12_bind_78 (by decide) ?_
          obtain ⟨hk, hf⟩ := kg_some hf
          obtain ⟨z_28, hc, hf⟩ := bd_some hf
          refine go_callV (y2 := M_X12_soft) (c2 := 13) dX12_bind_81 mo_X12_soft ⟨Nat.le_of_ble_eq_true rfl, Nat.le_of_ble_eq_true rfl⟩ na_X12_soft w1432 w1434 (by decide) rfl w76 hk [.int x_1, .int 403] rfl (n_X12_soft (a0) x_1 403) rfl (csum (Nat.le_of_ble_eq_true rfl)) (t_X12_soft (a0) x_1 403 h_21 _ hc) ?_
          obtain ⟨_, h_29⟩ := z_28
          refine go_goto (tgt := 197) dX12_bind_84 (by decide) ?_
          exact go_return dX12_bind_197 rfl hf
      · refine go_sub (lv' := [(0, vR Ω (some a0)), (2, .int x_1)]) [5, 4] rfl ?_
        exact t_X12_bind_58 a0 x_1 h_21 q hf
  · exact go_return dX12_bind_29 rfl hf

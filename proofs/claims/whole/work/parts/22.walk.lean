/-! printed by wip/whole/gen: functions and their walks -/
-- LetterBroker$Inbox.dropHandled()V
theorem dX6_dropHandled_0 : decode cX6_dropHandled 0 = .ok (.aload_n 0, 1) := by decide +kernel
theorem dX6_dropHandled_1 : decode cX6_dropHandled 1 = .ok (.getfield 22, 3) := by decide +kernel
theorem dX6_dropHandled_4 : decode cX6_dropHandled 4 = .ok (.aload_n 0, 1) := by decide +kernel
theorem dX6_dropHandled_5 : decode cX6_dropHandled 5 = .ok (.getfield 15, 3) := by decide +kernel
theorem dX6_dropHandled_8 : decode cX6_dropHandled 8 = .ok (.if_icmp .gt 41, 3) := by decide +kernel
theorem dX6_dropHandled_11 : decode cX6_dropHandled 11 = .ok (.aload_n 0, 1) := by decide +kernel
theorem dX6_dropHandled_12 : decode cX6_dropHandled 12 = .ok (.getfield 9, 3) := by decide +kernel
theorem dX6_dropHandled_15 : decode cX6_dropHandled 15 = .ok (.aload_n 0, 1) := by decide +kernel
theorem dX6_dropHandled_16 : decode cX6_dropHandled 16 = .ok (.getfield 22, 3) := by decide +kernel
theorem dX6_dropHandled_19 : decode cX6_dropHandled 19 = .ok (.aload_n 0, 1) := by decide +kernel
theorem dX6_dropHandled_20 : decode cX6_dropHandled 20 = .ok (.getfield 9, 3) := by decide +kernel
theorem dX6_dropHandled_23 : decode cX6_dropHandled 23 = .ok (.iconst 0, 1) := by decide +kernel
theorem dX6_dropHandled_24 : decode cX6_dropHandled 24 = .ok (.aload_n 0, 1) := by decide +kernel
theorem dX6_dropHandled_25 : decode cX6_dropHandled 25 = .ok (.getfield 15, 3) := by decide +kernel
theorem dX6_dropHandled_28 : decode cX6_dropHandled 28 = .ok (.aload_n 0, 1) := by decide +kernel
theorem dX6_dropHandled_29 : decode cX6_dropHandled 29 = .ok (.getfield 22, 3) := by decide +kernel
theorem dX6_dropHandled_32 : decode cX6_dropHandled 32 = .ok (.isub, 1) := by decide +kernel
theorem dX6_dropHandled_33 : decode cX6_dropHandled 33 = .ok (.invokestatic 39, 3) := by decide +kernel
theorem dX6_dropHandled_36 : decode cX6_dropHandled 36 = .ok (.aload_n 0, 1) := by decide +kernel
theorem dX6_dropHandled_37 : decode cX6_dropHandled 37 = .ok (.dup, 1) := by decide +kernel
theorem dX6_dropHandled_38 : decode cX6_dropHandled 38 = .ok (.getfield 15, 3) := by decide +kernel
theorem dX6_dropHandled_41 : decode cX6_dropHandled 41 = .ok (.aload_n 0, 1) := by decide +kernel
theorem dX6_dropHandled_42 : decode cX6_dropHandled 42 = .ok (.getfield 22, 3) := by decide +kernel
theorem dX6_dropHandled_45 : decode cX6_dropHandled 45 = .ok (.isub, 1) := by decide +kernel
theorem dX6_dropHandled_46 : decode cX6_dropHandled 46 = .ok (.putfield 15, 3) := by decide +kernel
theorem dX6_dropHandled_49 : decode cX6_dropHandled 49 = .ok (.return_, 1) := by decide +kernel
def f_X6_dropHandled (a0 : Nat) (h : AH) : Option (Unit × AH) := rdI h a0 7 2 fun x_1 =>
  rdI h a0 7 0 fun x_2 =>
  (if x_2 < x_1 then
    some ((), h)
  else
    rdR h a0 7 1 fun r_3 =>
    rdI h a0 7 2 fun x_4 =>
    rdR h a0 7 1 fun r_5 =>
    rdI h a0 7 0 fun x_6 =>
    rdI h a0 7 2 fun x_7 =>
    nn r_5 fun a_8 =>
    nn r_3 fun a_9 =>
    cpI h a_9 x_4 a_8 0 (x_6 - x_7) fun h_10 =>
    rdI h_10 a0 7 0 fun x_11 =>
    rdI h_10 a0 7 2 fun x_12 =>
    wrI h_10 a0 7 0 (x_11 - x_12) fun h_13 =>
    some ((), h_13))
set_option maxRecDepth 20000 in
set_option maxHeartbeats 4000000 in
theorem t_X6_dropHandled {Ω : Om} (a0 : Nat) (h : AH) (q : Unit × AH) (hf : f_X6_dropHandled a0 h = some q) : Go Ω M_X6_dropHandled 0 (lv_args 0 [vR Ω (some a0)]) [] h none q.2 := by
  unfold f_X6_dropHandled at hf
  rw [la_R, la_0]
  refine go_sub (lv' := [(0, vR Ω (some a0))]) [0] rfl ?_
  refine go_aload_n dX6_dropHandled_0 rfl 0 rfl ?_
  refine go_getI dX6_dropHandled_1 fl_159_0 (fun _ _ => rfl) hf (fun x_1 hf => ?_)
  refine go_aload_n dX6_dropHandled_4 rfl 0 rfl ?_
  refine go_getI dX6_dropHandled_5 fl_156_0 (fun _ _ => rfl) hf (fun x_2 hf => ?_)
  refine go_icmp_gt (tgt := 49) dX6_dropHandled_8 (by decide) hf (fun hf => ?_) (fun hf => ?_)
  · exact go_return dX6_dropHandled_49 rfl hf
  · refine go_aload_n dX6_dropHandled_11 rfl 0 rfl ?_
    refine go_getR dX6_dropHandled_12 fl_158_0 (fun _ _ => rfl) hf (fun r_3 hf => ?_)
    refine go_aload_n dX6_dropHandled_15 rfl 0 rfl ?_
    refine go_getI dX6_dropHandled_16 fl_159_0 (fun _ _ => rfl) hf (fun x_4 hf => ?_)
    refine go_aload_n dX6_dropHandled_19 rfl 0 rfl ?_
    refine go_getR dX6_dropHandled_20 fl_158_0 (fun _ _ => rfl) hf (fun r_5 hf => ?_)
    refine go_iconst 0 dX6_dropHandled_23 rfl ?_
    refine go_aload_n dX6_dropHandled_24 rfl 0 rfl ?_
    refine go_getI dX6_dropHandled_25 fl_156_0 (fun _ _ => rfl) hf (fun x_6 hf => ?_)
    refine go_aload_n dX6_dropHandled_28 rfl 0 rfl ?_
    refine go_getI dX6_dropHandled_29 fl_159_0 (fun _ _ => rfl) hf (fun x_7 hf => ?_)
    refine go_isub dX6_dropHandled_32 ?_
    obtain ⟨a_8, rfl, hga_8⟩ := nn_some hf
    have hf := hga_8
    obtain ⟨a_9, rfl, hga_9⟩ := nn_some hf
    have hf := hga_9
    refine go_cpI dX6_dropHandled_33 w1058 ⟨by decide, cadd (csum (Nat.le_of_ble_eq_true rfl)) (by decide +kernel)⟩ hf (fun h_10 hf => ?_)
    refine go_aload_n dX6_dropHandled_36 rfl 0 rfl ?_
    refine go_dup dX6_dropHandled_37 catR ?_
    refine go_getI dX6_dropHandled_38 fl_156_0 (fun _ _ => rfl) hf (fun x_11 hf => ?_)
    refine go_aload_n dX6_dropHandled_41 rfl 0 rfl ?_
    refine go_getI dX6_dropHandled_42 fl_159_0 (fun _ _ => rfl) hf (fun x_12 hf => ?_)
    refine go_isub dX6_dropHandled_45 ?_
    refine go_putI dX6_dropHandled_46 fl_156_0 (fun q hq => by cases hq; exact Or.inl rfl) (fun _ _ => rfl) rfl hf (fun h_13 hf => ?_)
    exact go_return dX6_dropHandled_49 rfl hf
-- LetterBroker$Inbox.lookForFrame()I
theorem dX6_lookForFrame_0 : decode cX6_lookForFrame 0 = .ok (.aload_n 0, 1) := by decide +kernel
theorem dX6_lookForFrame_1 : decode cX6_lookForFrame 1 = .ok (.getfield 15, 3) := by decide +kernel
theorem dX6_lookForFrame_4 : decode cX6_lookForFrame 4 = .ok (.ifCond .le 23, 3) := by decide +kernel
theorem dX6_lookForFrame_7 : decode cX6_lookForFrame 7 = .ok (.aload_n 0, 1) := by decide +kernel
theorem dX6_lookForFrame_8 : decode cX6_lookForFrame 8 = .ok (.getfield 9, 3) := by decide +kernel
theorem dX6_lookForFrame_11 : decode cX6_lookForFrame 11 = .ok (.iconst 0, 1) := by decide +kernel
theorem dX6_lookForFrame_12 : decode cX6_lookForFrame 12 = .ok (.iaload, 1) := by decide +kernel
theorem dX6_lookForFrame_13 : decode cX6_lookForFrame 13 = .ok (.iconst 1, 1) := by decide +kernel
theorem dX6_lookForFrame_14 : decode cX6_lookForFrame 14 = .ok (.if_icmp .lt 50, 3) := by decide +kernel
theorem dX6_lookForFrame_17 : decode cX6_lookForFrame 17 = .ok (.aload_n 0, 1) := by decide +kernel
theorem dX6_lookForFrame_18 : decode cX6_lookForFrame 18 = .ok (.getfield 9, 3) := by decide +kernel
theorem dX6_lookForFrame_21 : decode cX6_lookForFrame 21 = .ok (.iconst 0, 1) := by decide +kernel
theorem dX6_lookForFrame_22 : decode cX6_lookForFrame 22 = .ok (.iaload, 1) := by decide +kernel
theorem dX6_lookForFrame_23 : decode cX6_lookForFrame 23 = .ok (.iconst 3, 1) := by decide +kernel
theorem dX6_lookForFrame_24 : decode cX6_lookForFrame 24 = .ok (.if_icmp .gt 40, 3) := by decide +kernel
theorem dX6_lookForFrame_27 : decode cX6_lookForFrame 27 = .ok (.aload_n 0, 1) := by decide +kernel
theorem dX6_lookForFrame_28 : decode cX6_lookForFrame 28 = .ok (.getfield 15, 3) := by decide +kernel
theorem dX6_lookForFrame_31 : decode cX6_lookForFrame 31 = .ok (.iconst 1, 1) := by decide +kernel
theorem dX6_lookForFrame_32 : decode cX6_lookForFrame 32 = .ok (.if_icmp .le 13, 3) := by decide +kernel
theorem dX6_lookForFrame_35 : decode cX6_lookForFrame 35 = .ok (.aload_n 0, 1) := by decide +kernel
theorem dX6_lookForFrame_36 : decode cX6_lookForFrame 36 = .ok (.getfield 9, 3) := by decide +kernel
theorem dX6_lookForFrame_39 : decode cX6_lookForFrame 39 = .ok (.iconst 1, 1) := by decide +kernel
theorem dX6_lookForFrame_40 : decode cX6_lookForFrame 40 = .ok (.iaload, 1) := by decide +kernel
theorem dX6_lookForFrame_41 : decode cX6_lookForFrame 41 = .ok (.iconst 3, 1) := by decide +kernel
theorem dX6_lookForFrame_42 : decode cX6_lookForFrame 42 = .ok (.if_icmp .gt 22, 3) := by decide +kernel
theorem dX6_lookForFrame_45 : decode cX6_lookForFrame 45 = .ok (.aload_n 0, 1) := by decide +kernel
theorem dX6_lookForFrame_46 : decode cX6_lookForFrame 46 = .ok (.getfield 15, 3) := by decide +kernel
theorem dX6_lookForFrame_49 : decode cX6_lookForFrame 49 = .ok (.iconst 2, 1) := by decide +kernel
theorem dX6_lookForFrame_50 : decode cX6_lookForFrame 50 = .ok (.if_icmp .le 16, 3) := by decide +kernel
theorem dX6_lookForFrame_53 : decode cX6_lookForFrame 53 = .ok (.aload_n 0, 1) := by decide +kernel
theorem dX6_lookForFrame_54 : decode cX6_lookForFrame 54 = .ok (.getfield 9, 3) := by decide +kernel
theorem dX6_lookForFrame_57 : decode cX6_lookForFrame 57 = .ok (.iconst 2, 1) := by decide +kernel
theorem dX6_lookForFrame_58 : decode cX6_lookForFrame 58 = .ok (.iaload, 1) := by decide +kernel
theorem dX6_lookForFrame_59 : decode cX6_lookForFrame 59 = .ok (.bipush 40, 2) := by decide +kernel
theorem dX6_lookForFrame_61 : decode cX6_lookForFrame 61 = .ok (.if_icmp .le 5, 3) := by decide +kernel
theorem dX6_lookForFrame_64 : decode cX6_lookForFrame 64 = .ok (.iconst 2, 1) := by decide +kernel
theorem dX6_lookForFrame_65 : decode cX6_lookForFrame 65 = .ok (.ireturn, 1) := by decide +kernel
theorem dX6_lookForFrame_66 : decode cX6_lookForFrame 66 = .ok (.aload_n 0, 1) := by decide +kernel
theorem dX6_lookForFrame_67 : decode cX6_lookForFrame 67 = .ok (.getfield 15, 3) := by decide +kernel
theorem dX6_lookForFrame_70 : decode cX6_lookForFrame 70 = .ok (.iconst 3, 1) := by decide +kernel
theorem dX6_lookForFrame_71 : decode cX6_lookForFrame 71 = .ok (.if_icmp .lt 18, 3) := by decide +kernel
theorem dX6_lookForFrame_74 : decode cX6_lookForFrame 74 = .ok (.aload_n 0, 1) := by decide +kernel
theorem dX6_lookForFrame_75 : decode cX6_lookForFrame 75 = .ok (.getfield 15, 3) := by decide +kernel
theorem dX6_lookForFrame_78 : decode cX6_lookForFrame 78 = .ok (.iconst 3, 1) := by decide +kernel
theorem dX6_lookForFrame_79 : decode cX6_lookForFrame 79 = .ok (.aload_n 0, 1) := by decide +kernel
theorem dX6_lookForFrame_80 : decode cX6_lookForFrame 80 = .ok (.getfield 9, 3) := by decide +kernel
theorem dX6_lookForFrame_83 : decode cX6_lookForFrame 83 = .ok (.iconst 2, 1) := by decide +kernel
theorem dX6_lookForFrame_84 : decode cX6_lookForFrame 84 = .ok (.iaload, 1) := by decide +kernel
theorem dX6_lookForFrame_85 : decode cX6_lookForFrame 85 = .ok (.iadd, 1) := by decide +kernel
theorem dX6_lookForFrame_86 : decode cX6_lookForFrame 86 = .ok (.if_icmp .gt 5, 3) := by decide +kernel
theorem dX6_lookForFrame_89 : decode cX6_lookForFrame 89 = .ok (.iconst 0, 1) := by decide +kernel
theorem dX6_lookForFrame_90 : decode cX6_lookForFrame 90 = .ok (.ireturn, 1) := by decide +kernel
theorem dX6_lookForFrame_91 : decode cX6_lookForFrame 91 = .ok (.aload_n 0, 1) := by decide +kernel
theorem dX6_lookForFrame_92 : decode cX6_lookForFrame 92 = .ok (.iconst 3, 1) := by decide +kernel
theorem dX6_lookForFrame_93 : decode cX6_lookForFrame 93 = .ok (.putfield 25, 3) := by decide +kernel
theorem dX6_lookForFrame_96 : decode cX6_lookForFrame 96 = .ok (.aload_n 0, 1) := by decide +kernel
theorem dX6_lookForFrame_97 : decode cX6_lookForFrame 97 = .ok (.iconst 3, 1) := by decide +kernel
theorem dX6_lookForFrame_98 : decode cX6_lookForFrame 98 = .ok (.aload_n 0, 1) := by decide +kernel
theorem dX6_lookForFrame_99 : decode cX6_lookForFrame 99 = .ok (.getfield 9, 3) := by decide +kernel
theorem dX6_lookForFrame_102 : decode cX6_lookForFrame 102 = .ok (.iconst 2, 1) := by decide +kernel
theorem dX6_lookForFrame_103 : decode cX6_lookForFrame 103 = .ok (.iaload, 1) := by decide +kernel
theorem dX6_lookForFrame_104 : decode cX6_lookForFrame 104 = .ok (.iadd, 1) := by decide +kernel
theorem dX6_lookForFrame_105 : decode cX6_lookForFrame 105 = .ok (.putfield 28, 3) := by decide +kernel
theorem dX6_lookForFrame_108 : decode cX6_lookForFrame 108 = .ok (.aload_n 0, 1) := by decide +kernel
theorem dX6_lookForFrame_109 : decode cX6_lookForFrame 109 = .ok (.aload_n 0, 1) := by decide +kernel
theorem dX6_lookForFrame_110 : decode cX6_lookForFrame 110 = .ok (.getfield 28, 3) := by decide +kernel
theorem dX6_lookForFrame_113 : decode cX6_lookForFrame 113 = .ok (.iconst 1, 1) := by decide +kernel
theorem dX6_lookForFrame_114 : decode cX6_lookForFrame 114 = .ok (.iadd, 1) := by decide +kernel
theorem dX6_lookForFrame_115 : decode cX6_lookForFrame 115 = .ok (.putfield 22, 3) := by decide +kernel
theorem dX6_lookForFrame_118 : decode cX6_lookForFrame 118 = .ok (.aload_n 0, 1) := by decide +kernel
theorem dX6_lookForFrame_119 : decode cX6_lookForFrame 119 = .ok (.iconst 0, 1) := by decide +kernel
theorem dX6_lookForFrame_120 : decode cX6_lookForFrame 120 = .ok (.putfield 31, 3) := by decide +kernel
theorem dX6_lookForFrame_123 : decode cX6_lookForFrame 123 = .ok (.aload_n 0, 1) := by decide +kernel
theorem dX6_lookForFrame_124 : decode cX6_lookForFrame 124 = .ok (.getfield 9, 3) := by decide +kernel
theorem dX6_lookForFrame_127 : decode cX6_lookForFrame 127 = .ok (.aload_n 0, 1) := by decide +kernel
theorem dX6_lookForFrame_128 : decode cX6_lookForFrame 128 = .ok (.getfield 28, 3) := by decide +kernel
theorem dX6_lookForFrame_131 : decode cX6_lookForFrame 131 = .ok (.iaload, 1) := by decide +kernel
theorem dX6_lookForFrame_132 : decode cX6_lookForFrame 132 = .ok (.sipush 206, 3) := by decide +kernel
theorem dX6_lookForFrame_135 : decode cX6_lookForFrame 135 = .ok (.if_icmp .ne 7, 3) := by decide +kernel
theorem dX6_lookForFrame_138 : decode cX6_lookForFrame 138 = .ok (.iconst 1, 1) := by decide +kernel
theorem dX6_lookForFrame_139 : decode cX6_lookForFrame 139 = .ok (.goto 4, 3) := by decide +kernel
theorem dX6_lookForFrame_142 : decode cX6_lookForFrame 142 = .ok (.iconst 2, 1) := by decide +kernel
theorem dX6_lookForFrame_143 : decode cX6_lookForFrame 143 = .ok (.ireturn, 1) := by decide +kernel
def f_X6_lookForFrame_66 (a0 : Nat) (h : AH) : Option (Int32 × AH) := rdI h a0 7 0 fun x_1 =>
  (if x_1 < 3 then
    some (0, h)
  else
    rdI h a0 7 0 fun x_2 =>
    rdR h a0 7 1 fun r_3 =>
    nn r_3 fun a_4 =>
    arI h a_4 2 fun x_5 =>
    (if (3 + x_5) < x_2 then
      wrI h a0 7 3 3 fun h_6 =>
      rdR h_6 a0 7 1 fun r_7 =>
      nn r_7 fun a_8 =>
      arI h_6 a_8 2 fun x_9 =>
      wrI h_6 a0 7 4 (3 + x_9) fun h_10 =>
      rdI h_10 a0 7 4 fun x_11 =>
      wrI h_10 a0 7 2 (x_11 + 1) fun h_12 =>
      wrZ h_12 a0 7 5 0 fun h_13 =>
      rdR h_13 a0 7 1 fun r_14 =>
      rdI h_13 a0 7 4 fun x_15 =>
      nn r_14 fun a_16 =>
      arI h_13 a_16 x_15 fun x_17 =>
      (if x_17 = 206 then
        some (1, h_13)
      else
        some (2, h_13))
    else
      some (0, h)))
set_option maxRecDepth 20000 in
set_option maxHeartbeats 4000000 in
theorem t_X6_lookForFrame_66 {Ω : Om} (a0 : Nat) (h : AH) (q : Int32 × AH) (hf : f_X6_lookForFrame_66 a0 h = some q) : Go Ω M_X6_lookForFrame 66 [(0, vR Ω (some a0))] [] h (some (.int q.1)) q.2 := by
  unfold f_X6_lookForFrame_66 at hf
  refine go_aload_n dX6_lookForFrame_66 rfl 0 rfl ?_
  refine go_getI dX6_lookForFrame_67 fl_156_0 (fun _ _ => rfl) hf (fun x_1 hf => ?_)
  refine go_iconst 3 dX6_lookForFrame_70 rfl ?_
  refine go_icmp_lt (tgt := 89) dX6_lookForFrame_71 (by decide) hf (fun hf => ?_) (fun hf => ?_)
  · refine go_iconst 0 dX6_lookForFrame_89 rfl ?_
    exact go_ireturn dX6_lookForFrame_90 rfl hf
  · refine go_aload_n dX6_lookForFrame_74 rfl 0 rfl ?_
    refine go_getI dX6_lookForFrame_75 fl_156_0 (fun _ _ => rfl) hf (fun x_2 hf => ?_)
    refine go_iconst 3 dX6_lookForFrame_78 rfl ?_
    refine go_aload_n dX6_lookForFrame_79 rfl 0 rfl ?_
    refine go_getR dX6_lookForFrame_80 fl_158_0 (fun _ _ => rfl) hf (fun r_3 hf => ?_)
    refine go_iconst 2 dX6_lookForFrame_83 rfl ?_
    obtain ⟨a_4, rfl, hga_4⟩ := nn_some hf
    have hf := hga_4
    refine go_iaload dX6_lookForFrame_84 hf (fun x_5 hf => ?_)
    refine go_iadd dX6_lookForFrame_85 ?_
    refine go_icmp_gt (tgt := 91) dX6_lookForFrame_86 (by decide) hf (fun hf => ?_) (fun hf => ?_)
    · refine go_aload_n dX6_lookForFrame_91 rfl 0 rfl ?_
      refine go_iconst 3 dX6_lookForFrame_92 rfl ?_
      refine go_putI dX6_lookForFrame_93 fl_160_0 (fun q hq => by cases hq; exact Or.inl rfl) (fun _ _ => rfl) rfl hf (fun h_6 hf => ?_)
      refine go_aload_n dX6_lookForFrame_96 rfl 0 rfl ?_
      refine go_iconst 3 dX6_lookForFrame_97 rfl ?_
      refine go_aload_n dX6_lookForFrame_98 rfl 0 rfl ?_
      refine go_getR dX6_lookForFrame_99 fl_158_0 (fun _ _ => rfl) hf (fun r_7 hf => ?_)
      refine go_iconst 2 dX6_lookForFrame_102 rfl ?_
      obtain ⟨a_8, rfl, hga_8⟩ := nn_some hf
      have hf := hga_8
      refine go_iaload dX6_lookForFrame_103 hf (fun x_9 hf => ?_)
      refine go_iadd dX6_lookForFrame_104 ?_
      refine go_putI dX6_lookForFrame_105 fl_161_0 (fun q hq => by cases hq; exact Or.inl rfl) (fun _ _ => rfl) rfl hf (fun h_10 hf => ?_)
      refine go_aload_n dX6_lookForFrame_108 rfl 0 rfl ?_
      refine go_aload_n dX6_lookForFrame_109 rfl 0 rfl ?_
      refine go_getI dX6_lookForFrame_110 fl_161_0 (fun _ _ => rfl) hf (fun x_11 hf => ?_)
      refine go_iconst 1 dX6_lookForFrame_113 rfl ?_
      refine go_iadd dX6_lookForFrame_114 ?_
      refine go_putI dX6_lookForFrame_115 fl_159_0 (fun q hq => by cases hq; exact Or.inl rfl) (fun _ _ => rfl) rfl hf (fun h_12 hf => ?_)
      refine go_aload_n dX6_lookForFrame_118 rfl 0 rfl ?_
      refine go_iconst 0 dX6_lookForFrame_119 rfl ?_
      refine go_putZ dX6_lookForFrame_120 fl_162_0 (fun q hq => by cases hq; exact Or.inl rfl) (fun _ _ => rfl) rfl hf (fun h_13 hf => ?_)
      refine go_aload_n dX6_lookForFrame_123 rfl 0 rfl ?_
      refine go_getR dX6_lookForFrame_124 fl_158_0 (fun _ _ => rfl) hf (fun r_14 hf => ?_)
      refine go_aload_n dX6_lookForFrame_127 rfl 0 rfl ?_
      refine go_getI dX6_lookForFrame_128 fl_161_0 (fun _ _ => rfl) hf (fun x_15 hf => ?_)
      obtain ⟨a_16, rfl, hga_16⟩ := nn_some hf
      have hf := hga_16
      refine go_iaload dX6_lookForFrame_131 hf (fun x_17 hf => ?_)
      refine go_sipush 206 dX6_lookForFrame_132 (by decide) ?_
      refine go_icmp_ne (tgt := 142) dX6_lookForFrame_135 (by decide) hf (fun hf => ?_) (fun hf => ?_)
      · refine go_iconst 2 dX6_lookForFrame_142 rfl ?_
        exact go_ireturn dX6_lookForFrame_143 rfl hf
      · refine go_iconst 1 dX6_lookForFrame_138 rfl ?_
        refine go_goto (tgt := 143) dX6_lookForFrame_139 (by decide) ?_
        exact go_ireturn dX6_lookForFrame_143 rfl hf
    · refine go_iconst 0 dX6_lookForFrame_89 rfl ?_
      exact go_ireturn dX6_lookForFrame_90 rfl hf
def f_X6_lookForFrame_45 (a0 : Nat) (h : AH) : Option (Int32 × AH) := rdI h a0 7 0 fun x_1 =>
  (if x_1 ≤ 2 then
    f_X6_lookForFrame_66 a0 h
  else
    rdR h a0 7 1 fun r_2 =>
    nn r_2 fun a_3 =>
    arI h a_3 2 fun x_4 =>
    (if x_4 ≤ 40 then
      f_X6_lookForFrame_66 a0 h
    else
      some (2, h)))
set_option maxRecDepth 20000 in
set_option maxHeartbeats 4000000 in
theorem t_X6_lookForFrame_45 {Ω : Om} (a0 : Nat) (h : AH) (q : Int32 × AH) (hf : f_X6_lookForFrame_45 a0 h = some q) : Go Ω M_X6_lookForFrame 45 [(0, vR Ω (some a0))] [] h (some (.int q.1)) q.2 := by
  unfold f_X6_lookForFrame_45 at hf
  refine go_aload_n dX6_lookForFrame_45 rfl 0 rfl ?_
  refine go_getI dX6_lookForFrame_46 fl_156_0 (fun _ _ => rfl) hf (fun x_1 hf => ?_)
  refine go_iconst 2 dX6_lookForFrame_49 rfl ?_
  refine go_icmp_le (tgt := 66) dX6_lookForFrame_50 (by decide) hf (fun hf => ?_) (fun hf => ?_)
  · refine go_sub (lv' := [(0, vR Ω (some a0))]) [0] rfl ?_
    exact t_X6_lookForFrame_66 a0 h q hf
  · refine go_aload_n dX6_lookForFrame_53 rfl 0 rfl ?_
    refine go_getR dX6_lookForFrame_54 fl_158_0 (fun _ _ => rfl) hf (fun r_2 hf => ?_)
    refine go_iconst 2 dX6_lookForFrame_57 rfl ?_
    obtain ⟨a_3, rfl, hga_3⟩ := nn_some hf
    have hf := hga_3
    refine go_iaload dX6_lookForFrame_58 hf (fun x_4 hf => ?_)
    refine go_bipush 40 dX6_lookForFrame_59 (by decide) ?_
    refine go_icmp_le (tgt := 66) dX6_lookForFrame_61 (by decide) hf (fun hf => ?_) (fun hf => ?_)
    · refine go_sub (lv' := [(0, vR Ω (some a0))]) [0] rfl ?_
      exact t_X6_lookForFrame_66 a0 h q hf
    · refine go_iconst 2 dX6_lookForFrame_64 rfl ?_
      exact go_ireturn dX6_lookForFrame_65 rfl hf
def f_X6_lookForFrame_27 (a0 : Nat) (h : AH) : Option (Int32 × AH) := rdI h a0 7 0 fun x_1 =>
  (if x_1 ≤ 1 then
    f_X6_lookForFrame_45 a0 h
  else
    rdR h a0 7 1 fun r_2 =>
    nn r_2 fun a_3 =>
    arI h a_3 1 fun x_4 =>
    (if 3 < x_4 then
      some (2, h)
    else
      f_X6_lookForFrame_45 a0 h))
set_option maxRecDepth 20000 in
set_option maxHeartbeats 4000000 in
theorem t_X6_lookForFrame_27 {Ω : Om} (a0 : Nat) (h : AH) (q : Int32 × AH) (hf : f_X6_lookForFrame_27 a0 h = some q) : Go Ω M_X6_lookForFrame 27 [(0, vR Ω (some a0))] [] h (some (.int q.1)) q.2 := by
  unfold f_X6_lookForFrame_27 at hf
  refine go_aload_n dX6_lookForFrame_27 rfl 0 rfl ?_
  refine go_getI dX6_lookForFrame_28 fl_156_0 (fun _ _ => rfl) hf (fun x_1 hf => ?_)
  refine go_iconst 1 dX6_lookForFrame_31 rfl ?_
  refine go_icmp_le (tgt := 45) dX6_lookForFrame_32 (by decide) hf (fun hf => ?_) (fun hf => ?_)
  · refine go_sub (lv' := [(0, vR Ω (some a0))]) [0] rfl ?_
    exact t_X6_lookForFrame_45 a0 h q hf
  · refine go_aload_n dX6_lookForFrame_35 rfl 0 rfl ?_
    refine go_getR dX6_lookForFrame_36 fl_158_0 (fun _ _ => rfl) hf (fun r_2 hf => ?_)
    refine go_iconst 1 dX6_lookForFrame_39 rfl ?_
    obtain ⟨a_3, rfl, hga_3⟩ := nn_some hf
    have hf := hga_3
    refine go_iaload dX6_lookForFrame_40 hf (fun x_4 hf => ?_)
    refine go_iconst 3 dX6_lookForFrame_41 rfl ?_
    refine go_icmp_gt (tgt := 64) dX6_lookForFrame_42 (by decide) hf (fun hf => ?_) (fun hf => ?_)
    · refine go_iconst 2 dX6_lookForFrame_64 rfl ?_
      exact go_ireturn dX6_lookForFrame_65 rfl hf
    · refine go_sub (lv' := [(0, vR Ω (some a0))]) [0] rfl ?_
      exact t_X6_lookForFrame_45 a0 h q hf
def f_X6_lookForFrame (a0 : Nat) (h : AH) : Option (Int32 × AH) := rdI h a0 7 0 fun x_1 =>
  (if x_1 ≤ 0 then
    f_X6_lookForFrame_27 a0 h
  else
    rdR h a0 7 1 fun r_2 =>
    nn r_2 fun a_3 =>
    arI h a_3 0 fun x_4 =>
    (if x_4 < 1 then
      some (2, h)
    else
      rdR h a0 7 1 fun r_5 =>
      nn r_5 fun a_6 =>
      arI h a_6 0 fun x_7 =>
      (if 3 < x_7 then
        some (2, h)
      else
        f_X6_lookForFrame_27 a0 h)))
set_option maxRecDepth 20000 in
set_option maxHeartbeats 4000000 in
theorem t_X6_lookForFrame {Ω : Om} (a0 : Nat) (h : AH) (q : Int32 × AH) (hf : f_X6_lookForFrame a0 h = some q) : Go Ω M_X6_lookForFrame 0 (lv_args 0 [vR Ω (some a0)]) [] h (some (.int q.1)) q.2 := by
  unfold f_X6_lookForFrame at hf
  rw [la_R, la_0]
  refine go_sub (lv' := [(0, vR Ω (some a0))]) [0] rfl ?_
  refine go_aload_n dX6_lookForFrame_0 rfl 0 rfl ?_
  refine go_getI dX6_lookForFrame_1 fl_156_0 (fun _ _ => rfl) hf (fun x_1 hf => ?_)
  refine go_if_le (tgt := 27) dX6_lookForFrame_4 (by decide) hf (fun hf => ?_) (fun hf => ?_)
  · refine go_sub (lv' := [(0, vR Ω (some a0))]) [0] rfl ?_
    exact t_X6_lookForFrame_27 a0 h q hf
  · refine go_aload_n dX6_lookForFrame_7 rfl 0 rfl ?_
    refine go_getR dX6_lookForFrame_8 fl_158_0 (fun _ _ => rfl) hf (fun r_2 hf => ?_)
    refine go_iconst 0 dX6_lookForFrame_11 rfl ?_
    obtain ⟨a_3, rfl, hga_3⟩ := nn_some hf
    have hf := hga_3
    refine go_iaload dX6_lookForFrame_12 hf (fun x_4 hf => ?_)
    refine go_iconst 1 dX6_lookForFrame_13 rfl ?_
    refine go_icmp_lt (tgt := 64) dX6_lookForFrame_14 (by decide) hf (fun hf => ?_) (fun hf => ?_)
    · refine go_iconst 2 dX6_lookForFrame_64 rfl ?_
      exact go_ireturn dX6_lookForFrame_65 rfl hf
    · refine go_aload_n dX6_lookForFrame_17 rfl 0 rfl ?_
      refine go_getR dX6_lookForFrame_18 fl_158_0 (fun _ _ => rfl) hf (fun r_5 hf => ?_)
      refine go_iconst 0 dX6_lookForFrame_21 rfl ?_
      obtain ⟨a_6, rfl, hga_6⟩ := nn_some hf
      have hf := hga_6
      refine go_iaload dX6_lookForFrame_22 hf (fun x_7 hf => ?_)
      refine go_iconst 3 dX6_lookForFrame_23 rfl ?_
      refine go_icmp_gt (tgt := 64) dX6_lookForFrame_24 (by decide) hf (fun hf => ?_) (fun hf => ?_)
      · refine go_iconst 2 dX6_lookForFrame_64 rfl ?_
        exact go_ireturn dX6_lookForFrame_65 rfl hf
      · refine go_sub (lv' := [(0, vR Ω (some a0))]) [0] rfl ?_
        exact t_X6_lookForFrame_27 a0 h q hf
-- LetterBroker$Inbox.lookForGreeting()I
theorem dX6_lookForGreeting_0 : decode cX6_lookForGreeting 0 = .ok (.iconst 0, 1) := by decide +kernel
theorem dX6_lookForGreeting_1 : decode cX6_lookForGreeting 1 = .ok (.istore_n 1, 1) := by decide +kernel
theorem dX6_lookForGreeting_2 : decode cX6_lookForGreeting 2 = .ok (.iload_n 1, 1) := by decide +kernel
theorem dX6_lookForGreeting_3 : decode cX6_lookForGreeting 3 = .ok (.aload_n 0, 1) := by decide +kernel
theorem dX6_lookForGreeting_4 : decode cX6_lookForGreeting 4 = .ok (.getfield 15, 3) := by decide +kernel
theorem dX6_lookForGreeting_7 : decode cX6_lookForGreeting 7 = .ok (.if_icmp .ge 33, 3) := by decide +kernel
theorem dX6_lookForGreeting_10 : decode cX6_lookForGreeting 10 = .ok (.iload_n 1, 1) := by decide +kernel
theorem dX6_lookForGreeting_11 : decode cX6_lookForGreeting 11 = .ok (.getstatic 19, 3) := by decide +kernel
theorem dX6_lookForGreeting_14 : decode cX6_lookForGreeting 14 = .ok (.arraylength, 1) := by decide +kernel
theorem dX6_lookForGreeting_15 : decode cX6_lookForGreeting 15 = .ok (.if_icmp .ge 25, 3) := by decide +kernel
theorem dX6_lookForGreeting_18 : decode cX6_lookForGreeting 18 = .ok (.aload_n 0, 1) := by decide +kernel
theorem dX6_lookForGreeting_19 : decode cX6_lookForGreeting 19 = .ok (.getfield 9, 3) := by decide +kernel
theorem dX6_lookForGreeting_22 : decode cX6_lookForGreeting 22 = .ok (.iload_n 1, 1) := by decide +kernel
theorem dX6_lookForGreeting_23 : decode cX6_lookForGreeting 23 = .ok (.iaload, 1) := by decide +kernel
theorem dX6_lookForGreeting_24 : decode cX6_lookForGreeting 24 = .ok (.getstatic 19, 3) := by decide +kernel
theorem dX6_lookForGreeting_27 : decode cX6_lookForGreeting 27 = .ok (.iload_n 1, 1) := by decide +kernel
theorem dX6_lookForGreeting_28 : decode cX6_lookForGreeting 28 = .ok (.iaload, 1) := by decide +kernel
theorem dX6_lookForGreeting_29 : decode cX6_lookForGreeting 29 = .ok (.if_icmp .eq 5, 3) := by decide +kernel
theorem dX6_lookForGreeting_32 : decode cX6_lookForGreeting 32 = .ok (.iconst 2, 1) := by decide +kernel
theorem dX6_lookForGreeting_33 : decode cX6_lookForGreeting 33 = .ok (.ireturn, 1) := by decide +kernel
theorem dX6_lookForGreeting_34 : decode cX6_lookForGreeting 34 = .ok (.iinc 1 1, 3) := by decide +kernel
theorem dX6_lookForGreeting_37 : decode cX6_lookForGreeting 37 = .ok (.goto (-35), 3) := by decide +kernel
theorem dX6_lookForGreeting_40 : decode cX6_lookForGreeting 40 = .ok (.aload_n 0, 1) := by decide +kernel
theorem dX6_lookForGreeting_41 : decode cX6_lookForGreeting 41 = .ok (.getfield 15, 3) := by decide +kernel
theorem dX6_lookForGreeting_44 : decode cX6_lookForGreeting 44 = .ok (.getstatic 19, 3) := by decide +kernel
theorem dX6_lookForGreeting_47 : decode cX6_lookForGreeting 47 = .ok (.arraylength, 1) := by decide +kernel
theorem dX6_lookForGreeting_48 : decode cX6_lookForGreeting 48 = .ok (.if_icmp .ge 5, 3) := by decide +kernel
theorem dX6_lookForGreeting_51 : decode cX6_lookForGreeting 51 = .ok (.iconst 0, 1) := by decide +kernel
theorem dX6_lookForGreeting_52 : decode cX6_lookForGreeting 52 = .ok (.ireturn, 1) := by decide +kernel
theorem dX6_lookForGreeting_53 : decode cX6_lookForGreeting 53 = .ok (.aload_n 0, 1) := by decide +kernel
theorem dX6_lookForGreeting_54 : decode cX6_lookForGreeting 54 = .ok (.getstatic 19, 3) := by decide +kernel
theorem dX6_lookForGreeting_57 : decode cX6_lookForGreeting 57 = .ok (.arraylength, 1) := by decide +kernel
theorem dX6_lookForGreeting_58 : decode cX6_lookForGreeting 58 = .ok (.putfield 22, 3) := by decide +kernel
theorem dX6_lookForGreeting_61 : decode cX6_lookForGreeting 61 = .ok (.iconst 1, 1) := by decide +kernel
theorem dX6_lookForGreeting_62 : decode cX6_lookForGreeting 62 = .ok (.ireturn, 1) := by decide +kernel
def f_X6_lookForGreeting_40 (a0 : Nat) (h : AH) : Option (Int32 × AH) := rdI h a0 7 0 fun x_1 =>
  (if 8 ≤ x_1 then
    wrI h a0 7 2 8 fun h_2 =>
    some (1, h_2)
  else
    some (0, h))
set_option maxRecDepth 20000 in
set_option maxHeartbeats 4000000 in
theorem t_X6_lookForGreeting_40 {Ω : Om} (a0 : Nat) (h : AH) (q : Int32 × AH) (hf : f_X6_lookForGreeting_40 a0 h = some q) : Go Ω M_X6_lookForGreeting 40 [(0, vR Ω (some a0))] [] h (some (.int q.1)) q.2 := by
  unfold f_X6_lookForGreeting_40 at hf
  refine go_aload_n dX6_lookForGreeting_40 rfl 0 rfl ?_
  refine go_getI dX6_lookForGreeting_41 fl_156_0 (fun _ _ => rfl) hf (fun x_1 hf => ?_)
  refine go_getsG dX6_lookForGreeting_44 w420 ?_
  refine go_lenG dX6_lookForGreeting_47 ?_
  refine go_icmp_ge (tgt := 53) dX6_lookForGreeting_48 (by decide) hf (fun hf => ?_) (fun hf => ?_)
  · refine go_aload_n dX6_lookForGreeting_53 rfl 0 rfl ?_
    refine go_getsG dX6_lookForGreeting_54 w420 ?_
    refine go_lenG dX6_lookForGreeting_57 ?_
    refine go_putI dX6_lookForGreeting_58 fl_159_0 (fun q hq => by cases hq; exact Or.inl rfl) (fun _ _ => rfl) rfl hf (fun h_2 hf => ?_)
    refine go_iconst 1 dX6_lookForGreeting_61 rfl ?_
    exact go_ireturn dX6_lookForGreeting_62 rfl hf
  · refine go_iconst 0 dX6_lookForGreeting_51 rfl ?_
    exact go_ireturn dX6_lookForGreeting_52 rfl hf
def f_X6_lookForGreeting_2 : Nat → Nat → Int32 → AH → Option (Int32 × AH)
  | 0, _, _, _ => none
  | n + 1, a0, x1, h => rdI h a0 7 0 fun x_1 =>
    (if x_1 ≤ x1 then
      f_X6_lookForGreeting_40 a0 h
    else
      (if 8 ≤ x1 then
        f_X6_lookForGreeting_40 a0 h
      else
        rdR h a0 7 1 fun r_2 =>
        nn r_2 fun a_3 =>
        arI h a_3 x1 fun x_4 =>
        arG x1 fun x_5 =>
        (if x_4 = x_5 then
          f_X6_lookForGreeting_2 n a0 (x1 + 1) h
        else
          some (2, h))))
set_option maxRecDepth 20000 in
set_option maxHeartbeats 4000000 in
theorem t_X6_lookForGreeting_2 {Ω : Om} : ∀ (n : Nat) (a0 : Nat) (x1 : Int32) (h : AH) (q : Int32 × AH), f_X6_lookForGreeting_2 n a0 x1 h = some q → Go Ω M_X6_lookForGreeting 2 [(0, vR Ω (some a0)), (1, .int x1)] [] h (some (.int q.1)) q.2 := by
  intro n
  induction n with
  | zero => intro a0 x1 h q hf; cases hf
  | succ n ih =>
    intro a0 x1 h q hf
    rw [f_X6_lookForGreeting_2] at hf
    refine go_iload_n dX6_lookForGreeting_2 rfl 1 rfl ?_
    refine go_aload_n dX6_lookForGreeting_3 rfl 0 rfl ?_
    refine go_getI dX6_lookForGreeting_4 fl_156_0 (fun _ _ => rfl) hf (fun x_1 hf => ?_)
    refine go_icmp_ge (tgt := 40) dX6_lookForGreeting_7 (by decide) hf (fun hf => ?_) (fun hf => ?_)
    · refine go_sub (lv' := [(0, vR Ω (some a0))]) [0] rfl ?_
      exact t_X6_lookForGreeting_40 a0 h q hf
    · refine go_iload_n dX6_lookForGreeting_10 rfl 1 rfl ?_
      refine go_getsG dX6_lookForGreeting_11 w420 ?_
      refine go_lenG dX6_lookForGreeting_14 ?_
      refine go_icmp_ge (tgt := 40) dX6_lookForGreeting_15 (by decide) hf (fun hf => ?_) (fun hf => ?_)
      · refine go_sub (lv' := [(0, vR Ω (some a0))]) [0] rfl ?_
        exact t_X6_lookForGreeting_40 a0 h q hf
      · refine go_aload_n dX6_lookForGreeting_18 rfl 0 rfl ?_
        refine go_getR dX6_lookForGreeting_19 fl_158_0 (fun _ _ => rfl) hf (fun r_2 hf => ?_)
        refine go_iload_n dX6_lookForGreeting_22 rfl 1 rfl ?_
        obtain ⟨a_3, rfl, hga_3⟩ := nn_some hf
        have hf := hga_3
        refine go_iaload dX6_lookForGreeting_23 hf (fun x_4 hf => ?_)
        refine go_getsG dX6_lookForGreeting_24 w420 ?_
        refine go_iload_n dX6_lookForGreeting_27 rfl 1 rfl ?_
        refine go_iaG dX6_lookForGreeting_28 hf (fun x_5 hf => ?_)
        refine go_icmp_eq (tgt := 34) dX6_lookForGreeting_29 (by decide) hf (fun hf => ?_) (fun hf => ?_)
        · refine go_iinc (j := 1) (v := x1 + 1) (lv' := [(1, .int (x1 + 1)), (0, vR Ω (some a0))]) dX6_lookForGreeting_34 rfl rfl (by decide) (by first | rfl | simp [catR, catI, catJ]) ?_
          refine go_goto (tgt := 2) dX6_lookForGreeting_37 (by decide) ?_
          refine go_sub (lv' := [(0, vR Ω (some a0)), (1, .int (x1 + 1))]) [1, 0] rfl ?_
          exact ih a0 (x1 + 1) h q hf
        · refine go_iconst 2 dX6_lookForGreeting_32 rfl ?_
          exact go_ireturn dX6_lookForGreeting_33 rfl hf
def f_X6_lookForGreeting (a0 : Nat) (h : AH) : Option (Int32 × AH) := f_X6_lookForGreeting_2 FU a0 0 h
set_option maxRecDepth 20000 in
set_option maxHeartbeats 4000000 in
theorem t_X6_lookForGreeting {Ω : Om} (a0 : Nat) (h : AH) (q : Int32 × AH) (hf : f_X6_lookForGreeting a0 h = some q) : Go Ω M_X6_lookForGreeting 0 (lv_args 0 [vR Ω (some a0)]) [] h (some (.int q.1)) q.2 := by
  unfold f_X6_lookForGreeting at hf
  rw [la_R, la_0]
  refine go_sub (lv' := [(0, vR Ω (some a0))]) [0] rfl ?_
  refine go_iconst 0 dX6_lookForGreeting_0 rfl ?_
  refine go_istore_n (i := 1) (lv' := [(1, .int 0), (0, vR Ω (some a0))]) dX6_lookForGreeting_1 rfl (by decide) (by first | rfl | simp [catR, catI, catJ]) ?_
  refine go_sub (lv' := [(0, vR Ω (some a0)), (1, .int 0)]) [1, 0] rfl ?_
  exact t_X6_lookForGreeting_2 FU a0 0 h q hf
-- LetterBroker.step()I
theorem dX11_step_0 : decode cX11_step 0 = .ok (.aload_n 0, 1) := by decide +kernel
theorem dX11_step_1 : decode cX11_step 1 = .ok (.getfield 39, 3) := by decide +kernel
theorem dX11_step_4 : decode cX11_step 4 = .ok (.iconst 5, 1) := by decide +kernel
theorem dX11_step_5 : decode cX11_step 5 = .ok (.if_icmp .eq 16, 3) := by decide +kernel
theorem dX11_step_8 : decode cX11_step 8 = .ok (.aload_n 0, 1) := by decide +kernel
theorem dX11_step_9 : decode cX11_step 9 = .ok (.getfield 19, 3) := by decide +kernel
theorem dX11_step_12 : decode cX11_step 12 = .ok (.getfield 50, 3) := by decide +kernel
theorem dX11_step_15 : decode cX11_step 15 = .ok (.sipush 500, 3) := by decide +kernel
theorem dX11_step_18 : decode cX11_step 18 = .ok (.if_icmp .lt 5, 3) := by decide +kernel
theorem dX11_step_21 : decode cX11_step 21 = .ok (.iconst (-1), 1) := by decide +kernel
theorem dX11_step_22 : decode cX11_step 22 = .ok (.ireturn, 1) := by decide +kernel
theorem dX11_step_23 : decode cX11_step 23 = .ok (.aload_n 0, 1) := by decide +kernel
theorem dX11_step_24 : decode cX11_step 24 = .ok (.getfield 39, 3) := by decide +kernel
theorem dX11_step_27 : decode cX11_step 27 = .ok (.ifCond .ne 13, 3) := by decide +kernel
theorem dX11_step_30 : decode cX11_step 30 = .ok (.aload_n 0, 1) := by decide +kernel
theorem dX11_step_31 : decode cX11_step 31 = .ok (.getfield 10, 3) := by decide +kernel
theorem dX11_step_34 : decode cX11_step 34 = .ok (.invokevirtual 51, 3) := by decide +kernel
theorem dX11_step_37 : decode cX11_step 37 = .ok (.goto 10, 3) := by decide +kernel
theorem dX11_step_40 : decode cX11_step 40 = .ok (.aload_n 0, 1) := by decide +kernel
theorem dX11_step_41 : decode cX11_step 41 = .ok (.getfield 10, 3) := by decide +kernel
theorem dX11_step_44 : decode cX11_step 44 = .ok (.invokevirtual 55, 3) := by decide +kernel
theorem dX11_step_47 : decode cX11_step 47 = .ok (.istore_n 1, 1) := by decide +kernel
theorem dX11_step_48 : decode cX11_step 48 = .ok (.iload_n 1, 1) := by decide +kernel
theorem dX11_step_49 : decode cX11_step 49 = .ok (.ifCond .ne 5, 3) := by decide +kernel
theorem dX11_step_52 : decode cX11_step 52 = .ok (.iconst 0, 1) := by decide +kernel
theorem dX11_step_53 : decode cX11_step 53 = .ok (.ireturn, 1) := by decide +kernel
theorem dX11_step_54 : decode cX11_step 54 = .ok (.sipush 501, 3) := by decide +kernel
theorem dX11_step_57 : decode cX11_step 57 = .ok (.istore_n 2, 1) := by decide +kernel
theorem dX11_step_58 : decode cX11_step 58 = .ok (.iload_n 1, 1) := by decide +kernel
theorem dX11_step_59 : decode cX11_step 59 = .ok (.iconst 1, 1) := by decide +kernel
theorem dX11_step_60 : decode cX11_step 60 = .ok (.if_icmp .ne 22, 3) := by decide +kernel
theorem dX11_step_63 : decode cX11_step 63 = .ok (.aload_n 0, 1) := by decide +kernel
theorem dX11_step_64 : decode cX11_step 64 = .ok (.getfield 39, 3) := by decide +kernel
theorem dX11_step_67 : decode cX11_step 67 = .ok (.ifCond .ne 10, 3) := by decide +kernel
theorem dX11_step_70 : decode cX11_step 70 = .ok (.aload_n 0, 1) := by decide +kernel
theorem dX11_step_71 : decode cX11_step 71 = .ok (.invokevirtual 58, 3) := by decide +kernel
theorem dX11_step_74 : decode cX11_step 74 = .ok (.goto 7, 3) := by decide +kernel
theorem dX11_step_77 : decode cX11_step 77 = .ok (.aload_n 0, 1) := by decide +kernel
theorem dX11_step_78 : decode cX11_step 78 = .ok (.invokevirtual 61, 3) := by decide +kernel
theorem dX11_step_81 : decode cX11_step 81 = .ok (.istore_n 2, 1) := by decide +kernel
theorem dX11_step_82 : decode cX11_step 82 = .ok (.aload_n 0, 1) := by decide +kernel
theorem dX11_step_83 : decode cX11_step 83 = .ok (.iload_n 2, 1) := by decide +kernel
theorem dX11_step_84 : decode cX11_step 84 = .ok (.invokevirtual 64, 3) := by decide +kernel
theorem dX11_step_87 : decode cX11_step 87 = .ok (.aload_n 0, 1) := by decide +kernel
theorem dX11_step_88 : decode cX11_step 88 = .ok (.getfield 10, 3) := by decide +kernel
theorem dX11_step_91 : decode cX11_step 91 = .ok (.invokevirtual 67, 3) := by decide +kernel
theorem dX11_step_94 : decode cX11_step 94 = .ok (.aload_n 0, 1) := by decide +kernel
theorem dX11_step_95 : decode cX11_step 95 = .ok (.invokevirtual 70, 3) := by decide +kernel
theorem dX11_step_98 : decode cX11_step 98 = .ok (.iconst 1, 1) := by decide +kernel
theorem dX11_step_99 : decode cX11_step 99 = .ok (.ireturn, 1) := by decide +kernel
def f_X11_step_82 (a0 : Nat) (x2 : Int32) (h : AH) : Option (Int32 × AH) := kg h a0 12 (bd (f_X11_settleMistake a0 x2 h) fun _ h_2 =>
  rdR h_2 a0 12 0 fun r_3 =>
  nn r_3 fun a_4 =>
  kg h_2 a_4 7 (bd (f_X6_dropHandled a_4 h_2) fun _ h_6 =>
  kg h_6 a0 12 (bd (f_X11_deliverAll a0 h_6) fun _ h_8 =>
  some (1, h_8))))
set_option maxRecDepth 20000 in
set_option maxHeartbeats 4000000 in
theorem t_X11_step_82 {Ω : Om} (a0 : Nat) (x2 : Int32) (h : AH) (q : Int32 × AH) (hf : f_X11_step_82 a0 x2 h = some q) : Go Ω M_X11_step 82 [(0, vR Ω (some a0)), (2, .int x2)] [] h (some (.int q.1)) q.2 := by
  unfold f_X11_step_82 at hf
  refine go_aload_n dX11_step_82 rfl 0 rfl ?_
  refine go_iload_n dX11_step_83 rfl 1 rfl ?_
  obtain ⟨hk, hf⟩ := kg_some hf
  obtain ⟨z_1, hc, hf⟩ := bd_some hf
  refine go_callV (y2 := M_X11_settleMistake) (c2 := 12) dX11_step_84 mo_X11_settleMistake ⟨Nat.le_of_ble_eq_true rfl, Nat.le_of_ble_eq_true rfl⟩ na_X11_settleMistake w1046 w1048 (by decide) rfl w44 hk [.int x2] rfl (n_X11_settleMistake (a0) x2) rfl (csum (Nat.le_of_ble_eq_true rfl)) (t_X11_settleMistake (a0) x2 h _ hc) ?_
  obtain ⟨_, h_2⟩ := z_1
  refine go_aload_n dX11_step_87 rfl 0 rfl ?_
  refine go_getR dX11_step_88 fl_388_0 (fun _ _ => rfl) hf (fun r_3 hf => ?_)
  obtain ⟨a_4, rfl, hga_4⟩ := nn_some hf
  have hf := hga_4
  obtain ⟨hk, hf⟩ := kg_some hf
  obtain ⟨z_5, hc, hf⟩ := bd_some hf
  refine go_callV (y2 := M_X6_dropHandled) (c2 := 7) dX11_step_91 mo_X6_dropHandled ⟨Nat.le_of_ble_eq_true rfl, Nat.le_of_ble_eq_true rfl⟩ na_X6_dropHandled w1054 w1055 (by decide) rfl w1056 hk [] rfl (n_X6_dropHandled (a_4)) rfl (csum (Nat.le_of_ble_eq_true rfl)) (t_X6_dropHandled (a_4) h_2 _ hc) ?_
  obtain ⟨_, h_6⟩ := z_5
  refine go_aload_n dX11_step_94 rfl 0 rfl ?_
  obtain ⟨hk, hf⟩ := kg_some hf
  obtain ⟨z_7, hc, hf⟩ := bd_some hf
  refine go_callV (y2 := M_X11_deliverAll) (c2 := 12) dX11_step_95 mo_X11_deliverAll ⟨Nat.le_of_ble_eq_true rfl, Nat.le_of_ble_eq_true rfl⟩ na_X11_deliverAll w1059 w1061 (by decide) rfl w45 hk [] rfl (n_X11_deliverAll (a0)) rfl (csum (Nat.le_of_ble_eq_true rfl)) (t_X11_deliverAll (a0) h_6 _ hc) ?_
  obtain ⟨_, h_8⟩ := z_7
  refine go_iconst 1 dX11_step_98 rfl ?_
  exact go_ireturn dX11_step_99 rfl hf
def f_X11_step_47 (a0 : Nat) (s0 : Int32) (h : AH) : Option (Int32 × AH) := (if s0 = 0 then
    some (0, h)
  else
    (if s0 = 1 then
      rdI h a0 12 4 fun x_1 =>
      (if x_1 = 0 then
        kg h a0 12 (bd (f_X11_greet a0 h) fun x_7 h_6 =>
        f_X11_step_82 a0 x_7 h_6)
      else
        kg h a0 12 (bd (f_X11_handleFrame a0 h) fun x_4 h_3 =>
        f_X11_step_82 a0 x_4 h_3))
    else
      f_X11_step_82 a0 501 h))
set_option maxRecDepth 20000 in
set_option maxHeartbeats 4000000 in
theorem t_X11_step_47 {Ω : Om} (a0 : Nat) (s0 : Int32) (h : AH) (q : Int32 × AH) (hf : f_X11_step_47 a0 s0 h = some q) : Go Ω M_X11_step 47 [(0, vR Ω (some a0))] [.int s0] h (some (.int q.1)) q.2 := by
  unfold f_X11_step_47 at hf
  refine go_istore_n (i := 1) (lv' := [(1, .int s0), (0, vR Ω (some a0))]) dX11_step_47 rfl (by decide) (by first | rfl | simp [catR, catI, catJ]) ?_
  refine go_iload_n dX11_step_48 rfl 0 rfl ?_
  refine go_if_ne (tgt := 54) dX11_step_49 (by decide) hf (fun hf => ?_) (fun hf => ?_)
  · refine go_sipush 501 dX11_step_54 (by decide) ?_
    refine go_istore_n (i := 2) (lv' := [(2, .int 501), (1, .int s0), (0, vR Ω (some a0))]) dX11_step_57 rfl (by decide) (by first | rfl | simp [catR, catI, catJ]) ?_
    refine go_iload_n dX11_step_58 rfl 1 rfl ?_
    refine go_iconst 1 dX11_step_59 rfl ?_
    refine go_icmp_ne (tgt := 82) dX11_step_60 (by decide) hf (fun hf => ?_) (fun hf => ?_)
    · refine go_sub (lv' := [(0, vR Ω (some a0)), (2, .int 501)]) [2, 0] rfl ?_
      exact t_X11_step_82 a0 501 h q hf
    · refine go_aload_n dX11_step_63 rfl 2 rfl ?_
      refine go_getI dX11_step_64 fl_392_0 (fun _ _ => rfl) hf (fun x_1 hf => ?_)
      refine go_if_ne (tgt := 77) dX11_step_67 (by decide) hf (fun hf => ?_) (fun hf => ?_)
      · refine go_aload_n dX11_step_77 rfl 2 rfl ?_
        obtain ⟨hk, hf⟩ := kg_some hf
        obtain ⟨z_2, hc, hf⟩ := bd_some hf
        refine go_callV (y2 := M_X11_handleFrame) (c2 := 12) dX11_step_78 mo_X11_handleFrame ⟨Nat.le_of_ble_eq_true rfl, Nat.le_of_ble_eq_true rfl⟩ na_X11_handleFrame w446 w448 (by decide) rfl w4 hk [] rfl (n_X11_handleFrame (a0)) rfl (csum (Nat.le_of_ble_eq_true rfl)) (t_X11_handleFrame (a0) h _ hc) ?_
        obtain ⟨x_4, h_3⟩ := z_2
        refine go_istore_n (i := 2) (lv' := [(2, .int x_4), (1, .int s0), (0, vR Ω (some a0))]) dX11_step_81 rfl (by decide) (by first | rfl | simp [catR, catI, catJ]) ?_
        refine go_sub (lv' := [(0, vR Ω (some a0)), (2, .int x_4)]) [2, 0] rfl ?_
        exact t_X11_step_82 a0 x_4 h_3 q hf
      · refine go_aload_n dX11_step_70 rfl 2 rfl ?_
        obtain ⟨hk, hf⟩ := kg_some hf
        obtain ⟨z_5, hc, hf⟩ := bd_some hf
        refine go_callV (y2 := M_X11_greet) (c2 := 12) dX11_step_71 mo_X11_greet ⟨Nat.le_of_ble_eq_true rfl, Nat.le_of_ble_eq_true rfl⟩ na_X11_greet w426 w428 (by decide) rfl w3 hk [] rfl (n_X11_greet (a0)) rfl (csum (Nat.le_of_ble_eq_true rfl)) (t_X11_greet (a0) h _ hc) ?_
        obtain ⟨x_7, h_6⟩ := z_5
        refine go_goto (tgt := 81) dX11_step_74 (by decide) ?_
        refine go_istore_n (i := 2) (lv' := [(2, .int x_7), (1, .int s0), (0, vR Ω (some a0))]) dX11_step_81 rfl (by decide) (by first | rfl | simp [catR, catI, catJ]) ?_
        refine go_sub (lv' := [(0, vR Ω (some a0)), (2, .int x_7)]) [2, 0] rfl ?_
        exact t_X11_step_82 a0 x_7 h_6 q hf
  · refine go_iconst 0 dX11_step_52 rfl ?_
    exact go_ireturn dX11_step_53 rfl hf
def f_X11_step (a0 : Nat) (h : AH) : Option (Int32 × AH) := rdI h a0 12 4 fun x_1 =>
  (if x_1 = 5 then
    some (((-1)), h)
  else
    rdR h a0 12 1 fun r_2 =>
    nn r_2 fun a_3 =>
    rdI h a_3 10 0 fun x_4 =>
    (if x_4 < 500 then
      rdI h a0 12 4 fun x_5 =>
      (if x_5 = 0 then
        rdR h a0 12 0 fun r_11 =>
        nn r_11 fun a_12 =>
        kg h a_12 7 (bd (f_X6_lookForGreeting a_12 h) fun x_15 h_14 =>
        f_X11_step_47 a0 x_15 h_14)
      else
        rdR h a0 12 0 fun r_6 =>
        nn r_6 fun a_7 =>
        kg h a_7 7 (bd (f_X6_lookForFrame a_7 h) fun x_10 h_9 =>
        f_X11_step_47 a0 x_10 h_9))
    else
      some (((-1)), h)))
set_option maxRecDepth 20000 in
set_option maxHeartbeats 4000000 in
theorem t_X11_step {Ω : Om} (a0 : Nat) (h : AH) (q : Int32 × AH) (hf : f_X11_step a0 h = some q) : Go Ω M_X11_step 0 (lv_args 0 [vR Ω (some a0)]) [] h (some (.int q.1)) q.2 := by
  unfold f_X11_step at hf
  rw [la_R, la_0]
  refine go_sub (lv' := [(0, vR Ω (some a0))]) [0] rfl ?_
  refine go_aload_n dX11_step_0 rfl 0 rfl ?_
  refine go_getI dX11_step_1 fl_392_0 (fun _ _ => rfl) hf (fun x_1 hf => ?_)
  refine go_iconst 5 dX11_step_4 rfl ?_
  refine go_icmp_eq (tgt := 21) dX11_step_5 (by decide) hf (fun hf => ?_) (fun hf => ?_)
  · refine go_iconst (-1) dX11_step_21 rfl ?_
    exact go_ireturn dX11_step_22 rfl hf
  · refine go_aload_n dX11_step_8 rfl 0 rfl ?_
    refine go_getR dX11_step_9 fl_389_0 (fun _ _ => rfl) hf (fun r_2 hf => ?_)
    obtain ⟨a_3, rfl, hga_3⟩ := nn_some hf
    have hf := hga_3
    refine go_getI dX11_step_12 fl_184_0 (fun _ _ => rfl) hf (fun x_4 hf => ?_)
    refine go_sipush 500 dX11_step_15 (by decide) ?_
    refine go_icmp_lt (tgt := 23) dX11_step_18 (by decide) hf (fun hf => ?_) (fun hf => ?_)
    · refine go_aload_n dX11_step_23 rfl 0 rfl ?_
      refine go_getI dX11_step_24 fl_392_0 (fun _ _ => rfl) hf (fun x_5 hf => ?_)
      refine go_if_ne (tgt := 40) dX11_step_27 (by decide) hf (fun hf => ?_) (fun hf => ?_)
      · refine go_aload_n dX11_step_40 rfl 0 rfl ?_
        refine go_getR dX11_step_41 fl_388_0 (fun _ _ => rfl) hf (fun r_6 hf => ?_)
        obtain ⟨a_7, rfl, hga_7⟩ := nn_some hf
        have hf := hga_7
        obtain ⟨hk, hf⟩ := kg_some hf
        obtain ⟨z_8, hc, hf⟩ := bd_some hf
        refine go_callV (y2 := M_X6_lookForFrame) (c2 := 7) dX11_step_44 mo_X6_lookForFrame ⟨Nat.le_of_ble_eq_true rfl, Nat.le_of_ble_eq_true rfl⟩ na_X6_lookForFrame w422 w423 (by decide) rfl w424 hk [] rfl (n_X6_lookForFrame (a_7)) rfl (csum (Nat.le_of_ble_eq_true rfl)) (t_X6_lookForFrame (a_7) h _ hc) ?_
        obtain ⟨x_10, h_9⟩ := z_8
        refine go_sub (lv' := [(0, vR Ω (some a0))]) [0] rfl ?_
        exact t_X11_step_47 a0 x_10 h_9 q hf
      · refine go_aload_n dX11_step_30 rfl 0 rfl ?_
        refine go_getR dX11_step_31 fl_388_0 (fun _ _ => rfl) hf (fun r_11 hf => ?_)
        obtain ⟨a_12, rfl, hga_12⟩ := nn_some hf
        have hf := hga_12
        obtain ⟨hk, hf⟩ := kg_some hf
        obtain ⟨z_13, hc, hf⟩ := bd_some hf
        refine go_callV (y2 := M_X6_lookForGreeting) (c2 := 7) dX11_step_34 mo_X6_lookForGreeting ⟨Nat.le_of_ble_eq_true rfl, Nat.le_of_ble_eq_true rfl⟩ na_X6_lookForGreeting w416 w417 (by decide) rfl w418 hk [] rfl (n_X6_lookForGreeting (a_12)) rfl (csum (Nat.le_of_ble_eq_true rfl)) (t_X6_lookForGreeting (a_12) h _ hc) ?_
        obtain ⟨x_15, h_14⟩ := z_13
        refine go_goto (tgt := 47) dX11_step_37 (by decide) ?_
        refine go_sub (lv' := [(0, vR Ω (some a0))]) [0] rfl ?_
        exact t_X11_step_47 a0 x_15 h_14 q hf
    · refine go_iconst (-1) dX11_step_21 rfl ?_
      exact go_ireturn dX11_step_22 rfl hf
-- LetterBrokerModel.held(I)I
theorem dX12_held_0 : decode cX12_held 0 = .ok (.iconst 0, 1) := by decide +kernel
theorem dX12_held_1 : decode cX12_held 1 = .ok (.istore_n 2, 1) := by decide +kernel
theorem dX12_held_2 : decode cX12_held 2 = .ok (.iconst 0, 1) := by decide +kernel
theorem dX12_held_3 : decode cX12_held 3 = .ok (.istore_n 3, 1) := by decide +kernel
theorem dX12_held_4 : decode cX12_held 4 = .ok (.iload_n 3, 1) := by decide +kernel
theorem dX12_held_5 : decode cX12_held 5 = .ok (.aload_n 0, 1) := by decide +kernel
theorem dX12_held_6 : decode cX12_held 6 = .ok (.getfield 179, 3) := by decide +kernel
theorem dX12_held_9 : decode cX12_held 9 = .ok (.if_icmp .ge 27, 3) := by decide +kernel
theorem dX12_held_12 : decode cX12_held 12 = .ok (.iload_n 2, 1) := by decide +kernel
theorem dX12_held_13 : decode cX12_held 13 = .ok (.aload_n 0, 1) := by decide +kernel
theorem dX12_held_14 : decode cX12_held 14 = .ok (.getfield 67, 3) := by decide +kernel
theorem dX12_held_17 : decode cX12_held 17 = .ok (.iload_n 3, 1) := by decide +kernel
theorem dX12_held_18 : decode cX12_held 18 = .ok (.iaload, 1) := by decide +kernel
theorem dX12_held_19 : decode cX12_held 19 = .ok (.iload_n 1, 1) := by decide +kernel
theorem dX12_held_20 : decode cX12_held 20 = .ok (.if_icmp .ne 7, 3) := by decide +kernel
theorem dX12_held_23 : decode cX12_held 23 = .ok (.iconst 1, 1) := by decide +kernel
theorem dX12_held_24 : decode cX12_held 24 = .ok (.goto 4, 3) := by decide +kernel
theorem dX12_held_27 : decode cX12_held 27 = .ok (.iconst 0, 1) := by decide +kernel
theorem dX12_held_28 : decode cX12_held 28 = .ok (.iadd, 1) := by decide +kernel
theorem dX12_held_29 : decode cX12_held 29 = .ok (.istore_n 2, 1) := by decide +kernel
theorem dX12_held_30 : decode cX12_held 30 = .ok (.iinc 3 1, 3) := by decide +kernel
theorem dX12_held_33 : decode cX12_held 33 = .ok (.goto (-29), 3) := by decide +kernel
theorem dX12_held_36 : decode cX12_held 36 = .ok (.iload_n 2, 1) := by decide +kernel
theorem dX12_held_37 : decode cX12_held 37 = .ok (.ireturn, 1) := by decide +kernel
def f_X12_held_28 (k4 : Nat → Int32 → Int32 → Int32 → AH → Option (Int32 × AH)) (a0 : Nat) (x1 : Int32) (x3 : Int32) (s0 : Int32) (s1 : Int32) (h : AH) : Option (Int32 × AH) := lt (s1 + s0) fun x_1 =>
  k4 a0 x1 x_1 (x3 + 1) h
set_option maxRecDepth 20000 in
set_option maxHeartbeats 4000000 in
theorem t_X12_held_28 {Ω : Om} {k4 : Nat → Int32 → Int32 → Int32 → AH → Option (Int32 × AH)} (c4 : ∀ (a0 : Nat) (x1 : Int32) (x2 : Int32) (x3 : Int32) (h : AH) (q : Int32 × AH), k4 a0 x1 x2 x3 h = some q → Go Ω M_X12_held 4 [(0, vR Ω (some a0)), (1, .int x1), (2, .int x2), (3, .int x3)] [] h (some (.int q.1)) q.2) (a0 : Nat) (x1 : Int32) (x3 : Int32) (s0 : Int32) (s1 : Int32) (h : AH) (q : Int32 × AH) (hf : f_X12_held_28 k4 a0 x1 x3 s0 s1 h = some q) : Go Ω M_X12_held 28 [(0, vR Ω (some a0)), (1, .int x1), (3, .int x3)] [.int s0, .int s1] h (some (.int q.1)) q.2 := by
  unfold f_X12_held_28 at hf
  refine go_iadd dX12_held_28 ?_
  refine lt_I hf (fun x_1 hf => ?_)
  refine go_istore_n (i := 2) (lv' := [(2, .int x_1), (0, vR Ω (some a0)), (1, .int x1), (3, .int x3)]) dX12_held_29 rfl (by decide) (by first | rfl | simp [catR, catI, catJ]) ?_
  refine go_iinc (j := 3) (v := x3 + 1) (lv' := [(3, .int (x3 + 1)), (2, .int x_1), (0, vR Ω (some a0)), (1, .int x1)]) dX12_held_30 rfl rfl (by decide) (by first | rfl | simp [catR, catI, catJ]) ?_
  refine go_goto (tgt := 4) dX12_held_33 (by decide) ?_
  refine go_sub (lv' := [(0, vR Ω (some a0)), (1, .int x1), (2, .int x_1), (3, .int (x3 + 1))]) [2, 3, 1, 0] rfl ?_
  exact c4 a0 x1 x_1 (x3 + 1) h q hf
def f_X12_held_4 : Nat → Nat → Int32 → Int32 → Int32 → AH → Option (Int32 × AH)
  | 0, _, _, _, _, _ => none
  | n + 1, a0, x1, x2, x3, h => rdI h a0 13 24 fun x_1 =>
    (if x_1 ≤ x3 then
      some (x2, h)
    else
      rdR h a0 13 28 fun r_2 =>
      nn r_2 fun a_3 =>
      arI h a_3 x3 fun x_4 =>
      (if x_4 = x1 then
        f_X12_held_28 (fun a0 x1 x2 x3 h => f_X12_held_4 n a0 x1 x2 x3 h) a0 x1 x3 1 x2 h
      else
        f_X12_held_28 (fun a0 x1 x2 x3 h => f_X12_held_4 n a0 x1 x2 x3 h) a0 x1 x3 0 x2 h))
set_option maxRecDepth 20000 in
set_option maxHeartbeats 4000000 in
theorem t_X12_held_4 {Ω : Om} : ∀ (n : Nat) (a0 : Nat) (x1 : Int32) (x2 : Int32) (x3 : Int32) (h : AH) (q : Int32 × AH), f_X12_held_4 n a0 x1 x2 x3 h = some q → Go Ω M_X12_held 4 [(0, vR Ω (some a0)), (1, .int x1), (2, .int x2), (3, .int x3)] [] h (some (.int q.1)) q.2 := by
  intro n
  induction n with
  | zero => intro a0 x1 x2 x3 h q hf; cases hf
  | succ n ih =>
    intro a0 x1 x2 x3 h q hf
    rw [f_X12_held_4] at hf
    refine go_iload_n dX12_held_4 rfl 3 rfl ?_
    refine go_aload_n dX12_held_5 rfl 0 rfl ?_
    refine go_getI dX12_held_6 fl_1143_0 (fun _ _ => rfl) hf (fun x_1 hf => ?_)
    refine go_icmp_ge (tgt := 36) dX12_held_9 (by decide) hf (fun hf => ?_) (fun hf => ?_)
    · refine go_iload_n dX12_held_36 rfl 2 rfl ?_
      exact go_ireturn dX12_held_37 rfl hf
    · refine go_iload_n dX12_held_12 rfl 2 rfl ?_
      refine go_aload_n dX12_held_13 rfl 0 rfl ?_
      refine go_getR dX12_held_14 fl_1147_0 (fun _ _ => rfl) hf (fun r_2 hf => ?_)
      refine go_iload_n dX12_held_17 rfl 3 rfl ?_
      obtain ⟨a_3, rfl, hga_3⟩ := nn_some hf
      have hf := hga_3
      refine go_iaload dX12_held_18 hf (fun x_4 hf => ?_)
      refine go_iload_n dX12_held_19 rfl 1 rfl ?_
      refine go_icmp_ne (tgt := 27) dX12_held_20 (by decide) hf (fun hf => ?_) (fun hf => ?_)
      · refine go_iconst 0 dX12_held_27 rfl ?_
        refine go_sub (lv' := [(0, vR Ω (some a0)), (1, .int x1), (3, .int x3)]) [0, 1, 3] rfl ?_
        exact t_X12_held_28 ih a0 x1 x3 0 x2 h q hf
      · refine go_iconst 1 dX12_held_23 rfl ?_
        refine go_goto (tgt := 28) dX12_held_24 (by decide) ?_
        refine go_sub (lv' := [(0, vR Ω (some a0)), (1, .int x1), (3, .int x3)]) [0, 1, 3] rfl ?_
        exact t_X12_held_28 ih a0 x1 x3 1 x2 h q hf
def f_X12_held (a0 : Nat) (x1 : Int32) (h : AH) : Option (Int32 × AH) := f_X12_held_4 FU a0 x1 0 0 h
set_option maxRecDepth 20000 in
set_option maxHeartbeats 4000000 in
theorem t_X12_held {Ω : Om} (a0 : Nat) (x1 : Int32) (h : AH) (q : Int32 × AH) (hf : f_X12_held a0 x1 h = some q) : Go Ω M_X12_held 0 (lv_args 0 [vR Ω (some a0), .int x1]) [] h (some (.int q.1)) q.2 := by
  unfold f_X12_held at hf
  rw [la_R, la_I, la_0]
  refine go_sub (lv' := [(0, vR Ω (some a0)), (1, .int x1)]) [0, 1] rfl ?_
  refine go_iconst 0 dX12_held_0 rfl ?_
  refine go_istore_n (i := 2) (lv' := [(2, .int 0), (0, vR Ω (some a0)), (1, .int x1)]) dX12_held_1 rfl (by decide) (by first | rfl | simp [catR, catI, catJ]) ?_
  refine go_iconst 0 dX12_held_2 rfl ?_
  refine go_istore_n (i := 3) (lv' := [(3, .int 0), (2, .int 0), (0, vR Ω (some a0)), (1, .int x1)]) dX12_held_3 rfl (by decide) (by first | rfl | simp [catR, catI, catJ]) ?_
  refine go_sub (lv' := [(0, vR Ω (some a0)), (1, .int x1), (2, .int 0), (3, .int 0)]) [2, 3, 1, 0] rfl ?_
  exact t_X12_held_4 FU a0 x1 0 0 h q hf
-- LetterBrokerModel.channel(II)I
theorem dX12_channel_0 : decode cX12_channel 0 = .ok (.iload_n 1, 1) := by decide +kernel
theorem dX12_channel_1 : decode cX12_channel 1 = .ok (.iconst 1, 1) := by decide +kernel
theorem dX12_channel_2 : decode cX12_channel 2 = .ok (.if_icmp .lt 8, 3) := by decide +kernel
theorem dX12_channel_5 : decode cX12_channel 5 = .ok (.iload_n 1, 1) := by decide +kernel
theorem dX12_channel_6 : decode cX12_channel 6 = .ok (.iconst 3, 1) := by decide +kernel
theorem dX12_channel_7 : decode cX12_channel 7 = .ok (.if_icmp .le 5, 3) := by decide +kernel
theorem dX12_channel_10 : decode cX12_channel 10 = .ok (.iconst (-1), 1) := by decide +kernel
theorem dX12_channel_11 : decode cX12_channel 11 = .ok (.ireturn, 1) := by decide +kernel
theorem dX12_channel_12 : decode cX12_channel 12 = .ok (.iload_n 2, 1) := by decide +kernel
theorem dX12_channel_13 : decode cX12_channel 13 = .ok (.tableswitch 58 0 3 #[31, 38, 44, 51], 31) := by decide +kernel
theorem dX12_channel_44 : decode cX12_channel 44 = .ok (.aload_n 0, 1) := by decide +kernel
theorem dX12_channel_45 : decode cX12_channel 45 = .ok (.getfield 88, 3) := by decide +kernel
theorem dX12_channel_48 : decode cX12_channel 48 = .ok (.iload_n 1, 1) := by decide +kernel
theorem dX12_channel_49 : decode cX12_channel 49 = .ok (.iaload, 1) := by decide +kernel
theorem dX12_channel_50 : decode cX12_channel 50 = .ok (.ireturn, 1) := by decide +kernel
theorem dX12_channel_51 : decode cX12_channel 51 = .ok (.aload_n 0, 1) := by decide +kernel
theorem dX12_channel_52 : decode cX12_channel 52 = .ok (.iload_n 1, 1) := by decide +kernel
theorem dX12_channel_53 : decode cX12_channel 53 = .ok (.invokevirtual 281, 3) := by decide +kernel
theorem dX12_channel_56 : decode cX12_channel 56 = .ok (.ireturn, 1) := by decide +kernel
theorem dX12_channel_57 : decode cX12_channel 57 = .ok (.aload_n 0, 1) := by decide +kernel
theorem dX12_channel_58 : decode cX12_channel 58 = .ok (.getfield 97, 3) := by decide +kernel
theorem dX12_channel_61 : decode cX12_channel 61 = .ok (.iload_n 1, 1) := by decide +kernel
theorem dX12_channel_62 : decode cX12_channel 62 = .ok (.iaload, 1) := by decide +kernel
theorem dX12_channel_63 : decode cX12_channel 63 = .ok (.ireturn, 1) := by decide +kernel
theorem dX12_channel_64 : decode cX12_channel 64 = .ok (.aload_n 0, 1) := by decide +kernel
theorem dX12_channel_65 : decode cX12_channel 65 = .ok (.getfield 124, 3) := by decide +kernel
theorem dX12_channel_68 : decode cX12_channel 68 = .ok (.iload_n 1, 1) := by decide +kernel
theorem dX12_channel_69 : decode cX12_channel 69 = .ok (.iaload, 1) := by decide +kernel
theorem dX12_channel_70 : decode cX12_channel 70 = .ok (.ireturn, 1) := by decide +kernel
theorem dX12_channel_71 : decode cX12_channel 71 = .ok (.iconst (-1), 1) := by decide +kernel
theorem dX12_channel_72 : decode cX12_channel 72 = .ok (.ireturn, 1) := by decide +kernel
def f_X12_channel (a0 : Nat) (x1 : Int32) (x2 : Int32) (h : AH) : Option (Int32 × AH) := (if x1 < 1 then
    some (((-1)), h)
  else
    (if x1 ≤ 3 then
      (if x2 = 0 then
        rdR h a0 13 35 fun r_1 =>
        nn r_1 fun a_2 =>
        arI h a_2 x1 fun x_3 =>
        some (x_3, h)
      else (if x2 = 1 then
        kg h a0 13 (bd (f_X12_held a0 x1 h) fun x_6 h_5 =>
        some (x_6, h_5))
      else (if x2 = 2 then
        rdR h a0 13 38 fun r_7 =>
        nn r_7 fun a_8 =>
        arI h a_8 x1 fun x_9 =>
        some (x_9, h)
      else (if x2 = 3 then
        rdR h a0 13 47 fun r_10 =>
        nn r_10 fun a_11 =>
        arI h a_11 x1 fun x_12 =>
        some (x_12, h)
      else some (((-1)), h)))))
    else
      some (((-1)), h)))
set_option maxRecDepth 20000 in
set_option maxHeartbeats 4000000 in
theorem t_X12_channel {Ω : Om} (a0 : Nat) (x1 : Int32) (x2 : Int32) (h : AH) (q : Int32 × AH) (hf : f_X12_channel a0 x1 x2 h = some q) : Go Ω M_X12_channel 0 (lv_args 0 [vR Ω (some a0), .int x1, .int x2]) [] h (some (.int q.1)) q.2 := by
  unfold f_X12_channel at hf
  rw [la_R, la_I, la_I, la_0]
  refine go_sub (lv' := [(0, vR Ω (some a0)), (1, .int x1), (2, .int x2)]) [0, 1, 2] rfl ?_
  refine go_iload_n dX12_channel_0 rfl 1 rfl ?_
  refine go_iconst 1 dX12_channel_1 rfl ?_
  refine go_icmp_lt (tgt := 10) dX12_channel_2 (by decide) hf (fun hf => ?_) (fun hf => ?_)
  · refine go_iconst (-1) dX12_channel_10 rfl ?_
    exact go_ireturn dX12_channel_11 rfl hf
  · refine go_iload_n dX12_channel_5 rfl 1 rfl ?_
    refine go_iconst 3 dX12_channel_6 rfl ?_
    refine go_icmp_le (tgt := 12) dX12_channel_7 (by decide) hf (fun hf => ?_) (fun hf => ?_)
    · refine go_iload_n dX12_channel_12 rfl 2 rfl ?_
      by_cases e0 : x2 = 0
      · rw [if_pos e0] at hf
        refine go_tsw1 (off := 31) (tgt := 44) dX12_channel_13 (by rw [e0]; decide) (by rw [e0]; decide) (by rw [e0]; decide) (by decide) ?_
        refine go_aload_n dX12_channel_44 rfl 0 rfl ?_
        refine go_getR dX12_channel_45 fl_1154_0 (fun _ _ => rfl) hf (fun r_1 hf => ?_)
        refine go_iload_n dX12_channel_48 rfl 1 rfl ?_
        obtain ⟨a_2, rfl, hga_2⟩ := nn_some hf
        have hf := hga_2
        refine go_iaload dX12_channel_49 hf (fun x_3 hf => ?_)
        exact go_ireturn dX12_channel_50 rfl hf
      rw [if_neg e0] at hf
      by_cases e1 : x2 = 1
      · rw [if_pos e1] at hf
        refine go_tsw1 (off := 38) (tgt := 51) dX12_channel_13 (by rw [e1]; decide) (by rw [e1]; decide) (by rw [e1]; decide) (by decide) ?_
        refine go_aload_n dX12_channel_51 rfl 0 rfl ?_
        refine go_iload_n dX12_channel_52 rfl 1 rfl ?_
        obtain ⟨hk, hf⟩ := kg_some hf
        obtain ⟨z_4, hc, hf⟩ := bd_some hf
        refine go_callV (y2 := M_X12_held) (c2 := 13) dX12_channel_53 mo_X12_held ⟨Nat.le_of_ble_eq_true rfl, Nat.le_of_ble_eq_true rfl⟩ na_X12_held w1605 w1607 (by decide) rfl w117 hk [.int x1] rfl (n_X12_held (a0) x1) rfl (csum (Nat.le_of_ble_eq_true rfl)) (t_X12_held (a0) x1 h _ hc) ?_
        obtain ⟨x_6, h_5⟩ := z_4
        exact go_ireturn dX12_channel_56 rfl hf
      rw [if_neg e1] at hf
      by_cases e2 : x2 = 2
      · rw [if_pos e2] at hf
        refine go_tsw1 (off := 44) (tgt := 57) dX12_channel_13 (by rw [e2]; decide) (by rw [e2]; decide) (by rw [e2]; decide) (by decide) ?_
        refine go_aload_n dX12_channel_57 rfl 0 rfl ?_
        refine go_getR dX12_channel_58 fl_1157_0 (fun _ _ => rfl) hf (fun r_7 hf => ?_)
        refine go_iload_n dX12_channel_61 rfl 1 rfl ?_
        obtain ⟨a_8, rfl, hga_8⟩ := nn_some hf
        have hf := hga_8
        refine go_iaload dX12_channel_62 hf (fun x_9 hf => ?_)
        exact go_ireturn dX12_channel_63 rfl hf
      rw [if_neg e2] at hf
      by_cases e3 : x2 = 3
      · rw [if_pos e3] at hf
        refine go_tsw1 (off := 51) (tgt := 64) dX12_channel_13 (by rw [e3]; decide) (by rw [e3]; decide) (by rw [e3]; decide) (by decide) ?_
        refine go_aload_n dX12_channel_64 rfl 0 rfl ?_
        refine go_getR dX12_channel_65 fl_1166_0 (fun _ _ => rfl) hf (fun r_10 hf => ?_)
        refine go_iload_n dX12_channel_68 rfl 1 rfl ?_
        obtain ⟨a_11, rfl, hga_11⟩ := nn_some hf
        have hf := hga_11
        refine go_iaload dX12_channel_69 hf (fun x_12 hf => ?_)
        exact go_ireturn dX12_channel_70 rfl hf
      rw [if_neg e3] at hf
      have n0 := ti (n := 0) (by decide) e0
      have n1 := ti (n := 1) (by decide) e1
      have n2 := ti (n := 2) (by decide) e2
      have n3 := ti (n := 3) (by decide) e3
      refine go_tsw0 (tgt := 71) dX12_channel_13 (by omega) (by decide) ?_
      refine go_iconst (-1) dX12_channel_71 rfl ?_
      exact go_ireturn dX12_channel_72 rfl hf
    · refine go_iconst (-1) dX12_channel_10 rfl ?_
      exact go_ireturn dX12_channel_11 rfl hf
-- LetterBrokerModel.connect()Z
theorem dX12_connect_0 : decode cX12_connect 0 = .ok (.aload_n 0, 1) := by decide +kernel
theorem dX12_connect_1 : decode cX12_connect 1 = .ok (.getfield 207, 3) := by decide +kernel
theorem dX12_connect_4 : decode cX12_connect 4 = .ok (.iconst 5, 1) := by decide +kernel
theorem dX12_connect_5 : decode cX12_connect 5 = .ok (.if_icmp .eq 5, 3) := by decide +kernel
theorem dX12_connect_8 : decode cX12_connect 8 = .ok (.iconst 0, 1) := by decide +kernel
theorem dX12_connect_9 : decode cX12_connect 9 = .ok (.ireturn, 1) := by decide +kernel
theorem dX12_connect_10 : decode cX12_connect 10 = .ok (.aload_n 0, 1) := by decide +kernel
theorem dX12_connect_11 : decode cX12_connect 11 = .ok (.iconst 0, 1) := by decide +kernel
theorem dX12_connect_12 : decode cX12_connect 12 = .ok (.putfield 207, 3) := by decide +kernel
theorem dX12_connect_15 : decode cX12_connect 15 = .ok (.iconst 1, 1) := by decide +kernel
theorem dX12_connect_16 : decode cX12_connect 16 = .ok (.ireturn, 1) := by decide +kernel
def f_X12_connect (a0 : Nat) (h : AH) : Option (Int32 × AH) := rdI h a0 13 0 fun x_1 =>
  (if x_1 = 5 then
    wrI h a0 13 0 0 fun h_2 =>
    rz 1 (some (1, h_2))
  else
    rz 0 (some (0, h)))
set_option maxRecDepth 20000 in
set_option maxHeartbeats 4000000 in
theorem t_X12_connect {Ω : Om} (a0 : Nat) (h : AH) (q : Int32 × AH) (hf : f_X12_connect a0 h = some q) : Go Ω M_X12_connect 0 (lv_args 0 [vR Ω (some a0)]) [] h (some (.int q.1)) q.2 := by
  unfold f_X12_connect at hf
  rw [la_R, la_0]
  refine go_sub (lv' := [(0, vR Ω (some a0))]) [0] rfl ?_
  refine go_aload_n dX12_connect_0 rfl 0 rfl ?_
  refine go_getI dX12_connect_1 fl_1119_0 (fun _ _ => rfl) hf (fun x_1 hf => ?_)
  refine go_iconst 5 dX12_connect_4 rfl ?_
  refine go_icmp_eq (tgt := 10) dX12_connect_5 (by decide) hf (fun hf => ?_) (fun hf => ?_)
  · refine go_aload_n dX12_connect_10 rfl 0 rfl ?_
    refine go_iconst 0 dX12_connect_11 rfl ?_
    refine go_putI dX12_connect_12 fl_1119_0 (fun q hq => by cases hq; exact Or.inl rfl) (fun _ _ => rfl) rfl hf (fun h_2 hf => ?_)
    refine go_iconst 1 dX12_connect_15 rfl ?_
    exact go_zreturn dX12_connect_16 rfl hf
  · refine go_iconst 0 dX12_connect_8 rfl ?_
    exact go_zreturn dX12_connect_9 rfl hf

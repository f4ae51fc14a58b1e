/-! printed by wip/whole/gen: functions and their walks -/
-- LetterBrokerModel.queueOf(J)I
theorem dX12_queueOf_0 : decode cX12_queueOf 0 = .ok (.iconst 0, 1) := by decide +kernel
theorem dX12_queueOf_1 : decode cX12_queueOf 1 = .ok (.istore_n 3, 1) := by decide +kernel
theorem dX12_queueOf_2 : decode cX12_queueOf 2 = .ok (.iload_n 3, 1) := by decide +kernel
theorem dX12_queueOf_3 : decode cX12_queueOf 3 = .ok (.aload_n 0, 1) := by decide +kernel
theorem dX12_queueOf_4 : decode cX12_queueOf 4 = .ok (.getfield 185, 3) := by decide +kernel
theorem dX12_queueOf_7 : decode cX12_queueOf 7 = .ok (.if_icmp .ge 22, 3) := by decide +kernel
theorem dX12_queueOf_10 : decode cX12_queueOf 10 = .ok (.aload_n 0, 1) := by decide +kernel
theorem dX12_queueOf_11 : decode cX12_queueOf 11 = .ok (.getfield 27, 3) := by decide +kernel
theorem dX12_queueOf_14 : decode cX12_queueOf 14 = .ok (.iload_n 3, 1) := by decide +kernel
theorem dX12_queueOf_15 : decode cX12_queueOf 15 = .ok (.laload, 1) := by decide +kernel
theorem dX12_queueOf_16 : decode cX12_queueOf 16 = .ok (.lload_n 1, 1) := by decide +kernel
theorem dX12_queueOf_17 : decode cX12_queueOf 17 = .ok (.lcmp, 1) := by decide +kernel
theorem dX12_queueOf_18 : decode cX12_queueOf 18 = .ok (.ifCond .ne 5, 3) := by decide +kernel
theorem dX12_queueOf_21 : decode cX12_queueOf 21 = .ok (.iload_n 3, 1) := by decide +kernel
theorem dX12_queueOf_22 : decode cX12_queueOf 22 = .ok (.ireturn, 1) := by decide +kernel
theorem dX12_queueOf_23 : decode cX12_queueOf 23 = .ok (.iinc 3 1, 3) := by decide +kernel
theorem dX12_queueOf_26 : decode cX12_queueOf 26 = .ok (.goto (-24), 3) := by decide +kernel
theorem dX12_queueOf_29 : decode cX12_queueOf 29 = .ok (.iconst (-1), 1) := by decide +kernel
theorem dX12_queueOf_30 : decode cX12_queueOf 30 = .ok (.ireturn, 1) := by decide +kernel
def f_X12_queueOf_2 : Nat → Nat → Int64 → Int32 → AH → Option (Int32 × AH)
  | 0, _, _, _, _ => none
  | n + 1, a0, x1, x3, h => rdI h a0 13 8 fun x_1 =>
    (if x_1 ≤ x3 then
      some (((-1)), h)
    else
      rdR h a0 13 10 fun r_2 =>
      nn r_2 fun a_3 =>
      arJ h a_3 x3 fun x_4 =>
      (if (lg_cmp x_4 x1) = 0 then
        some (x3, h)
      else
        f_X12_queueOf_2 n a0 x1 (x3 + 1) h))
set_option maxRecDepth 20000 in
set_option maxHeartbeats 4000000 in
theorem t_X12_queueOf_2 {Ω : Om} : ∀ (n : Nat) (a0 : Nat) (x1 : Int64) (x3 : Int32) (h : AH) (q : Int32 × AH), f_X12_queueOf_2 n a0 x1 x3 h = some q → Go Ω M_X12_queueOf 2 [(0, vR Ω (some a0)), (1, .long x1), (3, .int x3)] [] h (some (.int q.1)) q.2 := by
  intro n
  induction n with
  | zero => intro a0 x1 x3 h q hf; cases hf
  | succ n ih =>
    intro a0 x1 x3 h q hf
    rw [f_X12_queueOf_2] at hf
    refine go_iload_n dX12_queueOf_2 rfl 2 rfl ?_
    refine go_aload_n dX12_queueOf_3 rfl 0 rfl ?_
    refine go_getI dX12_queueOf_4 fl_1127_0 (fun _ _ => rfl) hf (fun x_1 hf => ?_)
    refine go_icmp_ge (tgt := 29) dX12_queueOf_7 (by decide) hf (fun hf => ?_) (fun hf => ?_)
    · refine go_iconst (-1) dX12_queueOf_29 rfl ?_
      exact go_ireturn dX12_queueOf_30 rfl hf
    · refine go_aload_n dX12_queueOf_10 rfl 0 rfl ?_
      refine go_getR dX12_queueOf_11 fl_1129_0 (fun _ _ => rfl) hf (fun r_2 hf => ?_)
      refine go_iload_n dX12_queueOf_14 rfl 2 rfl ?_
      obtain ⟨a_3, rfl, hga_3⟩ := nn_some hf
      have hf := hga_3
      refine go_laload dX12_queueOf_15 hf (fun x_4 hf => ?_)
      refine go_lload_n dX12_queueOf_16 rfl 1 rfl ?_
      refine go_lcmp dX12_queueOf_17 ?_
      refine go_if_ne (tgt := 23) dX12_queueOf_18 (by decide) hf (fun hf => ?_) (fun hf => ?_)
      · refine go_iinc (j := 2) (v := x3 + 1) (lv' := [(3, .int (x3 + 1)), (0, vR Ω (some a0)), (1, .long x1)]) dX12_queueOf_23 rfl rfl (by decide) (by first | rfl | simp [catR, catI, catJ]) ?_
        refine go_goto (tgt := 2) dX12_queueOf_26 (by decide) ?_
        refine go_sub (lv' := [(0, vR Ω (some a0)), (1, .long x1), (3, .int (x3 + 1))]) [1, 2, 0] rfl ?_
        exact ih a0 x1 (x3 + 1) h q hf
      · refine go_iload_n dX12_queueOf_21 rfl 2 rfl ?_
        exact go_ireturn dX12_queueOf_22 rfl hf
def f_X12_queueOf (a0 : Nat) (x1 : Int64) (h : AH) : Option (Int32 × AH) := f_X12_queueOf_2 FU a0 x1 0 h
set_option maxRecDepth 20000 in
set_option maxHeartbeats 4000000 in
theorem t_X12_queueOf {Ω : Om} (a0 : Nat) (x1 : Int64) (h : AH) (q : Int32 × AH) (hf : f_X12_queueOf a0 x1 h = some q) : Go Ω M_X12_queueOf 0 (lv_args 0 [vR Ω (some a0), .long x1]) [] h (some (.int q.1)) q.2 := by
  unfold f_X12_queueOf at hf
  rw [la_R, la_J, la_0]
  refine go_sub (lv' := [(0, vR Ω (some a0)), (1, .long x1)]) [0, 1] rfl ?_
  refine go_iconst 0 dX12_queueOf_0 rfl ?_
  refine go_istore_n (i := 3) (lv' := [(3, .int 0), (0, vR Ω (some a0)), (1, .long x1)]) dX12_queueOf_1 rfl (by decide) (by first | rfl | simp [catR, catI, catJ]) ?_
  refine go_sub (lv' := [(0, vR Ω (some a0)), (1, .long x1), (3, .int 0)]) [1, 2, 0] rfl ?_
  exact t_X12_queueOf_2 FU a0 x1 0 h q hf
-- LetterBrokerModel.consume()V
theorem dX12_consume_0 : decode cX12_consume 0 = .ok (.aload_n 0, 1) := by decide +kernel
theorem dX12_consume_1 : decode cX12_consume 1 = .ok (.getfield 318, 3) := by decide +kernel
theorem dX12_consume_4 : decode cX12_consume 4 = .ok (.istore_n 1, 1) := by decide +kernel
theorem dX12_consume_5 : decode cX12_consume 5 = .ok (.aload_n 0, 1) := by decide +kernel
theorem dX12_consume_6 : decode cX12_consume 6 = .ok (.invokevirtual 321, 3) := by decide +kernel
theorem dX12_consume_9 : decode cX12_consume 9 = .ok (.lstore_n 2, 1) := by decide +kernel
theorem dX12_consume_10 : decode cX12_consume 10 = .ok (.aload_n 0, 1) := by decide +kernel
theorem dX12_consume_11 : decode cX12_consume 11 = .ok (.invokevirtual 321, 3) := by decide +kernel
theorem dX12_consume_14 : decode cX12_consume 14 = .ok (.lstore 4, 2) := by decide +kernel
theorem dX12_consume_16 : decode cX12_consume 16 = .ok (.aload_n 0, 1) := by decide +kernel
theorem dX12_consume_17 : decode cX12_consume 17 = .ok (.invokevirtual 325, 3) := by decide +kernel
theorem dX12_consume_20 : decode cX12_consume 20 = .ok (.istore 6, 2) := by decide +kernel
theorem dX12_consume_22 : decode cX12_consume 22 = .ok (.aload_n 0, 1) := by decide +kernel
theorem dX12_consume_23 : decode cX12_consume 23 = .ok (.invokevirtual 329, 3) := by decide +kernel
theorem dX12_consume_26 : decode cX12_consume 26 = .ok (.ifCond .ne 4, 3) := by decide +kernel
theorem dX12_consume_29 : decode cX12_consume 29 = .ok (.return_, 1) := by decide +kernel
theorem dX12_consume_30 : decode cX12_consume 30 = .ok (.aload_n 0, 1) := by decide +kernel
theorem dX12_consume_31 : decode cX12_consume 31 = .ok (.lload_n 2, 1) := by decide +kernel
theorem dX12_consume_32 : decode cX12_consume 32 = .ok (.invokevirtual 342, 3) := by decide +kernel
theorem dX12_consume_35 : decode cX12_consume 35 = .ok (.istore 7, 2) := by decide +kernel
theorem dX12_consume_37 : decode cX12_consume 37 = .ok (.iload 7, 2) := by decide +kernel
theorem dX12_consume_39 : decode cX12_consume 39 = .ok (.ifCond .ge 14, 3) := by decide +kernel
theorem dX12_consume_42 : decode cX12_consume 42 = .ok (.aload_n 0, 1) := by decide +kernel
theorem dX12_consume_43 : decode cX12_consume 43 = .ok (.iload_n 1, 1) := by decide +kernel
theorem dX12_consume_44 : decode cX12_consume 44 = .ok (.sipush 404, 3) := by decide +kernel
theorem dX12_consume_47 : decode cX12_consume 47 = .ok (.invokevirtual 252, 3) := by decide +kernel
theorem dX12_consume_50 : decode cX12_consume 50 = .ok (.goto 144, 3) := by decide +kernel
theorem dX12_consume_53 : decode cX12_consume 53 = .ok (.aload_n 0, 1) := by decide +kernel
theorem dX12_consume_54 : decode cX12_consume 54 = .ok (.iload_n 1, 1) := by decide +kernel
theorem dX12_consume_55 : decode cX12_consume 55 = .ok (.lload 4, 2) := by decide +kernel
theorem dX12_consume_57 : decode cX12_consume 57 = .ok (.invokevirtual 373, 3) := by decide +kernel
theorem dX12_consume_60 : decode cX12_consume 60 = .ok (.ifCond .eq 14, 3) := by decide +kernel
theorem dX12_consume_63 : decode cX12_consume 63 = .ok (.aload_n 0, 1) := by decide +kernel
theorem dX12_consume_64 : decode cX12_consume 64 = .ok (.iload_n 1, 1) := by decide +kernel
theorem dX12_consume_65 : decode cX12_consume 65 = .ok (.sipush 530, 3) := by decide +kernel
theorem dX12_consume_68 : decode cX12_consume 68 = .ok (.invokevirtual 252, 3) := by decide +kernel
theorem dX12_consume_71 : decode cX12_consume 71 = .ok (.goto 123, 3) := by decide +kernel
theorem dX12_consume_74 : decode cX12_consume 74 = .ok (.aload_n 0, 1) := by decide +kernel
theorem dX12_consume_75 : decode cX12_consume 75 = .ok (.getfield 198, 3) := by decide +kernel
theorem dX12_consume_78 : decode cX12_consume 78 = .ok (.bipush 6, 2) := by decide +kernel
theorem dX12_consume_80 : decode cX12_consume 80 = .ok (.if_icmp .ne 14, 3) := by decide +kernel
theorem dX12_consume_83 : decode cX12_consume 83 = .ok (.aload_n 0, 1) := by decide +kernel
theorem dX12_consume_84 : decode cX12_consume 84 = .ok (.iload_n 1, 1) := by decide +kernel
theorem dX12_consume_85 : decode cX12_consume 85 = .ok (.sipush 506, 3) := by decide +kernel
theorem dX12_consume_88 : decode cX12_consume 88 = .ok (.invokevirtual 252, 3) := by decide +kernel
theorem dX12_consume_91 : decode cX12_consume 91 = .ok (.goto 103, 3) := by decide +kernel
theorem dX12_consume_94 : decode cX12_consume 94 = .ok (.aload_n 0, 1) := by decide +kernel
theorem dX12_consume_95 : decode cX12_consume 95 = .ok (.dup, 1) := by decide +kernel
theorem dX12_consume_96 : decode cX12_consume 96 = .ok (.getfield 377, 3) := by decide +kernel
theorem dX12_consume_99 : decode cX12_consume 99 = .ok (.iconst 1, 1) := by decide +kernel
theorem dX12_consume_100 : decode cX12_consume 100 = .ok (.iadd, 1) := by decide +kernel
theorem dX12_consume_101 : decode cX12_consume 101 = .ok (.putfield 377, 3) := by decide +kernel
theorem dX12_consume_104 : decode cX12_consume 104 = .ok (.aload_n 0, 1) := by decide +kernel
theorem dX12_consume_105 : decode cX12_consume 105 = .ok (.getfield 45, 3) := by decide +kernel
theorem dX12_consume_108 : decode cX12_consume 108 = .ok (.aload_n 0, 1) := by decide +kernel
theorem dX12_consume_109 : decode cX12_consume 109 = .ok (.getfield 198, 3) := by decide +kernel
theorem dX12_consume_112 : decode cX12_consume 112 = .ok (.aload_n 0, 1) := by decide +kernel
theorem dX12_consume_113 : decode cX12_consume 113 = .ok (.getfield 377, 3) := by decide +kernel
theorem dX12_consume_116 : decode cX12_consume 116 = .ok (.iastore, 1) := by decide +kernel
theorem dX12_consume_117 : decode cX12_consume 117 = .ok (.aload_n 0, 1) := by decide +kernel
theorem dX12_consume_118 : decode cX12_consume 118 = .ok (.getfield 48, 3) := by decide +kernel
theorem dX12_consume_121 : decode cX12_consume 121 = .ok (.aload_n 0, 1) := by decide +kernel
theorem dX12_consume_122 : decode cX12_consume 122 = .ok (.getfield 198, 3) := by decide +kernel
theorem dX12_consume_125 : decode cX12_consume 125 = .ok (.iload_n 1, 1) := by decide +kernel
theorem dX12_consume_126 : decode cX12_consume 126 = .ok (.iastore, 1) := by decide +kernel
theorem dX12_consume_127 : decode cX12_consume 127 = .ok (.aload_n 0, 1) := by decide +kernel
theorem dX12_consume_128 : decode cX12_consume 128 = .ok (.getfield 51, 3) := by decide +kernel
theorem dX12_consume_131 : decode cX12_consume 131 = .ok (.aload_n 0, 1) := by decide +kernel
theorem dX12_consume_132 : decode cX12_consume 132 = .ok (.getfield 198, 3) := by decide +kernel
theorem dX12_consume_135 : decode cX12_consume 135 = .ok (.lload 4, 2) := by decide +kernel
theorem dX12_consume_137 : decode cX12_consume 137 = .ok (.lastore, 1) := by decide +kernel
theorem dX12_consume_138 : decode cX12_consume 138 = .ok (.aload_n 0, 1) := by decide +kernel
theorem dX12_consume_139 : decode cX12_consume 139 = .ok (.getfield 54, 3) := by decide +kernel
theorem dX12_consume_142 : decode cX12_consume 142 = .ok (.aload_n 0, 1) := by decide +kernel
theorem dX12_consume_143 : decode cX12_consume 143 = .ok (.getfield 198, 3) := by decide +kernel
theorem dX12_consume_146 : decode cX12_consume 146 = .ok (.aload_n 0, 1) := by decide +kernel
theorem dX12_consume_147 : decode cX12_consume 147 = .ok (.getfield 30, 3) := by decide +kernel
theorem dX12_consume_150 : decode cX12_consume 150 = .ok (.iload 7, 2) := by decide +kernel
theorem dX12_consume_152 : decode cX12_consume 152 = .ok (.iaload, 1) := by decide +kernel
theorem dX12_consume_153 : decode cX12_consume 153 = .ok (.iastore, 1) := by decide +kernel
theorem dX12_consume_154 : decode cX12_consume 154 = .ok (.aload_n 0, 1) := by decide +kernel
theorem dX12_consume_155 : decode cX12_consume 155 = .ok (.getfield 57, 3) := by decide +kernel
theorem dX12_consume_158 : decode cX12_consume 158 = .ok (.aload_n 0, 1) := by decide +kernel
theorem dX12_consume_159 : decode cX12_consume 159 = .ok (.getfield 198, 3) := by decide +kernel
theorem dX12_consume_162 : decode cX12_consume 162 = .ok (.iload 6, 2) := by decide +kernel
theorem dX12_consume_164 : decode cX12_consume 164 = .ok (.bastore, 1) := by decide +kernel
theorem dX12_consume_165 : decode cX12_consume 165 = .ok (.aload_n 0, 1) := by decide +kernel
theorem dX12_consume_166 : decode cX12_consume 166 = .ok (.dup, 1) := by decide +kernel
theorem dX12_consume_167 : decode cX12_consume 167 = .ok (.getfield 198, 3) := by decide +kernel
theorem dX12_consume_170 : decode cX12_consume 170 = .ok (.iconst 1, 1) := by decide +kernel
theorem dX12_consume_171 : decode cX12_consume 171 = .ok (.iadd, 1) := by decide +kernel
theorem dX12_consume_172 : decode cX12_consume 172 = .ok (.putfield 198, 3) := by decide +kernel
theorem dX12_consume_175 : decode cX12_consume 175 = .ok (.aload_n 0, 1) := by decide +kernel
theorem dX12_consume_176 : decode cX12_consume 176 = .ok (.iload_n 1, 1) := by decide +kernel
theorem dX12_consume_177 : decode cX12_consume 177 = .ok (.bipush 60, 2) := by decide +kernel
theorem dX12_consume_179 : decode cX12_consume 179 = .ok (.bipush 21, 2) := by decide +kernel
theorem dX12_consume_181 : decode cX12_consume 181 = .ok (.invokevirtual 168, 3) := by decide +kernel
theorem dX12_consume_184 : decode cX12_consume 184 = .ok (.aload_n 0, 1) := by decide +kernel
theorem dX12_consume_185 : decode cX12_consume 185 = .ok (.lload 4, 2) := by decide +kernel
theorem dX12_consume_187 : decode cX12_consume 187 = .ok (.invokevirtual 258, 3) := by decide +kernel
theorem dX12_consume_190 : decode cX12_consume 190 = .ok (.aload_n 0, 1) := by decide +kernel
theorem dX12_consume_191 : decode cX12_consume 191 = .ok (.invokevirtual 172, 3) := by decide +kernel
theorem dX12_consume_194 : decode cX12_consume 194 = .ok (.return_, 1) := by decide +kernel
def f_X12_consume (a0 : Nat) (h : AH) : Option (Unit × AH) := rdI h a0 13 54 fun x_1 =>
  kg h a0 13 (bd (f_X12_nextName a0 h) fun x_4 h_3 =>
  kg h_3 a0 13 (bd (f_X12_nextName a0 h_3) fun x_7 h_6 =>
  kg h_6 a0 13 (bd (f_X12_nextTruth a0 h_6) fun x_10 h_9 =>
  kg h_9 a0 13 (bd (f_X12_isJust a0 h_9) fun x_13 h_12 =>
  (if x_13 = 0 then
    some ((), h_12)
  else
    kg h_12 a0 13 (bd (f_X12_queueOf a0 x_4 h_12) fun x_16 h_15 =>
    (if 0 ≤ x_16 then
      kg h_15 a0 13 (bd (f_X12_hasTag a0 x_1 x_7 h_15) fun x_19 h_18 =>
      (if x_19 = 0 then
        rdI h_18 a0 13 17 fun x_20 =>
        (if x_20 = 6 then
          kg h_18 a0 13 (bd (f_X12_soft a0 x_1 506 h_18) fun _ h_56 =>
          some ((), h_56))
        else
          rdI h_18 a0 13 18 fun x_21 =>
          wrI h_18 a0 13 18 (x_21 + 1) fun h_22 =>
          rdR h_22 a0 13 19 fun r_23 =>
          rdI h_22 a0 13 17 fun x_24 =>
          rdI h_22 a0 13 18 fun x_25 =>
          nn r_23 fun a_26 =>
          asI h_22 a_26 x_24 x_25 fun h_27 =>
          rdR h_27 a0 13 20 fun r_28 =>
          rdI h_27 a0 13 17 fun x_29 =>
          nn r_28 fun a_30 =>
          asI h_27 a_30 x_29 x_1 fun h_31 =>
          rdR h_31 a0 13 21 fun r_32 =>
          rdI h_31 a0 13 17 fun x_33 =>
          nn r_32 fun a_34 =>
          asJ h_31 a_34 x_33 x_7 fun h_35 =>
          rdR h_35 a0 13 22 fun r_36 =>
          rdI h_35 a0 13 17 fun x_37 =>
          rdR h_35 a0 13 11 fun r_38 =>
          nn r_38 fun a_39 =>
          arI h_35 a_39 x_16 fun x_40 =>
          nn r_36 fun a_41 =>
          asI h_35 a_41 x_37 x_40 fun h_42 =>
          rdR h_42 a0 13 23 fun r_43 =>
          rdI h_42 a0 13 17 fun x_44 =>
          nn r_43 fun a_45 =>
          asZ h_42 a_45 x_44 x_10 fun h_46 =>
          rdI h_46 a0 13 17 fun x_47 =>
          wrI h_46 a0 13 17 (x_47 + 1) fun h_48 =>
          kg h_48 a0 13 (bd (f_X12_method a0 x_1 60 21 h_48) fun _ h_50 =>
          kg h_50 a0 13 (bd (f_X12_putName a0 x_7 h_50) fun _ h_52 =>
          kg h_52 a0 13 (bd (f_X12_finish a0 h_52) fun _ h_54 =>
          some ((), h_54)))))
      else
        kg h_18 a0 13 (bd (f_X12_soft a0 x_1 530 h_18) fun _ h_58 =>
        some ((), h_58))))
    else
      kg h_15 a0 13 (bd (f_X12_soft a0 x_1 404 h_15) fun _ h_60 =>
      some ((), h_60)))))))))
set_option maxRecDepth 20000 in
set_option maxHeartbeats 4000000 in
theorem t_X12_consume {Ω : Om} (a0 : Nat) (h : AH) (q : Unit × AH) (hf : f_X12_consume a0 h = some q) : Go Ω M_X12_consume 0 (lv_args 0 [vR Ω (some a0)]) [] h none q.2 := by
  unfold f_X12_consume at hf
  rw [la_R, la_0]
  refine go_sub (lv' := [(0, vR Ω (some a0))]) [0] rfl ?_
  refine go_aload_n dX12_consume_0 rfl 0 rfl ?_
  refine go_getI dX12_consume_1 fl_1173_0 (fun _ _ => rfl) hf (fun x_1 hf => ?_)
  refine go_istore_n (i := 1) (lv' := [(1, .int x_1), (0, vR Ω (some a0))]) dX12_consume_4 rfl (by decide) (by first | rfl | simp [catR, catI, catJ]) ?_
  refine go_aload_n dX12_consume_5 rfl 1 rfl ?_
  obtain ⟨hk, hf⟩ := kg_some hf
  obtain ⟨z_2, hc, hf⟩ := bd_some hf
  refine go_callV (y2 := M_X12_nextName) (c2 := 13) dX12_consume_6 mo_X12_nextName ⟨Nat.le_of_ble_eq_true rfl, Nat.le_of_ble_eq_true rfl⟩ na_X12_nextName w1420 w1422 (by decide) rfl w73 hk [] rfl (n_X12_nextName (a0)) rfl (csum (Nat.le_of_ble_eq_true rfl)) (t_X12_nextName (a0) h _ hc) ?_
  obtain ⟨x_4, h_3⟩ := z_2
  refine go_lstore_n (i := 2) (lv' := [(2, .long x_4), (1, .int x_1), (0, vR Ω (some a0))]) dX12_consume_9 rfl (by decide) (by first | rfl | simp [catR, catI, catJ]) ?_
  refine go_aload_n dX12_consume_10 rfl 2 rfl ?_
  obtain ⟨hk, hf⟩ := kg_some hf
  obtain ⟨z_5, hc, hf⟩ := bd_some hf
  refine go_callV (y2 := M_X12_nextName) (c2 := 13) dX12_consume_11 mo_X12_nextName ⟨Nat.le_of_ble_eq_true rfl, Nat.le_of_ble_eq_true rfl⟩ na_X12_nextName w1420 w1422 (by decide) rfl w73 hk [] rfl (n_X12_nextName (a0)) rfl (csum (Nat.le_of_ble_eq_true rfl)) (t_X12_nextName (a0) h_3 _ hc) ?_
  obtain ⟨x_7, h_6⟩ := z_5
  refine go_lstore (i := 4) (lv' := [(4, .long x_7), (2, .long x_4), (1, .int x_1), (0, vR Ω (some a0))]) dX12_consume_14 (by decide) (by first | rfl | simp [catR, catI, catJ]) ?_
  refine go_aload_n dX12_consume_16 rfl 3 rfl ?_
  obtain ⟨hk, hf⟩ := kg_some hf
  obtain ⟨z_8, hc, hf⟩ := bd_some hf
  refine go_callV (y2 := M_X12_nextTruth) (c2 := 13) dX12_consume_17 mo_X12_nextTruth ⟨Nat.le_of_ble_eq_true rfl, Nat.le_of_ble_eq_true rfl⟩ na_X12_nextTruth w1424 w1426 (by decide) rfl w74 hk [] rfl (n_X12_nextTruth (a0)) rfl (csum (Nat.le_of_ble_eq_true rfl)) (t_X12_nextTruth (a0) h_6 _ hc) ?_
  obtain ⟨x_10, h_9⟩ := z_8
  refine go_istore (i := 6) (lv' := [(6, .int x_10), (4, .long x_7), (2, .long x_4), (1, .int x_1), (0, vR Ω (some a0))]) dX12_consume_20 (by decide) (by first | rfl | simp [catR, catI, catJ]) ?_
  refine go_aload_n dX12_consume_22 rfl 4 rfl ?_
  obtain ⟨hk, hf⟩ := kg_some hf
  obtain ⟨z_11, hc, hf⟩ := bd_some hf
  refine go_callV (y2 := M_X12_isJust) (c2 := 13) dX12_consume_23 mo_X12_isJust ⟨Nat.le_of_ble_eq_true rfl, Nat.le_of_ble_eq_true rfl⟩ na_X12_isJust w1405 w1407 (by decide) rfl w70 hk [] rfl (n_X12_isJust (a0)) rfl (csum (Nat.le_of_ble_eq_true rfl)) (t_X12_isJust (a0) h_9 _ hc) ?_
  obtain ⟨x_13, h_12⟩ := z_11
  refine go_if_ne (tgt := 30) dX12_consume_26 (by decide) hf (fun hf => ?_) (fun hf => ?_)
  · refine go_aload_n dX12_consume_30 rfl 4 rfl ?_
    refine go_lload_n dX12_consume_31 rfl 2 rfl ?_
    obtain ⟨hk, hf⟩ := kg_some hf
    obtain ⟨z_14, hc, hf⟩ := bd_some hf
    refine go_callV (y2 := M_X12_queueOf) (c2 := 13) dX12_consume_32 mo_X12_queueOf ⟨Nat.le_of_ble_eq_true rfl, Nat.le_of_ble_eq_true rfl⟩ na_X12_queueOf w1456 w1458 (by decide) rfl w82 hk [.long x_4] rfl (n_X12_queueOf (a0) x_4) rfl (csum (Nat.le_of_ble_eq_true rfl)) (t_X12_queueOf (a0) x_4 h_12 _ hc) ?_
    obtain ⟨x_16, h_15⟩ := z_14
    refine go_istore (i := 7) (lv' := [(7, .int x_16), (6, .int x_10), (4, .long x_7), (2, .long x_4), (1, .int x_1), (0, vR Ω (some a0))]) dX12_consume_35 (by decide) (by first | rfl | simp [catR, catI, catJ]) ?_
    refine go_iload dX12_consume_37 0 rfl ?_
    refine go_if_ge (tgt := 53) dX12_consume_39 (by decide) hf (fun hf => ?_) (fun hf => ?_)
    · refine go_aload_n dX12_consume_53 rfl 5 rfl ?_
      refine go_iload_n dX12_consume_54 rfl 4 rfl ?_
      refine go_lload dX12_consume_55 2 rfl ?_
      obtain ⟨hk, hf⟩ := kg_some hf
      obtain ⟨z_17, hc, hf⟩ := bd_some hf
      refine go_callV (y2 := M_X12_hasTag) (c2 := 13) dX12_consume_57 mo_X12_hasTag ⟨Nat.le_of_ble_eq_true rfl, Nat.le_of_ble_eq_true rfl⟩ na_X12_hasTag w1507 w1509 (by decide) rfl w94 hk [.int x_1, .long x_7] rfl (n_X12_hasTag (a0) x_1 x_7) rfl (csum (Nat.le_of_ble_eq_true rfl)) (t_X12_hasTag (a0) x_1 x_7 h_15 _ hc) ?_
      obtain ⟨x_19, h_18⟩ := z_17
      refine go_if_eq (tgt := 74) dX12_consume_60 (by decide) hf (fun hf => ?_) (fun hf => ?_)
      · refine go_aload_n dX12_consume_74 rfl 5 rfl ?_
        refine go_getI dX12_consume_75 fl_1136_0 (fun _ _ => rfl) hf (fun x_20 hf => ?_)
        refine go_bipush 6 dX12_consume_78 (by decide) ?_
        refine go_icmp_ne (tgt := 94) dX12_consume_80 (by decide) hf (fun hf => ?_) (fun hf => ?_)
        · refine go_aload_n dX12_consume_94 rfl 5 rfl ?_
          refine go_dup dX12_consume_95 catR ?_
          refine go_getI dX12_consume_96 fl_1137_0 (fun _ _ => rfl) hf (fun x_21 hf => ?_)
          refine go_iconst 1 dX12_consume_99 rfl ?_
          refine go_iadd dX12_consume_100 ?_
          refine go_putI dX12_consume_101 fl_1137_0 (fun q hq => by cases hq; exact Or.inl rfl) (fun _ _ => rfl) rfl hf (fun h_22 hf => ?_)
          refine go_aload_n dX12_consume_104 rfl 5 rfl ?_
          refine go_getR dX12_consume_105 fl_1138_0 (fun _ _ => rfl) hf (fun r_23 hf => ?_)
          refine go_aload_n dX12_consume_108 rfl 5 rfl ?_
          refine go_getI dX12_consume_109 fl_1136_0 (fun _ _ => rfl) hf (fun x_24 hf => ?_)
          refine go_aload_n dX12_consume_112 rfl 5 rfl ?_
          refine go_getI dX12_consume_113 fl_1137_0 (fun _ _ => rfl) hf (fun x_25 hf => ?_)
          obtain ⟨a_26, rfl, hga_26⟩ := nn_some hf
          have hf := hga_26
          refine go_iastore dX12_consume_116 hf (fun h_27 hf => ?_)
          refine go_aload_n dX12_consume_117 rfl 5 rfl ?_
          refine go_getR dX12_consume_118 fl_1139_0 (fun _ _ => rfl) hf (fun r_28 hf => ?_)
          refine go_aload_n dX12_consume_121 rfl 5 rfl ?_
          refine go_getI dX12_consume_122 fl_1136_0 (fun _ _ => rfl) hf (fun x_29 hf => ?_)
          refine go_iload_n dX12_consume_125 rfl 4 rfl ?_
          obtain ⟨a_30, rfl, hga_30⟩ := nn_some hf
          have hf := hga_30
          refine go_iastore dX12_consume_126 hf (fun h_31 hf => ?_)
          refine go_aload_n dX12_consume_127 rfl 5 rfl ?_
          refine go_getR dX12_consume_128 fl_1140_0 (fun _ _ => rfl) hf (fun r_32 hf => ?_)
          refine go_aload_n dX12_consume_131 rfl 5 rfl ?_
          refine go_getI dX12_consume_132 fl_1136_0 (fun _ _ => rfl) hf (fun x_33 hf => ?_)
          refine go_lload dX12_consume_135 2 rfl ?_
          obtain ⟨a_34, rfl, hga_34⟩ := nn_some hf
          have hf := hga_34
          refine go_lastore dX12_consume_137 hf (fun h_35 hf => ?_)
          refine go_aload_n dX12_consume_138 rfl 5 rfl ?_
          refine go_getR dX12_consume_139 fl_1141_0 (fun _ _ => rfl) hf (fun r_36 hf => ?_)
          refine go_aload_n dX12_consume_142 rfl 5 rfl ?_
          refine go_getI dX12_consume_143 fl_1136_0 (fun _ _ => rfl) hf (fun x_37 hf => ?_)
          refine go_aload_n dX12_consume_146 rfl 5 rfl ?_
          refine go_getR dX12_consume_147 fl_1130_0 (fun _ _ => rfl) hf (fun r_38 hf => ?_)
          refine go_iload dX12_consume_150 0 rfl ?_
          obtain ⟨a_39, rfl, hga_39⟩ := nn_some hf
          have hf := hga_39
          refine go_iaload dX12_consume_152 hf (fun x_40 hf => ?_)
          obtain ⟨a_41, rfl, hga_41⟩ := nn_some hf
          have hf := hga_41
          refine go_iastore dX12_consume_153 hf (fun h_42 hf => ?_)
          refine go_aload_n dX12_consume_154 rfl 5 rfl ?_
          refine go_getR dX12_consume_155 fl_1142_0 (fun _ _ => rfl) hf (fun r_43 hf => ?_)
          refine go_aload_n dX12_consume_158 rfl 5 rfl ?_
          refine go_getI dX12_consume_159 fl_1136_0 (fun _ _ => rfl) hf (fun x_44 hf => ?_)
          refine go_iload dX12_consume_162 1 rfl ?_
          obtain ⟨a_45, rfl, hga_45⟩ := nn_some hf
          have hf := hga_45
          refine go_zastore dX12_consume_164 hf (fun h_46 hf => ?_)
          refine go_aload_n dX12_consume_165 rfl 5 rfl ?_
          refine go_dup dX12_consume_166 catR ?_
          refine go_getI dX12_consume_167 fl_1136_0 (fun _ _ => rfl) hf (fun x_47 hf => ?_)
          refine go_iconst 1 dX12_consume_170 rfl ?_
          refine go_iadd dX12_consume_171 ?_
          refine go_putI dX12_consume_172 fl_1136_0 (fun q hq => by cases hq; exact Or.inl rfl) (fun _ _ => rfl) rfl hf (fun h_48 hf => ?_)
          refine go_aload_n dX12_consume_175 rfl 5 rfl ?_
          refine go_iload_n dX12_consume_176 rfl 4 rfl ?_
          refine go_bipush 60 dX12_consume_177 (by decide) ?_
          refine go_bipush 21 dX12_consume_179 (by decide) ?_
          obtain ⟨hk, hf⟩ := kg_some hf
          obtain ⟨z_49, hc, hf⟩ := bd_some hf
          refine go_callV (y2 := M_X12_method) (c2 := 13) dX12_consume_181 mo_X12_method ⟨Nat.le_of_ble_eq_true rfl, Nat.le_of_ble_eq_true rfl⟩ na_X12_method w1325 w1327 (by decide) rfl w50 hk [.int x_1, .int 60, .int 21] rfl (n_X12_method (a0) x_1 60 21) rfl (csum (Nat.le_of_ble_eq_true rfl)) (t_X12_method (a0) x_1 60 21 h_48 _ hc) ?_
          obtain ⟨_, h_50⟩ := z_49
          refine go_aload_n dX12_consume_184 rfl 5 rfl ?_
          refine go_lload dX12_consume_185 2 rfl ?_
          obtain ⟨hk, hf⟩ := kg_some hf
          obtain ⟨z_51, hc, hf⟩ := bd_some hf
          refine go_callV (y2 := M_X12_putName) (c2 := 13) dX12_consume_187 mo_X12_putName ⟨Nat.le_of_ble_eq_true rfl, Nat.le_of_ble_eq_true rfl⟩ na_X12_putName w1460 w1462 (by decide) rfl w83 hk [.long x_7] rfl (n_X12_putName (a0) x_7) rfl (csum (Nat.le_of_ble_eq_true rfl)) (t_X12_putName (a0) x_7 h_50 _ hc) ?_
          obtain ⟨_, h_52⟩ := z_51
          refine go_aload_n dX12_consume_190 rfl 5 rfl ?_
          obtain ⟨hk, hf⟩ := kg_some hf
          obtain ⟨z_53, hc, hf⟩ := bd_some hf
          refine go_callV (y2 := M_X12_finish) (c2 := 13) dX12_consume_191 mo_X12_finish ⟨Nat.le_of_ble_eq_true rfl, Nat.le_of_ble_eq_true rfl⟩ na_X12_finish w1341 w1343 (by decide) rfl w54 hk [] rfl (n_X12_finish (a0)) rfl (csum (Nat.le_of_ble_eq_true rfl)) (t_X12_finish (a0) h_52 _ hc) ?_
          obtain ⟨_, h_54⟩ := z_53
          exact go_return dX12_consume_194 rfl hf
        · refine go_aload_n dX12_consume_83 rfl 5 rfl ?_
          refine go_iload_n dX12_consume_84 rfl 4 rfl ?_
          refine go_sipush 506 dX12_consume_85 (by decide) ?_
          obtain ⟨hk, hf⟩ := kg_some hf
          obtain ⟨z_55, hc, hf⟩ := bd_some hf
          refine go_callV (y2 := M_X12_soft) (c2 := 13) dX12_consume_88 mo_X12_soft ⟨Nat.le_of_ble_eq_true rfl, Nat.le_of_ble_eq_true rfl⟩ na_X12_soft w1432 w1434 (by decide) rfl w76 hk [.int x_1, .int 506] rfl (n_X12_soft (a0) x_1 506) rfl (csum (Nat.le_of_ble_eq_true rfl)) (t_X12_soft (a0) x_1 506 h_18 _ hc) ?_
          obtain ⟨_, h_56⟩ := z_55
          refine go_goto (tgt := 194) dX12_consume_91 (by decide) ?_
          exact go_return dX12_consume_194 rfl hf
      · refine go_aload_n dX12_consume_63 rfl 5 rfl ?_
        refine go_iload_n dX12_consume_64 rfl 4 rfl ?_
        refine go_sipush 530 dX12_consume_65 (by decide) ?_
        obtain ⟨hk, hf⟩ := kg_some hf
        obtain ⟨z_57, hc, hf⟩ := bd_some hf
        refine go_callV (y2 := M_X12_soft) (c2 := 13) dX12_consume_68 mo_X12_soft ⟨Nat.le_of_ble_eq_true rfl, Nat.le_of_ble_eq_true rfl⟩ na_X12_soft w1432 w1434 (by decide) rfl w76 hk [.int x_1, .int 530] rfl (n_X12_soft (a0) x_1 530) rfl (csum (Nat.le_of_ble_eq_true rfl)) (t_X12_soft (a0) x_1 530 h_18 _ hc) ?_
        obtain ⟨_, h_58⟩ := z_57
        refine go_goto (tgt := 194) dX12_consume_71 (by decide) ?_
        exact go_return dX12_consume_194 rfl hf
    · refine go_aload_n dX12_consume_42 rfl 5 rfl ?_
      refine go_iload_n dX12_consume_43 rfl 4 rfl ?_
      refine go_sipush 404 dX12_consume_44 (by decide) ?_
      obtain ⟨hk, hf⟩ := kg_some hf
      obtain ⟨z_59, hc, hf⟩ := bd_some hf
      refine go_callV (y2 := M_X12_soft) (c2 := 13) dX12_consume_47 mo_X12_soft ⟨Nat.le_of_ble_eq_true rfl, Nat.le_of_ble_eq_true rfl⟩ na_X12_soft w1432 w1434 (by decide) rfl w76 hk [.int x_1, .int 404] rfl (n_X12_soft (a0) x_1 404) rfl (csum (Nat.le_of_ble_eq_true rfl)) (t_X12_soft (a0) x_1 404 h_15 _ hc) ?_
      obtain ⟨_, h_60⟩ := z_59
      refine go_goto (tgt := 194) dX12_consume_50 (by decide) ?_
      exact go_return dX12_consume_194 rfl hf
  · exact go_return dX12_consume_29 rfl hf
-- LetterBrokerModel.get()V
theorem dX12_get_0 : decode cX12_get 0 = .ok (.aload_n 0, 1) := by decide +kernel
theorem dX12_get_1 : decode cX12_get 1 = .ok (.getfield 318, 3) := by decide +kernel
theorem dX12_get_4 : decode cX12_get 4 = .ok (.istore_n 1, 1) := by decide +kernel
theorem dX12_get_5 : decode cX12_get 5 = .ok (.aload_n 0, 1) := by decide +kernel
theorem dX12_get_6 : decode cX12_get 6 = .ok (.invokevirtual 321, 3) := by decide +kernel
theorem dX12_get_9 : decode cX12_get 9 = .ok (.lstore_n 2, 1) := by decide +kernel
theorem dX12_get_10 : decode cX12_get 10 = .ok (.aload_n 0, 1) := by decide +kernel
theorem dX12_get_11 : decode cX12_get 11 = .ok (.invokevirtual 325, 3) := by decide +kernel
theorem dX12_get_14 : decode cX12_get 14 = .ok (.istore 4, 2) := by decide +kernel
theorem dX12_get_16 : decode cX12_get 16 = .ok (.aload_n 0, 1) := by decide +kernel
theorem dX12_get_17 : decode cX12_get 17 = .ok (.invokevirtual 329, 3) := by decide +kernel
theorem dX12_get_20 : decode cX12_get 20 = .ok (.ifCond .ne 4, 3) := by decide +kernel
theorem dX12_get_23 : decode cX12_get 23 = .ok (.return_, 1) := by decide +kernel
theorem dX12_get_24 : decode cX12_get 24 = .ok (.aload_n 0, 1) := by decide +kernel
theorem dX12_get_25 : decode cX12_get 25 = .ok (.lload_n 2, 1) := by decide +kernel
theorem dX12_get_26 : decode cX12_get 26 = .ok (.invokevirtual 342, 3) := by decide +kernel
theorem dX12_get_29 : decode cX12_get 29 = .ok (.istore 5, 2) := by decide +kernel
theorem dX12_get_31 : decode cX12_get 31 = .ok (.iload 5, 2) := by decide +kernel
theorem dX12_get_33 : decode cX12_get 33 = .ok (.ifCond .ge 12, 3) := by decide +kernel
theorem dX12_get_36 : decode cX12_get 36 = .ok (.aload_n 0, 1) := by decide +kernel
theorem dX12_get_37 : decode cX12_get 37 = .ok (.iload_n 1, 1) := by decide +kernel
theorem dX12_get_38 : decode cX12_get 38 = .ok (.sipush 404, 3) := by decide +kernel
theorem dX12_get_41 : decode cX12_get 41 = .ok (.invokevirtual 252, 3) := by decide +kernel
theorem dX12_get_44 : decode cX12_get 44 = .ok (.return_, 1) := by decide +kernel
theorem dX12_get_45 : decode cX12_get 45 = .ok (.aload_n 0, 1) := by decide +kernel
theorem dX12_get_46 : decode cX12_get 46 = .ok (.aload_n 0, 1) := by decide +kernel
theorem dX12_get_47 : decode cX12_get 47 = .ok (.getfield 30, 3) := by decide +kernel
theorem dX12_get_50 : decode cX12_get 50 = .ok (.iload 5, 2) := by decide +kernel
theorem dX12_get_52 : decode cX12_get 52 = .ok (.iaload, 1) := by decide +kernel
theorem dX12_get_53 : decode cX12_get 53 = .ok (.invokevirtual 288, 3) := by decide +kernel
theorem dX12_get_56 : decode cX12_get 56 = .ok (.istore 6, 2) := by decide +kernel
theorem dX12_get_58 : decode cX12_get 58 = .ok (.iload 6, 2) := by decide +kernel
theorem dX12_get_60 : decode cX12_get 60 = .ok (.ifCond .ge 13, 3) := by decide +kernel
theorem dX12_get_63 : decode cX12_get 63 = .ok (.aload_n 0, 1) := by decide +kernel
theorem dX12_get_64 : decode cX12_get 64 = .ok (.iload_n 1, 1) := by decide +kernel
theorem dX12_get_65 : decode cX12_get 65 = .ok (.bipush 60, 2) := by decide +kernel
theorem dX12_get_67 : decode cX12_get 67 = .ok (.bipush 72, 2) := by decide +kernel
theorem dX12_get_69 : decode cX12_get 69 = .ok (.invokevirtual 278, 3) := by decide +kernel
theorem dX12_get_72 : decode cX12_get 72 = .ok (.return_, 1) := by decide +kernel
theorem dX12_get_73 : decode cX12_get 73 = .ok (.aload_n 0, 1) := by decide +kernel
theorem dX12_get_74 : decode cX12_get 74 = .ok (.getfield 97, 3) := by decide +kernel
theorem dX12_get_77 : decode cX12_get 77 = .ok (.iload_n 1, 1) := by decide +kernel
theorem dX12_get_78 : decode cX12_get 78 = .ok (.dup2, 1) := by decide +kernel
theorem dX12_get_79 : decode cX12_get 79 = .ok (.iaload, 1) := by decide +kernel
theorem dX12_get_80 : decode cX12_get 80 = .ok (.iconst 1, 1) := by decide +kernel
theorem dX12_get_81 : decode cX12_get 81 = .ok (.iadd, 1) := by decide +kernel
theorem dX12_get_82 : decode cX12_get 82 = .ok (.iastore, 1) := by decide +kernel
theorem dX12_get_83 : decode cX12_get 83 = .ok (.aload_n 0, 1) := by decide +kernel
theorem dX12_get_84 : decode cX12_get 84 = .ok (.iload_n 1, 1) := by decide +kernel
theorem dX12_get_85 : decode cX12_get 85 = .ok (.bipush 60, 2) := by decide +kernel
theorem dX12_get_87 : decode cX12_get 87 = .ok (.bipush 71, 2) := by decide +kernel
theorem dX12_get_89 : decode cX12_get 89 = .ok (.invokevirtual 168, 3) := by decide +kernel
theorem dX12_get_92 : decode cX12_get 92 = .ok (.aload_n 0, 1) := by decide +kernel
theorem dX12_get_93 : decode cX12_get 93 = .ok (.iload 6, 2) := by decide +kernel
theorem dX12_get_95 : decode cX12_get 95 = .ok (.iload_n 1, 1) := by decide +kernel
theorem dX12_get_96 : decode cX12_get 96 = .ok (.invokevirtual 294, 3) := by decide +kernel
theorem dX12_get_99 : decode cX12_get 99 = .ok (.aload_n 0, 1) := by decide +kernel
theorem dX12_get_100 : decode cX12_get 100 = .ok (.aload_n 0, 1) := by decide +kernel
theorem dX12_get_101 : decode cX12_get 101 = .ok (.aload_n 0, 1) := by decide +kernel
theorem dX12_get_102 : decode cX12_get 102 = .ok (.getfield 30, 3) := by decide +kernel
theorem dX12_get_105 : decode cX12_get 105 = .ok (.iload 5, 2) := by decide +kernel
theorem dX12_get_107 : decode cX12_get 107 = .ok (.iaload, 1) := by decide +kernel
theorem dX12_get_108 : decode cX12_get 108 = .ok (.invokevirtual 348, 3) := by decide +kernel
theorem dX12_get_111 : decode cX12_get 111 = .ok (.iconst 1, 1) := by decide +kernel
theorem dX12_get_112 : decode cX12_get 112 = .ok (.isub, 1) := by decide +kernel
theorem dX12_get_113 : decode cX12_get 113 = .ok (.invokevirtual 157, 3) := by decide +kernel
theorem dX12_get_116 : decode cX12_get 116 = .ok (.aload_n 0, 1) := by decide +kernel
theorem dX12_get_117 : decode cX12_get 117 = .ok (.invokevirtual 172, 3) := by decide +kernel
theorem dX12_get_120 : decode cX12_get 120 = .ok (.aload_n 0, 1) := by decide +kernel
theorem dX12_get_121 : decode cX12_get 121 = .ok (.iload_n 1, 1) := by decide +kernel
theorem dX12_get_122 : decode cX12_get 122 = .ok (.aload_n 0, 1) := by decide +kernel
theorem dX12_get_123 : decode cX12_get 123 = .ok (.getfield 82, 3) := by decide +kernel
theorem dX12_get_126 : decode cX12_get 126 = .ok (.iload 6, 2) := by decide +kernel
theorem dX12_get_128 : decode cX12_get 128 = .ok (.iaload, 1) := by decide +kernel
theorem dX12_get_129 : decode cX12_get 129 = .ok (.aload_n 0, 1) := by decide +kernel
theorem dX12_get_130 : decode cX12_get 130 = .ok (.getfield 85, 3) := by decide +kernel
theorem dX12_get_133 : decode cX12_get 133 = .ok (.iload 6, 2) := by decide +kernel
theorem dX12_get_135 : decode cX12_get 135 = .ok (.laload, 1) := by decide +kernel
theorem dX12_get_136 : decode cX12_get 136 = .ok (.invokevirtual 262, 3) := by decide +kernel
theorem dX12_get_139 : decode cX12_get 139 = .ok (.aload_n 0, 1) := by decide +kernel
theorem dX12_get_140 : decode cX12_get 140 = .ok (.iload 6, 2) := by decide +kernel
theorem dX12_get_142 : decode cX12_get 142 = .ok (.iload_n 1, 1) := by decide +kernel
theorem dX12_get_143 : decode cX12_get 143 = .ok (.iload 4, 2) := by decide +kernel
theorem dX12_get_145 : decode cX12_get 145 = .ok (.invokevirtual 297, 3) := by decide +kernel
theorem dX12_get_148 : decode cX12_get 148 = .ok (.return_, 1) := by decide +kernel
def f_X12_get (a0 : Nat) (h : AH) : Option (Unit × AH) := rdI h a0 13 54 fun x_1 =>
  kg h a0 13 (bd (f_X12_nextName a0 h) fun x_4 h_3 =>
  kg h_3 a0 13 (bd (f_X12_nextTruth a0 h_3) fun x_7 h_6 =>
  kg h_6 a0 13 (bd (f_X12_isJust a0 h_6) fun x_10 h_9 =>
  (if x_10 = 0 then
    some ((), h_9)
  else
    kg h_9 a0 13 (bd (f_X12_queueOf a0 x_4 h_9) fun x_13 h_12 =>
    (if 0 ≤ x_13 then
      rdR h_12 a0 13 11 fun r_14 =>
      nn r_14 fun a_15 =>
      arI h_12 a_15 x_13 fun x_16 =>
      kg h_12 a0 13 (bd (f_X12_firstOf a0 x_16 h_12) fun x_19 h_18 =>
      (if 0 ≤ x_19 then
        rdR h_18 a0 13 38 fun r_20 =>
        nn r_20 fun a_21 =>
        arI h_18 a_21 x_1 fun x_22 =>
        asI h_18 a_21 x_1 (x_22 + 1) fun h_23 =>
        kg h_23 a0 13 (bd (f_X12_method a0 x_1 60 71 h_23) fun _ h_25 =>
        kg h_25 a0 13 (bd (f_X12_tell a0 x_19 x_1 h_25) fun _ h_27 =>
        rdR h_27 a0 13 11 fun r_28 =>
        nn r_28 fun a_29 =>
        arI h_27 a_29 x_13 fun x_30 =>
        kg h_27 a0 13 (bd (f_X12_waiting a0 x_30 h_27) fun x_33 h_32 =>
        kg h_32 a0 13 (bd (f_X12_put a0 (x_33 - 1) h_32) fun _ h_35 =>
        kg h_35 a0 13 (bd (f_X12_finish a0 h_35) fun _ h_37 =>
        rdR h_37 a0 13 33 fun r_38 =>
        nn r_38 fun a_39 =>
        arI h_37 a_39 x_19 fun x_40 =>
        rdR h_37 a0 13 34 fun r_41 =>
        nn r_41 fun a_42 =>
        arJ h_37 a_42 x_19 fun x_43 =>
        kg h_37 a0 13 (bd (f_X12_putLetter a0 x_1 x_40 x_43 h_37) fun _ h_45 =>
        kg h_45 a0 13 (bd (f_X12_take a0 x_19 x_1 x_7 h_45) fun _ h_47 =>
        some ((), h_47))))))))
      else
        kg h_18 a0 13 (bd (f_X12_say a0 x_1 60 72 h_18) fun _ h_49 =>
        some ((), h_49))))
    else
      kg h_12 a0 13 (bd (f_X12_soft a0 x_1 404 h_12) fun _ h_51 =>
      some ((), h_51))))))))
set_option maxRecDepth 20000 in
set_option maxHeartbeats 4000000 in
theorem t_X12_get {Ω : Om} (a0 : Nat) (h : AH) (q : Unit × AH) (hf : f_X12_get a0 h = some q) : Go Ω M_X12_get 0 (lv_args 0 [vR Ω (some a0)]) [] h none q.2 := by
  unfold f_X12_get at hf
  rw [la_R, la_0]
  refine go_sub (lv' := [(0, vR Ω (some a0))]) [0] rfl ?_
  refine go_aload_n dX12_get_0 rfl 0 rfl ?_
  refine go_getI dX12_get_1 fl_1173_0 (fun _ _ => rfl) hf (fun x_1 hf => ?_)
  refine go_istore_n (i := 1) (lv' := [(1, .int x_1), (0, vR Ω (some a0))]) dX12_get_4 rfl (by decide) (by first | rfl | simp [catR, catI, catJ]) ?_
  refine go_aload_n dX12_get_5 rfl 1 rfl ?_
  obtain ⟨hk, hf⟩ := kg_some hf
  obtain ⟨z_2, hc, hf⟩ := bd_some hf
  refine go_callV (y2 := M_X12_nextName) (c2 := 13) dX12_get_6 mo_X12_nextName ⟨Nat.le_of_ble_eq_true rfl, Nat.le_of_ble_eq_true rfl⟩ na_X12_nextName w1420 w1422 (by decide) rfl w73 hk [] rfl (n_X12_nextName (a0)) rfl (csum (Nat.le_of_ble_eq_true rfl)) (t_X12_nextName (a0) h _ hc) ?_
  obtain ⟨x_4, h_3⟩ := z_2
  refine go_lstore_n (i := 2) (lv' := [(2, .long x_4), (1, .int x_1), (0, vR Ω (some a0))]) dX12_get_9 rfl (by decide) (by first | rfl | simp [catR, catI, catJ]) ?_
  refine go_aload_n dX12_get_10 rfl 2 rfl ?_
  obtain ⟨hk, hf⟩ := kg_some hf
  obtain ⟨z_5, hc, hf⟩ := bd_some hf
  refine go_callV (y2 := M_X12_nextTruth) (c2 := 13) dX12_get_11 mo_X12_nextTruth ⟨Nat.le_of_ble_eq_true rfl, Nat.le_of_ble_eq_true rfl⟩ na_X12_nextTruth w1424 w1426 (by decide) rfl w74 hk [] rfl (n_X12_nextTruth (a0)) rfl (csum (Nat.le_of_ble_eq_true rfl)) (t_X12_nextTruth (a0) h_3 _ hc) ?_
  obtain ⟨x_7, h_6⟩ := z_5
  refine go_istore (i := 4) (lv' := [(4, .int x_7), (2, .long x_4), (1, .int x_1), (0, vR Ω (some a0))]) dX12_get_14 (by decide) (by first | rfl | simp [catR, catI, catJ]) ?_
  refine go_aload_n dX12_get_16 rfl 3 rfl ?_
  obtain ⟨hk, hf⟩ := kg_some hf
  obtain ⟨z_8, hc, hf⟩ := bd_some hf
  refine go_callV (y2 := M_X12_isJust) (c2 := 13) dX12_get_17 mo_X12_isJust ⟨Nat.le_of_ble_eq_true rfl, Nat.le_of_ble_eq_true rfl⟩ na_X12_isJust w1405 w1407 (by decide) rfl w70 hk [] rfl (n_X12_isJust (a0)) rfl (csum (Nat.le_of_ble_eq_true rfl)) (t_X12_isJust (a0) h_6 _ hc) ?_
  obtain ⟨x_10, h_9⟩ := z_8
  refine go_if_ne (tgt := 24) dX12_get_20 (by decide) hf (fun hf => ?_) (fun hf => ?_)
  · refine go_aload_n dX12_get_24 rfl 3 rfl ?_
    refine go_lload_n dX12_get_25 rfl 1 rfl ?_
    obtain ⟨hk, hf⟩ := kg_some hf
    obtain ⟨z_11, hc, hf⟩ := bd_some hf
    refine go_callV (y2 := M_X12_queueOf) (c2 := 13) dX12_get_26 mo_X12_queueOf ⟨Nat.le_of_ble_eq_true rfl, Nat.le_of_ble_eq_true rfl⟩ na_X12_queueOf w1456 w1458 (by decide) rfl w82 hk [.long x_4] rfl (n_X12_queueOf (a0) x_4) rfl (csum (Nat.le_of_ble_eq_true rfl)) (t_X12_queueOf (a0) x_4 h_9 _ hc) ?_
    obtain ⟨x_13, h_12⟩ := z_11
    refine go_istore (i := 5) (lv' := [(5, .int x_13), (4, .int x_7), (2, .long x_4), (1, .int x_1), (0, vR Ω (some a0))]) dX12_get_29 (by decide) (by first | rfl | simp [catR, catI, catJ]) ?_
    refine go_iload dX12_get_31 0 rfl ?_
    refine go_if_ge (tgt := 45) dX12_get_33 (by decide) hf (fun hf => ?_) (fun hf => ?_)
    · refine go_aload_n dX12_get_45 rfl 4 rfl ?_
      refine go_aload_n dX12_get_46 rfl 4 rfl ?_
      refine go_getR dX12_get_47 fl_1130_0 (fun _ _ => rfl) hf (fun r_14 hf => ?_)
      refine go_iload dX12_get_50 0 rfl ?_
      obtain ⟨a_15, rfl, hga_15⟩ := nn_some hf
      have hf := hga_15
      refine go_iaload dX12_get_52 hf (fun x_16 hf => ?_)
      obtain ⟨hk, hf⟩ := kg_some hf
      obtain ⟨z_17, hc, hf⟩ := bd_some hf
      refine go_callV (y2 := M_X12_firstOf) (c2 := 13) dX12_get_53 mo_X12_firstOf ⟨Nat.le_of_ble_eq_true rfl, Nat.le_of_ble_eq_true rfl⟩ na_X12_firstOf w1491 w1493 (by decide) rfl w90 hk [.int x_16] rfl (n_X12_firstOf (a0) x_16) rfl (csum (Nat.le_of_ble_eq_true rfl)) (t_X12_firstOf (a0) x_16 h_12 _ hc) ?_
      obtain ⟨x_19, h_18⟩ := z_17
      refine go_istore (i := 6) (lv' := [(6, .int x_19), (5, .int x_13), (4, .int x_7), (2, .long x_4), (1, .int x_1), (0, vR Ω (some a0))]) dX12_get_56 (by decide) (by first | rfl | simp [catR, catI, catJ]) ?_
      refine go_iload dX12_get_58 0 rfl ?_
      refine go_if_ge (tgt := 73) dX12_get_60 (by decide) hf (fun hf => ?_) (fun hf => ?_)
      · refine go_aload_n dX12_get_73 rfl 5 rfl ?_
        refine go_getR dX12_get_74 fl_1157_0 (fun _ _ => rfl) hf (fun r_20 hf => ?_)
        refine go_iload_n dX12_get_77 rfl 4 rfl ?_
        refine go_dup2 dX12_get_78 rfl catR ?_
        obtain ⟨a_21, rfl, hga_21⟩ := nn_some hf
        have hf := hga_21
        refine go_iaload dX12_get_79 hf (fun x_22 hf => ?_)
        refine go_iconst 1 dX12_get_80 rfl ?_
        refine go_iadd dX12_get_81 ?_
        refine go_iastore dX12_get_82 hf (fun h_23 hf => ?_)
        refine go_aload_n dX12_get_83 rfl 5 rfl ?_
        refine go_iload_n dX12_get_84 rfl 4 rfl ?_
        refine go_bipush 60 dX12_get_85 (by decide) ?_
        refine go_bipush 71 dX12_get_87 (by decide) ?_
        obtain ⟨hk, hf⟩ := kg_some hf
        obtain ⟨z_24, hc, hf⟩ := bd_some hf
        refine go_callV (y2 := M_X12_method) (c2 := 13) dX12_get_89 mo_X12_method ⟨Nat.le_of_ble_eq_true rfl, Nat.le_of_ble_eq_true rfl⟩ na_X12_method w1325 w1327 (by decide) rfl w50 hk [.int x_1, .int 60, .int 71] rfl (n_X12_method (a0) x_1 60 71) rfl (csum (Nat.le_of_ble_eq_true rfl)) (t_X12_method (a0) x_1 60 71 h_23 _ hc) ?_
        obtain ⟨_, h_25⟩ := z_24
        refine go_aload_n dX12_get_92 rfl 5 rfl ?_
        refine go_iload dX12_get_93 0 rfl ?_
        refine go_iload_n dX12_get_95 rfl 4 rfl ?_
        obtain ⟨hk, hf⟩ := kg_some hf
        obtain ⟨z_26, hc, hf⟩ := bd_some hf
        refine go_callV (y2 := M_X12_tell) (c2 := 13) dX12_get_96 mo_X12_tell ⟨Nat.le_of_ble_eq_true rfl, Nat.le_of_ble_eq_true rfl⟩ na_X12_tell w1523 w1525 (by decide) rfl w98 hk [.int x_19, .int x_1] rfl (n_X12_tell (a0) x_19 x_1) rfl (csum (Nat.le_of_ble_eq_true rfl)) (t_X12_tell (a0) x_19 x_1 h_25 _ hc) ?_
        obtain ⟨_, h_27⟩ := z_26
        refine go_aload_n dX12_get_99 rfl 5 rfl ?_
        refine go_aload_n dX12_get_100 rfl 5 rfl ?_
        refine go_aload_n dX12_get_101 rfl 5 rfl ?_
        refine go_getR dX12_get_102 fl_1130_0 (fun _ _ => rfl) hf (fun r_28 hf => ?_)
        refine go_iload dX12_get_105 1 rfl ?_
        obtain ⟨a_29, rfl, hga_29⟩ := nn_some hf
        have hf := hga_29
        refine go_iaload dX12_get_107 hf (fun x_30 hf => ?_)
        obtain ⟨hk, hf⟩ := kg_some hf
        obtain ⟨z_31, hc, hf⟩ := bd_some hf
        refine go_callV (y2 := M_X12_waiting) (c2 := 13) dX12_get_108 mo_X12_waiting ⟨Nat.le_of_ble_eq_true rfl, Nat.le_of_ble_eq_true rfl⟩ na_X12_waiting w1467 w1469 (by decide) rfl w84 hk [.int x_30] rfl (n_X12_waiting (a0) x_30) rfl (csum (Nat.le_of_ble_eq_true rfl)) (t_X12_waiting (a0) x_30 h_27 _ hc) ?_
        obtain ⟨x_33, h_32⟩ := z_31
        refine go_iconst 1 dX12_get_111 rfl ?_
        refine go_isub dX12_get_112 ?_
        obtain ⟨hk, hf⟩ := kg_some hf
        obtain ⟨z_34, hc, hf⟩ := bd_some hf
        refine go_callV (y2 := M_X12_put) (c2 := 13) dX12_get_113 mo_X12_put ⟨Nat.le_of_ble_eq_true rfl, Nat.le_of_ble_eq_true rfl⟩ na_X12_put w1333 w1335 (by decide) rfl w52 hk [.int (x_33 - 1)] rfl (n_X12_put (a0) (x_33 - 1)) rfl (csum (Nat.le_of_ble_eq_true rfl)) (t_X12_put (a0) (x_33 - 1) h_32 _ hc) ?_
        obtain ⟨_, h_35⟩ := z_34
        refine go_aload_n dX12_get_116 rfl 5 rfl ?_
        obtain ⟨hk, hf⟩ := kg_some hf
        obtain ⟨z_36, hc, hf⟩ := bd_some hf
        refine go_callV (y2 := M_X12_finish) (c2 := 13) dX12_get_117 mo_X12_finish ⟨Nat.le_of_ble_eq_true rfl, Nat.le_of_ble_eq_true rfl⟩ na_X12_finish w1341 w1343 (by decide) rfl w54 hk [] rfl (n_X12_finish (a0)) rfl (csum (Nat.le_of_ble_eq_true rfl)) (t_X12_finish (a0) h_35 _ hc) ?_
        obtain ⟨_, h_37⟩ := z_36
        refine go_aload_n dX12_get_120 rfl 5 rfl ?_
        refine go_iload_n dX12_get_121 rfl 4 rfl ?_
        refine go_aload_n dX12_get_122 rfl 5 rfl ?_
        refine go_getR dX12_get_123 fl_1152_0 (fun _ _ => rfl) hf (fun r_38 hf => ?_)
        refine go_iload dX12_get_126 0 rfl ?_
        obtain ⟨a_39, rfl, hga_39⟩ := nn_some hf
        have hf := hga_39
        refine go_iaload dX12_get_128 hf (fun x_40 hf => ?_)
        refine go_aload_n dX12_get_129 rfl 5 rfl ?_
        refine go_getR dX12_get_130 fl_1153_0 (fun _ _ => rfl) hf (fun r_41 hf => ?_)
        refine go_iload dX12_get_133 0 rfl ?_
        obtain ⟨a_42, rfl, hga_42⟩ := nn_some hf
        have hf := hga_42
        refine go_laload dX12_get_135 hf (fun x_43 hf => ?_)
        obtain ⟨hk, hf⟩ := kg_some hf
        obtain ⟨z_44, hc, hf⟩ := bd_some hf
        refine go_callV (y2 := M_X12_putLetter) (c2 := 13) dX12_get_136 mo_X12_putLetter ⟨Nat.le_of_ble_eq_true rfl, Nat.le_of_ble_eq_true rfl⟩ na_X12_putLetter w1527 w1529 (by decide) rfl w99 hk [.int x_1, .int x_40, .long x_43] rfl (n_X12_putLetter (a0) x_1 x_40 x_43) rfl (csum (Nat.le_of_ble_eq_true rfl)) (t_X12_putLetter (a0) x_1 x_40 x_43 h_37 _ hc) ?_
        obtain ⟨_, h_45⟩ := z_44
        refine go_aload_n dX12_get_139 rfl 5 rfl ?_
        refine go_iload dX12_get_140 0 rfl ?_
        refine go_iload_n dX12_get_142 rfl 4 rfl ?_
        refine go_iload dX12_get_143 2 rfl ?_
        obtain ⟨hk, hf⟩ := kg_some hf
        obtain ⟨z_46, hc, hf⟩ := bd_some hf
        refine go_callV (y2 := M_X12_take) (c2 := 13) dX12_get_145 mo_X12_take ⟨Nat.le_of_ble_eq_true rfl, Nat.le_of_ble_eq_true rfl⟩ na_X12_take w1531 w1533 (by decide) rfl w100 hk [.int x_19, .int x_1, .int x_7] rfl (n_X12_take (a0) x_19 x_1 x_7) rfl (csum (Nat.le_of_ble_eq_true rfl)) (t_X12_take (a0) x_19 x_1 x_7 h_45 _ hc) ?_
        obtain ⟨_, h_47⟩ := z_46
        exact go_return dX12_get_148 rfl hf
      · refine go_aload_n dX12_get_63 rfl 5 rfl ?_
        refine go_iload_n dX12_get_64 rfl 4 rfl ?_
        refine go_bipush 60 dX12_get_65 (by decide) ?_
        refine go_bipush 72 dX12_get_67 (by decide) ?_
        obtain ⟨hk, hf⟩ := kg_some hf
        obtain ⟨z_48, hc, hf⟩ := bd_some hf
        refine go_callV (y2 := M_X12_say) (c2 := 13) dX12_get_69 mo_X12_say ⟨Nat.le_of_ble_eq_true rfl, Nat.le_of_ble_eq_true rfl⟩ na_X12_say w1381 w1383 (by decide) rfl w64 hk [.int x_1, .int 60, .int 72] rfl (n_X12_say (a0) x_1 60 72) rfl (csum (Nat.le_of_ble_eq_true rfl)) (t_X12_say (a0) x_1 60 72 h_18 _ hc) ?_
        obtain ⟨_, h_49⟩ := z_48
        exact go_return dX12_get_72 rfl hf
    · refine go_aload_n dX12_get_36 rfl 4 rfl ?_
      refine go_iload_n dX12_get_37 rfl 3 rfl ?_
      refine go_sipush 404 dX12_get_38 (by decide) ?_
      obtain ⟨hk, hf⟩ := kg_some hf
      obtain ⟨z_50, hc, hf⟩ := bd_some hf
      refine go_callV (y2 := M_X12_soft) (c2 := 13) dX12_get_41 mo_X12_soft ⟨Nat.le_of_ble_eq_true rfl, Nat.le_of_ble_eq_true rfl⟩ na_X12_soft w1432 w1434 (by decide) rfl w76 hk [.int x_1, .int 404] rfl (n_X12_soft (a0) x_1 404) rfl (csum (Nat.le_of_ble_eq_true rfl)) (t_X12_soft (a0) x_1 404 h_12 _ hc) ?_
      obtain ⟨_, h_51⟩ := z_50
      exact go_return dX12_get_44 rfl hf
  · exact go_return dX12_get_23 rfl hf
-- LetterBrokerModel.nextShort()I
theorem dX12_nextShort_0 : decode cX12_nextShort 0 = .ok (.aload_n 0, 1) := by decide +kernel
theorem dX12_nextShort_1 : decode cX12_nextShort 1 = .ok (.invokevirtual 311, 3) := by decide +kernel
theorem dX12_nextShort_4 : decode cX12_nextShort 4 = .ok (.istore_n 1, 1) := by decide +kernel
theorem dX12_nextShort_5 : decode cX12_nextShort 5 = .ok (.iload_n 1, 1) := by decide +kernel
theorem dX12_nextShort_6 : decode cX12_nextShort 6 = .ok (.bipush 8, 2) := by decide +kernel
theorem dX12_nextShort_8 : decode cX12_nextShort 8 = .ok (.ishl, 1) := by decide +kernel
theorem dX12_nextShort_9 : decode cX12_nextShort 9 = .ok (.aload_n 0, 1) := by decide +kernel
theorem dX12_nextShort_10 : decode cX12_nextShort 10 = .ok (.invokevirtual 311, 3) := by decide +kernel
theorem dX12_nextShort_13 : decode cX12_nextShort 13 = .ok (.ior, 1) := by decide +kernel
theorem dX12_nextShort_14 : decode cX12_nextShort 14 = .ok (.ireturn, 1) := by decide +kernel
def f_X12_nextShort (a0 : Nat) (h : AH) : Option (Int32 × AH) := kg h a0 13 (bd (f_X12_next a0 h) fun x_3 h_2 =>
  kg h_2 a0 13 (bd (f_X12_next a0 h_2) fun x_6 h_5 =>
  some (((x_3 <<< ((8 : Int32) &&& 31)) ||| x_6), h_5)))
set_option maxRecDepth 20000 in
set_option maxHeartbeats 4000000 in
theorem t_X12_nextShort {Ω : Om} (a0 : Nat) (h : AH) (q : Int32 × AH) (hf : f_X12_nextShort a0 h = some q) : Go Ω M_X12_nextShort 0 (lv_args 0 [vR Ω (some a0)]) [] h (some (.int q.1)) q.2 := by
  unfold f_X12_nextShort at hf
  rw [la_R, la_0]
  refine go_sub (lv' := [(0, vR Ω (some a0))]) [0] rfl ?_
  refine go_aload_n dX12_nextShort_0 rfl 0 rfl ?_
  obtain ⟨hk, hf⟩ := kg_some hf
  obtain ⟨z_1, hc, hf⟩ := bd_some hf
  refine go_callV (y2 := M_X12_next) (c2 := 13) dX12_nextShort_1 mo_X12_next ⟨Nat.le_of_ble_eq_true rfl, Nat.le_of_ble_eq_true rfl⟩ na_X12_next w1397 w1399 (by decide) rfl w68 hk [] rfl (n_X12_next (a0)) rfl (csum (Nat.le_of_ble_eq_true rfl)) (t_X12_next (a0) h _ hc) ?_
  obtain ⟨x_3, h_2⟩ := z_1
  refine go_istore_n (i := 1) (lv' := [(1, .int x_3), (0, vR Ω (some a0))]) dX12_nextShort_4 rfl (by decide) (by first | rfl | simp [catR, catI, catJ]) ?_
  refine go_iload_n dX12_nextShort_5 rfl 0 rfl ?_
  refine go_bipush 8 dX12_nextShort_6 (by decide) ?_
  refine go_ishl dX12_nextShort_8 ?_
  refine go_aload_n dX12_nextShort_9 rfl 1 rfl ?_
  obtain ⟨hk, hf⟩ := kg_some hf
  obtain ⟨z_4, hc, hf⟩ := bd_some hf
  refine go_callV (y2 := M_X12_next) (c2 := 13) dX12_nextShort_10 mo_X12_next ⟨Nat.le_of_ble_eq_true rfl, Nat.le_of_ble_eq_true rfl⟩ na_X12_next w1397 w1399 (by decide) rfl w68 hk [] rfl (n_X12_next (a0)) rfl (csum (Nat.le_of_ble_eq_true rfl)) (t_X12_next (a0) h_2 _ hc) ?_
  obtain ⟨x_6, h_5⟩ := z_4
  refine go_ior dX12_nextShort_13 ?_
  exact go_ireturn dX12_nextShort_14 rfl hf
-- LetterBrokerModel.publish()V
theorem dX12_publish_0 : decode cX12_publish 0 = .ok (.aload_n 0, 1) := by decide +kernel
theorem dX12_publish_1 : decode cX12_publish 1 = .ok (.getfield 318, 3) := by decide +kernel
theorem dX12_publish_4 : decode cX12_publish 4 = .ok (.istore_n 1, 1) := by decide +kernel
theorem dX12_publish_5 : decode cX12_publish 5 = .ok (.aload_n 0, 1) := by decide +kernel
theorem dX12_publish_6 : decode cX12_publish 6 = .ok (.invokevirtual 321, 3) := by decide +kernel
theorem dX12_publish_9 : decode cX12_publish 9 = .ok (.lstore_n 2, 1) := by decide +kernel
theorem dX12_publish_10 : decode cX12_publish 10 = .ok (.aload_n 0, 1) := by decide +kernel
theorem dX12_publish_11 : decode cX12_publish 11 = .ok (.invokevirtual 321, 3) := by decide +kernel
theorem dX12_publish_14 : decode cX12_publish 14 = .ok (.lstore 4, 2) := by decide +kernel
theorem dX12_publish_16 : decode cX12_publish 16 = .ok (.aload_n 0, 1) := by decide +kernel
theorem dX12_publish_17 : decode cX12_publish 17 = .ok (.invokevirtual 325, 3) := by decide +kernel
theorem dX12_publish_20 : decode cX12_publish 20 = .ok (.istore 6, 2) := by decide +kernel
theorem dX12_publish_22 : decode cX12_publish 22 = .ok (.aload_n 0, 1) := by decide +kernel
theorem dX12_publish_23 : decode cX12_publish 23 = .ok (.invokevirtual 329, 3) := by decide +kernel
theorem dX12_publish_26 : decode cX12_publish 26 = .ok (.ifCond .ne 4, 3) := by decide +kernel
theorem dX12_publish_29 : decode cX12_publish 29 = .ok (.return_, 1) := by decide +kernel
theorem dX12_publish_30 : decode cX12_publish 30 = .ok (.aload_n 0, 1) := by decide +kernel
theorem dX12_publish_31 : decode cX12_publish 31 = .ok (.lload_n 2, 1) := by decide +kernel
theorem dX12_publish_32 : decode cX12_publish 32 = .ok (.invokevirtual 245, 3) := by decide +kernel
theorem dX12_publish_35 : decode cX12_publish 35 = .ok (.ifCond .ge 12, 3) := by decide +kernel
theorem dX12_publish_38 : decode cX12_publish 38 = .ok (.aload_n 0, 1) := by decide +kernel
theorem dX12_publish_39 : decode cX12_publish 39 = .ok (.iload_n 1, 1) := by decide +kernel
theorem dX12_publish_40 : decode cX12_publish 40 = .ok (.sipush 404, 3) := by decide +kernel
theorem dX12_publish_43 : decode cX12_publish 43 = .ok (.invokevirtual 252, 3) := by decide +kernel
theorem dX12_publish_46 : decode cX12_publish 46 = .ok (.return_, 1) := by decide +kernel
theorem dX12_publish_47 : decode cX12_publish 47 = .ok (.aload_n 0, 1) := by decide +kernel
theorem dX12_publish_48 : decode cX12_publish 48 = .ok (.getfield 103, 3) := by decide +kernel
theorem dX12_publish_51 : decode cX12_publish 51 = .ok (.iload_n 1, 1) := by decide +kernel
theorem dX12_publish_52 : decode cX12_publish 52 = .ok (.iconst 1, 1) := by decide +kernel
theorem dX12_publish_53 : decode cX12_publish 53 = .ok (.iastore, 1) := by decide +kernel
theorem dX12_publish_54 : decode cX12_publish 54 = .ok (.aload_n 0, 1) := by decide +kernel
theorem dX12_publish_55 : decode cX12_publish 55 = .ok (.getfield 106, 3) := by decide +kernel
theorem dX12_publish_58 : decode cX12_publish 58 = .ok (.iload_n 1, 1) := by decide +kernel
theorem dX12_publish_59 : decode cX12_publish 59 = .ok (.lload_n 2, 1) := by decide +kernel
theorem dX12_publish_60 : decode cX12_publish 60 = .ok (.lastore, 1) := by decide +kernel
theorem dX12_publish_61 : decode cX12_publish 61 = .ok (.aload_n 0, 1) := by decide +kernel
theorem dX12_publish_62 : decode cX12_publish 62 = .ok (.getfield 109, 3) := by decide +kernel
theorem dX12_publish_65 : decode cX12_publish 65 = .ok (.iload_n 1, 1) := by decide +kernel
theorem dX12_publish_66 : decode cX12_publish 66 = .ok (.lload 4, 2) := by decide +kernel
theorem dX12_publish_68 : decode cX12_publish 68 = .ok (.lastore, 1) := by decide +kernel
theorem dX12_publish_69 : decode cX12_publish 69 = .ok (.aload_n 0, 1) := by decide +kernel
theorem dX12_publish_70 : decode cX12_publish 70 = .ok (.getfield 112, 3) := by decide +kernel
theorem dX12_publish_73 : decode cX12_publish 73 = .ok (.iload_n 1, 1) := by decide +kernel
theorem dX12_publish_74 : decode cX12_publish 74 = .ok (.iload 6, 2) := by decide +kernel
theorem dX12_publish_76 : decode cX12_publish 76 = .ok (.bastore, 1) := by decide +kernel
theorem dX12_publish_77 : decode cX12_publish 77 = .ok (.return_, 1) := by decide +kernel
def f_X12_publish (a0 : Nat) (h : AH) : Option (Unit × AH) := rdI h a0 13 54 fun x_1 =>
  kg h a0 13 (bd (f_X12_nextName a0 h) fun x_4 h_3 =>
  kg h_3 a0 13 (bd (f_X12_nextName a0 h_3) fun x_7 h_6 =>
  kg h_6 a0 13 (bd (f_X12_nextTruth a0 h_6) fun x_10 h_9 =>
  kg h_9 a0 13 (bd (f_X12_isJust a0 h_9) fun x_13 h_12 =>
  (if x_13 = 0 then
    some ((), h_12)
  else
    kg h_12 a0 13 (bd (f_X12_exchangeOf a0 x_4 h_12) fun x_16 h_15 =>
    (if 0 ≤ x_16 then
      rdR h_15 a0 13 40 fun r_17 =>
      nn r_17 fun a_18 =>
      asI h_15 a_18 x_1 1 fun h_19 =>
      rdR h_19 a0 13 41 fun r_20 =>
      nn r_20 fun a_21 =>
      asJ h_19 a_21 x_1 x_4 fun h_22 =>
      rdR h_22 a0 13 42 fun r_23 =>
      nn r_23 fun a_24 =>
      asJ h_22 a_24 x_1 x_7 fun h_25 =>
      rdR h_25 a0 13 43 fun r_26 =>
      nn r_26 fun a_27 =>
      asZ h_25 a_27 x_1 x_10 fun h_28 =>
      some ((), h_28)
    else
      kg h_15 a0 13 (bd (f_X12_soft a0 x_1 404 h_15) fun _ h_30 =>
      some ((), h_30)))))))))
set_option maxRecDepth 20000 in
set_option maxHeartbeats 4000000 in
theorem t_X12_publish {Ω : Om} (a0 : Nat) (h : AH) (q : Unit × AH) (hf : f_X12_publish a0 h = some q) : Go Ω M_X12_publish 0 (lv_args 0 [vR Ω (some a0)]) [] h none q.2 := by
  unfold f_X12_publish at hf
  rw [la_R, la_0]
  refine go_sub (lv' := [(0, vR Ω (some a0))]) [0] rfl ?_
  refine go_aload_n dX12_publish_0 rfl 0 rfl ?_
  refine go_getI dX12_publish_1 fl_1173_0 (fun _ _ => rfl) hf (fun x_1 hf => ?_)
  refine go_istore_n (i := 1) (lv' := [(1, .int x_1), (0, vR Ω (some a0))]) dX12_publish_4 rfl (by decide) (by first | rfl | simp [catR, catI, catJ]) ?_
  refine go_aload_n dX12_publish_5 rfl 1 rfl ?_
  obtain ⟨hk, hf⟩ := kg_some hf
  obtain ⟨z_2, hc, hf⟩ := bd_some hf
  refine go_callV (y2 := M_X12_nextName) (c2 := 13) dX12_publish_6 mo_X12_nextName ⟨Nat.le_of_ble_eq_true rfl, Nat.le_of_ble_eq_true rfl⟩ na_X12_nextName w1420 w1422 (by decide) rfl w73 hk [] rfl (n_X12_nextName (a0)) rfl (csum (Nat.le_of_ble_eq_true rfl)) (t_X12_nextName (a0) h _ hc) ?_
  obtain ⟨x_4, h_3⟩ := z_2
  refine go_lstore_n (i := 2) (lv' := [(2, .long x_4), (1, .int x_1), (0, vR Ω (some a0))]) dX12_publish_9 rfl (by decide) (by first | rfl | simp [catR, catI, catJ]) ?_
  refine go_aload_n dX12_publish_10 rfl 2 rfl ?_
  obtain ⟨hk, hf⟩ := kg_some hf
  obtain ⟨z_5, hc, hf⟩ := bd_some hf
  refine go_callV (y2 := M_X12_nextName) (c2 := 13) dX12_publish_11 mo_X12_nextName ⟨Nat.le_of_ble_eq_true rfl, Nat.le_of_ble_eq_true rfl⟩ na_X12_nextName w1420 w1422 (by decide) rfl w73 hk [] rfl (n_X12_nextName (a0)) rfl (csum (Nat.le_of_ble_eq_true rfl)) (t_X12_nextName (a0) h_3 _ hc) ?_
  obtain ⟨x_7, h_6⟩ := z_5
  refine go_lstore (i := 4) (lv' := [(4, .long x_7), (2, .long x_4), (1, .int x_1), (0, vR Ω (some a0))]) dX12_publish_14 (by decide) (by first | rfl | simp [catR, catI, catJ]) ?_
  refine go_aload_n dX12_publish_16 rfl 3 rfl ?_
  obtain ⟨hk, hf⟩ := kg_some hf
  obtain ⟨z_8, hc, hf⟩ := bd_some hf
  refine go_callV (y2 := M_X12_nextTruth) (c2 := 13) dX12_publish_17 mo_X12_nextTruth ⟨Nat.le_of_ble_eq_true rfl, Nat.le_of_ble_eq_true rfl⟩ na_X12_nextTruth w1424 w1426 (by decide) rfl w74 hk [] rfl (n_X12_nextTruth (a0)) rfl (csum (Nat.le_of_ble_eq_true rfl)) (t_X12_nextTruth (a0) h_6 _ hc) ?_
  obtain ⟨x_10, h_9⟩ := z_8
  refine go_istore (i := 6) (lv' := [(6, .int x_10), (4, .long x_7), (2, .long x_4), (1, .int x_1), (0, vR Ω (some a0))]) dX12_publish_20 (by decide) (by first | rfl | simp [catR, catI, catJ]) ?_
  refine go_aload_n dX12_publish_22 rfl 4 rfl ?_
  obtain ⟨hk, hf⟩ := kg_some hf
  obtain ⟨z_11, hc, hf⟩ := bd_some hf
  refine go_callV (y2 := M_X12_isJust) (c2 := 13) dX12_publish_23 mo_X12_isJust ⟨Nat.le_of_ble_eq_true rfl, Nat.le_of_ble_eq_true rfl⟩ na_X12_isJust w1405 w1407 (by decide) rfl w70 hk [] rfl (n_X12_isJust (a0)) rfl (csum (Nat.le_of_ble_eq_true rfl)) (t_X12_isJust (a0) h_9 _ hc) ?_
  obtain ⟨x_13, h_12⟩ := z_11
  refine go_if_ne (tgt := 30) dX12_publish_26 (by decide) hf (fun hf => ?_) (fun hf => ?_)
  · refine go_aload_n dX12_publish_30 rfl 4 rfl ?_
    refine go_lload_n dX12_publish_31 rfl 2 rfl ?_
    obtain ⟨hk, hf⟩ := kg_some hf
    obtain ⟨z_14, hc, hf⟩ := bd_some hf
    refine go_callV (y2 := M_X12_exchangeOf) (c2 := 13) dX12_publish_32 mo_X12_exchangeOf ⟨Nat.le_of_ble_eq_true rfl, Nat.le_of_ble_eq_true rfl⟩ na_X12_exchangeOf w1428 w1430 (by decide) rfl w75 hk [.long x_4] rfl (n_X12_exchangeOf (a0) x_4) rfl (csum (Nat.le_of_ble_eq_true rfl)) (t_X12_exchangeOf (a0) x_4 h_12 _ hc) ?_
    obtain ⟨x_16, h_15⟩ := z_14
    refine go_if_ge (tgt := 47) dX12_publish_35 (by decide) hf (fun hf => ?_) (fun hf => ?_)
    · refine go_aload_n dX12_publish_47 rfl 4 rfl ?_
      refine go_getR dX12_publish_48 fl_1159_0 (fun _ _ => rfl) hf (fun r_17 hf => ?_)
      refine go_iload_n dX12_publish_51 rfl 3 rfl ?_
      refine go_iconst 1 dX12_publish_52 rfl ?_
      obtain ⟨a_18, rfl, hga_18⟩ := nn_some hf
      have hf := hga_18
      refine go_iastore dX12_publish_53 hf (fun h_19 hf => ?_)
      refine go_aload_n dX12_publish_54 rfl 4 rfl ?_
      refine go_getR dX12_publish_55 fl_1160_0 (fun _ _ => rfl) hf (fun r_20 hf => ?_)
      refine go_iload_n dX12_publish_58 rfl 3 rfl ?_
      refine go_lload_n dX12_publish_59 rfl 2 rfl ?_
      obtain ⟨a_21, rfl, hga_21⟩ := nn_some hf
      have hf := hga_21
      refine go_lastore dX12_publish_60 hf (fun h_22 hf => ?_)
      refine go_aload_n dX12_publish_61 rfl 4 rfl ?_
      refine go_getR dX12_publish_62 fl_1161_0 (fun _ _ => rfl) hf (fun r_23 hf => ?_)
      refine go_iload_n dX12_publish_65 rfl 3 rfl ?_
      refine go_lload dX12_publish_66 1 rfl ?_
      obtain ⟨a_24, rfl, hga_24⟩ := nn_some hf
      have hf := hga_24
      refine go_lastore dX12_publish_68 hf (fun h_25 hf => ?_)
      refine go_aload_n dX12_publish_69 rfl 4 rfl ?_
      refine go_getR dX12_publish_70 fl_1162_0 (fun _ _ => rfl) hf (fun r_26 hf => ?_)
      refine go_iload_n dX12_publish_73 rfl 3 rfl ?_
      refine go_iload dX12_publish_74 0 rfl ?_
      obtain ⟨a_27, rfl, hga_27⟩ := nn_some hf
      have hf := hga_27
      refine go_zastore dX12_publish_76 hf (fun h_28 hf => ?_)
      exact go_return dX12_publish_77 rfl hf
    · refine go_aload_n dX12_publish_38 rfl 4 rfl ?_
      refine go_iload_n dX12_publish_39 rfl 3 rfl ?_
      refine go_sipush 404 dX12_publish_40 (by decide) ?_
      obtain ⟨hk, hf⟩ := kg_some hf
      obtain ⟨z_29, hc, hf⟩ := bd_some hf
      refine go_callV (y2 := M_X12_soft) (c2 := 13) dX12_publish_43 mo_X12_soft ⟨Nat.le_of_ble_eq_true rfl, Nat.le_of_ble_eq_true rfl⟩ na_X12_soft w1432 w1434 (by decide) rfl w76 hk [.int x_1, .int 404] rfl (n_X12_soft (a0) x_1 404) rfl (csum (Nat.le_of_ble_eq_true rfl)) (t_X12_soft (a0) x_1 404 h_15 _ hc) ?_
      obtain ⟨_, h_30⟩ := z_29
      exact go_return dX12_publish_46 rfl hf
  · exact go_return dX12_publish_29 rfl hf
-- LetterBrokerModel.isMeant(IIIZ)Z
theorem dX12_isMeant_0 : decode cX12_isMeant 0 = .ok (.aload_n 0, 1) := by decide +kernel
theorem dX12_isMeant_1 : decode cX12_isMeant 1 = .ok (.getfield 67, 3) := by decide +kernel
theorem dX12_isMeant_4 : decode cX12_isMeant 4 = .ok (.iload_n 1, 1) := by decide +kernel
theorem dX12_isMeant_5 : decode cX12_isMeant 5 = .ok (.iaload, 1) := by decide +kernel
theorem dX12_isMeant_6 : decode cX12_isMeant 6 = .ok (.iload_n 2, 1) := by decide +kernel
theorem dX12_isMeant_7 : decode cX12_isMeant 7 = .ok (.if_icmp .ne 39, 3) := by decide +kernel
theorem dX12_isMeant_10 : decode cX12_isMeant 10 = .ok (.iload 4, 2) := by decide +kernel
theorem dX12_isMeant_12 : decode cX12_isMeant 12 = .ok (.ifCond .eq 20, 3) := by decide +kernel
theorem dX12_isMeant_15 : decode cX12_isMeant 15 = .ok (.iload_n 3, 1) := by decide +kernel
theorem dX12_isMeant_16 : decode cX12_isMeant 16 = .ok (.ifCond .eq 26, 3) := by decide +kernel
theorem dX12_isMeant_19 : decode cX12_isMeant 19 = .ok (.aload_n 0, 1) := by decide +kernel
theorem dX12_isMeant_20 : decode cX12_isMeant 20 = .ok (.getfield 70, 3) := by decide +kernel
theorem dX12_isMeant_23 : decode cX12_isMeant 23 = .ok (.iload_n 1, 1) := by decide +kernel
theorem dX12_isMeant_24 : decode cX12_isMeant 24 = .ok (.iaload, 1) := by decide +kernel
theorem dX12_isMeant_25 : decode cX12_isMeant 25 = .ok (.iload_n 3, 1) := by decide +kernel
theorem dX12_isMeant_26 : decode cX12_isMeant 26 = .ok (.if_icmp .gt 20, 3) := by decide +kernel
theorem dX12_isMeant_29 : decode cX12_isMeant 29 = .ok (.goto 13, 3) := by decide +kernel
theorem dX12_isMeant_32 : decode cX12_isMeant 32 = .ok (.aload_n 0, 1) := by decide +kernel
theorem dX12_isMeant_33 : decode cX12_isMeant 33 = .ok (.getfield 70, 3) := by decide +kernel
theorem dX12_isMeant_36 : decode cX12_isMeant 36 = .ok (.iload_n 1, 1) := by decide +kernel
theorem dX12_isMeant_37 : decode cX12_isMeant 37 = .ok (.iaload, 1) := by decide +kernel
theorem dX12_isMeant_38 : decode cX12_isMeant 38 = .ok (.iload_n 3, 1) := by decide +kernel
theorem dX12_isMeant_39 : decode cX12_isMeant 39 = .ok (.if_icmp .ne 7, 3) := by decide +kernel
theorem dX12_isMeant_42 : decode cX12_isMeant 42 = .ok (.iconst 1, 1) := by decide +kernel
theorem dX12_isMeant_43 : decode cX12_isMeant 43 = .ok (.goto 4, 3) := by decide +kernel
theorem dX12_isMeant_46 : decode cX12_isMeant 46 = .ok (.iconst 0, 1) := by decide +kernel
theorem dX12_isMeant_47 : decode cX12_isMeant 47 = .ok (.ireturn, 1) := by decide +kernel
def f_X12_isMeant (a0 : Nat) (x1 : Int32) (x2 : Int32) (x3 : Int32) (x4 : Int32) (h : AH) : Option (Int32 × AH) := rdR h a0 13 28 fun r_1 =>
  nn r_1 fun a_2 =>
  arI h a_2 x1 fun x_3 =>
  (if x_3 = x2 then
    (if x4 = 0 then
      rdR h a0 13 29 fun r_4 =>
      nn r_4 fun a_5 =>
      arI h a_5 x1 fun x_6 =>
      (if x_6 = x3 then
        rz 1 (some (1, h))
      else
        rz 0 (some (0, h)))
    else
      (if x3 = 0 then
        rz 1 (some (1, h))
      else
        rdR h a0 13 29 fun r_7 =>
        nn r_7 fun a_8 =>
        arI h a_8 x1 fun x_9 =>
        (if x3 < x_9 then
          rz 0 (some (0, h))
        else
          rz 1 (some (1, h)))))
  else
    rz 0 (some (0, h)))
set_option maxRecDepth 20000 in
set_option maxHeartbeats 4000000 in
theorem t_X12_isMeant {Ω : Om} (a0 : Nat) (x1 : Int32) (x2 : Int32) (x3 : Int32) (x4 : Int32) (h : AH) (q : Int32 × AH) (hf : f_X12_isMeant a0 x1 x2 x3 x4 h = some q) : Go Ω M_X12_isMeant 0 (lv_args 0 [vR Ω (some a0), .int x1, .int x2, .int x3, .int x4]) [] h (some (.int q.1)) q.2 := by
  unfold f_X12_isMeant at hf
  rw [la_R, la_I, la_I, la_I, la_I, la_0]
  refine go_sub (lv' := [(0, vR Ω (some a0)), (1, .int x1), (2, .int x2), (3, .int x3), (4, .int x4)]) [0, 1, 2, 3, 4] rfl ?_
  refine go_aload_n dX12_isMeant_0 rfl 0 rfl ?_
  refine go_getR dX12_isMeant_1 fl_1147_0 (fun _ _ => rfl) hf (fun r_1 hf => ?_)
  refine go_iload_n dX12_isMeant_4 rfl 1 rfl ?_
  obtain ⟨a_2, rfl, hga_2⟩ := nn_some hf
  have hf := hga_2
  refine go_iaload dX12_isMeant_5 hf (fun x_3 hf => ?_)
  refine go_iload_n dX12_isMeant_6 rfl 2 rfl ?_
  refine go_icmp_ne (tgt := 46) dX12_isMeant_7 (by decide) hf (fun hf => ?_) (fun hf => ?_)
  · refine go_iconst 0 dX12_isMeant_46 rfl ?_
    exact go_zreturn dX12_isMeant_47 rfl hf
  · refine go_iload dX12_isMeant_10 4 rfl ?_
    refine go_if_eq (tgt := 32) dX12_isMeant_12 (by decide) hf (fun hf => ?_) (fun hf => ?_)
    · refine go_aload_n dX12_isMeant_32 rfl 0 rfl ?_
      refine go_getR dX12_isMeant_33 fl_1148_0 (fun _ _ => rfl) hf (fun r_4 hf => ?_)
      refine go_iload_n dX12_isMeant_36 rfl 1 rfl ?_
      obtain ⟨a_5, rfl, hga_5⟩ := nn_some hf
      have hf := hga_5
      refine go_iaload dX12_isMeant_37 hf (fun x_6 hf => ?_)
      refine go_iload_n dX12_isMeant_38 rfl 3 rfl ?_
      refine go_icmp_ne (tgt := 46) dX12_isMeant_39 (by decide) hf (fun hf => ?_) (fun hf => ?_)
      · refine go_iconst 0 dX12_isMeant_46 rfl ?_
        exact go_zreturn dX12_isMeant_47 rfl hf
      · refine go_iconst 1 dX12_isMeant_42 rfl ?_
        refine go_goto (tgt := 47) dX12_isMeant_43 (by decide) ?_
        exact go_zreturn dX12_isMeant_47 rfl hf
    · refine go_iload_n dX12_isMeant_15 rfl 3 rfl ?_
      refine go_if_eq (tgt := 42) dX12_isMeant_16 (by decide) hf (fun hf => ?_) (fun hf => ?_)
      · refine go_iconst 1 dX12_isMeant_42 rfl ?_
        refine go_goto (tgt := 47) dX12_isMeant_43 (by decide) ?_
        exact go_zreturn dX12_isMeant_47 rfl hf
      · refine go_aload_n dX12_isMeant_19 rfl 0 rfl ?_
        refine go_getR dX12_isMeant_20 fl_1148_0 (fun _ _ => rfl) hf (fun r_7 hf => ?_)
        refine go_iload_n dX12_isMeant_23 rfl 1 rfl ?_
        obtain ⟨a_8, rfl, hga_8⟩ := nn_some hf
        have hf := hga_8
        refine go_iaload dX12_isMeant_24 hf (fun x_9 hf => ?_)
        refine go_iload_n dX12_isMeant_25 rfl 3 rfl ?_
        refine go_icmp_gt (tgt := 46) dX12_isMeant_26 (by decide) hf (fun hf => ?_) (fun hf => ?_)
        · refine go_iconst 0 dX12_isMeant_46 rfl ?_
          exact go_zreturn dX12_isMeant_47 rfl hf
        · refine go_goto (tgt := 42) dX12_isMeant_29 (by decide) ?_
          refine go_iconst 1 dX12_isMeant_42 rfl ?_
          refine go_goto (tgt := 47) dX12_isMeant_43 (by decide) ?_
          exact go_zreturn dX12_isMeant_47 rfl hf
-- LetterBrokerModel.settle(IIIZ)V
theorem dX12_settle_0 : decode cX12_settle 0 = .ok (.iconst 0, 1) := by decide +kernel
theorem dX12_settle_1 : decode cX12_settle 1 = .ok (.istore 5, 2) := by decide +kernel
theorem dX12_settle_3 : decode cX12_settle 3 = .ok (.iload 5, 2) := by decide +kernel
theorem dX12_settle_5 : decode cX12_settle 5 = .ok (.aload_n 0, 1) := by decide +kernel
theorem dX12_settle_6 : decode cX12_settle 6 = .ok (.getfield 179, 3) := by decide +kernel
theorem dX12_settle_9 : decode cX12_settle 9 = .ok (.if_icmp .ge 62, 3) := by decide +kernel
theorem dX12_settle_12 : decode cX12_settle 12 = .ok (.iconst 0, 1) := by decide +kernel
theorem dX12_settle_13 : decode cX12_settle 13 = .ok (.istore 6, 2) := by decide +kernel
theorem dX12_settle_15 : decode cX12_settle 15 = .ok (.aload_n 0, 1) := by decide +kernel
theorem dX12_settle_16 : decode cX12_settle 16 = .ok (.iload 5, 2) := by decide +kernel
theorem dX12_settle_18 : decode cX12_settle 18 = .ok (.iload_n 1, 1) := by decide +kernel
theorem dX12_settle_19 : decode cX12_settle 19 = .ok (.iload_n 3, 1) := by decide +kernel
theorem dX12_settle_20 : decode cX12_settle 20 = .ok (.iload 4, 2) := by decide +kernel
theorem dX12_settle_22 : decode cX12_settle 22 = .ok (.invokevirtual 270, 3) := by decide +kernel
theorem dX12_settle_25 : decode cX12_settle 25 = .ok (.ifCond .eq 28, 3) := by decide +kernel
theorem dX12_settle_28 : decode cX12_settle 28 = .ok (.iload_n 2, 1) := by decide +kernel
theorem dX12_settle_29 : decode cX12_settle 29 = .ok (.iconst 2, 1) := by decide +kernel
theorem dX12_settle_30 : decode cX12_settle 30 = .ok (.if_icmp .ne 14, 3) := by decide +kernel
theorem dX12_settle_33 : decode cX12_settle 33 = .ok (.aload_n 0, 1) := by decide +kernel
theorem dX12_settle_34 : decode cX12_settle 34 = .ok (.iload 5, 2) := by decide +kernel
theorem dX12_settle_36 : decode cX12_settle 36 = .ok (.invokevirtual 195, 3) := by decide +kernel
theorem dX12_settle_39 : decode cX12_settle 39 = .ok (.istore 6, 2) := by decide +kernel
theorem dX12_settle_41 : decode cX12_settle 41 = .ok (.goto 12, 3) := by decide +kernel
theorem dX12_settle_44 : decode cX12_settle 44 = .ok (.aload_n 0, 1) := by decide +kernel
theorem dX12_settle_45 : decode cX12_settle 45 = .ok (.iload 5, 2) := by decide +kernel
theorem dX12_settle_47 : decode cX12_settle 47 = .ok (.invokevirtual 192, 3) := by decide +kernel
theorem dX12_settle_50 : decode cX12_settle 50 = .ok (.iconst 1, 1) := by decide +kernel
theorem dX12_settle_51 : decode cX12_settle 51 = .ok (.istore 6, 2) := by decide +kernel
theorem dX12_settle_53 : decode cX12_settle 53 = .ok (.iload 5, 2) := by decide +kernel
theorem dX12_settle_55 : decode cX12_settle 55 = .ok (.iload 6, 2) := by decide +kernel
theorem dX12_settle_57 : decode cX12_settle 57 = .ok (.ifCond .eq 7, 3) := by decide +kernel
theorem dX12_settle_60 : decode cX12_settle 60 = .ok (.iconst 0, 1) := by decide +kernel
theorem dX12_settle_61 : decode cX12_settle 61 = .ok (.goto 4, 3) := by decide +kernel
theorem dX12_settle_64 : decode cX12_settle 64 = .ok (.iconst 1, 1) := by decide +kernel
theorem dX12_settle_65 : decode cX12_settle 65 = .ok (.iadd, 1) := by decide +kernel
theorem dX12_settle_66 : decode cX12_settle 66 = .ok (.istore 5, 2) := by decide +kernel
theorem dX12_settle_68 : decode cX12_settle 68 = .ok (.goto (-65), 3) := by decide +kernel
theorem dX12_settle_71 : decode cX12_settle 71 = .ok (.return_, 1) := by decide +kernel
def f_X12_settle_53 (k3 : Nat → Int32 → Int32 → Int32 → Int32 → Int32 → AH → Option (Unit × AH)) (a0 : Nat) (x1 : Int32) (x2 : Int32) (x3 : Int32) (x4 : Int32) (x5 : Int32) (x6 : Int32) (h : AH) : Option (Unit × AH) := (if x6 = 0 then
    lt (x5 + 1) fun x_1 =>
    k3 a0 x1 x2 x3 x4 x_1 h
  else
    lt (x5 + 0) fun x_2 =>
    k3 a0 x1 x2 x3 x4 x_2 h)
set_option maxRecDepth 20000 in
set_option maxHeartbeats 4000000 in
theorem t_X12_settle_53 {Ω : Om} {k3 : Nat → Int32 → Int32 → Int32 → Int32 → Int32 → AH → Option (Unit × AH)} (c3 : ∀ (a0 : Nat) (x1 : Int32) (x2 : Int32) (x3 : Int32) (x4 : Int32) (x5 : Int32) (h : AH) (q : Unit × AH), k3 a0 x1 x2 x3 x4 x5 h = some q → Go Ω M_X12_settle 3 [(0, vR Ω (some a0)), (1, .int x1), (2, .int x2), (3, .int x3), (4, .int x4), (5, .int x5)] [] h none q.2) (a0 : Nat) (x1 : Int32) (x2 : Int32) (x3 : Int32) (x4 : Int32) (x5 : Int32) (x6 : Int32) (h : AH) (q : Unit × AH) (hf : f_X12_settle_53 k3 a0 x1 x2 x3 x4 x5 x6 h = some q) : Go Ω M_X12_settle 53 [(0, vR Ω (some a0)), (1, .int x1), (2, .int x2), (3, .int x3), (4, .int x4), (5, .int x5), (6, .int x6)] [] h none q.2 := by
  unfold f_X12_settle_53 at hf
  refine go_iload dX12_settle_53 5 rfl ?_
  refine go_iload dX12_settle_55 6 rfl ?_
  refine go_if_eq (tgt := 64) dX12_settle_57 (by decide) hf (fun hf => ?_) (fun hf => ?_)
  · refine go_iconst 1 dX12_settle_64 rfl ?_
    refine go_iadd dX12_settle_65 ?_
    refine lt_I hf (fun x_1 hf => ?_)
    refine go_istore (i := 5) (lv' := [(5, .int x_1), (0, vR Ω (some a0)), (1, .int x1), (2, .int x2), (3, .int x3), (4, .int x4), (6, .int x6)]) dX12_settle_66 (by decide) (by first | rfl | simp [catR, catI, catJ]) ?_
    refine go_goto (tgt := 3) dX12_settle_68 (by decide) ?_
    refine go_sub (lv' := [(0, vR Ω (some a0)), (1, .int x1), (2, .int x2), (3, .int x3), (4, .int x4), (5, .int x_1)]) [1, 2, 3, 4, 5, 0] rfl ?_
    exact c3 a0 x1 x2 x3 x4 x_1 h q hf
  · refine go_iconst 0 dX12_settle_60 rfl ?_
    refine go_goto (tgt := 65) dX12_settle_61 (by decide) ?_
    refine go_iadd dX12_settle_65 ?_
    refine lt_I hf (fun x_2 hf => ?_)
    refine go_istore (i := 5) (lv' := [(5, .int x_2), (0, vR Ω (some a0)), (1, .int x1), (2, .int x2), (3, .int x3), (4, .int x4), (6, .int x6)]) dX12_settle_66 (by decide) (by first | rfl | simp [catR, catI, catJ]) ?_
    refine go_goto (tgt := 3) dX12_settle_68 (by decide) ?_
    refine go_sub (lv' := [(0, vR Ω (some a0)), (1, .int x1), (2, .int x2), (3, .int x3), (4, .int x4), (5, .int x_2)]) [1, 2, 3, 4, 5, 0] rfl ?_
    exact c3 a0 x1 x2 x3 x4 x_2 h q hf
def f_X12_settle_3 : Nat → Nat → Int32 → Int32 → Int32 → Int32 → Int32 → AH → Option (Unit × AH)
  | 0, _, _, _, _, _, _, _ => none
  | n + 1, a0, x1, x2, x3, x4, x5, h => rdI h a0 13 24 fun x_1 =>
    (if x_1 ≤ x5 then
      some ((), h)
    else
      kg h a0 13 (bd (f_X12_isMeant a0 x5 x1 x3 x4 h) fun x_4 h_3 =>
      (if x_4 = 0 then
        f_X12_settle_53 (fun a0 x1 x2 x3 x4 x5 h => f_X12_settle_3 n a0 x1 x2 x3 x4 x5 h) a0 x1 x2 x3 x4 x5 0 h_3
      else
        (if x2 = 2 then
          kg h_3 a0 13 (bd (f_X12_goesBack a0 x5 h_3) fun x_9 h_8 =>
          f_X12_settle_53 (fun a0 x1 x2 x3 x4 x5 h => f_X12_settle_3 n a0 x1 x2 x3 x4 x5 h) a0 x1 x2 x3 x4 x5 x_9 h_8)
        else
          kg h_3 a0 13 (bd (f_X12_removeLetter a0 x5 h_3) fun _ h_6 =>
          f_X12_settle_53 (fun a0 x1 x2 x3 x4 x5 h => f_X12_settle_3 n a0 x1 x2 x3 x4 x5 h) a0 x1 x2 x3 x4 x5 1 h_6)))))
set_option maxRecDepth 20000 in
set_option maxHeartbeats 4000000 in
theorem t_X12_settle_3 {Ω : Om} : ∀ (n : Nat) (a0 : Nat) (x1 : Int32) (x2 : Int32) (x3 : Int32) (x4 : Int32) (x5 : Int32) (h : AH) (q : Unit × AH), f_X12_settle_3 n a0 x1 x2 x3 x4 x5 h = some q → Go Ω M_X12_settle 3 [(0, vR Ω (some a0)), (1, .int x1), (2, .int x2), (3, .int x3), (4, .int x4), (5, .int x5)] [] h none q.2 := by
  intro n
  induction n with
  | zero => intro a0 x1 x2 x3 x4 x5 h q hf; cases hf
  | succ n ih =>
    intro a0 x1 x2 x3 x4 x5 h q hf
    rw [f_X12_settle_3] at hf
    refine go_iload dX12_settle_3 5 rfl ?_
    refine go_aload_n dX12_settle_5 rfl 0 rfl ?_
    refine go_getI dX12_settle_6 fl_1143_0 (fun _ _ => rfl) hf (fun x_1 hf => ?_)
    refine go_icmp_ge (tgt := 71) dX12_settle_9 (by decide) hf (fun hf => ?_) (fun hf => ?_)
    · exact go_return dX12_settle_71 rfl hf
    · refine go_iconst 0 dX12_settle_12 rfl ?_
      refine go_istore (i := 6) (lv' := [(6, .int 0), (0, vR Ω (some a0)), (1, .int x1), (2, .int x2), (3, .int x3), (4, .int x4), (5, .int x5)]) dX12_settle_13 (by decide) (by first | rfl | simp [catR, catI, catJ]) ?_
      refine go_aload_n dX12_settle_15 rfl 1 rfl ?_
      refine go_iload dX12_settle_16 6 rfl ?_
      refine go_iload_n dX12_settle_18 rfl 2 rfl ?_
      refine go_iload_n dX12_settle_19 rfl 4 rfl ?_
      refine go_iload dX12_settle_20 5 rfl ?_
      obtain ⟨hk, hf⟩ := kg_some hf
      obtain ⟨z_2, hc, hf⟩ := bd_some hf
      refine go_callV (y2 := M_X12_isMeant) (c2 := 13) dX12_settle_22 mo_X12_isMeant ⟨Nat.le_of_ble_eq_true rfl, Nat.le_of_ble_eq_true rfl⟩ na_X12_isMeant w1543 w1545 (by decide) rfl w103 hk [.int x5, .int x1, .int x3, .int x4] rfl (n_X12_isMeant (a0) x5 x1 x3 x4) rfl (csum (Nat.le_of_ble_eq_true rfl)) (t_X12_isMeant (a0) x5 x1 x3 x4 h _ hc) ?_
      obtain ⟨x_4, h_3⟩ := z_2
      refine go_if_eq (tgt := 53) dX12_settle_25 (by decide) hf (fun hf => ?_) (fun hf => ?_)
      · refine go_sub (lv' := [(0, vR Ω (some a0)), (1, .int x1), (2, .int x2), (3, .int x3), (4, .int x4), (5, .int x5), (6, .int 0)]) [1, 2, 3, 4, 5, 6, 0] rfl ?_
        exact t_X12_settle_53 ih a0 x1 x2 x3 x4 x5 0 h_3 q hf
      · refine go_iload_n dX12_settle_28 rfl 3 rfl ?_
        refine go_iconst 2 dX12_settle_29 rfl ?_
        refine go_icmp_ne (tgt := 44) dX12_settle_30 (by decide) hf (fun hf => ?_) (fun hf => ?_)
        · refine go_aload_n dX12_settle_44 rfl 1 rfl ?_
          refine go_iload dX12_settle_45 6 rfl ?_
          obtain ⟨hk, hf⟩ := kg_some hf
          obtain ⟨z_5, hc, hf⟩ := bd_some hf
          refine go_callV (y2 := M_X12_removeLetter) (c2 := 13) dX12_settle_47 mo_X12_removeLetter ⟨Nat.le_of_ble_eq_true rfl, Nat.le_of_ble_eq_true rfl⟩ na_X12_removeLetter w1369 w1371 (by decide) rfl w61 hk [.int x5] rfl (n_X12_removeLetter (a0) x5) rfl (csum (Nat.le_of_ble_eq_true rfl)) (t_X12_removeLetter (a0) x5 h_3 _ hc) ?_
          obtain ⟨_, h_6⟩ := z_5
          refine go_iconst 1 dX12_settle_50 rfl ?_
          refine go_istore (i := 6) (lv' := [(6, .int 1), (0, vR Ω (some a0)), (1, .int x1), (2, .int x2), (3, .int x3), (4, .int x4), (5, .int x5)]) dX12_settle_51 (by decide) (by first | rfl | simp [catR, catI, catJ]) ?_
          refine go_sub (lv' := [(0, vR Ω (some a0)), (1, .int x1), (2, .int x2), (3, .int x3), (4, .int x4), (5, .int x5), (6, .int 1)]) [1, 2, 3, 4, 5, 6, 0] rfl ?_
          exact t_X12_settle_53 ih a0 x1 x2 x3 x4 x5 1 h_6 q hf
        · refine go_aload_n dX12_settle_33 rfl 1 rfl ?_
          refine go_iload dX12_settle_34 6 rfl ?_
          obtain ⟨hk, hf⟩ := kg_some hf
          obtain ⟨z_7, hc, hf⟩ := bd_some hf
          refine go_callV (y2 := M_X12_goesBack) (c2 := 13) dX12_settle_36 mo_X12_goesBack ⟨Nat.le_of_ble_eq_true rfl, Nat.le_of_ble_eq_true rfl⟩ na_X12_goesBack w1361 w1363 (by decide) rfl w59 hk [.int x5] rfl (n_X12_goesBack (a0) x5) rfl (csum (Nat.le_of_ble_eq_true rfl)) (t_X12_goesBack (a0) x5 h_3 _ hc) ?_
          obtain ⟨x_9, h_8⟩ := z_7
          refine go_istore (i := 6) (lv' := [(6, .int x_9), (0, vR Ω (some a0)), (1, .int x1), (2, .int x2), (3, .int x3), (4, .int x4), (5, .int x5)]) dX12_settle_39 (by decide) (by first | rfl | simp [catR, catI, catJ]) ?_
          refine go_goto (tgt := 53) dX12_settle_41 (by decide) ?_
          refine go_sub (lv' := [(0, vR Ω (some a0)), (1, .int x1), (2, .int x2), (3, .int x3), (4, .int x4), (5, .int x5), (6, .int x_9)]) [1, 2, 3, 4, 5, 6, 0] rfl ?_
          exact t_X12_settle_53 ih a0 x1 x2 x3 x4 x5 x_9 h_8 q hf
def f_X12_settle (a0 : Nat) (x1 : Int32) (x2 : Int32) (x3 : Int32) (x4 : Int32) (h : AH) : Option (Unit × AH) := f_X12_settle_3 FU a0 x1 x2 x3 x4 0 h
set_option maxRecDepth 20000 in
set_option maxHeartbeats 4000000 in
theorem t_X12_settle {Ω : Om} (a0 : Nat) (x1 : Int32) (x2 : Int32) (x3 : Int32) (x4 : Int32) (h : AH) (q : Unit × AH) (hf : f_X12_settle a0 x1 x2 x3 x4 h = some q) : Go Ω M_X12_settle 0 (lv_args 0 [vR Ω (some a0), .int x1, .int x2, .int x3, .int x4]) [] h none q.2 := by
  unfold f_X12_settle at hf
  rw [la_R, la_I, la_I, la_I, la_I, la_0]
  refine go_sub (lv' := [(0, vR Ω (some a0)), (1, .int x1), (2, .int x2), (3, .int x3), (4, .int x4)]) [0, 1, 2, 3, 4] rfl ?_
  refine go_iconst 0 dX12_settle_0 rfl ?_
  refine go_istore (i := 5) (lv' := [(5, .int 0), (0, vR Ω (some a0)), (1, .int x1), (2, .int x2), (3, .int x3), (4, .int x4)]) dX12_settle_1 (by decide) (by first | rfl | simp [catR, catI, catJ]) ?_
  refine go_sub (lv' := [(0, vR Ω (some a0)), (1, .int x1), (2, .int x2), (3, .int x3), (4, .int x4), (5, .int 0)]) [1, 2, 3, 4, 5, 0] rfl ?_
  exact t_X12_settle_3 FU a0 x1 x2 x3 x4 0 h q hf

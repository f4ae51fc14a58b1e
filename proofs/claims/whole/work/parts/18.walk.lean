/-! printed by wip/whole/gen: functions and their walks -/
-- LetterBroker$Binding.fits(LLetterBroker$Draft;)Z
theorem dX0_fits_0 : decode cX0_fits 0 = .ok (.aload_n 0, 1) := by decide +kernel
theorem dX0_fits_1 : decode cX0_fits 1 = .ok (.getfield 15, 3) := by decide +kernel
theorem dX0_fits_4 : decode cX0_fits 4 = .ok (.getfield 31, 3) := by decide +kernel
theorem dX0_fits_7 : decode cX0_fits 7 = .ok (.iconst 2, 1) := by decide +kernel
theorem dX0_fits_8 : decode cX0_fits 8 = .ok (.if_icmp .eq 32, 3) := by decide +kernel
theorem dX0_fits_11 : decode cX0_fits 11 = .ok (.aload_n 0, 1) := by decide +kernel
theorem dX0_fits_12 : decode cX0_fits 12 = .ok (.getfield 15, 3) := by decide +kernel
theorem dX0_fits_15 : decode cX0_fits 15 = .ok (.getfield 31, 3) := by decide +kernel
theorem dX0_fits_18 : decode cX0_fits 18 = .ok (.iconst 1, 1) := by decide +kernel
theorem dX0_fits_19 : decode cX0_fits 19 = .ok (.if_icmp .eq 15, 3) := by decide +kernel
theorem dX0_fits_22 : decode cX0_fits 22 = .ok (.aload_n 1, 1) := by decide +kernel
theorem dX0_fits_23 : decode cX0_fits 23 = .ok (.getfield 37, 3) := by decide +kernel
theorem dX0_fits_26 : decode cX0_fits 26 = .ok (.aload_n 0, 1) := by decide +kernel
theorem dX0_fits_27 : decode cX0_fits 27 = .ok (.getfield 19, 3) := by decide +kernel
theorem dX0_fits_30 : decode cX0_fits 30 = .ok (.lcmp, 1) := by decide +kernel
theorem dX0_fits_31 : decode cX0_fits 31 = .ok (.ifCond .ne 7, 3) := by decide +kernel
theorem dX0_fits_34 : decode cX0_fits 34 = .ok (.iconst 1, 1) := by decide +kernel
theorem dX0_fits_35 : decode cX0_fits 35 = .ok (.goto 4, 3) := by decide +kernel
theorem dX0_fits_38 : decode cX0_fits 38 = .ok (.iconst 0, 1) := by decide +kernel
theorem dX0_fits_39 : decode cX0_fits 39 = .ok (.ireturn, 1) := by decide +kernel
theorem dX0_fits_40 : decode cX0_fits 40 = .ok (.iconst 1, 1) := by decide +kernel
theorem dX0_fits_41 : decode cX0_fits 41 = .ok (.istore_n 2, 1) := by decide +kernel
theorem dX0_fits_42 : decode cX0_fits 42 = .ok (.iconst 0, 1) := by decide +kernel
theorem dX0_fits_43 : decode cX0_fits 43 = .ok (.istore_n 3, 1) := by decide +kernel
theorem dX0_fits_44 : decode cX0_fits 44 = .ok (.iload_n 3, 1) := by decide +kernel
theorem dX0_fits_45 : decode cX0_fits 45 = .ok (.aload_n 0, 1) := by decide +kernel
theorem dX0_fits_46 : decode cX0_fits 46 = .ok (.getfield 27, 3) := by decide +kernel
theorem dX0_fits_49 : decode cX0_fits 49 = .ok (.arraylength, 1) := by decide +kernel
theorem dX0_fits_50 : decode cX0_fits 50 = .ok (.if_icmp .ge 135, 3) := by decide +kernel
theorem dX0_fits_53 : decode cX0_fits 53 = .ok (.aload_n 0, 1) := by decide +kernel
theorem dX0_fits_54 : decode cX0_fits 54 = .ok (.getfield 27, 3) := by decide +kernel
theorem dX0_fits_57 : decode cX0_fits 57 = .ok (.iload_n 3, 1) := by decide +kernel
theorem dX0_fits_58 : decode cX0_fits 58 = .ok (.laload, 1) := by decide +kernel
theorem dX0_fits_59 : decode cX0_fits 59 = .ok (.ldc2_w 40, 3) := by decide +kernel
theorem dX0_fits_62 : decode cX0_fits 62 = .ok (.lcmp, 1) := by decide +kernel
theorem dX0_fits_63 : decode cX0_fits 63 = .ok (.ifCond .ne 7, 3) := by decide +kernel
theorem dX0_fits_66 : decode cX0_fits 66 = .ok (.iload_n 2, 1) := by decide +kernel
theorem dX0_fits_67 : decode cX0_fits 67 = .ok (.goto 4, 3) := by decide +kernel
theorem dX0_fits_70 : decode cX0_fits 70 = .ok (.iconst 0, 1) := by decide +kernel
theorem dX0_fits_71 : decode cX0_fits 71 = .ok (.istore 4, 2) := by decide +kernel
theorem dX0_fits_73 : decode cX0_fits 73 = .ok (.iconst 0, 1) := by decide +kernel
theorem dX0_fits_74 : decode cX0_fits 74 = .ok (.istore 5, 2) := by decide +kernel
theorem dX0_fits_76 : decode cX0_fits 76 = .ok (.iload 5, 2) := by decide +kernel
theorem dX0_fits_78 : decode cX0_fits 78 = .ok (.aload_n 1, 1) := by decide +kernel
theorem dX0_fits_79 : decode cX0_fits 79 = .ok (.getfield 42, 3) := by decide +kernel
theorem dX0_fits_82 : decode cX0_fits 82 = .ok (.arraylength, 1) := by decide +kernel
theorem dX0_fits_83 : decode cX0_fits 83 = .ok (.if_icmp .ge 93, 3) := by decide +kernel
theorem dX0_fits_86 : decode cX0_fits 86 = .ok (.aload_n 0, 1) := by decide +kernel
theorem dX0_fits_87 : decode cX0_fits 87 = .ok (.getfield 27, 3) := by decide +kernel
theorem dX0_fits_90 : decode cX0_fits 90 = .ok (.iload_n 3, 1) := by decide +kernel
theorem dX0_fits_91 : decode cX0_fits 91 = .ok (.laload, 1) := by decide +kernel
theorem dX0_fits_92 : decode cX0_fits 92 = .ok (.ldc2_w 43, 3) := by decide +kernel
theorem dX0_fits_95 : decode cX0_fits 95 = .ok (.lcmp, 1) := by decide +kernel
theorem dX0_fits_96 : decode cX0_fits 96 = .ok (.ifCond .eq 20, 3) := by decide +kernel
theorem dX0_fits_99 : decode cX0_fits 99 = .ok (.aload_n 0, 1) := by decide +kernel
theorem dX0_fits_100 : decode cX0_fits 100 = .ok (.getfield 27, 3) := by decide +kernel
theorem dX0_fits_103 : decode cX0_fits 103 = .ok (.iload_n 3, 1) := by decide +kernel
theorem dX0_fits_104 : decode cX0_fits 104 = .ok (.laload, 1) := by decide +kernel
theorem dX0_fits_105 : decode cX0_fits 105 = .ok (.aload_n 1, 1) := by decide +kernel
theorem dX0_fits_106 : decode cX0_fits 106 = .ok (.getfield 42, 3) := by decide +kernel
theorem dX0_fits_109 : decode cX0_fits 109 = .ok (.iload 5, 2) := by decide +kernel
theorem dX0_fits_111 : decode cX0_fits 111 = .ok (.laload, 1) := by decide +kernel
theorem dX0_fits_112 : decode cX0_fits 112 = .ok (.lcmp, 1) := by decide +kernel
theorem dX0_fits_113 : decode cX0_fits 113 = .ok (.ifCond .ne 7, 3) := by decide +kernel
theorem dX0_fits_116 : decode cX0_fits 116 = .ok (.iconst 1, 1) := by decide +kernel
theorem dX0_fits_117 : decode cX0_fits 117 = .ok (.goto 4, 3) := by decide +kernel
theorem dX0_fits_120 : decode cX0_fits 120 = .ok (.iconst 0, 1) := by decide +kernel
theorem dX0_fits_121 : decode cX0_fits 121 = .ok (.istore 6, 2) := by decide +kernel
theorem dX0_fits_123 : decode cX0_fits 123 = .ok (.aload_n 0, 1) := by decide +kernel
theorem dX0_fits_124 : decode cX0_fits 124 = .ok (.getfield 27, 3) := by decide +kernel
theorem dX0_fits_127 : decode cX0_fits 127 = .ok (.iload_n 3, 1) := by decide +kernel
theorem dX0_fits_128 : decode cX0_fits 128 = .ok (.laload, 1) := by decide +kernel
theorem dX0_fits_129 : decode cX0_fits 129 = .ok (.ldc2_w 40, 3) := by decide +kernel
theorem dX0_fits_132 : decode cX0_fits 132 = .ok (.lcmp, 1) := by decide +kernel
theorem dX0_fits_133 : decode cX0_fits 133 = .ok (.ifCond .ne 8, 3) := by decide +kernel
theorem dX0_fits_136 : decode cX0_fits 136 = .ok (.iload 4, 2) := by decide +kernel
theorem dX0_fits_138 : decode cX0_fits 138 = .ok (.goto 13, 3) := by decide +kernel
theorem dX0_fits_141 : decode cX0_fits 141 = .ok (.iload 6, 2) := by decide +kernel
theorem dX0_fits_143 : decode cX0_fits 143 = .ok (.ifCond .eq 7, 3) := by decide +kernel
theorem dX0_fits_146 : decode cX0_fits 146 = .ok (.iload_n 2, 1) := by decide +kernel
theorem dX0_fits_147 : decode cX0_fits 147 = .ok (.goto 4, 3) := by decide +kernel
theorem dX0_fits_150 : decode cX0_fits 150 = .ok (.iconst 0, 1) := by decide +kernel
theorem dX0_fits_151 : decode cX0_fits 151 = .ok (.istore 7, 2) := by decide +kernel
theorem dX0_fits_153 : decode cX0_fits 153 = .ok (.iload 4, 2) := by decide +kernel
theorem dX0_fits_155 : decode cX0_fits 155 = .ok (.iload 7, 2) := by decide +kernel
theorem dX0_fits_157 : decode cX0_fits 157 = .ok (.iload 5, 2) := by decide +kernel
theorem dX0_fits_159 : decode cX0_fits 159 = .ok (.ishr, 1) := by decide +kernel
theorem dX0_fits_160 : decode cX0_fits 160 = .ok (.iconst 1, 1) := by decide +kernel
theorem dX0_fits_161 : decode cX0_fits 161 = .ok (.iand, 1) := by decide +kernel
theorem dX0_fits_162 : decode cX0_fits 162 = .ok (.iload 5, 2) := by decide +kernel
theorem dX0_fits_164 : decode cX0_fits 164 = .ok (.iconst 1, 1) := by decide +kernel
theorem dX0_fits_165 : decode cX0_fits 165 = .ok (.iadd, 1) := by decide +kernel
theorem dX0_fits_166 : decode cX0_fits 166 = .ok (.ishl, 1) := by decide +kernel
theorem dX0_fits_167 : decode cX0_fits 167 = .ok (.ior, 1) := by decide +kernel
theorem dX0_fits_168 : decode cX0_fits 168 = .ok (.istore 4, 2) := by decide +kernel
theorem dX0_fits_170 : decode cX0_fits 170 = .ok (.iinc 5 1, 3) := by decide +kernel
theorem dX0_fits_173 : decode cX0_fits 173 = .ok (.goto (-97), 3) := by decide +kernel
theorem dX0_fits_176 : decode cX0_fits 176 = .ok (.iload 4, 2) := by decide +kernel
theorem dX0_fits_178 : decode cX0_fits 178 = .ok (.istore_n 2, 1) := by decide +kernel
theorem dX0_fits_179 : decode cX0_fits 179 = .ok (.iinc 3 1, 3) := by decide +kernel
theorem dX0_fits_182 : decode cX0_fits 182 = .ok (.goto (-138), 3) := by decide +kernel
theorem dX0_fits_185 : decode cX0_fits 185 = .ok (.iload_n 2, 1) := by decide +kernel
theorem dX0_fits_186 : decode cX0_fits 186 = .ok (.aload_n 1, 1) := by decide +kernel
theorem dX0_fits_187 : decode cX0_fits 187 = .ok (.getfield 42, 3) := by decide +kernel
theorem dX0_fits_190 : decode cX0_fits 190 = .ok (.arraylength, 1) := by decide +kernel
theorem dX0_fits_191 : decode cX0_fits 191 = .ok (.ishr, 1) := by decide +kernel
theorem dX0_fits_192 : decode cX0_fits 192 = .ok (.iconst 1, 1) := by decide +kernel
theorem dX0_fits_193 : decode cX0_fits 193 = .ok (.iand, 1) := by decide +kernel
theorem dX0_fits_194 : decode cX0_fits 194 = .ok (.iconst 1, 1) := by decide +kernel
theorem dX0_fits_195 : decode cX0_fits 195 = .ok (.if_icmp .ne 7, 3) := by decide +kernel
theorem dX0_fits_198 : decode cX0_fits 198 = .ok (.iconst 1, 1) := by decide +kernel
theorem dX0_fits_199 : decode cX0_fits 199 = .ok (.goto 4, 3) := by decide +kernel
theorem dX0_fits_202 : decode cX0_fits 202 = .ok (.iconst 0, 1) := by decide +kernel
theorem dX0_fits_203 : decode cX0_fits 203 = .ok (.ireturn, 1) := by decide +kernel
def f_X0_fits_151 (k44 : Nat → Option Nat → Int32 → Int32 → AH → Option (Int32 × AH)) (k76 : Nat → Option Nat → Int32 → Int32 → Int32 → Int32 → AH → Option (Int32 × AH)) (a0 : Nat) (r1 : Option Nat) (x2 : Int32) (x3 : Int32) (x4 : Int32) (x5 : Int32) (s0 : Int32) (h : AH) : Option (Int32 × AH) := lt (x4 ||| (((s0 >>> (x5 &&& 31)) &&& 1) <<< ((x5 + 1) &&& 31))) fun x_1 =>
  k76 a0 r1 x2 x3 x_1 (x5 + 1) h
set_option maxRecDepth 20000 in
set_option maxHeartbeats 4000000 in
theorem t_X0_fits_151 {Ω : Om} {k44 : Nat → Option Nat → Int32 → Int32 → AH → Option (Int32 × AH)} {k76 : Nat → Option Nat → Int32 → Int32 → Int32 → Int32 → AH → Option (Int32 × AH)} (c44 : ∀ (a0 : Nat) (r1 : Option Nat) (x2 : Int32) (x3 : Int32) (h : AH) (q : Int32 × AH), k44 a0 r1 x2 x3 h = some q → Go Ω M_X0_fits 44 [(0, vR Ω (some a0)), (1, vR Ω r1), (2, .int x2), (3, .int x3)] [] h (some (.int q.1)) q.2) (c76 : ∀ (a0 : Nat) (r1 : Option Nat) (x2 : Int32) (x3 : Int32) (x4 : Int32) (x5 : Int32) (h : AH) (q : Int32 × AH), k76 a0 r1 x2 x3 x4 x5 h = some q → Go Ω M_X0_fits 76 [(0, vR Ω (some a0)), (1, vR Ω r1), (2, .int x2), (3, .int x3), (4, .int x4), (5, .int x5)] [] h (some (.int q.1)) q.2) (a0 : Nat) (r1 : Option Nat) (x2 : Int32) (x3 : Int32) (x4 : Int32) (x5 : Int32) (s0 : Int32) (h : AH) (q : Int32 × AH) (hf : f_X0_fits_151 k44 k76 a0 r1 x2 x3 x4 x5 s0 h = some q) : Go Ω M_X0_fits 151 [(0, vR Ω (some a0)), (1, vR Ω r1), (2, .int x2), (3, .int x3), (4, .int x4), (5, .int x5)] [.int s0] h (some (.int q.1)) q.2 := by
  unfold f_X0_fits_151 at hf
  refine go_istore (i := 7) (lv' := [(7, .int s0), (0, vR Ω (some a0)), (1, vR Ω r1), (2, .int x2), (3, .int x3), (4, .int x4), (5, .int x5)]) dX0_fits_151 (by decide) (by first | rfl | simp [catR, catI, catJ]) ?_
  refine go_iload dX0_fits_153 5 rfl ?_
  refine go_iload dX0_fits_155 0 rfl ?_
  refine go_iload dX0_fits_157 6 rfl ?_
  refine go_ishr dX0_fits_159 ?_
  refine go_iconst 1 dX0_fits_160 rfl ?_
  refine go_iand dX0_fits_161 ?_
  refine go_iload dX0_fits_162 6 rfl ?_
  refine go_iconst 1 dX0_fits_164 rfl ?_
  refine go_iadd dX0_fits_165 ?_
  refine go_ishl dX0_fits_166 ?_
  refine go_ior dX0_fits_167 ?_
  refine lt_I hf (fun x_1 hf => ?_)
  refine go_istore (i := 4) (lv' := [(4, .int x_1), (7, .int s0), (0, vR Ω (some a0)), (1, vR Ω r1), (2, .int x2), (3, .int x3), (5, .int x5)]) dX0_fits_168 (by decide) (by first | rfl | simp [catR, catI, catJ]) ?_
  refine go_iinc (j := 6) (v := x5 + 1) (lv' := [(5, .int (x5 + 1)), (4, .int x_1), (7, .int s0), (0, vR Ω (some a0)), (1, vR Ω r1), (2, .int x2), (3, .int x3)]) dX0_fits_170 rfl rfl (by decide) (by first | rfl | simp [catR, catI, catJ]) ?_
  refine go_goto (tgt := 76) dX0_fits_173 (by decide) ?_
  refine go_sub (lv' := [(0, vR Ω (some a0)), (1, vR Ω r1), (2, .int x2), (3, .int x3), (4, .int x_1), (5, .int (x5 + 1))]) [3, 4, 5, 6, 1, 0] rfl ?_
  exact c76 a0 r1 x2 x3 x_1 (x5 + 1) h q hf
def f_X0_fits_121 (k44 : Nat → Option Nat → Int32 → Int32 → AH → Option (Int32 × AH)) (k76 : Nat → Option Nat → Int32 → Int32 → Int32 → Int32 → AH → Option (Int32 × AH)) (a0 : Nat) (r1 : Option Nat) (x2 : Int32) (x3 : Int32) (x4 : Int32) (x5 : Int32) (s0 : Int32) (h : AH) : Option (Int32 × AH) := rdR h a0 1 3 fun r_1 =>
  nn r_1 fun a_2 =>
  arJ h a_2 x3 fun x_3 =>
  (if (lg_cmp x_3 35) = 0 then
    f_X0_fits_151 k44 k76 a0 r1 x2 x3 x4 x5 x4 h
  else
    (if s0 = 0 then
      f_X0_fits_151 k44 k76 a0 r1 x2 x3 x4 x5 0 h
    else
      f_X0_fits_151 k44 k76 a0 r1 x2 x3 x4 x5 x2 h))
set_option maxRecDepth 20000 in
set_option maxHeartbeats 4000000 in
theorem t_X0_fits_121 {Ω : Om} {k44 : Nat → Option Nat → Int32 → Int32 → AH → Option (Int32 × AH)} {k76 : Nat → Option Nat → Int32 → Int32 → Int32 → Int32 → AH → Option (Int32 × AH)} (c44 : ∀ (a0 : Nat) (r1 : Option Nat) (x2 : Int32) (x3 : Int32) (h : AH) (q : Int32 × AH), k44 a0 r1 x2 x3 h = some q → Go Ω M_X0_fits 44 [(0, vR Ω (some a0)), (1, vR Ω r1), (2, .int x2), (3, .int x3)] [] h (some (.int q.1)) q.2) (c76 : ∀ (a0 : Nat) (r1 : Option Nat) (x2 : Int32) (x3 : Int32) (x4 : Int32) (x5 : Int32) (h : AH) (q : Int32 × AH), k76 a0 r1 x2 x3 x4 x5 h = some q → Go Ω M_X0_fits 76 [(0, vR Ω (some a0)), (1, vR Ω r1), (2, .int x2), (3, .int x3), (4, .int x4), (5, .int x5)] [] h (some (.int q.1)) q.2) (a0 : Nat) (r1 : Option Nat) (x2 : Int32) (x3 : Int32) (x4 : Int32) (x5 : Int32) (s0 : Int32) (h : AH) (q : Int32 × AH) (hf : f_X0_fits_121 k44 k76 a0 r1 x2 x3 x4 x5 s0 h = some q) : Go Ω M_X0_fits 121 [(0, vR Ω (some a0)), (1, vR Ω r1), (2, .int x2), (3, .int x3), (4, .int x4), (5, .int x5)] [.int s0] h (some (.int q.1)) q.2 := by
  unfold f_X0_fits_121 at hf
  refine go_istore (i := 6) (lv' := [(6, .int s0), (0, vR Ω (some a0)), (1, vR Ω r1), (2, .int x2), (3, .int x3), (4, .int x4), (5, .int x5)]) dX0_fits_121 (by decide) (by first | rfl | simp [catR, catI, catJ]) ?_
  refine go_aload_n dX0_fits_123 rfl 1 rfl ?_
  refine go_getR dX0_fits_124 fl_845_0 (fun _ _ => rfl) hf (fun r_1 hf => ?_)
  refine go_iload_n dX0_fits_127 rfl 4 rfl ?_
  obtain ⟨a_2, rfl, hga_2⟩ := nn_some hf
  have hf := hga_2
  refine go_laload dX0_fits_128 hf (fun x_3 hf => ?_)
  refine go_ldc2 35 dX0_fits_129 w566 ?_
  refine go_lcmp dX0_fits_132 ?_
  refine go_if_ne (tgt := 141) dX0_fits_133 (by decide) hf (fun hf => ?_) (fun hf => ?_)
  · refine go_iload dX0_fits_141 0 rfl ?_
    refine go_if_eq (tgt := 150) dX0_fits_143 (by decide) hf (fun hf => ?_) (fun hf => ?_)
    · refine go_iconst 0 dX0_fits_150 rfl ?_
      refine go_sub (lv' := [(0, vR Ω (some a0)), (1, vR Ω r1), (2, .int x2), (3, .int x3), (4, .int x4), (5, .int x5)]) [1, 2, 3, 4, 5, 6] rfl ?_
      exact t_X0_fits_151 c44 c76 a0 r1 x2 x3 x4 x5 0 h q hf
    · refine go_iload_n dX0_fits_146 rfl 3 rfl ?_
      refine go_goto (tgt := 151) dX0_fits_147 (by decide) ?_
      refine go_sub (lv' := [(0, vR Ω (some a0)), (1, vR Ω r1), (2, .int x2), (3, .int x3), (4, .int x4), (5, .int x5)]) [1, 2, 3, 4, 5, 6] rfl ?_
      exact t_X0_fits_151 c44 c76 a0 r1 x2 x3 x4 x5 x2 h q hf
  · refine go_iload dX0_fits_136 5 rfl ?_
    refine go_goto (tgt := 151) dX0_fits_138 (by decide) ?_
    refine go_sub (lv' := [(0, vR Ω (some a0)), (1, vR Ω r1), (2, .int x2), (3, .int x3), (4, .int x4), (5, .int x5)]) [1, 2, 3, 4, 5, 6] rfl ?_
    exact t_X0_fits_151 c44 c76 a0 r1 x2 x3 x4 x5 x4 h q hf
def f_X0_fits_176 (k44 : Nat → Option Nat → Int32 → Int32 → AH → Option (Int32 × AH)) (a0 : Nat) (r1 : Option Nat) (x3 : Int32) (x4 : Int32) (h : AH) : Option (Int32 × AH) := k44 a0 r1 x4 (x3 + 1) h
set_option maxRecDepth 20000 in
set_option maxHeartbeats 4000000 in
theorem t_X0_fits_176 {Ω : Om} {k44 : Nat → Option Nat → Int32 → Int32 → AH → Option (Int32 × AH)} (c44 : ∀ (a0 : Nat) (r1 : Option Nat) (x2 : Int32) (x3 : Int32) (h : AH) (q : Int32 × AH), k44 a0 r1 x2 x3 h = some q → Go Ω M_X0_fits 44 [(0, vR Ω (some a0)), (1, vR Ω r1), (2, .int x2), (3, .int x3)] [] h (some (.int q.1)) q.2) (a0 : Nat) (r1 : Option Nat) (x3 : Int32) (x4 : Int32) (h : AH) (q : Int32 × AH) (hf : f_X0_fits_176 k44 a0 r1 x3 x4 h = some q) : Go Ω M_X0_fits 176 [(0, vR Ω (some a0)), (1, vR Ω r1), (3, .int x3), (4, .int x4)] [] h (some (.int q.1)) q.2 := by
  unfold f_X0_fits_176 at hf
  refine go_iload dX0_fits_176 3 rfl ?_
  refine go_istore_n (i := 2) (lv' := [(2, .int x4), (0, vR Ω (some a0)), (1, vR Ω r1), (3, .int x3), (4, .int x4)]) dX0_fits_178 rfl (by decide) (by first | rfl | simp [catR, catI, catJ]) ?_
  refine go_iinc (j := 3) (v := x3 + 1) (lv' := [(3, .int (x3 + 1)), (2, .int x4), (0, vR Ω (some a0)), (1, vR Ω r1), (4, .int x4)]) dX0_fits_179 rfl rfl (by decide) (by first | rfl | simp [catR, catI, catJ]) ?_
  refine go_goto (tgt := 44) dX0_fits_182 (by decide) ?_
  refine go_sub (lv' := [(0, vR Ω (some a0)), (1, vR Ω r1), (2, .int x4), (3, .int (x3 + 1))]) [2, 3, 1, 0] rfl ?_
  exact c44 a0 r1 x4 (x3 + 1) h q hf
def f_X0_fits_76 (k44 : Nat → Option Nat → Int32 → Int32 → AH → Option (Int32 × AH)) : Nat → Nat → Option Nat → Int32 → Int32 → Int32 → Int32 → AH → Option (Int32 × AH)
  | 0, _, _, _, _, _, _, _ => none
  | n + 1, a0, r1, x2, x3, x4, x5, h => nn r1 fun a_1 =>
    rdR h a_1 5 3 fun r_2 =>
    nn r_2 fun a_3 =>
    aln h a_3 fun x_4 =>
    (if x_4 ≤ x5 then
      f_X0_fits_176 k44 a0 (some a_1) x3 x4 h
    else
      rdR h a0 1 3 fun r_5 =>
      nn r_5 fun a_6 =>
      arJ h a_6 x3 fun x_7 =>
      (if (lg_cmp x_7 42) = 0 then
        f_X0_fits_121 k44 (fun a0 r1 x2 x3 x4 x5 h => f_X0_fits_76 k44 n a0 r1 x2 x3 x4 x5 h) a0 (some a_1) x2 x3 x4 x5 1 h
      else
        rdR h a0 1 3 fun r_8 =>
        nn r_8 fun a_9 =>
        arJ h a_9 x3 fun x_10 =>
        rdR h a_1 5 3 fun r_11 =>
        nn r_11 fun a_12 =>
        arJ h a_12 x5 fun x_13 =>
        (if (lg_cmp x_10 x_13) = 0 then
          f_X0_fits_121 k44 (fun a0 r1 x2 x3 x4 x5 h => f_X0_fits_76 k44 n a0 r1 x2 x3 x4 x5 h) a0 (some a_1) x2 x3 x4 x5 1 h
        else
          f_X0_fits_121 k44 (fun a0 r1 x2 x3 x4 x5 h => f_X0_fits_76 k44 n a0 r1 x2 x3 x4 x5 h) a0 (some a_1) x2 x3 x4 x5 0 h)))
set_option maxRecDepth 20000 in
set_option maxHeartbeats 4000000 in
theorem t_X0_fits_76 {Ω : Om} {k44 : Nat → Option Nat → Int32 → Int32 → AH → Option (Int32 × AH)} (c44 : ∀ (a0 : Nat) (r1 : Option Nat) (x2 : Int32) (x3 : Int32) (h : AH) (q : Int32 × AH), k44 a0 r1 x2 x3 h = some q → Go Ω M_X0_fits 44 [(0, vR Ω (some a0)), (1, vR Ω r1), (2, .int x2), (3, .int x3)] [] h (some (.int q.1)) q.2) : ∀ (n : Nat) (a0 : Nat) (r1 : Option Nat) (x2 : Int32) (x3 : Int32) (x4 : Int32) (x5 : Int32) (h : AH) (q : Int32 × AH), f_X0_fits_76 k44 n a0 r1 x2 x3 x4 x5 h = some q → Go Ω M_X0_fits 76 [(0, vR Ω (some a0)), (1, vR Ω r1), (2, .int x2), (3, .int x3), (4, .int x4), (5, .int x5)] [] h (some (.int q.1)) q.2 := by
  intro n
  induction n with
  | zero => intro a0 r1 x2 x3 x4 x5 h q hf; cases hf
  | succ n ih =>
    intro a0 r1 x2 x3 x4 x5 h q hf
    rw [f_X0_fits_76] at hf
    refine go_iload dX0_fits_76 5 rfl ?_
    refine go_aload_n dX0_fits_78 rfl 1 rfl ?_
    obtain ⟨a_1, rfl, hga_1⟩ := nn_some hf
    have hf := hga_1
    refine go_getR dX0_fits_79 fl_951_0 (fun _ _ => rfl) hf (fun r_2 hf => ?_)
    obtain ⟨a_3, rfl, hga_3⟩ := nn_some hf
    have hf := hga_3
    refine go_alen dX0_fits_82 hf (fun x_4 hf => ?_)
    refine go_icmp_ge (tgt := 176) dX0_fits_83 (by decide) hf (fun hf => ?_) (fun hf => ?_)
    · refine go_sub (lv' := [(0, vR Ω (some a0)), (1, vR Ω (some a_1)), (3, .int x3), (4, .int x4)]) [0, 1, 3, 4] rfl ?_
      exact t_X0_fits_176 c44 a0 (some a_1) x3 x4 h q hf
    · refine go_aload_n dX0_fits_86 rfl 0 rfl ?_
      refine go_getR dX0_fits_87 fl_845_0 (fun _ _ => rfl) hf (fun r_5 hf => ?_)
      refine go_iload_n dX0_fits_90 rfl 3 rfl ?_
      obtain ⟨a_6, rfl, hga_6⟩ := nn_some hf
      have hf := hga_6
      refine go_laload dX0_fits_91 hf (fun x_7 hf => ?_)
      refine go_ldc2 42 dX0_fits_92 w567 ?_
      refine go_lcmp dX0_fits_95 ?_
      refine go_if_eq (tgt := 116) dX0_fits_96 (by decide) hf (fun hf => ?_) (fun hf => ?_)
      · refine go_iconst 1 dX0_fits_116 rfl ?_
        refine go_goto (tgt := 121) dX0_fits_117 (by decide) ?_
        refine go_sub (lv' := [(0, vR Ω (some a0)), (1, vR Ω (some a_1)), (2, .int x2), (3, .int x3), (4, .int x4), (5, .int x5)]) [0, 1, 2, 3, 4, 5] rfl ?_
        exact t_X0_fits_121 c44 ih a0 (some a_1) x2 x3 x4 x5 1 h q hf
      · refine go_aload_n dX0_fits_99 rfl 0 rfl ?_
        refine go_getR dX0_fits_100 fl_845_0 (fun _ _ => rfl) hf (fun r_8 hf => ?_)
        refine go_iload_n dX0_fits_103 rfl 3 rfl ?_
        obtain ⟨a_9, rfl, hga_9⟩ := nn_some hf
        have hf := hga_9
        refine go_laload dX0_fits_104 hf (fun x_10 hf => ?_)
        refine go_aload_n dX0_fits_105 rfl 1 rfl ?_
        refine go_getR dX0_fits_106 fl_951_0 (fun _ _ => rfl) hf (fun r_11 hf => ?_)
        refine go_iload dX0_fits_109 5 rfl ?_
        obtain ⟨a_12, rfl, hga_12⟩ := nn_some hf
        have hf := hga_12
        refine go_laload dX0_fits_111 hf (fun x_13 hf => ?_)
        refine go_lcmp dX0_fits_112 ?_
        refine go_if_ne (tgt := 120) dX0_fits_113 (by decide) hf (fun hf => ?_) (fun hf => ?_)
        · refine go_iconst 0 dX0_fits_120 rfl ?_
          refine go_sub (lv' := [(0, vR Ω (some a0)), (1, vR Ω (some a_1)), (2, .int x2), (3, .int x3), (4, .int x4), (5, .int x5)]) [0, 1, 2, 3, 4, 5] rfl ?_
          exact t_X0_fits_121 c44 ih a0 (some a_1) x2 x3 x4 x5 0 h q hf
        · refine go_iconst 1 dX0_fits_116 rfl ?_
          refine go_goto (tgt := 121) dX0_fits_117 (by decide) ?_
          refine go_sub (lv' := [(0, vR Ω (some a0)), (1, vR Ω (some a_1)), (2, .int x2), (3, .int x3), (4, .int x4), (5, .int x5)]) [0, 1, 2, 3, 4, 5] rfl ?_
          exact t_X0_fits_121 c44 ih a0 (some a_1) x2 x3 x4 x5 1 h q hf
def f_X0_fits_185 (r1 : Option Nat) (x2 : Int32) (h : AH) : Option (Int32 × AH) := nn r1 fun a_1 =>
  rdR h a_1 5 3 fun r_2 =>
  nn r_2 fun a_3 =>
  aln h a_3 fun x_4 =>
  (if ((x2 >>> (x_4 &&& 31)) &&& 1) = 1 then
    rz 1 (some (1, h))
  else
    rz 0 (some (0, h)))
set_option maxRecDepth 20000 in
set_option maxHeartbeats 4000000 in
theorem t_X0_fits_185 {Ω : Om} (r1 : Option Nat) (x2 : Int32) (h : AH) (q : Int32 × AH) (hf : f_X0_fits_185 r1 x2 h = some q) : Go Ω M_X0_fits 185 [(1, vR Ω r1), (2, .int x2)] [] h (some (.int q.1)) q.2 := by
  unfold f_X0_fits_185 at hf
  refine go_iload_n dX0_fits_185 rfl 1 rfl ?_
  refine go_aload_n dX0_fits_186 rfl 0 rfl ?_
  obtain ⟨a_1, rfl, hga_1⟩ := nn_some hf
  have hf := hga_1
  refine go_getR dX0_fits_187 fl_951_0 (fun _ _ => rfl) hf (fun r_2 hf => ?_)
  obtain ⟨a_3, rfl, hga_3⟩ := nn_some hf
  have hf := hga_3
  refine go_alen dX0_fits_190 hf (fun x_4 hf => ?_)
  refine go_ishr dX0_fits_191 ?_
  refine go_iconst 1 dX0_fits_192 rfl ?_
  refine go_iand dX0_fits_193 ?_
  refine go_iconst 1 dX0_fits_194 rfl ?_
  refine go_icmp_ne (tgt := 202) dX0_fits_195 (by decide) hf (fun hf => ?_) (fun hf => ?_)
  · refine go_iconst 0 dX0_fits_202 rfl ?_
    exact go_zreturn dX0_fits_203 rfl hf
  · refine go_iconst 1 dX0_fits_198 rfl ?_
    refine go_goto (tgt := 203) dX0_fits_199 (by decide) ?_
    exact go_zreturn dX0_fits_203 rfl hf
def f_X0_fits_44 : Nat → Nat → Option Nat → Int32 → Int32 → AH → Option (Int32 × AH)
  | 0, _, _, _, _, _ => none
  | n + 1, a0, r1, x2, x3, h => rdR h a0 1 3 fun r_1 =>
    nn r_1 fun a_2 =>
    aln h a_2 fun x_3 =>
    (if x_3 ≤ x3 then
      f_X0_fits_185 r1 x2 h
    else
      rdR h a0 1 3 fun r_4 =>
      nn r_4 fun a_5 =>
      arJ h a_5 x3 fun x_6 =>
      (if (lg_cmp x_6 35) = 0 then
        f_X0_fits_76 (fun a0 r1 x2 x3 h => f_X0_fits_44 n a0 r1 x2 x3 h) FU a0 r1 x2 x3 x2 0 h
      else
        f_X0_fits_76 (fun a0 r1 x2 x3 h => f_X0_fits_44 n a0 r1 x2 x3 h) FU a0 r1 x2 x3 0 0 h))
set_option maxRecDepth 20000 in
set_option maxHeartbeats 4000000 in
theorem t_X0_fits_44 {Ω : Om} : ∀ (n : Nat) (a0 : Nat) (r1 : Option Nat) (x2 : Int32) (x3 : Int32) (h : AH) (q : Int32 × AH), f_X0_fits_44 n a0 r1 x2 x3 h = some q → Go Ω M_X0_fits 44 [(0, vR Ω (some a0)), (1, vR Ω r1), (2, .int x2), (3, .int x3)] [] h (some (.int q.1)) q.2 := by
  intro n
  induction n with
  | zero => intro a0 r1 x2 x3 h q hf; cases hf
  | succ n ih =>
    intro a0 r1 x2 x3 h q hf
    rw [f_X0_fits_44] at hf
    refine go_iload_n dX0_fits_44 rfl 3 rfl ?_
    refine go_aload_n dX0_fits_45 rfl 0 rfl ?_
    refine go_getR dX0_fits_46 fl_845_0 (fun _ _ => rfl) hf (fun r_1 hf => ?_)
    obtain ⟨a_2, rfl, hga_2⟩ := nn_some hf
    have hf := hga_2
    refine go_alen dX0_fits_49 hf (fun x_3 hf => ?_)
    refine go_icmp_ge (tgt := 185) dX0_fits_50 (by decide) hf (fun hf => ?_) (fun hf => ?_)
    · refine go_sub (lv' := [(1, vR Ω r1), (2, .int x2)]) [1, 2] rfl ?_
      exact t_X0_fits_185 r1 x2 h q hf
    · refine go_aload_n dX0_fits_53 rfl 0 rfl ?_
      refine go_getR dX0_fits_54 fl_845_0 (fun _ _ => rfl) hf (fun r_4 hf => ?_)
      refine go_iload_n dX0_fits_57 rfl 3 rfl ?_
      obtain ⟨a_5, rfl, hga_5⟩ := nn_some hf
      have hf := hga_5
      refine go_laload dX0_fits_58 hf (fun x_6 hf => ?_)
      refine go_ldc2 35 dX0_fits_59 w566 ?_
      refine go_lcmp dX0_fits_62 ?_
      refine go_if_ne (tgt := 70) dX0_fits_63 (by decide) hf (fun hf => ?_) (fun hf => ?_)
      · refine go_iconst 0 dX0_fits_70 rfl ?_
        refine go_istore (i := 4) (lv' := [(4, .int 0), (0, vR Ω (some a0)), (1, vR Ω r1), (2, .int x2), (3, .int x3)]) dX0_fits_71 (by decide) (by first | rfl | simp [catR, catI, catJ]) ?_
        refine go_iconst 0 dX0_fits_73 rfl ?_
        refine go_istore (i := 5) (lv' := [(5, .int 0), (4, .int 0), (0, vR Ω (some a0)), (1, vR Ω r1), (2, .int x2), (3, .int x3)]) dX0_fits_74 (by decide) (by first | rfl | simp [catR, catI, catJ]) ?_
        refine go_sub (lv' := [(0, vR Ω (some a0)), (1, vR Ω r1), (2, .int x2), (3, .int x3), (4, .int 0), (5, .int 0)]) [2, 3, 4, 5, 1, 0] rfl ?_
        exact t_X0_fits_76 ih FU a0 r1 x2 x3 0 0 h q hf
      · refine go_iload_n dX0_fits_66 rfl 2 rfl ?_
        refine go_goto (tgt := 71) dX0_fits_67 (by decide) ?_
        refine go_istore (i := 4) (lv' := [(4, .int x2), (0, vR Ω (some a0)), (1, vR Ω r1), (2, .int x2), (3, .int x3)]) dX0_fits_71 (by decide) (by first | rfl | simp [catR, catI, catJ]) ?_
        refine go_iconst 0 dX0_fits_73 rfl ?_
        refine go_istore (i := 5) (lv' := [(5, .int 0), (4, .int x2), (0, vR Ω (some a0)), (1, vR Ω r1), (2, .int x2), (3, .int x3)]) dX0_fits_74 (by decide) (by first | rfl | simp [catR, catI, catJ]) ?_
        refine go_sub (lv' := [(0, vR Ω (some a0)), (1, vR Ω r1), (2, .int x2), (3, .int x3), (4, .int x2), (5, .int 0)]) [2, 3, 4, 5, 1, 0] rfl ?_
        exact t_X0_fits_76 ih FU a0 r1 x2 x3 x2 0 h q hf
def f_X0_fits (a0 : Nat) (r1 : Option Nat) (h : AH) : Option (Int32 × AH) := rdR h a0 1 1 fun r_1 =>
  nn r_1 fun a_2 =>
  rdI h a_2 6 1 fun x_3 =>
  (if x_3 = 2 then
    f_X0_fits_44 FU a0 r1 1 0 h
  else
    rdR h a0 1 1 fun r_4 =>
    nn r_4 fun a_5 =>
    rdI h a_5 6 1 fun x_6 =>
    (if x_6 = 1 then
      rz 1 (some (1, h))
    else
      nn r1 fun a_7 =>
      rdJ h a_7 5 1 fun x_8 =>
      rdJ h a0 1 2 fun x_9 =>
      (if (lg_cmp x_8 x_9) = 0 then
        rz 1 (some (1, h))
      else
        rz 0 (some (0, h)))))
set_option maxRecDepth 20000 in
set_option maxHeartbeats 4000000 in
theorem t_X0_fits {Ω : Om} (a0 : Nat) (r1 : Option Nat) (h : AH) (q : Int32 × AH) (hf : f_X0_fits a0 r1 h = some q) : Go Ω M_X0_fits 0 (lv_args 0 [vR Ω (some a0), vR Ω r1]) [] h (some (.int q.1)) q.2 := by
  unfold f_X0_fits at hf
  rw [la_R, la_R, la_0]
  refine go_sub (lv' := [(0, vR Ω (some a0)), (1, vR Ω r1)]) [0, 1] rfl ?_
  refine go_aload_n dX0_fits_0 rfl 0 rfl ?_
  refine go_getR dX0_fits_1 fl_841_0 (fun _ _ => rfl) hf (fun r_1 hf => ?_)
  obtain ⟨a_2, rfl, hga_2⟩ := nn_some hf
  have hf := hga_2
  refine go_getI dX0_fits_4 fl_242_0 (fun _ _ => rfl) hf (fun x_3 hf => ?_)
  refine go_iconst 2 dX0_fits_7 rfl ?_
  refine go_icmp_eq (tgt := 40) dX0_fits_8 (by decide) hf (fun hf => ?_) (fun hf => ?_)
  · refine go_iconst 1 dX0_fits_40 rfl ?_
    refine go_istore_n (i := 2) (lv' := [(2, .int 1), (0, vR Ω (some a0)), (1, vR Ω r1)]) dX0_fits_41 rfl (by decide) (by first | rfl | simp [catR, catI, catJ]) ?_
    refine go_iconst 0 dX0_fits_42 rfl ?_
    refine go_istore_n (i := 3) (lv' := [(3, .int 0), (2, .int 1), (0, vR Ω (some a0)), (1, vR Ω r1)]) dX0_fits_43 rfl (by decide) (by first | rfl | simp [catR, catI, catJ]) ?_
    refine go_sub (lv' := [(0, vR Ω (some a0)), (1, vR Ω r1), (2, .int 1), (3, .int 0)]) [2, 3, 1, 0] rfl ?_
    exact t_X0_fits_44 FU a0 r1 1 0 h q hf
  · refine go_aload_n dX0_fits_11 rfl 0 rfl ?_
    refine go_getR dX0_fits_12 fl_841_0 (fun _ _ => rfl) hf (fun r_4 hf => ?_)
    obtain ⟨a_5, rfl, hga_5⟩ := nn_some hf
    have hf := hga_5
    refine go_getI dX0_fits_15 fl_242_0 (fun _ _ => rfl) hf (fun x_6 hf => ?_)
    refine go_iconst 1 dX0_fits_18 rfl ?_
    refine go_icmp_eq (tgt := 34) dX0_fits_19 (by decide) hf (fun hf => ?_) (fun hf => ?_)
    · refine go_iconst 1 dX0_fits_34 rfl ?_
      refine go_goto (tgt := 39) dX0_fits_35 (by decide) ?_
      exact go_zreturn dX0_fits_39 rfl hf
    · refine go_aload_n dX0_fits_22 rfl 1 rfl ?_
      obtain ⟨a_7, rfl, hga_7⟩ := nn_some hf
      have hf := hga_7
      refine go_getJ dX0_fits_23 fl_944_0 (fun _ _ => rfl) hf (fun x_8 hf => ?_)
      refine go_aload_n dX0_fits_26 rfl 0 rfl ?_
      refine go_getJ dX0_fits_27 fl_843_0 (fun _ _ => rfl) hf (fun x_9 hf => ?_)
      refine go_lcmp dX0_fits_30 ?_
      refine go_if_ne (tgt := 38) dX0_fits_31 (by decide) hf (fun hf => ?_) (fun hf => ?_)
      · refine go_iconst 0 dX0_fits_38 rfl ?_
        exact go_zreturn dX0_fits_39 rfl hf
      · refine go_iconst 1 dX0_fits_34 rfl ?_
        refine go_goto (tgt := 39) dX0_fits_35 (by decide) ?_
        exact go_zreturn dX0_fits_39 rfl hf
-- LetterBroker$Office.reaches(LLetterBroker$Draft;LLetterBroker$Queue;)Z
theorem dX8_reaches_0 : decode cX8_reaches 0 = .ok (.aload_n 1, 1) := by decide +kernel
theorem dX8_reaches_1 : decode cX8_reaches 1 = .ok (.getfield 111, 3) := by decide +kernel
theorem dX8_reaches_4 : decode cX8_reaches 4 = .ok (.lconst 0, 1) := by decide +kernel
theorem dX8_reaches_5 : decode cX8_reaches 5 = .ok (.lcmp, 1) := by decide +kernel
theorem dX8_reaches_6 : decode cX8_reaches 6 = .ok (.ifCond .ne 21, 3) := by decide +kernel
theorem dX8_reaches_9 : decode cX8_reaches 9 = .ok (.aload_n 1, 1) := by decide +kernel
theorem dX8_reaches_10 : decode cX8_reaches 10 = .ok (.getfield 115, 3) := by decide +kernel
theorem dX8_reaches_13 : decode cX8_reaches 13 = .ok (.aload_n 2, 1) := by decide +kernel
theorem dX8_reaches_14 : decode cX8_reaches 14 = .ok (.getfield 52, 3) := by decide +kernel
theorem dX8_reaches_17 : decode cX8_reaches 17 = .ok (.lcmp, 1) := by decide +kernel
theorem dX8_reaches_18 : decode cX8_reaches 18 = .ok (.ifCond .ne 7, 3) := by decide +kernel
theorem dX8_reaches_21 : decode cX8_reaches 21 = .ok (.iconst 1, 1) := by decide +kernel
theorem dX8_reaches_22 : decode cX8_reaches 22 = .ok (.goto 4, 3) := by decide +kernel
theorem dX8_reaches_25 : decode cX8_reaches 25 = .ok (.iconst 0, 1) := by decide +kernel
theorem dX8_reaches_26 : decode cX8_reaches 26 = .ok (.ireturn, 1) := by decide +kernel
theorem dX8_reaches_27 : decode cX8_reaches 27 = .ok (.iconst 0, 1) := by decide +kernel
theorem dX8_reaches_28 : decode cX8_reaches 28 = .ok (.istore_n 3, 1) := by decide +kernel
theorem dX8_reaches_29 : decode cX8_reaches 29 = .ok (.iload_n 3, 1) := by decide +kernel
theorem dX8_reaches_30 : decode cX8_reaches 30 = .ok (.aload_n 0, 1) := by decide +kernel
theorem dX8_reaches_31 : decode cX8_reaches 31 = .ok (.getfield 21, 3) := by decide +kernel
theorem dX8_reaches_34 : decode cX8_reaches 34 = .ok (.invokeinterface 38 1, 5) := by decide +kernel
theorem dX8_reaches_39 : decode cX8_reaches 39 = .ok (.if_icmp .ge 60, 3) := by decide +kernel
theorem dX8_reaches_42 : decode cX8_reaches 42 = .ok (.aload_n 0, 1) := by decide +kernel
theorem dX8_reaches_43 : decode cX8_reaches 43 = .ok (.getfield 21, 3) := by decide +kernel
theorem dX8_reaches_46 : decode cX8_reaches 46 = .ok (.iload_n 3, 1) := by decide +kernel
theorem dX8_reaches_47 : decode cX8_reaches 47 = .ok (.invokeinterface 42 2, 5) := by decide +kernel
theorem dX8_reaches_52 : decode cX8_reaches 52 = .ok (.checkcast 53, 3) := by decide +kernel
theorem dX8_reaches_55 : decode cX8_reaches 55 = .ok (.astore 4, 2) := by decide +kernel
theorem dX8_reaches_57 : decode cX8_reaches 57 = .ok (.aload 4, 2) := by decide +kernel
theorem dX8_reaches_59 : decode cX8_reaches 59 = .ok (.getfield 55, 3) := by decide +kernel
theorem dX8_reaches_62 : decode cX8_reaches 62 = .ok (.aload_n 2, 1) := by decide +kernel
theorem dX8_reaches_63 : decode cX8_reaches 63 = .ok (.if_acmp .ne 30, 3) := by decide +kernel
theorem dX8_reaches_66 : decode cX8_reaches 66 = .ok (.aload 4, 2) := by decide +kernel
theorem dX8_reaches_68 : decode cX8_reaches 68 = .ok (.getfield 59, 3) := by decide +kernel
theorem dX8_reaches_71 : decode cX8_reaches 71 = .ok (.getfield 46, 3) := by decide +kernel
theorem dX8_reaches_74 : decode cX8_reaches 74 = .ok (.aload_n 1, 1) := by decide +kernel
theorem dX8_reaches_75 : decode cX8_reaches 75 = .ok (.getfield 111, 3) := by decide +kernel
theorem dX8_reaches_78 : decode cX8_reaches 78 = .ok (.lcmp, 1) := by decide +kernel
theorem dX8_reaches_79 : decode cX8_reaches 79 = .ok (.ifCond .ne 14, 3) := by decide +kernel
theorem dX8_reaches_82 : decode cX8_reaches 82 = .ok (.aload 4, 2) := by decide +kernel
theorem dX8_reaches_84 : decode cX8_reaches 84 = .ok (.aload_n 1, 1) := by decide +kernel
theorem dX8_reaches_85 : decode cX8_reaches 85 = .ok (.invokevirtual 116, 3) := by decide +kernel
theorem dX8_reaches_88 : decode cX8_reaches 88 = .ok (.ifCond .eq 5, 3) := by decide +kernel
theorem dX8_reaches_91 : decode cX8_reaches 91 = .ok (.iconst 1, 1) := by decide +kernel
theorem dX8_reaches_92 : decode cX8_reaches 92 = .ok (.ireturn, 1) := by decide +kernel
theorem dX8_reaches_93 : decode cX8_reaches 93 = .ok (.iinc 3 1, 3) := by decide +kernel
theorem dX8_reaches_96 : decode cX8_reaches 96 = .ok (.goto (-67), 3) := by decide +kernel
theorem dX8_reaches_99 : decode cX8_reaches 99 = .ok (.iconst 0, 1) := by decide +kernel
theorem dX8_reaches_100 : decode cX8_reaches 100 = .ok (.ireturn, 1) := by decide +kernel
def f_X8_reaches_93 (k29 : Nat → Option Nat → Option Nat → Int32 → AH → Option (Int32 × AH)) (a0 : Nat) (r1 : Option Nat) (r2 : Option Nat) (x3 : Int32) (h : AH) : Option (Int32 × AH) := k29 a0 r1 r2 (x3 + 1) h
set_option maxRecDepth 20000 in
set_option maxHeartbeats 4000000 in
theorem t_X8_reaches_93 {Ω : Om} {k29 : Nat → Option Nat → Option Nat → Int32 → AH → Option (Int32 × AH)} (c29 : ∀ (a0 : Nat) (r1 : Option Nat) (r2 : Option Nat) (x3 : Int32) (h : AH) (q : Int32 × AH), k29 a0 r1 r2 x3 h = some q → Go Ω M_X8_reaches 29 [(0, vR Ω (some a0)), (1, vR Ω r1), (2, vR Ω r2), (3, .int x3)] [] h (some (.int q.1)) q.2) (a0 : Nat) (r1 : Option Nat) (r2 : Option Nat) (x3 : Int32) (h : AH) (q : Int32 × AH) (hf : f_X8_reaches_93 k29 a0 r1 r2 x3 h = some q) : Go Ω M_X8_reaches 93 [(0, vR Ω (some a0)), (1, vR Ω r1), (2, vR Ω r2), (3, .int x3)] [] h (some (.int q.1)) q.2 := by
  unfold f_X8_reaches_93 at hf
  refine go_iinc (j := 3) (v := x3 + 1) (lv' := [(3, .int (x3 + 1)), (0, vR Ω (some a0)), (1, vR Ω r1), (2, vR Ω r2)]) dX8_reaches_93 rfl rfl (by decide) (by first | rfl | simp [catR, catI, catJ]) ?_
  refine go_goto (tgt := 29) dX8_reaches_96 (by decide) ?_
  refine go_sub (lv' := [(0, vR Ω (some a0)), (1, vR Ω r1), (2, vR Ω r2), (3, .int (x3 + 1))]) [1, 2, 3, 0] rfl ?_
  exact c29 a0 r1 r2 (x3 + 1) h q hf
def f_X8_reaches_29 : Nat → Nat → Option Nat → Option Nat → Int32 → AH → Option (Int32 × AH)
  | 0, _, _, _, _, _ => none
  | n + 1, a0, r1, r2, x3, h => rdR h a0 9 2 fun r_1 =>
    nn r_1 fun a_2 =>
    kg h a_2 0 (bd (f_Jx4a65c_size_8abf5 a_2 h) fun x_5 h_4 =>
    (if x_5 ≤ x3 then
      rz 0 (some (0, h_4))
    else
      rdR h_4 a0 9 2 fun r_6 =>
      nn r_6 fun a_7 =>
      kg h_4 a_7 0 (bd (f_Jx4a65c_get_915e3 a_7 x3 h_4) fun r_10 h_9 =>
      ckc h_9 r_10 1 (
      nn r_10 fun a_11 =>
      rdR h_9 a_11 1 0 fun r_12 =>
      aq r_12 r2
        (rdR h_9 a_11 1 1 fun r_13 =>
        nn r_13 fun a_14 =>
        rdJ h_9 a_14 6 0 fun x_15 =>
        nn r1 fun a_16 =>
        rdJ h_9 a_16 5 0 fun x_17 =>
        (if (lg_cmp x_15 x_17) = 0 then
          kg h_9 a_11 1 (bd (f_X0_fits a_11 (some a_16) h_9) fun x_20 h_19 =>
          (if x_20 = 0 then
            f_X8_reaches_93 (fun a0 r1 r2 x3 h => f_X8_reaches_29 n a0 r1 r2 x3 h) a0 (some a_16) r2 x3 h_19
          else
            rz 1 (some (1, h_19))))
        else
          f_X8_reaches_93 (fun a0 r1 r2 x3 h => f_X8_reaches_29 n a0 r1 r2 x3 h) a0 (some a_16) r2 x3 h_9))
        (f_X8_reaches_93 (fun a0 r1 r2 x3 h => f_X8_reaches_29 n a0 r1 r2 x3 h) a0 r1 r2 x3 h_9)))))
set_option maxRecDepth 20000 in
set_option maxHeartbeats 4000000 in
theorem t_X8_reaches_29 {Ω : Om} : ∀ (n : Nat) (a0 : Nat) (r1 : Option Nat) (r2 : Option Nat) (x3 : Int32) (h : AH) (q : Int32 × AH), f_X8_reaches_29 n a0 r1 r2 x3 h = some q → Go Ω M_X8_reaches 29 [(0, vR Ω (some a0)), (1, vR Ω r1), (2, vR Ω r2), (3, .int x3)] [] h (some (.int q.1)) q.2 := by
  intro n
  induction n with
  | zero => intro a0 r1 r2 x3 h q hf; cases hf
  | succ n ih =>
    intro a0 r1 r2 x3 h q hf
    rw [f_X8_reaches_29] at hf
    refine go_iload_n dX8_reaches_29 rfl 3 rfl ?_
    refine go_aload_n dX8_reaches_30 rfl 0 rfl ?_
    refine go_getR dX8_reaches_31 fl_320_0 (fun _ _ => rfl) hf (fun r_1 hf => ?_)
    obtain ⟨a_2, rfl, hga_2⟩ := nn_some hf
    have hf := hga_2
    obtain ⟨hk, hf⟩ := kg_some hf
    obtain ⟨z_3, hc, hf⟩ := bd_some hf
    refine go_callF (y2 := M_Jx4a65c_size_8abf5) (x2 := ⟨"java/util/List", "size", "()I"⟩) dX8_reaches_34 mo_Jx4a65c_size_8abf5 ⟨Nat.le_of_ble_eq_true rfl, Nat.le_of_ble_eq_true rfl⟩ na_Jx4a65c_size_8abf5 w536 w522 w520 (by decide) (fun U hU => hU.2.2.2.2.1) hk [] rfl (n_Jx4a65c_size_8abf5 (a_2)) rfl (csum (Nat.le_of_ble_eq_true rfl)) (t_Jx4a65c_size_8abf5 (a_2) h _ hc) ?_
    obtain ⟨x_5, h_4⟩ := z_3
    refine go_icmp_ge (tgt := 99) dX8_reaches_39 (by decide) hf (fun hf => ?_) (fun hf => ?_)
    · refine go_iconst 0 dX8_reaches_99 rfl ?_
      exact go_zreturn dX8_reaches_100 rfl hf
    · refine go_aload_n dX8_reaches_42 rfl 0 rfl ?_
      refine go_getR dX8_reaches_43 fl_320_0 (fun _ _ => rfl) hf (fun r_6 hf => ?_)
      refine go_iload_n dX8_reaches_46 rfl 3 rfl ?_
      obtain ⟨a_7, rfl, hga_7⟩ := nn_some hf
      have hf := hga_7
      obtain ⟨hk, hf⟩ := kg_some hf
      obtain ⟨z_8, hc, hf⟩ := bd_some hf
      refine go_callF (y2 := M_Jx4a65c_get_915e3) (x2 := ⟨"java/util/List", "get", "(I)Ljava/lang/Object;"⟩) dX8_reaches_47 mo_Jx4a65c_get_915e3 ⟨Nat.le_of_ble_eq_true rfl, Nat.le_of_ble_eq_true rfl⟩ na_Jx4a65c_get_915e3 w538 w543 w541 (by decide) (fun U hU => hU.2.2.1) hk [.int x3] rfl (n_Jx4a65c_get_915e3 (a_7) x3) rfl (csum (Nat.le_of_ble_eq_true rfl)) (t_Jx4a65c_get_915e3 (a_7) x3 h_4 _ hc) ?_
      obtain ⟨r_10, h_9⟩ := z_8
      refine go_cast (c := 1) dX8_reaches_52 (by decide) rfl w561 hf (fun hf => ?_)
      refine go_astore (i := 4) (lv' := [(4, vR Ω r_10), (0, vR Ω (some a0)), (1, vR Ω r1), (2, vR Ω r2), (3, .int x3)]) dX8_reaches_55 (by decide) (by first | rfl | simp [catR, catI, catJ]) ?_
      refine go_aload dX8_reaches_57 0 rfl ?_
      obtain ⟨a_11, rfl, hga_11⟩ := nn_some hf
      have hf := hga_11
      refine go_getR dX8_reaches_59 fl_840_0 (fun _ _ => rfl) hf (fun r_12 hf => ?_)
      refine go_aload_n dX8_reaches_62 rfl 3 rfl ?_
      refine go_acmp_ne (tgt := 93) dX8_reaches_63 (by decide) hf (fun hf => ?_) (fun hf => ?_)
      · refine go_sub (lv' := [(0, vR Ω (some a0)), (1, vR Ω r1), (2, vR Ω r2), (3, .int x3)]) [1, 2, 3, 4] rfl ?_
        exact t_X8_reaches_93 ih a0 r1 r2 x3 h_9 q hf
      · refine go_aload dX8_reaches_66 0 rfl ?_
        refine go_getR dX8_reaches_68 fl_842_0 (fun _ _ => rfl) hf (fun r_13 hf => ?_)
        obtain ⟨a_14, rfl, hga_14⟩ := nn_some hf
        have hf := hga_14
        refine go_getJ dX8_reaches_71 fl_239_0 (fun _ _ => rfl) hf (fun x_15 hf => ?_)
        refine go_aload_n dX8_reaches_74 rfl 2 rfl ?_
        obtain ⟨a_16, rfl, hga_16⟩ := nn_some hf
        have hf := hga_16
        refine go_getJ dX8_reaches_75 fl_941_0 (fun _ _ => rfl) hf (fun x_17 hf => ?_)
        refine go_lcmp dX8_reaches_78 ?_
        refine go_if_ne (tgt := 93) dX8_reaches_79 (by decide) hf (fun hf => ?_) (fun hf => ?_)
        · refine go_sub (lv' := [(0, vR Ω (some a0)), (1, vR Ω (some a_16)), (2, vR Ω r2), (3, .int x3)]) [1, 2, 3, 4] rfl ?_
          exact t_X8_reaches_93 ih a0 (some a_16) r2 x3 h_9 q hf
        · refine go_aload dX8_reaches_82 0 rfl ?_
          refine go_aload_n dX8_reaches_84 rfl 2 rfl ?_
          obtain ⟨hk, hf⟩ := kg_some hf
          obtain ⟨z_18, hc, hf⟩ := bd_some hf
          refine go_callV (y2 := M_X0_fits) (c2 := 1) dX8_reaches_85 mo_X0_fits ⟨Nat.le_of_ble_eq_true rfl, Nat.le_of_ble_eq_true rfl⟩ na_X0_fits w562 w563 (by decide) rfl w564 hk [vR Ω (some a_16)] rfl (n_X0_fits (a_11) (some a_16)) rfl (csum (Nat.le_of_ble_eq_true rfl)) (t_X0_fits (a_11) (some a_16) h_9 _ hc) ?_
          obtain ⟨x_20, h_19⟩ := z_18
          refine go_if_eq (tgt := 93) dX8_reaches_88 (by decide) hf (fun hf => ?_) (fun hf => ?_)
          · refine go_sub (lv' := [(0, vR Ω (some a0)), (1, vR Ω (some a_16)), (2, vR Ω r2), (3, .int x3)]) [1, 2, 3, 4] rfl ?_
            exact t_X8_reaches_93 ih a0 (some a_16) r2 x3 h_19 q hf
          · refine go_iconst 1 dX8_reaches_91 rfl ?_
            exact go_zreturn dX8_reaches_92 rfl hf
def f_X8_reaches (a0 : Nat) (r1 : Option Nat) (r2 : Option Nat) (h : AH) : Option (Int32 × AH) := nn r1 fun a_1 =>
  rdJ h a_1 5 0 fun x_2 =>
  (if (lg_cmp x_2 0) = 0 then
    rdJ h a_1 5 1 fun x_3 =>
    nn r2 fun a_4 =>
    rdJ h a_4 11 0 fun x_5 =>
    (if (lg_cmp x_3 x_5) = 0 then
      rz 1 (some (1, h))
    else
      rz 0 (some (0, h)))
  else
    f_X8_reaches_29 FU a0 (some a_1) r2 0 h)
set_option maxRecDepth 20000 in
set_option maxHeartbeats 4000000 in
theorem t_X8_reaches {Ω : Om} (a0 : Nat) (r1 : Option Nat) (r2 : Option Nat) (h : AH) (q : Int32 × AH) (hf : f_X8_reaches a0 r1 r2 h = some q) : Go Ω M_X8_reaches 0 (lv_args 0 [vR Ω (some a0), vR Ω r1, vR Ω r2]) [] h (some (.int q.1)) q.2 := by
  unfold f_X8_reaches at hf
  rw [la_R, la_R, la_R, la_0]
  refine go_sub (lv' := [(0, vR Ω (some a0)), (1, vR Ω r1), (2, vR Ω r2)]) [0, 1, 2] rfl ?_
  refine go_aload_n dX8_reaches_0 rfl 1 rfl ?_
  obtain ⟨a_1, rfl, hga_1⟩ := nn_some hf
  have hf := hga_1
  refine go_getJ dX8_reaches_1 fl_941_0 (fun _ _ => rfl) hf (fun x_2 hf => ?_)
  refine go_lconst 0 dX8_reaches_4 rfl ?_
  refine go_lcmp dX8_reaches_5 ?_
  refine go_if_ne (tgt := 27) dX8_reaches_6 (by decide) hf (fun hf => ?_) (fun hf => ?_)
  · refine go_iconst 0 dX8_reaches_27 rfl ?_
    refine go_istore_n (i := 3) (lv' := [(3, .int 0), (0, vR Ω (some a0)), (1, vR Ω (some a_1)), (2, vR Ω r2)]) dX8_reaches_28 rfl (by decide) (by first | rfl | simp [catR, catI, catJ]) ?_
    refine go_sub (lv' := [(0, vR Ω (some a0)), (1, vR Ω (some a_1)), (2, vR Ω r2), (3, .int 0)]) [1, 2, 3, 0] rfl ?_
    exact t_X8_reaches_29 FU a0 (some a_1) r2 0 h q hf
  · refine go_aload_n dX8_reaches_9 rfl 1 rfl ?_
    refine go_getJ dX8_reaches_10 fl_946_0 (fun _ _ => rfl) hf (fun x_3 hf => ?_)
    refine go_aload_n dX8_reaches_13 rfl 2 rfl ?_
    obtain ⟨a_4, rfl, hga_4⟩ := nn_some hf
    have hf := hga_4
    refine go_getJ dX8_reaches_14 fl_801_0 (fun _ _ => rfl) hf (fun x_5 hf => ?_)
    refine go_lcmp dX8_reaches_17 ?_
    refine go_if_ne (tgt := 25) dX8_reaches_18 (by decide) hf (fun hf => ?_) (fun hf => ?_)
    · refine go_iconst 0 dX8_reaches_25 rfl ?_
      exact go_zreturn dX8_reaches_26 rfl hf
    · refine go_iconst 1 dX8_reaches_21 rfl ?_
      refine go_goto (tgt := 26) dX8_reaches_22 (by decide) ?_
      exact go_zreturn dX8_reaches_26 rfl hf
-- LetterBroker$Office.placesReachedBy(LLetterBroker$Draft;)I
theorem dX8_placesReachedBy_0 : decode cX8_placesReachedBy 0 = .ok (.iconst 0, 1) := by decide +kernel
theorem dX8_placesReachedBy_1 : decode cX8_placesReachedBy 1 = .ok (.istore_n 2, 1) := by decide +kernel
theorem dX8_placesReachedBy_2 : decode cX8_placesReachedBy 2 = .ok (.iconst 0, 1) := by decide +kernel
theorem dX8_placesReachedBy_3 : decode cX8_placesReachedBy 3 = .ok (.istore_n 3, 1) := by decide +kernel
theorem dX8_placesReachedBy_4 : decode cX8_placesReachedBy 4 = .ok (.iload_n 3, 1) := by decide +kernel
theorem dX8_placesReachedBy_5 : decode cX8_placesReachedBy 5 = .ok (.aload_n 0, 1) := by decide +kernel
theorem dX8_placesReachedBy_6 : decode cX8_placesReachedBy 6 = .ok (.getfield 18, 3) := by decide +kernel
theorem dX8_placesReachedBy_9 : decode cX8_placesReachedBy 9 = .ok (.invokeinterface 38 1, 5) := by decide +kernel
theorem dX8_placesReachedBy_14 : decode cX8_placesReachedBy 14 = .ok (.if_icmp .ge 36, 3) := by decide +kernel
theorem dX8_placesReachedBy_17 : decode cX8_placesReachedBy 17 = .ok (.aload_n 0, 1) := by decide +kernel
theorem dX8_placesReachedBy_18 : decode cX8_placesReachedBy 18 = .ok (.aload_n 1, 1) := by decide +kernel
theorem dX8_placesReachedBy_19 : decode cX8_placesReachedBy 19 = .ok (.aload_n 0, 1) := by decide +kernel
theorem dX8_placesReachedBy_20 : decode cX8_placesReachedBy 20 = .ok (.getfield 18, 3) := by decide +kernel
theorem dX8_placesReachedBy_23 : decode cX8_placesReachedBy 23 = .ok (.iload_n 3, 1) := by decide +kernel
theorem dX8_placesReachedBy_24 : decode cX8_placesReachedBy 24 = .ok (.invokeinterface 42 2, 5) := by decide +kernel
theorem dX8_placesReachedBy_29 : decode cX8_placesReachedBy 29 = .ok (.checkcast 50, 3) := by decide +kernel
theorem dX8_placesReachedBy_32 : decode cX8_placesReachedBy 32 = .ok (.invokevirtual 99, 3) := by decide +kernel
theorem dX8_placesReachedBy_35 : decode cX8_placesReachedBy 35 = .ok (.ifCond .eq 9, 3) := by decide +kernel
theorem dX8_placesReachedBy_38 : decode cX8_placesReachedBy 38 = .ok (.iload_n 2, 1) := by decide +kernel
theorem dX8_placesReachedBy_39 : decode cX8_placesReachedBy 39 = .ok (.iconst 1, 1) := by decide +kernel
theorem dX8_placesReachedBy_40 : decode cX8_placesReachedBy 40 = .ok (.iload_n 3, 1) := by decide +kernel
theorem dX8_placesReachedBy_41 : decode cX8_placesReachedBy 41 = .ok (.ishl, 1) := by decide +kernel
theorem dX8_placesReachedBy_42 : decode cX8_placesReachedBy 42 = .ok (.ior, 1) := by decide +kernel
theorem dX8_placesReachedBy_43 : decode cX8_placesReachedBy 43 = .ok (.istore_n 2, 1) := by decide +kernel
theorem dX8_placesReachedBy_44 : decode cX8_placesReachedBy 44 = .ok (.iinc 3 1, 3) := by decide +kernel
theorem dX8_placesReachedBy_47 : decode cX8_placesReachedBy 47 = .ok (.goto (-43), 3) := by decide +kernel
theorem dX8_placesReachedBy_50 : decode cX8_placesReachedBy 50 = .ok (.iload_n 2, 1) := by decide +kernel
theorem dX8_placesReachedBy_51 : decode cX8_placesReachedBy 51 = .ok (.ireturn, 1) := by decide +kernel
def f_X8_placesReachedBy_44 (k4 : Nat → Option Nat → Int32 → Int32 → AH → Option (Int32 × AH)) (a0 : Nat) (r1 : Option Nat) (x2 : Int32) (x3 : Int32) (h : AH) : Option (Int32 × AH) := k4 a0 r1 x2 (x3 + 1) h
set_option maxRecDepth 20000 in
set_option maxHeartbeats 4000000 in
theorem t_X8_placesReachedBy_44 {Ω : Om} {k4 : Nat → Option Nat → Int32 → Int32 → AH → Option (Int32 × AH)} (c4 : ∀ (a0 : Nat) (r1 : Option Nat) (x2 : Int32) (x3 : Int32) (h : AH) (q : Int32 × AH), k4 a0 r1 x2 x3 h = some q → Go Ω M_X8_placesReachedBy 4 [(0, vR Ω (some a0)), (1, vR Ω r1), (2, .int x2), (3, .int x3)] [] h (some (.int q.1)) q.2) (a0 : Nat) (r1 : Option Nat) (x2 : Int32) (x3 : Int32) (h : AH) (q : Int32 × AH) (hf : f_X8_placesReachedBy_44 k4 a0 r1 x2 x3 h = some q) : Go Ω M_X8_placesReachedBy 44 [(0, vR Ω (some a0)), (1, vR Ω r1), (2, .int x2), (3, .int x3)] [] h (some (.int q.1)) q.2 := by
  unfold f_X8_placesReachedBy_44 at hf
  refine go_iinc (j := 3) (v := x3 + 1) (lv' := [(3, .int (x3 + 1)), (0, vR Ω (some a0)), (1, vR Ω r1), (2, .int x2)]) dX8_placesReachedBy_44 rfl rfl (by decide) (by first | rfl | simp [catR, catI, catJ]) ?_
  refine go_goto (tgt := 4) dX8_placesReachedBy_47 (by decide) ?_
  refine go_sub (lv' := [(0, vR Ω (some a0)), (1, vR Ω r1), (2, .int x2), (3, .int (x3 + 1))]) [1, 2, 3, 0] rfl ?_
  exact c4 a0 r1 x2 (x3 + 1) h q hf
def f_X8_placesReachedBy_4 : Nat → Nat → Option Nat → Int32 → Int32 → AH → Option (Int32 × AH)
  | 0, _, _, _, _, _ => none
  | n + 1, a0, r1, x2, x3, h => rdR h a0 9 1 fun r_1 =>
    nn r_1 fun a_2 =>
    kg h a_2 0 (bd (f_Jx4a65c_size_8abf5 a_2 h) fun x_5 h_4 =>
    (if x_5 ≤ x3 then
      some (x2, h_4)
    else
      rdR h_4 a0 9 1 fun r_6 =>
      nn r_6 fun a_7 =>
      kg h_4 a_7 0 (bd (f_Jx4a65c_get_915e3 a_7 x3 h_4) fun r_10 h_9 =>
      ckc h_9 r_10 11 (
      kg h_9 a0 9 (bd (f_X8_reaches a0 r1 r_10 h_9) fun x_13 h_12 =>
      (if x_13 = 0 then
        f_X8_placesReachedBy_44 (fun a0 r1 x2 x3 h => f_X8_placesReachedBy_4 n a0 r1 x2 x3 h) a0 r1 x2 x3 h_12
      else
        lt (x2 ||| ((1 : Int32) <<< (x3 &&& 31))) fun x_14 =>
        f_X8_placesReachedBy_44 (fun a0 r1 x2 x3 h => f_X8_placesReachedBy_4 n a0 r1 x2 x3 h) a0 r1 x_14 x3 h_12))))))
set_option maxRecDepth 20000 in
set_option maxHeartbeats 4000000 in
theorem t_X8_placesReachedBy_4 {Ω : Om} : ∀ (n : Nat) (a0 : Nat) (r1 : Option Nat) (x2 : Int32) (x3 : Int32) (h : AH) (q : Int32 × AH), f_X8_placesReachedBy_4 n a0 r1 x2 x3 h = some q → Go Ω M_X8_placesReachedBy 4 [(0, vR Ω (some a0)), (1, vR Ω r1), (2, .int x2), (3, .int x3)] [] h (some (.int q.1)) q.2 := by
  intro n
  induction n with
  | zero => intro a0 r1 x2 x3 h q hf; cases hf
  | succ n ih =>
    intro a0 r1 x2 x3 h q hf
    rw [f_X8_placesReachedBy_4] at hf
    refine go_iload_n dX8_placesReachedBy_4 rfl 3 rfl ?_
    refine go_aload_n dX8_placesReachedBy_5 rfl 0 rfl ?_
    refine go_getR dX8_placesReachedBy_6 fl_318_0 (fun _ _ => rfl) hf (fun r_1 hf => ?_)
    obtain ⟨a_2, rfl, hga_2⟩ := nn_some hf
    have hf := hga_2
    obtain ⟨hk, hf⟩ := kg_some hf
    obtain ⟨z_3, hc, hf⟩ := bd_some hf
    refine go_callF (y2 := M_Jx4a65c_size_8abf5) (x2 := ⟨"java/util/List", "size", "()I"⟩) dX8_placesReachedBy_9 mo_Jx4a65c_size_8abf5 ⟨Nat.le_of_ble_eq_true rfl, Nat.le_of_ble_eq_true rfl⟩ na_Jx4a65c_size_8abf5 w536 w522 w520 (by decide) (fun U hU => hU.2.2.2.2.1) hk [] rfl (n_Jx4a65c_size_8abf5 (a_2)) rfl (csum (Nat.le_of_ble_eq_true rfl)) (t_Jx4a65c_size_8abf5 (a_2) h _ hc) ?_
    obtain ⟨x_5, h_4⟩ := z_3
    refine go_icmp_ge (tgt := 50) dX8_placesReachedBy_14 (by decide) hf (fun hf => ?_) (fun hf => ?_)
    · refine go_iload_n dX8_placesReachedBy_50 rfl 2 rfl ?_
      exact go_ireturn dX8_placesReachedBy_51 rfl hf
    · refine go_aload_n dX8_placesReachedBy_17 rfl 0 rfl ?_
      refine go_aload_n dX8_placesReachedBy_18 rfl 1 rfl ?_
      refine go_aload_n dX8_placesReachedBy_19 rfl 0 rfl ?_
      refine go_getR dX8_placesReachedBy_20 fl_318_0 (fun _ _ => rfl) hf (fun r_6 hf => ?_)
      refine go_iload_n dX8_placesReachedBy_23 rfl 3 rfl ?_
      obtain ⟨a_7, rfl, hga_7⟩ := nn_some hf
      have hf := hga_7
      obtain ⟨hk, hf⟩ := kg_some hf
      obtain ⟨z_8, hc, hf⟩ := bd_some hf
      refine go_callF (y2 := M_Jx4a65c_get_915e3) (x2 := ⟨"java/util/List", "get", "(I)Ljava/lang/Object;"⟩) dX8_placesReachedBy_24 mo_Jx4a65c_get_915e3 ⟨Nat.le_of_ble_eq_true rfl, Nat.le_of_ble_eq_true rfl⟩ na_Jx4a65c_get_915e3 w538 w543 w541 (by decide) (fun U hU => hU.2.2.1) hk [.int x3] rfl (n_Jx4a65c_get_915e3 (a_7) x3) rfl (csum (Nat.le_of_ble_eq_true rfl)) (t_Jx4a65c_get_915e3 (a_7) x3 h_4 _ hc) ?_
      obtain ⟨r_10, h_9⟩ := z_8
      refine go_cast (c := 11) dX8_placesReachedBy_29 (by decide) rfl w556 hf (fun hf => ?_)
      obtain ⟨hk, hf⟩ := kg_some hf
      obtain ⟨z_11, hc, hf⟩ := bd_some hf
      refine go_callV (y2 := M_X8_reaches) (c2 := 9) dX8_placesReachedBy_32 mo_X8_reaches ⟨Nat.le_of_ble_eq_true rfl, Nat.le_of_ble_eq_true rfl⟩ na_X8_reaches w557 w559 (by decide) rfl w11 hk [vR Ω r1, vR Ω r_10] rfl (n_X8_reaches (a0) r1 r_10) rfl (csum (Nat.le_of_ble_eq_true rfl)) (t_X8_reaches (a0) r1 r_10 h_9 _ hc) ?_
      obtain ⟨x_13, h_12⟩ := z_11
      refine go_if_eq (tgt := 44) dX8_placesReachedBy_35 (by decide) hf (fun hf => ?_) (fun hf => ?_)
      · refine go_sub (lv' := [(0, vR Ω (some a0)), (1, vR Ω r1), (2, .int x2), (3, .int x3)]) [0, 1, 2, 3] rfl ?_
        exact t_X8_placesReachedBy_44 ih a0 r1 x2 x3 h_12 q hf
      · refine go_iload_n dX8_placesReachedBy_38 rfl 2 rfl ?_
        refine go_iconst 1 dX8_placesReachedBy_39 rfl ?_
        refine go_iload_n dX8_placesReachedBy_40 rfl 3 rfl ?_
        refine go_ishl dX8_placesReachedBy_41 ?_
        refine go_ior dX8_placesReachedBy_42 ?_
        refine lt_I hf (fun x_14 hf => ?_)
        refine go_istore_n (i := 2) (lv' := [(2, .int x_14), (0, vR Ω (some a0)), (1, vR Ω r1), (3, .int x3)]) dX8_placesReachedBy_43 rfl (by decide) (by first | rfl | simp [catR, catI, catJ]) ?_
        refine go_sub (lv' := [(0, vR Ω (some a0)), (1, vR Ω r1), (2, .int x_14), (3, .int x3)]) [1, 2, 0, 3] rfl ?_
        exact t_X8_placesReachedBy_44 ih a0 r1 x_14 x3 h_12 q hf
def f_X8_placesReachedBy (a0 : Nat) (r1 : Option Nat) (h : AH) : Option (Int32 × AH) := f_X8_placesReachedBy_4 FU a0 r1 0 0 h
set_option maxRecDepth 20000 in
set_option maxHeartbeats 4000000 in
theorem t_X8_placesReachedBy {Ω : Om} (a0 : Nat) (r1 : Option Nat) (h : AH) (q : Int32 × AH) (hf : f_X8_placesReachedBy a0 r1 h = some q) : Go Ω M_X8_placesReachedBy 0 (lv_args 0 [vR Ω (some a0), vR Ω r1]) [] h (some (.int q.1)) q.2 := by
  unfold f_X8_placesReachedBy at hf
  rw [la_R, la_R, la_0]
  refine go_sub (lv' := [(0, vR Ω (some a0)), (1, vR Ω r1)]) [0, 1] rfl ?_
  refine go_iconst 0 dX8_placesReachedBy_0 rfl ?_
  refine go_istore_n (i := 2) (lv' := [(2, .int 0), (0, vR Ω (some a0)), (1, vR Ω r1)]) dX8_placesReachedBy_1 rfl (by decide) (by first | rfl | simp [catR, catI, catJ]) ?_
  refine go_iconst 0 dX8_placesReachedBy_2 rfl ?_
  refine go_istore_n (i := 3) (lv' := [(3, .int 0), (2, .int 0), (0, vR Ω (some a0)), (1, vR Ω r1)]) dX8_placesReachedBy_3 rfl (by decide) (by first | rfl | simp [catR, catI, catJ]) ?_
  refine go_sub (lv' := [(0, vR Ω (some a0)), (1, vR Ω r1), (2, .int 0), (3, .int 0)]) [2, 3, 1, 0] rfl ?_
  exact t_X8_placesReachedBy_4 FU a0 r1 0 0 h q hf
-- LetterBroker$Letter.<init>(LLetterBroker$Draft;LLetterBroker$Queue;I)V
theorem dX7_init_0 : decode cX7_init 0 = .ok (.aload_n 0, 1) := by decide +kernel
theorem dX7_init_1 : decode cX7_init 1 = .ok (.invokespecial 1, 3) := by decide +kernel
theorem dX7_init_4 : decode cX7_init 4 = .ok (.aload_n 0, 1) := by decide +kernel
theorem dX7_init_5 : decode cX7_init 5 = .ok (.aload_n 1, 1) := by decide +kernel
theorem dX7_init_6 : decode cX7_init 6 = .ok (.putfield 7, 3) := by decide +kernel
theorem dX7_init_9 : decode cX7_init 9 = .ok (.aload_n 0, 1) := by decide +kernel
theorem dX7_init_10 : decode cX7_init 10 = .ok (.aload_n 2, 1) := by decide +kernel
theorem dX7_init_11 : decode cX7_init 11 = .ok (.putfield 13, 3) := by decide +kernel
theorem dX7_init_14 : decode cX7_init 14 = .ok (.aload_n 0, 1) := by decide +kernel
theorem dX7_init_15 : decode cX7_init 15 = .ok (.iload_n 3, 1) := by decide +kernel
theorem dX7_init_16 : decode cX7_init 16 = .ok (.putfield 17, 3) := by decide +kernel
theorem dX7_init_19 : decode cX7_init 19 = .ok (.return_, 1) := by decide +kernel
def f_X7_init (a0 : Nat) (r1 : Option Nat) (r2 : Option Nat) (x3 : Int32) (h : AH) : Option (Unit × AH) := wrR h a0 8 0 r1 fun h_1 =>
  wrR h_1 a0 8 1 r2 fun h_2 =>
  wrI h_2 a0 8 2 x3 fun h_3 =>
  some ((), h_3)
set_option maxRecDepth 20000 in
set_option maxHeartbeats 4000000 in
theorem t_X7_init {Ω : Om} (a0 : Nat) (r1 : Option Nat) (r2 : Option Nat) (x3 : Int32) (h : AH) (q : Unit × AH) (hf : f_X7_init a0 r1 r2 x3 h = some q) : Go Ω M_X7_init 0 (lv_args 0 [vR Ω (some a0), vR Ω r1, vR Ω r2, .int x3]) [] h none q.2 := by
  unfold f_X7_init at hf
  rw [la_R, la_R, la_R, la_I, la_0]
  refine go_sub (lv' := [(0, vR Ω (some a0)), (1, vR Ω r1), (2, vR Ω r2), (3, .int x3)]) [0, 1, 2, 3] rfl ?_
  refine go_aload_n dX7_init_0 rfl 0 rfl ?_
  refine go_objInit dX7_init_1 w609 ⟨by decide, cadd (csum (Nat.le_of_ble_eq_true rfl)) (by decide +kernel)⟩ ?_
  refine go_aload_n dX7_init_4 rfl 0 rfl ?_
  refine go_aload_n dX7_init_5 rfl 1 rfl ?_
  refine go_putR dX7_init_6 fl_610_0 (fun q hq => by cases hq; exact Or.inr ⟨rfl, rfl, rfl⟩) (fun _ _ => rfl) (Or.inl ⟨_, rfl⟩) hf (fun h_1 hf => ?_)
  refine go_aload_n dX7_init_9 rfl 0 rfl ?_
  refine go_aload_n dX7_init_10 rfl 2 rfl ?_
  refine go_putR dX7_init_11 fl_613_0 (fun q hq => by cases hq; exact Or.inr ⟨rfl, rfl, rfl⟩) (fun _ _ => rfl) (Or.inl ⟨_, rfl⟩) hf (fun h_2 hf => ?_)
  refine go_aload_n dX7_init_14 rfl 0 rfl ?_
  refine go_iload_n dX7_init_15 rfl 3 rfl ?_
  refine go_putI dX7_init_16 fl_615_0 (fun q hq => by cases hq; exact Or.inr ⟨rfl, rfl, rfl⟩) (fun _ _ => rfl) rfl hf (fun h_3 hf => ?_)
  exact go_return dX7_init_19 rfl hf
-- LetterBroker$Office.putInto(ILLetterBroker$Draft;)V
theorem dX8_putInto_0 : decode cX8_putInto 0 = .ok (.iconst 0, 1) := by decide +kernel
theorem dX8_putInto_1 : decode cX8_putInto 1 = .ok (.istore_n 3, 1) := by decide +kernel
theorem dX8_putInto_2 : decode cX8_putInto 2 = .ok (.iload_n 3, 1) := by decide +kernel
theorem dX8_putInto_3 : decode cX8_putInto 3 = .ok (.aload_n 0, 1) := by decide +kernel
theorem dX8_putInto_4 : decode cX8_putInto 4 = .ok (.getfield 18, 3) := by decide +kernel
theorem dX8_putInto_7 : decode cX8_putInto 7 = .ok (.invokeinterface 38 1, 5) := by decide +kernel
theorem dX8_putInto_12 : decode cX8_putInto 12 = .ok (.if_icmp .ge 75, 3) := by decide +kernel
theorem dX8_putInto_15 : decode cX8_putInto 15 = .ok (.iload_n 1, 1) := by decide +kernel
theorem dX8_putInto_16 : decode cX8_putInto 16 = .ok (.iload_n 3, 1) := by decide +kernel
theorem dX8_putInto_17 : decode cX8_putInto 17 = .ok (.ishr, 1) := by decide +kernel
theorem dX8_putInto_18 : decode cX8_putInto 18 = .ok (.iconst 1, 1) := by decide +kernel
theorem dX8_putInto_19 : decode cX8_putInto 19 = .ok (.iand, 1) := by decide +kernel
theorem dX8_putInto_20 : decode cX8_putInto 20 = .ok (.iconst 1, 1) := by decide +kernel
theorem dX8_putInto_21 : decode cX8_putInto 21 = .ok (.if_icmp .ne 60, 3) := by decide +kernel
theorem dX8_putInto_24 : decode cX8_putInto 24 = .ok (.aload_n 0, 1) := by decide +kernel
theorem dX8_putInto_25 : decode cX8_putInto 25 = .ok (.dup, 1) := by decide +kernel
theorem dX8_putInto_26 : decode cX8_putInto 26 = .ok (.getfield 103, 3) := by decide +kernel
theorem dX8_putInto_29 : decode cX8_putInto 29 = .ok (.iconst 1, 1) := by decide +kernel
theorem dX8_putInto_30 : decode cX8_putInto 30 = .ok (.iadd, 1) := by decide +kernel
theorem dX8_putInto_31 : decode cX8_putInto 31 = .ok (.putfield 103, 3) := by decide +kernel
theorem dX8_putInto_34 : decode cX8_putInto 34 = .ok (.aload_n 0, 1) := by decide +kernel
theorem dX8_putInto_35 : decode cX8_putInto 35 = .ok (.getfield 18, 3) := by decide +kernel
theorem dX8_putInto_38 : decode cX8_putInto 38 = .ok (.iload_n 3, 1) := by decide +kernel
theorem dX8_putInto_39 : decode cX8_putInto 39 = .ok (.invokeinterface 42 2, 5) := by decide +kernel
theorem dX8_putInto_44 : decode cX8_putInto 44 = .ok (.checkcast 50, 3) := by decide +kernel
theorem dX8_putInto_47 : decode cX8_putInto 47 = .ok (.getfield 76, 3) := by decide +kernel
theorem dX8_putInto_50 : decode cX8_putInto 50 = .ok (.new 106, 3) := by decide +kernel
theorem dX8_putInto_53 : decode cX8_putInto 53 = .ok (.dup, 1) := by decide +kernel
theorem dX8_putInto_54 : decode cX8_putInto 54 = .ok (.aload_n 2, 1) := by decide +kernel
theorem dX8_putInto_55 : decode cX8_putInto 55 = .ok (.aload_n 0, 1) := by decide +kernel
theorem dX8_putInto_56 : decode cX8_putInto 56 = .ok (.getfield 18, 3) := by decide +kernel
theorem dX8_putInto_59 : decode cX8_putInto 59 = .ok (.iload_n 3, 1) := by decide +kernel
theorem dX8_putInto_60 : decode cX8_putInto 60 = .ok (.invokeinterface 42 2, 5) := by decide +kernel
theorem dX8_putInto_65 : decode cX8_putInto 65 = .ok (.checkcast 50, 3) := by decide +kernel
theorem dX8_putInto_68 : decode cX8_putInto 68 = .ok (.aload_n 0, 1) := by decide +kernel
theorem dX8_putInto_69 : decode cX8_putInto 69 = .ok (.getfield 103, 3) := by decide +kernel
theorem dX8_putInto_72 : decode cX8_putInto 72 = .ok (.invokespecial 108, 3) := by decide +kernel
theorem dX8_putInto_75 : decode cX8_putInto 75 = .ok (.invokeinterface 32 2, 5) := by decide +kernel
theorem dX8_putInto_80 : decode cX8_putInto 80 = .ok (.pop, 1) := by decide +kernel
theorem dX8_putInto_81 : decode cX8_putInto 81 = .ok (.iinc 3 1, 3) := by decide +kernel
theorem dX8_putInto_84 : decode cX8_putInto 84 = .ok (.goto (-82), 3) := by decide +kernel
theorem dX8_putInto_87 : decode cX8_putInto 87 = .ok (.return_, 1) := by decide +kernel
def f_X8_putInto_81 (k2 : Nat → Int32 → Option Nat → Int32 → AH → Option (Unit × AH)) (a0 : Nat) (x1 : Int32) (r2 : Option Nat) (x3 : Int32) (h : AH) : Option (Unit × AH) := k2 a0 x1 r2 (x3 + 1) h
set_option maxRecDepth 20000 in
set_option maxHeartbeats 4000000 in
theorem t_X8_putInto_81 {Ω : Om} {k2 : Nat → Int32 → Option Nat → Int32 → AH → Option (Unit × AH)} (c2 : ∀ (a0 : Nat) (x1 : Int32) (r2 : Option Nat) (x3 : Int32) (h : AH) (q : Unit × AH), k2 a0 x1 r2 x3 h = some q → Go Ω M_X8_putInto 2 [(0, vR Ω (some a0)), (1, .int x1), (2, vR Ω r2), (3, .int x3)] [] h none q.2) (a0 : Nat) (x1 : Int32) (r2 : Option Nat) (x3 : Int32) (h : AH) (q : Unit × AH) (hf : f_X8_putInto_81 k2 a0 x1 r2 x3 h = some q) : Go Ω M_X8_putInto 81 [(0, vR Ω (some a0)), (1, .int x1), (2, vR Ω r2), (3, .int x3)] [] h none q.2 := by
  unfold f_X8_putInto_81 at hf
  refine go_iinc (j := 3) (v := x3 + 1) (lv' := [(3, .int (x3 + 1)), (0, vR Ω (some a0)), (1, .int x1), (2, vR Ω r2)]) dX8_putInto_81 rfl rfl (by decide) (by first | rfl | simp [catR, catI, catJ]) ?_
  refine go_goto (tgt := 2) dX8_putInto_84 (by decide) ?_
  refine go_sub (lv' := [(0, vR Ω (some a0)), (1, .int x1), (2, vR Ω r2), (3, .int (x3 + 1))]) [1, 2, 3, 0] rfl ?_
  exact c2 a0 x1 r2 (x3 + 1) h q hf
def f_X8_putInto_2 : Nat → Nat → Int32 → Option Nat → Int32 → AH → Option (Unit × AH)
  | 0, _, _, _, _, _ => none
  | n + 1, a0, x1, r2, x3, h => rdR h a0 9 1 fun r_1 =>
    nn r_1 fun a_2 =>
    kg h a_2 0 (bd (f_Jx4a65c_size_8abf5 a_2 h) fun x_5 h_4 =>
    (if x_5 ≤ x3 then
      some ((), h_4)
    else
      (if ((x1 >>> (x3 &&& 31)) &&& 1) = 1 then
        rdI h_4 a0 9 4 fun x_6 =>
        wrI h_4 a0 9 4 (x_6 + 1) fun h_7 =>
        rdR h_7 a0 9 1 fun r_8 =>
        nn r_8 fun a_9 =>
        kg h_7 a_9 0 (bd (f_Jx4a65c_get_915e3 a_9 x3 h_7) fun r_12 h_11 =>
        ckc h_11 r_12 11 (
        nn r_12 fun a_13 =>
        rdR h_11 a_13 11 1 fun r_14 =>
        nwO h_11 8 fun a_15 h_16 =>
        rdR h_16 a0 9 1 fun r_17 =>
        nn r_17 fun a_18 =>
        kg h_16 a_18 0 (bd (f_Jx4a65c_get_915e3 a_18 x3 h_16) fun r_21 h_20 =>
        ckc h_20 r_21 11 (
        rdI h_20 a0 9 4 fun x_22 =>
        bd (f_X7_init a_15 r2 r_21 x_22 h_20) fun _ h_24 =>
        nn r_14 fun a_25 =>
        kg h_24 a_25 0 (bd (f_Jx4a65c_add_9ea2d a_25 (some a_15) h_24) fun x_28 h_27 =>
        f_X8_putInto_81 (fun a0 x1 r2 x3 h => f_X8_putInto_2 n a0 x1 r2 x3 h) a0 x1 r2 x3 h_27)))))
      else
        f_X8_putInto_81 (fun a0 x1 r2 x3 h => f_X8_putInto_2 n a0 x1 r2 x3 h) a0 x1 r2 x3 h_4)))
set_option maxRecDepth 20000 in
set_option maxHeartbeats 4000000 in
theorem t_X8_putInto_2 {Ω : Om} : ∀ (n : Nat) (a0 : Nat) (x1 : Int32) (r2 : Option Nat) (x3 : Int32) (h : AH) (q : Unit × AH), f_X8_putInto_2 n a0 x1 r2 x3 h = some q → Go Ω M_X8_putInto 2 [(0, vR Ω (some a0)), (1, .int x1), (2, vR Ω r2), (3, .int x3)] [] h none q.2 := by
  intro n
  induction n with
  | zero => intro a0 x1 r2 x3 h q hf; cases hf
  | succ n ih =>
    intro a0 x1 r2 x3 h q hf
    rw [f_X8_putInto_2] at hf
    refine go_iload_n dX8_putInto_2 rfl 3 rfl ?_
    refine go_aload_n dX8_putInto_3 rfl 0 rfl ?_
    refine go_getR dX8_putInto_4 fl_318_0 (fun _ _ => rfl) hf (fun r_1 hf => ?_)
    obtain ⟨a_2, rfl, hga_2⟩ := nn_some hf
    have hf := hga_2
    obtain ⟨hk, hf⟩ := kg_some hf
    obtain ⟨z_3, hc, hf⟩ := bd_some hf
    refine go_callF (y2 := M_Jx4a65c_size_8abf5) (x2 := ⟨"java/util/List", "size", "()I"⟩) dX8_putInto_7 mo_Jx4a65c_size_8abf5 ⟨Nat.le_of_ble_eq_true rfl, Nat.le_of_ble_eq_true rfl⟩ na_Jx4a65c_size_8abf5 w536 w522 w520 (by decide) (fun U hU => hU.2.2.2.2.1) hk [] rfl (n_Jx4a65c_size_8abf5 (a_2)) rfl (csum (Nat.le_of_ble_eq_true rfl)) (t_Jx4a65c_size_8abf5 (a_2) h _ hc) ?_
    obtain ⟨x_5, h_4⟩ := z_3
    refine go_icmp_ge (tgt := 87) dX8_putInto_12 (by decide) hf (fun hf => ?_) (fun hf => ?_)
    · exact go_return dX8_putInto_87 rfl hf
    · refine go_iload_n dX8_putInto_15 rfl 1 rfl ?_
      refine go_iload_n dX8_putInto_16 rfl 3 rfl ?_
      refine go_ishr dX8_putInto_17 ?_
      refine go_iconst 1 dX8_putInto_18 rfl ?_
      refine go_iand dX8_putInto_19 ?_
      refine go_iconst 1 dX8_putInto_20 rfl ?_
      refine go_icmp_ne (tgt := 81) dX8_putInto_21 (by decide) hf (fun hf => ?_) (fun hf => ?_)
      · refine go_sub (lv' := [(0, vR Ω (some a0)), (1, .int x1), (2, vR Ω r2), (3, .int x3)]) [0, 1, 2, 3] rfl ?_
        exact t_X8_putInto_81 ih a0 x1 r2 x3 h_4 q hf
      · refine go_aload_n dX8_putInto_24 rfl 0 rfl ?_
        refine go_dup dX8_putInto_25 catR ?_
        refine go_getI dX8_putInto_26 fl_324_0 (fun _ _ => rfl) hf (fun x_6 hf => ?_)
        refine go_iconst 1 dX8_putInto_29 rfl ?_
        refine go_iadd dX8_putInto_30 ?_
        refine go_putI dX8_putInto_31 fl_324_0 (fun q hq => by cases hq; exact Or.inl rfl) (fun _ _ => rfl) rfl hf (fun h_7 hf => ?_)
        refine go_aload_n dX8_putInto_34 rfl 0 rfl ?_
        refine go_getR dX8_putInto_35 fl_318_0 (fun _ _ => rfl) hf (fun r_8 hf => ?_)
        refine go_iload_n dX8_putInto_38 rfl 3 rfl ?_
        obtain ⟨a_9, rfl, hga_9⟩ := nn_some hf
        have hf := hga_9
        obtain ⟨hk, hf⟩ := kg_some hf
        obtain ⟨z_10, hc, hf⟩ := bd_some hf
        refine go_callF (y2 := M_Jx4a65c_get_915e3) (x2 := ⟨"java/util/List", "get", "(I)Ljava/lang/Object;"⟩) dX8_putInto_39 mo_Jx4a65c_get_915e3 ⟨Nat.le_of_ble_eq_true rfl, Nat.le_of_ble_eq_true rfl⟩ na_Jx4a65c_get_915e3 w538 w543 w541 (by decide) (fun U hU => hU.2.2.1) hk [.int x3] rfl (n_Jx4a65c_get_915e3 (a_9) x3) rfl (csum (Nat.le_of_ble_eq_true rfl)) (t_Jx4a65c_get_915e3 (a_9) x3 h_7 _ hc) ?_
        obtain ⟨r_12, h_11⟩ := z_10
        refine go_cast (c := 11) dX8_putInto_44 (by decide) rfl w556 hf (fun hf => ?_)
        obtain ⟨a_13, rfl, hga_13⟩ := nn_some hf
        have hf := hga_13
        refine go_getR dX8_putInto_47 fl_803_0 (fun _ _ => rfl) hf (fun r_14 hf => ?_)
        refine go_new (c := 8) dX8_putInto_50 (by decide) rfl w604 hf (fun a_15 h_16 hf => ?_)
        refine go_dup dX8_putInto_53 catR ?_
        refine go_aload_n dX8_putInto_54 rfl 2 rfl ?_
        refine go_aload_n dX8_putInto_55 rfl 0 rfl ?_
        refine go_getR dX8_putInto_56 fl_318_0 (fun _ _ => rfl) hf (fun r_17 hf => ?_)
        refine go_iload_n dX8_putInto_59 rfl 3 rfl ?_
        obtain ⟨a_18, rfl, hga_18⟩ := nn_some hf
        have hf := hga_18
        obtain ⟨hk, hf⟩ := kg_some hf
        obtain ⟨z_19, hc, hf⟩ := bd_some hf
        refine go_callF (y2 := M_Jx4a65c_get_915e3) (x2 := ⟨"java/util/List", "get", "(I)Ljava/lang/Object;"⟩) dX8_putInto_60 mo_Jx4a65c_get_915e3 ⟨Nat.le_of_ble_eq_true rfl, Nat.le_of_ble_eq_true rfl⟩ na_Jx4a65c_get_915e3 w538 w543 w541 (by decide) (fun U hU => hU.2.2.1) hk [.int x3] rfl (n_Jx4a65c_get_915e3 (a_18) x3) rfl (csum (Nat.le_of_ble_eq_true rfl)) (t_Jx4a65c_get_915e3 (a_18) x3 h_16 _ hc) ?_
        obtain ⟨r_21, h_20⟩ := z_19
        refine go_cast (c := 11) dX8_putInto_65 (by decide) rfl w556 hf (fun hf => ?_)
        refine go_aload_n dX8_putInto_68 rfl 0 rfl ?_
        refine go_getI dX8_putInto_69 fl_324_0 (fun _ _ => rfl) hf (fun x_22 hf => ?_)
        obtain ⟨z_23, hc, hf⟩ := bd_some hf
        refine go_callI (y2 := M_X7_init) dX8_putInto_72 mo_X7_init ⟨Nat.le_of_ble_eq_true rfl, Nat.le_of_ble_eq_true rfl⟩ na_X7_init w606 w607 rfl rfl [vR Ω r2, vR Ω r_21, .int x_22] rfl (n_X7_init (a_15) r2 r_21 x_22) rfl (csum (Nat.le_of_ble_eq_true rfl)) (t_X7_init (a_15) r2 r_21 x_22 h_20 _ hc) ?_
        obtain ⟨_, h_24⟩ := z_23
        obtain ⟨a_25, rfl, hga_25⟩ := nn_some hf
        have hf := hga_25
        obtain ⟨hk, hf⟩ := kg_some hf
        obtain ⟨z_26, hc, hf⟩ := bd_some hf
        refine go_callF (y2 := M_Jx4a65c_add_9ea2d) (x2 := ⟨"java/util/List", "add", "(Ljava/lang/Object;)Z"⟩) dX8_putInto_75 mo_Jx4a65c_add_9ea2d ⟨Nat.le_of_ble_eq_true rfl, Nat.le_of_ble_eq_true rfl⟩ na_Jx4a65c_add_9ea2d w250 w256 w254 (by decide) (fun U hU => hU.1) hk [vR Ω (some a_15)] rfl (n_Jx4a65c_add_9ea2d (a_25) (some a_15)) rfl (csum (Nat.le_of_ble_eq_true rfl)) (t_Jx4a65c_add_9ea2d (a_25) (some a_15) h_24 _ hc) ?_
        obtain ⟨x_28, h_27⟩ := z_26
        refine go_pop dX8_putInto_80 rfl ?_
        refine go_sub (lv' := [(0, vR Ω (some a0)), (1, .int x1), (2, vR Ω r2), (3, .int x3)]) [0, 1, 2, 3] rfl ?_
        exact t_X8_putInto_81 ih a0 x1 r2 x3 h_27 q hf
def f_X8_putInto (a0 : Nat) (x1 : Int32) (r2 : Option Nat) (h : AH) : Option (Unit × AH) := f_X8_putInto_2 FU a0 x1 r2 0 h
set_option maxRecDepth 20000 in
set_option maxHeartbeats 4000000 in
theorem t_X8_putInto {Ω : Om} (a0 : Nat) (x1 : Int32) (r2 : Option Nat) (h : AH) (q : Unit × AH) (hf : f_X8_putInto a0 x1 r2 h = some q) : Go Ω M_X8_putInto 0 (lv_args 0 [vR Ω (some a0), .int x1, vR Ω r2]) [] h none q.2 := by
  unfold f_X8_putInto at hf
  rw [la_R, la_I, la_R, la_0]
  refine go_sub (lv' := [(0, vR Ω (some a0)), (1, .int x1), (2, vR Ω r2)]) [0, 1, 2] rfl ?_
  refine go_iconst 0 dX8_putInto_0 rfl ?_
  refine go_istore_n (i := 3) (lv' := [(3, .int 0), (0, vR Ω (some a0)), (1, .int x1), (2, vR Ω r2)]) dX8_putInto_1 rfl (by decide) (by first | rfl | simp [catR, catI, catJ]) ?_
  refine go_sub (lv' := [(0, vR Ω (some a0)), (1, .int x1), (2, vR Ω r2), (3, .int 0)]) [1, 2, 3, 0] rfl ?_
  exact t_X8_putInto_2 FU a0 x1 r2 0 h q hf
-- LetterBroker.post(LLetterBroker$Channel;LLetterBroker$Draft;)I
theorem dX11_post_0 : decode cX11_post 0 = .ok (.aload_n 0, 1) := by decide +kernel
theorem dX11_post_1 : decode cX11_post 1 = .ok (.getfield 26, 3) := by decide +kernel
theorem dX11_post_4 : decode cX11_post 4 = .ok (.aload_n 2, 1) := by decide +kernel
theorem dX11_post_5 : decode cX11_post 5 = .ok (.invokevirtual 388, 3) := by decide +kernel
theorem dX11_post_8 : decode cX11_post 8 = .ok (.istore_n 3, 1) := by decide +kernel
theorem dX11_post_9 : decode cX11_post 9 = .ok (.iload_n 3, 1) := by decide +kernel
theorem dX11_post_10 : decode cX11_post 10 = .ok (.invokestatic 392, 3) := by decide +kernel
theorem dX11_post_13 : decode cX11_post 13 = .ok (.aload_n 0, 1) := by decide +kernel
theorem dX11_post_14 : decode cX11_post 14 = .ok (.invokevirtual 397, 3) := by decide +kernel
theorem dX11_post_17 : decode cX11_post 17 = .ok (.iadd, 1) := by decide +kernel
theorem dX11_post_18 : decode cX11_post 18 = .ok (.bipush 24, 2) := by decide +kernel
theorem dX11_post_20 : decode cX11_post 20 = .ok (.if_icmp .le 7, 3) := by decide +kernel
theorem dX11_post_23 : decode cX11_post 23 = .ok (.sipush 506, 3) := by decide +kernel
theorem dX11_post_26 : decode cX11_post 26 = .ok (.ireturn, 1) := by decide +kernel
theorem dX11_post_27 : decode cX11_post 27 = .ok (.iload_n 3, 1) := by decide +kernel
theorem dX11_post_28 : decode cX11_post 28 = .ok (.ifCond .ne 16, 3) := by decide +kernel
theorem dX11_post_31 : decode cX11_post 31 = .ok (.aload_n 2, 1) := by decide +kernel
theorem dX11_post_32 : decode cX11_post 32 = .ok (.getfield 400, 3) := by decide +kernel
theorem dX11_post_35 : decode cX11_post 35 = .ok (.ifCond .eq 9, 3) := by decide +kernel
theorem dX11_post_38 : decode cX11_post 38 = .ok (.aload_n 0, 1) := by decide +kernel
theorem dX11_post_39 : decode cX11_post 39 = .ok (.aload_n 1, 1) := by decide +kernel
theorem dX11_post_40 : decode cX11_post 40 = .ok (.aload_n 2, 1) := by decide +kernel
theorem dX11_post_41 : decode cX11_post 41 = .ok (.invokevirtual 403, 3) := by decide +kernel
theorem dX11_post_44 : decode cX11_post 44 = .ok (.aload_n 0, 1) := by decide +kernel
theorem dX11_post_45 : decode cX11_post 45 = .ok (.getfield 26, 3) := by decide +kernel
theorem dX11_post_48 : decode cX11_post 48 = .ok (.iload_n 3, 1) := by decide +kernel
theorem dX11_post_49 : decode cX11_post 49 = .ok (.aload_n 2, 1) := by decide +kernel
theorem dX11_post_50 : decode cX11_post 50 = .ok (.invokevirtual 407, 3) := by decide +kernel
theorem dX11_post_53 : decode cX11_post 53 = .ok (.iconst 0, 1) := by decide +kernel
theorem dX11_post_54 : decode cX11_post 54 = .ok (.ireturn, 1) := by decide +kernel
def f_X11_post_44 (a0 : Nat) (r2 : Option Nat) (x3 : Int32) (h : AH) : Option (Int32 × AH) := rdR h a0 12 2 fun r_1 =>
  nn r_1 fun a_2 =>
  kg h a_2 9 (bd (f_X8_putInto a_2 x3 r2 h) fun _ h_4 =>
  some (0, h_4))
set_option maxRecDepth 20000 in
set_option maxHeartbeats 4000000 in
theorem t_X11_post_44 {Ω : Om} (a0 : Nat) (r2 : Option Nat) (x3 : Int32) (h : AH) (q : Int32 × AH) (hf : f_X11_post_44 a0 r2 x3 h = some q) : Go Ω M_X11_post 44 [(0, vR Ω (some a0)), (2, vR Ω r2), (3, .int x3)] [] h (some (.int q.1)) q.2 := by
  unfold f_X11_post_44 at hf
  refine go_aload_n dX11_post_44 rfl 0 rfl ?_
  refine go_getR dX11_post_45 fl_390_0 (fun _ _ => rfl) hf (fun r_1 hf => ?_)
  refine go_iload_n dX11_post_48 rfl 2 rfl ?_
  refine go_aload_n dX11_post_49 rfl 1 rfl ?_
  obtain ⟨a_2, rfl, hga_2⟩ := nn_some hf
  have hf := hga_2
  obtain ⟨hk, hf⟩ := kg_some hf
  obtain ⟨z_3, hc, hf⟩ := bd_some hf
  refine go_callV (y2 := M_X8_putInto) (c2 := 9) dX11_post_50 mo_X8_putInto ⟨Nat.le_of_ble_eq_true rfl, Nat.le_of_ble_eq_true rfl⟩ na_X8_putInto w600 w601 (by decide) rfl w602 hk [.int x3, vR Ω r2] rfl (n_X8_putInto (a_2) x3 r2) rfl (csum (Nat.le_of_ble_eq_true rfl)) (t_X8_putInto (a_2) x3 r2 h _ hc) ?_
  obtain ⟨_, h_4⟩ := z_3
  refine go_iconst 0 dX11_post_53 rfl ?_
  exact go_ireturn dX11_post_54 rfl hf
def f_X11_post (a0 : Nat) (r1 : Option Nat) (r2 : Option Nat) (h : AH) : Option (Int32 × AH) := rdR h a0 12 2 fun r_1 =>
  nn r_1 fun a_2 =>
  kg h a_2 9 (bd (f_X8_placesReachedBy a_2 r2 h) fun x_5 h_4 =>
  bd (f_J6_bitCount_0f7a4 x_5 h_4) fun x_8 h_7 =>
  kg h_7 a0 12 (bd (f_X11_lettersInAll a0 h_7) fun x_11 h_10 =>
  (if (x_8 + x_11) ≤ 24 then
    (if x_5 = 0 then
      nn r2 fun a_12 =>
      rdI h_10 a_12 5 2 fun x_13 =>
      (if x_13 = 0 then
        f_X11_post_44 a0 (some a_12) x_5 h_10
      else
        kg h_10 a0 12 (bd (f_X11_sendReturned a0 r1 (some a_12) h_10) fun _ h_15 =>
        f_X11_post_44 a0 (some a_12) x_5 h_15))
    else
      f_X11_post_44 a0 r2 x_5 h_10)
  else
    some (506, h_10))))
set_option maxRecDepth 20000 in
set_option maxHeartbeats 4000000 in
theorem t_X11_post {Ω : Om} (a0 : Nat) (r1 : Option Nat) (r2 : Option Nat) (h : AH) (q : Int32 × AH) (hf : f_X11_post a0 r1 r2 h = some q) : Go Ω M_X11_post 0 (lv_args 0 [vR Ω (some a0), vR Ω r1, vR Ω r2]) [] h (some (.int q.1)) q.2 := by
  unfold f_X11_post at hf
  rw [la_R, la_R, la_R, la_0]
  refine go_sub (lv' := [(0, vR Ω (some a0)), (1, vR Ω r1), (2, vR Ω r2)]) [0, 1, 2] rfl ?_
  refine go_aload_n dX11_post_0 rfl 0 rfl ?_
  refine go_getR dX11_post_1 fl_390_0 (fun _ _ => rfl) hf (fun r_1 hf => ?_)
  refine go_aload_n dX11_post_4 rfl 2 rfl ?_
  obtain ⟨a_2, rfl, hga_2⟩ := nn_some hf
  have hf := hga_2
  obtain ⟨hk, hf⟩ := kg_some hf
  obtain ⟨z_3, hc, hf⟩ := bd_some hf
  refine go_callV (y2 := M_X8_placesReachedBy) (c2 := 9) dX11_post_5 mo_X8_placesReachedBy ⟨Nat.le_of_ble_eq_true rfl, Nat.le_of_ble_eq_true rfl⟩ na_X8_placesReachedBy w531 w532 (by decide) rfl w533 hk [vR Ω r2] rfl (n_X8_placesReachedBy (a_2) r2) rfl (csum (Nat.le_of_ble_eq_true rfl)) (t_X8_placesReachedBy (a_2) r2 h _ hc) ?_
  obtain ⟨x_5, h_4⟩ := z_3
  refine go_istore_n (i := 3) (lv' := [(3, .int x_5), (0, vR Ω (some a0)), (1, vR Ω r1), (2, vR Ω r2)]) dX11_post_8 rfl (by decide) (by first | rfl | simp [catR, catI, catJ]) ?_
  refine go_iload_n dX11_post_9 rfl 0 rfl ?_
  obtain ⟨z_6, hc, hf⟩ := bd_some hf
  refine go_callS (y2 := M_J6_bitCount_0f7a4) dX11_post_10 mo_J6_bitCount_0f7a4 ⟨Nat.le_of_ble_eq_true rfl, Nat.le_of_ble_eq_true rfl⟩ na_J6_bitCount_0f7a4 w568 w569 [.int x_5] rfl (n_J6_bitCount_0f7a4 x_5) rfl (csum (Nat.le_of_ble_eq_true rfl)) (t_J6_bitCount_0f7a4 x_5 h_4 _ hc) ?_
  obtain ⟨x_8, h_7⟩ := z_6
  refine go_aload_n dX11_post_13 rfl 1 rfl ?_
  obtain ⟨hk, hf⟩ := kg_some hf
  obtain ⟨z_9, hc, hf⟩ := bd_some hf
  refine go_callV (y2 := M_X11_lettersInAll) (c2 := 12) dX11_post_14 mo_X11_lettersInAll ⟨Nat.le_of_ble_eq_true rfl, Nat.le_of_ble_eq_true rfl⟩ na_X11_lettersInAll w574 w576 (by decide) rfl w12 hk [] rfl (n_X11_lettersInAll (a0)) rfl (csum (Nat.le_of_ble_eq_true rfl)) (t_X11_lettersInAll (a0) h_7 _ hc) ?_
  obtain ⟨x_11, h_10⟩ := z_9
  refine go_iadd dX11_post_17 ?_
  refine go_bipush 24 dX11_post_18 (by decide) ?_
  refine go_icmp_le (tgt := 27) dX11_post_20 (by decide) hf (fun hf => ?_) (fun hf => ?_)
  · refine go_iload_n dX11_post_27 rfl 0 rfl ?_
    refine go_if_ne (tgt := 44) dX11_post_28 (by decide) hf (fun hf => ?_) (fun hf => ?_)
    · refine go_sub (lv' := [(0, vR Ω (some a0)), (2, vR Ω r2), (3, .int x_5)]) [1, 3, 0] rfl ?_
      exact t_X11_post_44 a0 r2 x_5 h_10 q hf
    · refine go_aload_n dX11_post_31 rfl 3 rfl ?_
      obtain ⟨a_12, rfl, hga_12⟩ := nn_some hf
      have hf := hga_12
      refine go_getI dX11_post_32 fl_949_0 (fun _ _ => rfl) hf (fun x_13 hf => ?_)
      refine go_if_eq (tgt := 44) dX11_post_35 (by decide) hf (fun hf => ?_) (fun hf => ?_)
      · refine go_sub (lv' := [(0, vR Ω (some a0)), (2, vR Ω (some a_12)), (3, .int x_5)]) [1, 3, 0] rfl ?_
        exact t_X11_post_44 a0 (some a_12) x_5 h_10 q hf
      · refine go_aload_n dX11_post_38 rfl 1 rfl ?_
        refine go_aload_n dX11_post_39 rfl 2 rfl ?_
        refine go_aload_n dX11_post_40 rfl 3 rfl ?_
        obtain ⟨hk, hf⟩ := kg_some hf
        obtain ⟨z_14, hc, hf⟩ := bd_some hf
        refine go_callV (y2 := M_X11_sendReturned) (c2 := 12) dX11_post_41 mo_X11_sendReturned ⟨Nat.le_of_ble_eq_true rfl, Nat.le_of_ble_eq_true rfl⟩ na_X11_sendReturned w582 w584 (by decide) rfl w13 hk [vR Ω r1, vR Ω (some a_12)] rfl (n_X11_sendReturned (a0) r1 (some a_12)) rfl (csum (Nat.le_of_ble_eq_true rfl)) (t_X11_sendReturned (a0) r1 (some a_12) h_10 _ hc) ?_
        obtain ⟨_, h_15⟩ := z_14
        refine go_sub (lv' := [(0, vR Ω (some a0)), (2, vR Ω (some a_12)), (3, .int x_5)]) [1, 3, 0] rfl ?_
        exact t_X11_post_44 a0 (some a_12) x_5 h_15 q hf
  · refine go_sipush 506 dX11_post_23 (by decide) ?_
    exact go_ireturn dX11_post_26 rfl hf
-- LetterBroker.commit(LLetterBroker$Channel;)I
theorem dX11_commit_0 : decode cX11_commit 0 = .ok (.aload_n 0, 1) := by decide +kernel
theorem dX11_commit_1 : decode cX11_commit 1 = .ok (.getfield 10, 3) := by decide +kernel
theorem dX11_commit_4 : decode cX11_commit 4 = .ok (.invokevirtual 132, 3) := by decide +kernel
theorem dX11_commit_7 : decode cX11_commit 7 = .ok (.ifCond .ne 7, 3) := by decide +kernel
theorem dX11_commit_10 : decode cX11_commit 10 = .ok (.sipush 501, 3) := by decide +kernel
theorem dX11_commit_13 : decode cX11_commit 13 = .ok (.ireturn, 1) := by decide +kernel
theorem dX11_commit_14 : decode cX11_commit 14 = .ok (.aload_n 1, 1) := by decide +kernel
theorem dX11_commit_15 : decode cX11_commit 15 = .ok (.getfield 373, 3) := by decide +kernel
theorem dX11_commit_18 : decode cX11_commit 18 = .ok (.ifCond .ne 7, 3) := by decide +kernel
theorem dX11_commit_21 : decode cX11_commit 21 = .ok (.sipush 406, 3) := by decide +kernel
theorem dX11_commit_24 : decode cX11_commit 24 = .ok (.ireturn, 1) := by decide +kernel
theorem dX11_commit_25 : decode cX11_commit 25 = .ok (.iconst 0, 1) := by decide +kernel
theorem dX11_commit_26 : decode cX11_commit 26 = .ok (.istore_n 2, 1) := by decide +kernel
theorem dX11_commit_27 : decode cX11_commit 27 = .ok (.iload_n 2, 1) := by decide +kernel
theorem dX11_commit_28 : decode cX11_commit 28 = .ok (.aload_n 1, 1) := by decide +kernel
theorem dX11_commit_29 : decode cX11_commit 29 = .ok (.getfield 94, 3) := by decide +kernel
theorem dX11_commit_32 : decode cX11_commit 32 = .ok (.invokeinterface 87 1, 5) := by decide +kernel
theorem dX11_commit_37 : decode cX11_commit 37 = .ok (.if_icmp .ge 54, 3) := by decide +kernel
theorem dX11_commit_40 : decode cX11_commit 40 = .ok (.aload_n 1, 1) := by decide +kernel
theorem dX11_commit_41 : decode cX11_commit 41 = .ok (.getfield 94, 3) := by decide +kernel
theorem dX11_commit_44 : decode cX11_commit 44 = .ok (.iload_n 2, 1) := by decide +kernel
theorem dX11_commit_45 : decode cX11_commit 45 = .ok (.invokeinterface 100 2, 5) := by decide +kernel
theorem dX11_commit_50 : decode cX11_commit 50 = .ok (.checkcast 376, 3) := by decide +kernel
theorem dX11_commit_53 : decode cX11_commit 53 = .ok (.astore_n 3, 1) := by decide +kernel
theorem dX11_commit_54 : decode cX11_commit 54 = .ok (.aload_n 3, 1) := by decide +kernel
theorem dX11_commit_55 : decode cX11_commit 55 = .ok (.getfield 480, 3) := by decide +kernel
theorem dX11_commit_58 : decode cX11_commit 58 = .ok (.ifnonnull 11, 3) := by decide +kernel
theorem dX11_commit_61 : decode cX11_commit 61 = .ok (.aload_n 1, 1) := by decide +kernel
theorem dX11_commit_62 : decode cX11_commit 62 = .ok (.aload_n 3, 1) := by decide +kernel
theorem dX11_commit_63 : decode cX11_commit 63 = .ok (.invokevirtual 477, 3) := by decide +kernel
theorem dX11_commit_66 : decode cX11_commit 66 = .ok (.goto 19, 3) := by decide +kernel
theorem dX11_commit_69 : decode cX11_commit 69 = .ok (.aload_n 0, 1) := by decide +kernel
theorem dX11_commit_70 : decode cX11_commit 70 = .ok (.aload_n 1, 1) := by decide +kernel
theorem dX11_commit_71 : decode cX11_commit 71 = .ok (.aload_n 3, 1) := by decide +kernel
theorem dX11_commit_72 : decode cX11_commit 72 = .ok (.getfield 480, 3) := by decide +kernel
theorem dX11_commit_75 : decode cX11_commit 75 = .ok (.invokevirtual 385, 3) := by decide +kernel
theorem dX11_commit_78 : decode cX11_commit 78 = .ok (.ifCond .eq 7, 3) := by decide +kernel
theorem dX11_commit_81 : decode cX11_commit 81 = .ok (.sipush 506, 3) := by decide +kernel
theorem dX11_commit_84 : decode cX11_commit 84 = .ok (.ireturn, 1) := by decide +kernel
theorem dX11_commit_85 : decode cX11_commit 85 = .ok (.iinc 2 1, 3) := by decide +kernel
theorem dX11_commit_88 : decode cX11_commit 88 = .ok (.goto (-61), 3) := by decide +kernel
theorem dX11_commit_91 : decode cX11_commit 91 = .ok (.aload_n 1, 1) := by decide +kernel
theorem dX11_commit_92 : decode cX11_commit 92 = .ok (.getfield 94, 3) := by decide +kernel
theorem dX11_commit_95 : decode cX11_commit 95 = .ok (.invokeinterface 343 1, 5) := by decide +kernel
theorem dX11_commit_100 : decode cX11_commit 100 = .ok (.aload_n 0, 1) := by decide +kernel
theorem dX11_commit_101 : decode cX11_commit 101 = .ok (.getfield 19, 3) := by decide +kernel
theorem dX11_commit_104 : decode cX11_commit 104 = .ok (.aload_n 1, 1) := by decide +kernel
theorem dX11_commit_105 : decode cX11_commit 105 = .ok (.getfield 145, 3) := by decide +kernel
theorem dX11_commit_108 : decode cX11_commit 108 = .ok (.sipush 23061, 3) := by decide +kernel
theorem dX11_commit_111 : decode cX11_commit 111 = .ok (.invokevirtual 125, 3) := by decide +kernel
theorem dX11_commit_114 : decode cX11_commit 114 = .ok (.iconst 0, 1) := by decide +kernel
theorem dX11_commit_115 : decode cX11_commit 115 = .ok (.ireturn, 1) := by decide +kernel
def f_X11_commit_85 (k27 : Nat → Option Nat → Int32 → AH → Option (Int32 × AH)) (a0 : Nat) (r1 : Option Nat) (x2 : Int32) (h : AH) : Option (Int32 × AH) := k27 a0 r1 (x2 + 1) h
set_option maxRecDepth 20000 in
set_option maxHeartbeats 4000000 in
theorem t_X11_commit_85 {Ω : Om} {k27 : Nat → Option Nat → Int32 → AH → Option (Int32 × AH)} (c27 : ∀ (a0 : Nat) (r1 : Option Nat) (x2 : Int32) (h : AH) (q : Int32 × AH), k27 a0 r1 x2 h = some q → Go Ω M_X11_commit 27 [(0, vR Ω (some a0)), (1, vR Ω r1), (2, .int x2)] [] h (some (.int q.1)) q.2) (a0 : Nat) (r1 : Option Nat) (x2 : Int32) (h : AH) (q : Int32 × AH) (hf : f_X11_commit_85 k27 a0 r1 x2 h = some q) : Go Ω M_X11_commit 85 [(0, vR Ω (some a0)), (1, vR Ω r1), (2, .int x2)] [] h (some (.int q.1)) q.2 := by
  unfold f_X11_commit_85 at hf
  refine go_iinc (j := 2) (v := x2 + 1) (lv' := [(2, .int (x2 + 1)), (0, vR Ω (some a0)), (1, vR Ω r1)]) dX11_commit_85 rfl rfl (by decide) (by first | rfl | simp [catR, catI, catJ]) ?_
  refine go_goto (tgt := 27) dX11_commit_88 (by decide) ?_
  refine go_sub (lv' := [(0, vR Ω (some a0)), (1, vR Ω r1), (2, .int (x2 + 1))]) [1, 2, 0] rfl ?_
  exact c27 a0 r1 (x2 + 1) h q hf
def f_X11_commit_91 (a0 : Nat) (r1 : Option Nat) (h : AH) : Option (Int32 × AH) := nn r1 fun a_1 =>
  rdR h a_1 2 2 fun r_2 =>
  nn r_2 fun a_3 =>
  kg h a_3 0 (bd (f_Jx4a65c_clear_da8c8 a_3 h) fun _ h_5 =>
  rdR h_5 a0 12 1 fun r_6 =>
  rdI h_5 a_1 2 0 fun x_7 =>
  nn r_6 fun a_8 =>
  kg h_5 a_8 10 (bd (f_X9_tell a_8 x_7 23061 h_5) fun _ h_10 =>
  some (0, h_10)))
set_option maxRecDepth 20000 in
set_option maxHeartbeats 4000000 in
theorem t_X11_commit_91 {Ω : Om} (a0 : Nat) (r1 : Option Nat) (h : AH) (q : Int32 × AH) (hf : f_X11_commit_91 a0 r1 h = some q) : Go Ω M_X11_commit 91 [(0, vR Ω (some a0)), (1, vR Ω r1)] [] h (some (.int q.1)) q.2 := by
  unfold f_X11_commit_91 at hf
  refine go_aload_n dX11_commit_91 rfl 1 rfl ?_
  obtain ⟨a_1, rfl, hga_1⟩ := nn_some hf
  have hf := hga_1
  refine go_getR dX11_commit_92 fl_354_0 (fun _ _ => rfl) hf (fun r_2 hf => ?_)
  obtain ⟨a_3, rfl, hga_3⟩ := nn_some hf
  have hf := hga_3
  obtain ⟨hk, hf⟩ := kg_some hf
  obtain ⟨z_4, hc, hf⟩ := bd_some hf
  refine go_callF (y2 := M_Jx4a65c_clear_da8c8) (x2 := ⟨"java/util/List", "clear", "()V"⟩) dX11_commit_95 mo_Jx4a65c_clear_da8c8 ⟨Nat.le_of_ble_eq_true rfl, Nat.le_of_ble_eq_true rfl⟩ na_Jx4a65c_clear_da8c8 w861 w726 w724 (by decide) (fun U hU => hU.2.2.2.2.2.2) hk [] rfl (n_Jx4a65c_clear_da8c8 (a_3)) rfl (csum (Nat.le_of_ble_eq_true rfl)) (t_Jx4a65c_clear_da8c8 (a_3) h _ hc) ?_
  obtain ⟨_, h_5⟩ := z_4
  refine go_aload_n dX11_commit_100 rfl 0 rfl ?_
  refine go_getR dX11_commit_101 fl_389_0 (fun _ _ => rfl) hf (fun r_6 hf => ?_)
  refine go_aload_n dX11_commit_104 rfl 1 rfl ?_
  refine go_getI dX11_commit_105 fl_349_0 (fun _ _ => rfl) hf (fun x_7 hf => ?_)
  refine go_sipush 23061 dX11_commit_108 (by decide) ?_
  obtain ⟨a_8, rfl, hga_8⟩ := nn_some hf
  have hf := hga_8
  obtain ⟨hk, hf⟩ := kg_some hf
  obtain ⟨z_9, hc, hf⟩ := bd_some hf
  refine go_callV (y2 := M_X9_tell) (c2 := 10) dX11_commit_111 mo_X9_tell ⟨Nat.le_of_ble_eq_true rfl, Nat.le_of_ble_eq_true rfl⟩ na_X9_tell w430 w431 (by decide) rfl w432 hk [.int x_7, .int 23061] rfl (n_X9_tell (a_8) x_7 23061) rfl (csum (Nat.le_of_ble_eq_true rfl)) (t_X9_tell (a_8) x_7 23061 h_5 _ hc) ?_
  obtain ⟨_, h_10⟩ := z_9
  refine go_iconst 0 dX11_commit_114 rfl ?_
  exact go_ireturn dX11_commit_115 rfl hf
def f_X11_commit_27 : Nat → Nat → Option Nat → Int32 → AH → Option (Int32 × AH)
  | 0, _, _, _, _ => none
  | n + 1, a0, r1, x2, h => nn r1 fun a_1 =>
    rdR h a_1 2 2 fun r_2 =>
    nn r_2 fun a_3 =>
    kg h a_3 0 (bd (f_Jx4a65c_size_8abf5 a_3 h) fun x_6 h_5 =>
    (if x_6 ≤ x2 then
      f_X11_commit_91 a0 (some a_1) h_5
    else
      rdR h_5 a_1 2 2 fun r_7 =>
      nn r_7 fun a_8 =>
      kg h_5 a_8 0 (bd (f_Jx4a65c_get_915e3 a_8 x2 h_5) fun r_11 h_10 =>
      ckc h_10 r_11 4 (
      nn r_11 fun a_12 =>
      rdR h_10 a_12 4 0 fun r_13 =>
      nb r_13
        (kg h_10 a_1 2 (bd (f_X1_settle a_1 (some a_12) h_10) fun _ h_16 =>
        f_X11_commit_85 (fun a0 r1 x2 h => f_X11_commit_27 n a0 r1 x2 h) a0 (some a_1) x2 h_16))
        (fun a_14 => rdR h_10 a_12 4 0 fun r_17 =>
        kg h_10 a0 12 (bd (f_X11_post a0 (some a_1) r_17 h_10) fun x_20 h_19 =>
        (if x_20 = 0 then
          f_X11_commit_85 (fun a0 r1 x2 h => f_X11_commit_27 n a0 r1 x2 h) a0 (some a_1) x2 h_19
        else
          some (506, h_19))))))))
set_option maxRecDepth 20000 in
set_option maxHeartbeats 4000000 in
theorem t_X11_commit_27 {Ω : Om} : ∀ (n : Nat) (a0 : Nat) (r1 : Option Nat) (x2 : Int32) (h : AH) (q : Int32 × AH), f_X11_commit_27 n a0 r1 x2 h = some q → Go Ω M_X11_commit 27 [(0, vR Ω (some a0)), (1, vR Ω r1), (2, .int x2)] [] h (some (.int q.1)) q.2 := by
  intro n
  induction n with
  | zero => intro a0 r1 x2 h q hf; cases hf
  | succ n ih =>
    intro a0 r1 x2 h q hf
    rw [f_X11_commit_27] at hf
    refine go_iload_n dX11_commit_27 rfl 2 rfl ?_
    refine go_aload_n dX11_commit_28 rfl 1 rfl ?_
    obtain ⟨a_1, rfl, hga_1⟩ := nn_some hf
    have hf := hga_1
    refine go_getR dX11_commit_29 fl_354_0 (fun _ _ => rfl) hf (fun r_2 hf => ?_)
    obtain ⟨a_3, rfl, hga_3⟩ := nn_some hf
    have hf := hga_3
    obtain ⟨hk, hf⟩ := kg_some hf
    obtain ⟨z_4, hc, hf⟩ := bd_some hf
    refine go_callF (y2 := M_Jx4a65c_size_8abf5) (x2 := ⟨"java/util/List", "size", "()I"⟩) dX11_commit_32 mo_Jx4a65c_size_8abf5 ⟨Nat.le_of_ble_eq_true rfl, Nat.le_of_ble_eq_true rfl⟩ na_Jx4a65c_size_8abf5 w517 w522 w520 (by decide) (fun U hU => hU.2.2.2.2.1) hk [] rfl (n_Jx4a65c_size_8abf5 (a_3)) rfl (csum (Nat.le_of_ble_eq_true rfl)) (t_Jx4a65c_size_8abf5 (a_3) h _ hc) ?_
    obtain ⟨x_6, h_5⟩ := z_4
    refine go_icmp_ge (tgt := 91) dX11_commit_37 (by decide) hf (fun hf => ?_) (fun hf => ?_)
    · refine go_sub (lv' := [(0, vR Ω (some a0)), (1, vR Ω (some a_1))]) [0, 1] rfl ?_
      exact t_X11_commit_91 a0 (some a_1) h_5 q hf
    · refine go_aload_n dX11_commit_40 rfl 1 rfl ?_
      refine go_getR dX11_commit_41 fl_354_0 (fun _ _ => rfl) hf (fun r_7 hf => ?_)
      refine go_iload_n dX11_commit_44 rfl 2 rfl ?_
      obtain ⟨a_8, rfl, hga_8⟩ := nn_some hf
      have hf := hga_8
      obtain ⟨hk, hf⟩ := kg_some hf
      obtain ⟨z_9, hc, hf⟩ := bd_some hf
      refine go_callF (y2 := M_Jx4a65c_get_915e3) (x2 := ⟨"java/util/List", "get", "(I)Ljava/lang/Object;"⟩) dX11_commit_45 mo_Jx4a65c_get_915e3 ⟨Nat.le_of_ble_eq_true rfl, Nat.le_of_ble_eq_true rfl⟩ na_Jx4a65c_get_915e3 w1041 w543 w541 (by decide) (fun U hU => hU.2.2.1) hk [.int x2] rfl (n_Jx4a65c_get_915e3 (a_8) x2) rfl (csum (Nat.le_of_ble_eq_true rfl)) (t_Jx4a65c_get_915e3 (a_8) x2 h_5 _ hc) ?_
      obtain ⟨r_11, h_10⟩ := z_9
      refine go_cast (c := 4) dX11_commit_50 (by decide) rfl w491 hf (fun hf => ?_)
      refine go_astore_n (i := 3) (lv' := [(3, vR Ω r_11), (0, vR Ω (some a0)), (1, vR Ω (some a_1)), (2, .int x2)]) dX11_commit_53 rfl (by decide) (by first | rfl | simp [catR, catI, catJ]) ?_
      refine go_aload_n dX11_commit_54 rfl 0 rfl ?_
      obtain ⟨a_12, rfl, hga_12⟩ := nn_some hf
      have hf := hga_12
      refine go_getR dX11_commit_55 fl_498_0 (fun _ _ => rfl) hf (fun r_13 hf => ?_)
      refine go_ifnonnull (x := r_13) (tgt := 69) dX11_commit_58 (by decide) hf ?_ ?_
      · rintro rfl hf
        refine go_aload_n dX11_commit_61 rfl 2 rfl ?_
        refine go_aload_n dX11_commit_62 rfl 0 rfl ?_
        obtain ⟨hk, hf⟩ := kg_some hf
        obtain ⟨z_15, hc, hf⟩ := bd_some hf
        refine go_callV (y2 := M_X1_settle) (c2 := 2) dX11_commit_63 mo_X1_settle ⟨Nat.le_of_ble_eq_true rfl, Nat.le_of_ble_eq_true rfl⟩ na_X1_settle w1014 w1015 (by decide) rfl w1016 hk [vR Ω (some a_12)] rfl (n_X1_settle (a_1) (some a_12)) rfl (csum (Nat.le_of_ble_eq_true rfl)) (t_X1_settle (a_1) (some a_12) h_10 _ hc) ?_
        obtain ⟨_, h_16⟩ := z_15
        refine go_goto (tgt := 85) dX11_commit_66 (by decide) ?_
        refine go_sub (lv' := [(0, vR Ω (some a0)), (1, vR Ω (some a_1)), (2, .int x2)]) [1, 2, 3] rfl ?_
        exact t_X11_commit_85 ih a0 (some a_1) x2 h_16 q hf
      · rintro a_14 rfl hf
        refine go_aload_n dX11_commit_69 rfl 1 rfl ?_
        refine go_aload_n dX11_commit_70 rfl 2 rfl ?_
        refine go_aload_n dX11_commit_71 rfl 0 rfl ?_
        refine go_getR dX11_commit_72 fl_498_0 (fun _ _ => rfl) hf (fun r_17 hf => ?_)
        obtain ⟨hk, hf⟩ := kg_some hf
        obtain ⟨z_18, hc, hf⟩ := bd_some hf
        refine go_callV (y2 := M_X11_post) (c2 := 12) dX11_commit_75 mo_X11_post ⟨Nat.le_of_ble_eq_true rfl, Nat.le_of_ble_eq_true rfl⟩ na_X11_post w527 w529 (by decide) rfl w10 hk [vR Ω (some a_1), vR Ω r_17] rfl (n_X11_post (a0) (some a_1) r_17) rfl (csum (Nat.le_of_ble_eq_true rfl)) (t_X11_post (a0) (some a_1) r_17 h_10 _ hc) ?_
        obtain ⟨x_20, h_19⟩ := z_18
        refine go_if_eq (tgt := 85) dX11_commit_78 (by decide) hf (fun hf => ?_) (fun hf => ?_)
        · refine go_sub (lv' := [(0, vR Ω (some a0)), (1, vR Ω (some a_1)), (2, .int x2)]) [1, 2, 3] rfl ?_
          exact t_X11_commit_85 ih a0 (some a_1) x2 h_19 q hf
        · refine go_sipush 506 dX11_commit_81 (by decide) ?_
          exact go_ireturn dX11_commit_84 rfl hf
def f_X11_commit (a0 : Nat) (r1 : Option Nat) (h : AH) : Option (Int32 × AH) := rdR h a0 12 0 fun r_1 =>
  nn r_1 fun a_2 =>
  kg h a_2 7 (bd (f_X6_isJustRead a_2 h) fun x_5 h_4 =>
  (if x_5 = 0 then
    some (501, h_4)
  else
    nn r1 fun a_6 =>
    rdI h_4 a_6 2 6 fun x_7 =>
    (if x_7 = 0 then
      some (406, h_4)
    else
      f_X11_commit_27 FU a0 (some a_6) 0 h_4)))
set_option maxRecDepth 20000 in
set_option maxHeartbeats 4000000 in
theorem t_X11_commit {Ω : Om} (a0 : Nat) (r1 : Option Nat) (h : AH) (q : Int32 × AH) (hf : f_X11_commit a0 r1 h = some q) : Go Ω M_X11_commit 0 (lv_args 0 [vR Ω (some a0), vR Ω r1]) [] h (some (.int q.1)) q.2 := by
  unfold f_X11_commit at hf
  rw [la_R, la_R, la_0]
  refine go_sub (lv' := [(0, vR Ω (some a0)), (1, vR Ω r1)]) [0, 1] rfl ?_
  refine go_aload_n dX11_commit_0 rfl 0 rfl ?_
  refine go_getR dX11_commit_1 fl_388_0 (fun _ _ => rfl) hf (fun r_1 hf => ?_)
  obtain ⟨a_2, rfl, hga_2⟩ := nn_some hf
  have hf := hga_2
  obtain ⟨hk, hf⟩ := kg_some hf
  obtain ⟨z_3, hc, hf⟩ := bd_some hf
  refine go_callV (y2 := M_X6_isJustRead) (c2 := 7) dX11_commit_4 mo_X6_isJustRead ⟨Nat.le_of_ble_eq_true rfl, Nat.le_of_ble_eq_true rfl⟩ na_X6_isJustRead w474 w475 (by decide) rfl w476 hk [] rfl (n_X6_isJustRead (a_2)) rfl (csum (Nat.le_of_ble_eq_true rfl)) (t_X6_isJustRead (a_2) h _ hc) ?_
  obtain ⟨x_5, h_4⟩ := z_3
  refine go_if_ne (tgt := 14) dX11_commit_7 (by decide) hf (fun hf => ?_) (fun hf => ?_)
  · refine go_aload_n dX11_commit_14 rfl 1 rfl ?_
    obtain ⟨a_6, rfl, hga_6⟩ := nn_some hf
    have hf := hga_6
    refine go_getI dX11_commit_15 fl_364_0 (fun _ _ => rfl) hf (fun x_7 hf => ?_)
    refine go_if_ne (tgt := 25) dX11_commit_18 (by decide) hf (fun hf => ?_) (fun hf => ?_)
    · refine go_iconst 0 dX11_commit_25 rfl ?_
      refine go_istore_n (i := 2) (lv' := [(2, .int 0), (0, vR Ω (some a0)), (1, vR Ω (some a_6))]) dX11_commit_26 rfl (by decide) (by first | rfl | simp [catR, catI, catJ]) ?_
      refine go_sub (lv' := [(0, vR Ω (some a0)), (1, vR Ω (some a_6)), (2, .int 0)]) [1, 2, 0] rfl ?_
      exact t_X11_commit_27 FU a0 (some a_6) 0 h_4 q hf
    · refine go_sipush 406 dX11_commit_21 (by decide) ?_
      exact go_ireturn dX11_commit_24 rfl hf
  · refine go_sipush 501 dX11_commit_10 (by decide) ?_
    exact go_ireturn dX11_commit_13 rfl hf
-- LetterBroker$Consumer.<init>(LLetterBroker$Queue;LLetterBroker$Channel;JZI)V
theorem dX2_init_0 : decode cX2_init 0 = .ok (.aload_n 0, 1) := by decide +kernel
theorem dX2_init_1 : decode cX2_init 1 = .ok (.invokespecial 1, 3) := by decide +kernel
theorem dX2_init_4 : decode cX2_init 4 = .ok (.aload_n 0, 1) := by decide +kernel
theorem dX2_init_5 : decode cX2_init 5 = .ok (.aload_n 1, 1) := by decide +kernel
theorem dX2_init_6 : decode cX2_init 6 = .ok (.putfield 7, 3) := by decide +kernel
theorem dX2_init_9 : decode cX2_init 9 = .ok (.aload_n 0, 1) := by decide +kernel
theorem dX2_init_10 : decode cX2_init 10 = .ok (.aload_n 2, 1) := by decide +kernel
theorem dX2_init_11 : decode cX2_init 11 = .ok (.putfield 13, 3) := by decide +kernel
theorem dX2_init_14 : decode cX2_init 14 = .ok (.aload_n 0, 1) := by decide +kernel
theorem dX2_init_15 : decode cX2_init 15 = .ok (.lload_n 3, 1) := by decide +kernel
theorem dX2_init_16 : decode cX2_init 16 = .ok (.putfield 17, 3) := by decide +kernel
theorem dX2_init_19 : decode cX2_init 19 = .ok (.aload_n 0, 1) := by decide +kernel
theorem dX2_init_20 : decode cX2_init 20 = .ok (.iload 5, 2) := by decide +kernel
theorem dX2_init_22 : decode cX2_init 22 = .ok (.putfield 21, 3) := by decide +kernel
theorem dX2_init_25 : decode cX2_init 25 = .ok (.aload_n 0, 1) := by decide +kernel
theorem dX2_init_26 : decode cX2_init 26 = .ok (.iload 6, 2) := by decide +kernel
theorem dX2_init_28 : decode cX2_init 28 = .ok (.putfield 25, 3) := by decide +kernel
theorem dX2_init_31 : decode cX2_init 31 = .ok (.return_, 1) := by decide +kernel
def f_X2_init (a0 : Nat) (r1 : Option Nat) (r2 : Option Nat) (x3 : Int64) (x5 : Int32) (x6 : Int32) (h : AH) : Option (Unit × AH) := wrR h a0 3 0 r1 fun h_1 =>
  wrR h_1 a0 3 1 r2 fun h_2 =>
  wrJ h_2 a0 3 2 x3 fun h_3 =>
  wrZ h_3 a0 3 3 x5 fun h_4 =>
  wrI h_4 a0 3 4 x6 fun h_5 =>
  some ((), h_5)
set_option maxRecDepth 20000 in
set_option maxHeartbeats 4000000 in
theorem t_X2_init {Ω : Om} (a0 : Nat) (r1 : Option Nat) (r2 : Option Nat) (x3 : Int64) (x5 : Int32) (x6 : Int32) (h : AH) (q : Unit × AH) (hf : f_X2_init a0 r1 r2 x3 x5 x6 h = some q) : Go Ω M_X2_init 0 (lv_args 0 [vR Ω (some a0), vR Ω r1, vR Ω r2, .long x3, .int x5, .int x6]) [] h none q.2 := by
  unfold f_X2_init at hf
  rw [la_R, la_R, la_R, la_J, la_I, la_I, la_0]
  refine go_sub (lv' := [(0, vR Ω (some a0)), (1, vR Ω r1), (2, vR Ω r2), (3, .long x3), (5, .int x5), (6, .int x6)]) [0, 1, 2, 3, 4, 5] rfl ?_
  refine go_aload_n dX2_init_0 rfl 0 rfl ?_
  refine go_objInit dX2_init_1 w899 ⟨by decide, cadd (csum (Nat.le_of_ble_eq_true rfl)) (by decide +kernel)⟩ ?_
  refine go_aload_n dX2_init_4 rfl 0 rfl ?_
  refine go_aload_n dX2_init_5 rfl 1 rfl ?_
  refine go_putR dX2_init_6 fl_900_0 (fun q hq => by cases hq; exact Or.inr ⟨rfl, rfl, rfl⟩) (fun _ _ => rfl) (Or.inl ⟨_, rfl⟩) hf (fun h_1 hf => ?_)
  refine go_aload_n dX2_init_9 rfl 0 rfl ?_
  refine go_aload_n dX2_init_10 rfl 2 rfl ?_
  refine go_putR dX2_init_11 fl_902_0 (fun q hq => by cases hq; exact Or.inr ⟨rfl, rfl, rfl⟩) (fun _ _ => rfl) (Or.inl ⟨_, rfl⟩) hf (fun h_2 hf => ?_)
  refine go_aload_n dX2_init_14 rfl 0 rfl ?_
  refine go_lload_n dX2_init_15 rfl 3 rfl ?_
  refine go_putJ dX2_init_16 fl_905_0 (fun q hq => by cases hq; exact Or.inr ⟨rfl, rfl, rfl⟩) (fun _ _ => rfl) rfl hf (fun h_3 hf => ?_)
  refine go_aload_n dX2_init_19 rfl 0 rfl ?_
  refine go_iload dX2_init_20 4 rfl ?_
  refine go_putZ dX2_init_22 fl_908_0 (fun q hq => by cases hq; exact Or.inr ⟨rfl, rfl, rfl⟩) (fun _ _ => rfl) rfl hf (fun h_4 hf => ?_)
  refine go_aload_n dX2_init_25 rfl 0 rfl ?_
  refine go_iload dX2_init_26 5 rfl ?_
  refine go_putI dX2_init_28 fl_910_0 (fun q hq => by cases hq; exact Or.inr ⟨rfl, rfl, rfl⟩) (fun _ _ => rfl) rfl hf (fun h_5 hf => ?_)
  exact go_return dX2_init_31 rfl hf
-- LetterBroker$Office.addConsumer(LLetterBroker$Queue;LLetterBroker$Channel;JZ)V
theorem dX8_addConsumer_0 : decode cX8_addConsumer 0 = .ok (.aload_n 0, 1) := by decide +kernel
theorem dX8_addConsumer_1 : decode cX8_addConsumer 1 = .ok (.dup, 1) := by decide +kernel
theorem dX8_addConsumer_2 : decode cX8_addConsumer 2 = .ok (.getfield 79, 3) := by decide +kernel
theorem dX8_addConsumer_5 : decode cX8_addConsumer 5 = .ok (.iconst 1, 1) := by decide +kernel
theorem dX8_addConsumer_6 : decode cX8_addConsumer 6 = .ok (.iadd, 1) := by decide +kernel
theorem dX8_addConsumer_7 : decode cX8_addConsumer 7 = .ok (.putfield 79, 3) := by decide +kernel
theorem dX8_addConsumer_10 : decode cX8_addConsumer 10 = .ok (.aload_n 0, 1) := by decide +kernel
theorem dX8_addConsumer_11 : decode cX8_addConsumer 11 = .ok (.getfield 24, 3) := by decide +kernel
theorem dX8_addConsumer_14 : decode cX8_addConsumer 14 = .ok (.new 66, 3) := by decide +kernel
theorem dX8_addConsumer_17 : decode cX8_addConsumer 17 = .ok (.dup, 1) := by decide +kernel
theorem dX8_addConsumer_18 : decode cX8_addConsumer 18 = .ok (.aload_n 1, 1) := by decide +kernel
theorem dX8_addConsumer_19 : decode cX8_addConsumer 19 = .ok (.aload_n 2, 1) := by decide +kernel
theorem dX8_addConsumer_20 : decode cX8_addConsumer 20 = .ok (.lload_n 3, 1) := by decide +kernel
theorem dX8_addConsumer_21 : decode cX8_addConsumer 21 = .ok (.iload 5, 2) := by decide +kernel
theorem dX8_addConsumer_23 : decode cX8_addConsumer 23 = .ok (.aload_n 0, 1) := by decide +kernel
theorem dX8_addConsumer_24 : decode cX8_addConsumer 24 = .ok (.getfield 79, 3) := by decide +kernel
theorem dX8_addConsumer_27 : decode cX8_addConsumer 27 = .ok (.invokespecial 83, 3) := by decide +kernel
theorem dX8_addConsumer_30 : decode cX8_addConsumer 30 = .ok (.invokeinterface 32 2, 5) := by decide +kernel
theorem dX8_addConsumer_35 : decode cX8_addConsumer 35 = .ok (.pop, 1) := by decide +kernel
theorem dX8_addConsumer_36 : decode cX8_addConsumer 36 = .ok (.return_, 1) := by decide +kernel
def f_X8_addConsumer (a0 : Nat) (r1 : Option Nat) (r2 : Option Nat) (x3 : Int64) (x5 : Int32) (h : AH) : Option (Unit × AH) := rdI h a0 9 5 fun x_1 =>
  wrI h a0 9 5 (x_1 + 1) fun h_2 =>
  rdR h_2 a0 9 3 fun r_3 =>
  nwO h_2 3 fun a_4 h_5 =>
  rdI h_5 a0 9 5 fun x_6 =>
  bd (f_X2_init a_4 r1 r2 x3 x5 x_6 h_5) fun _ h_8 =>
  nn r_3 fun a_9 =>
  kg h_8 a_9 0 (bd (f_Jx4a65c_add_9ea2d a_9 (some a_4) h_8) fun x_12 h_11 =>
  some ((), h_11))
set_option maxRecDepth 20000 in
set_option maxHeartbeats 4000000 in
theorem t_X8_addConsumer {Ω : Om} (a0 : Nat) (r1 : Option Nat) (r2 : Option Nat) (x3 : Int64) (x5 : Int32) (h : AH) (q : Unit × AH) (hf : f_X8_addConsumer a0 r1 r2 x3 x5 h = some q) : Go Ω M_X8_addConsumer 0 (lv_args 0 [vR Ω (some a0), vR Ω r1, vR Ω r2, .long x3, .int x5]) [] h none q.2 := by
  unfold f_X8_addConsumer at hf
  rw [la_R, la_R, la_R, la_J, la_I, la_0]
  refine go_sub (lv' := [(0, vR Ω (some a0)), (1, vR Ω r1), (2, vR Ω r2), (3, .long x3), (5, .int x5)]) [0, 1, 2, 3, 4] rfl ?_
  refine go_aload_n dX8_addConsumer_0 rfl 0 rfl ?_
  refine go_dup dX8_addConsumer_1 catR ?_
  refine go_getI dX8_addConsumer_2 fl_325_0 (fun _ _ => rfl) hf (fun x_1 hf => ?_)
  refine go_iconst 1 dX8_addConsumer_5 rfl ?_
  refine go_iadd dX8_addConsumer_6 ?_
  refine go_putI dX8_addConsumer_7 fl_325_0 (fun q hq => by cases hq; exact Or.inl rfl) (fun _ _ => rfl) rfl hf (fun h_2 hf => ?_)
  refine go_aload_n dX8_addConsumer_10 rfl 0 rfl ?_
  refine go_getR dX8_addConsumer_11 fl_322_0 (fun _ _ => rfl) hf (fun r_3 hf => ?_)
  refine go_new (c := 3) dX8_addConsumer_14 (by decide) rfl w674 hf (fun a_4 h_5 hf => ?_)
  refine go_dup dX8_addConsumer_17 catR ?_
  refine go_aload_n dX8_addConsumer_18 rfl 1 rfl ?_
  refine go_aload_n dX8_addConsumer_19 rfl 2 rfl ?_
  refine go_lload_n dX8_addConsumer_20 rfl 3 rfl ?_
  refine go_iload dX8_addConsumer_21 4 rfl ?_
  refine go_aload_n dX8_addConsumer_23 rfl 0 rfl ?_
  refine go_getI dX8_addConsumer_24 fl_325_0 (fun _ _ => rfl) hf (fun x_6 hf => ?_)
  obtain ⟨z_7, hc, hf⟩ := bd_some hf
  refine go_callI (y2 := M_X2_init) dX8_addConsumer_27 mo_X2_init ⟨Nat.le_of_ble_eq_true rfl, Nat.le_of_ble_eq_true rfl⟩ na_X2_init w896 w897 rfl rfl [vR Ω r1, vR Ω r2, .long x3, .int x5, .int x_6] rfl (n_X2_init (a_4) r1 r2 x3 x5 x_6) rfl (csum (Nat.le_of_ble_eq_true rfl)) (t_X2_init (a_4) r1 r2 x3 x5 x_6 h_5 _ hc) ?_
  obtain ⟨_, h_8⟩ := z_7
  obtain ⟨a_9, rfl, hga_9⟩ := nn_some hf
  have hf := hga_9
  obtain ⟨hk, hf⟩ := kg_some hf
  obtain ⟨z_10, hc, hf⟩ := bd_some hf
  refine go_callF (y2 := M_Jx4a65c_add_9ea2d) (x2 := ⟨"java/util/List", "add", "(Ljava/lang/Object;)Z"⟩) dX8_addConsumer_30 mo_Jx4a65c_add_9ea2d ⟨Nat.le_of_ble_eq_true rfl, Nat.le_of_ble_eq_true rfl⟩ na_Jx4a65c_add_9ea2d w250 w256 w254 (by decide) (fun U hU => hU.1) hk [vR Ω (some a_4)] rfl (n_Jx4a65c_add_9ea2d (a_9) (some a_4)) rfl (csum (Nat.le_of_ble_eq_true rfl)) (t_Jx4a65c_add_9ea2d (a_9) (some a_4) h_8 _ hc) ?_
  obtain ⟨x_12, h_11⟩ := z_10
  refine go_pop dX8_addConsumer_35 rfl ?_
  exact go_return dX8_addConsumer_36 rfl hf

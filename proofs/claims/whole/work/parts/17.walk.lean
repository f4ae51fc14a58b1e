/-! printed by wip/whole/gen: functions and their walks -/
-- LetterBroker$Binding.wordsOf(J)[J
theorem dX0_wordsOf_0 : decode cX0_wordsOf 0 = .ok (.iconst 1, 1) := by decide +kernel
theorem dX0_wordsOf_1 : decode cX0_wordsOf 1 = .ok (.istore_n 2, 1) := by decide +kernel
theorem dX0_wordsOf_2 : decode cX0_wordsOf 2 = .ok (.bipush 7, 2) := by decide +kernel
theorem dX0_wordsOf_4 : decode cX0_wordsOf 4 = .ok (.istore_n 3, 1) := by decide +kernel
theorem dX0_wordsOf_5 : decode cX0_wordsOf 5 = .ok (.iload_n 3, 1) := by decide +kernel
theorem dX0_wordsOf_6 : decode cX0_wordsOf 6 = .ok (.ifCond .lt 34, 3) := by decide +kernel
theorem dX0_wordsOf_9 : decode cX0_wordsOf 9 = .ok (.iload_n 2, 1) := by decide +kernel
theorem dX0_wordsOf_10 : decode cX0_wordsOf 10 = .ok (.lload_n 0, 1) := by decide +kernel
theorem dX0_wordsOf_11 : decode cX0_wordsOf 11 = .ok (.bipush 8, 2) := by decide +kernel
theorem dX0_wordsOf_13 : decode cX0_wordsOf 13 = .ok (.iload_n 3, 1) := by decide +kernel
theorem dX0_wordsOf_14 : decode cX0_wordsOf 14 = .ok (.imul, 1) := by decide +kernel
theorem dX0_wordsOf_15 : decode cX0_wordsOf 15 = .ok (.lushr, 1) := by decide +kernel
theorem dX0_wordsOf_16 : decode cX0_wordsOf 16 = .ok (.ldc2_w 45, 3) := by decide +kernel
theorem dX0_wordsOf_19 : decode cX0_wordsOf 19 = .ok (.land, 1) := by decide +kernel
theorem dX0_wordsOf_20 : decode cX0_wordsOf 20 = .ok (.ldc2_w 47, 3) := by decide +kernel
theorem dX0_wordsOf_23 : decode cX0_wordsOf 23 = .ok (.lcmp, 1) := by decide +kernel
theorem dX0_wordsOf_24 : decode cX0_wordsOf 24 = .ok (.ifCond .ne 7, 3) := by decide +kernel
theorem dX0_wordsOf_27 : decode cX0_wordsOf 27 = .ok (.iconst 1, 1) := by decide +kernel
theorem dX0_wordsOf_28 : decode cX0_wordsOf 28 = .ok (.goto 4, 3) := by decide +kernel
theorem dX0_wordsOf_31 : decode cX0_wordsOf 31 = .ok (.iconst 0, 1) := by decide +kernel
theorem dX0_wordsOf_32 : decode cX0_wordsOf 32 = .ok (.iadd, 1) := by decide +kernel
theorem dX0_wordsOf_33 : decode cX0_wordsOf 33 = .ok (.istore_n 2, 1) := by decide +kernel
theorem dX0_wordsOf_34 : decode cX0_wordsOf 34 = .ok (.iinc 3 (-1), 3) := by decide +kernel
theorem dX0_wordsOf_37 : decode cX0_wordsOf 37 = .ok (.goto (-32), 3) := by decide +kernel
theorem dX0_wordsOf_40 : decode cX0_wordsOf 40 = .ok (.iload_n 2, 1) := by decide +kernel
theorem dX0_wordsOf_41 : decode cX0_wordsOf 41 = .ok (.newarray .long, 2) := by decide +kernel
theorem dX0_wordsOf_43 : decode cX0_wordsOf 43 = .ok (.astore_n 3, 1) := by decide +kernel
theorem dX0_wordsOf_44 : decode cX0_wordsOf 44 = .ok (.iconst 0, 1) := by decide +kernel
theorem dX0_wordsOf_45 : decode cX0_wordsOf 45 = .ok (.istore 4, 2) := by decide +kernel
theorem dX0_wordsOf_47 : decode cX0_wordsOf 47 = .ok (.bipush 7, 2) := by decide +kernel
theorem dX0_wordsOf_49 : decode cX0_wordsOf 49 = .ok (.istore 5, 2) := by decide +kernel
theorem dX0_wordsOf_51 : decode cX0_wordsOf 51 = .ok (.iload 5, 2) := by decide +kernel
theorem dX0_wordsOf_53 : decode cX0_wordsOf 53 = .ok (.ifCond .lt 57, 3) := by decide +kernel
theorem dX0_wordsOf_56 : decode cX0_wordsOf 56 = .ok (.lload_n 0, 1) := by decide +kernel
theorem dX0_wordsOf_57 : decode cX0_wordsOf 57 = .ok (.bipush 8, 2) := by decide +kernel
theorem dX0_wordsOf_59 : decode cX0_wordsOf 59 = .ok (.iload 5, 2) := by decide +kernel
theorem dX0_wordsOf_61 : decode cX0_wordsOf 61 = .ok (.imul, 1) := by decide +kernel
theorem dX0_wordsOf_62 : decode cX0_wordsOf 62 = .ok (.lushr, 1) := by decide +kernel
theorem dX0_wordsOf_63 : decode cX0_wordsOf 63 = .ok (.ldc2_w 45, 3) := by decide +kernel
theorem dX0_wordsOf_66 : decode cX0_wordsOf 66 = .ok (.land, 1) := by decide +kernel
theorem dX0_wordsOf_67 : decode cX0_wordsOf 67 = .ok (.lstore 6, 2) := by decide +kernel
theorem dX0_wordsOf_69 : decode cX0_wordsOf 69 = .ok (.lload 6, 2) := by decide +kernel
theorem dX0_wordsOf_71 : decode cX0_wordsOf 71 = .ok (.ldc2_w 47, 3) := by decide +kernel
theorem dX0_wordsOf_74 : decode cX0_wordsOf 74 = .ok (.lcmp, 1) := by decide +kernel
theorem dX0_wordsOf_75 : decode cX0_wordsOf 75 = .ok (.ifCond .ne 9, 3) := by decide +kernel
theorem dX0_wordsOf_78 : decode cX0_wordsOf 78 = .ok (.iinc 4 1, 3) := by decide +kernel
theorem dX0_wordsOf_81 : decode cX0_wordsOf 81 = .ok (.goto 23, 3) := by decide +kernel
theorem dX0_wordsOf_84 : decode cX0_wordsOf 84 = .ok (.iload 4, 2) := by decide +kernel
theorem dX0_wordsOf_86 : decode cX0_wordsOf 86 = .ok (.iload_n 2, 1) := by decide +kernel
theorem dX0_wordsOf_87 : decode cX0_wordsOf 87 = .ok (.if_icmp .ge 17, 3) := by decide +kernel
theorem dX0_wordsOf_90 : decode cX0_wordsOf 90 = .ok (.aload_n 3, 1) := by decide +kernel
theorem dX0_wordsOf_91 : decode cX0_wordsOf 91 = .ok (.iload 4, 2) := by decide +kernel
theorem dX0_wordsOf_93 : decode cX0_wordsOf 93 = .ok (.aload_n 3, 1) := by decide +kernel
theorem dX0_wordsOf_94 : decode cX0_wordsOf 94 = .ok (.iload 4, 2) := by decide +kernel
theorem dX0_wordsOf_96 : decode cX0_wordsOf 96 = .ok (.laload, 1) := by decide +kernel
theorem dX0_wordsOf_97 : decode cX0_wordsOf 97 = .ok (.bipush 8, 2) := by decide +kernel
theorem dX0_wordsOf_99 : decode cX0_wordsOf 99 = .ok (.lshl, 1) := by decide +kernel
theorem dX0_wordsOf_100 : decode cX0_wordsOf 100 = .ok (.lload 6, 2) := by decide +kernel
theorem dX0_wordsOf_102 : decode cX0_wordsOf 102 = .ok (.lor, 1) := by decide +kernel
theorem dX0_wordsOf_103 : decode cX0_wordsOf 103 = .ok (.lastore, 1) := by decide +kernel
theorem dX0_wordsOf_104 : decode cX0_wordsOf 104 = .ok (.iinc 5 (-1), 3) := by decide +kernel
theorem dX0_wordsOf_107 : decode cX0_wordsOf 107 = .ok (.goto (-56), 3) := by decide +kernel
theorem dX0_wordsOf_110 : decode cX0_wordsOf 110 = .ok (.aload_n 3, 1) := by decide +kernel
theorem dX0_wordsOf_111 : decode cX0_wordsOf 111 = .ok (.areturn, 1) := by decide +kernel
def f_X0_wordsOf_32 (k5 : Int64 → Int32 → Int32 → AH → Option (Option Nat × AH)) (x0 : Int64) (x3 : Int32) (s0 : Int32) (s1 : Int32) (h : AH) : Option (Option Nat × AH) := lt (s1 + s0) fun x_1 =>
  k5 x0 x_1 (x3 + (-1)) h
set_option maxRecDepth 20000 in
set_option maxHeartbeats 4000000 in
theorem t_X0_wordsOf_32 {Ω : Om} {k5 : Int64 → Int32 → Int32 → AH → Option (Option Nat × AH)} (c5 : ∀ (x0 : Int64) (x2 : Int32) (x3 : Int32) (h : AH) (q : Option Nat × AH), k5 x0 x2 x3 h = some q → Go Ω M_X0_wordsOf 5 [(0, .long x0), (2, .int x2), (3, .int x3)] [] h (some (vR Ω q.1)) q.2) (x0 : Int64) (x3 : Int32) (s0 : Int32) (s1 : Int32) (h : AH) (q : Option Nat × AH) (hf : f_X0_wordsOf_32 k5 x0 x3 s0 s1 h = some q) : Go Ω M_X0_wordsOf 32 [(0, .long x0), (3, .int x3)] [.int s0, .int s1] h (some (vR Ω q.1)) q.2 := by
  unfold f_X0_wordsOf_32 at hf
  refine go_iadd dX0_wordsOf_32 ?_
  refine lt_I hf (fun x_1 hf => ?_)
  refine go_istore_n (i := 2) (lv' := [(2, .int x_1), (0, .long x0), (3, .int x3)]) dX0_wordsOf_33 rfl (by decide) (by first | rfl | simp [catR, catI, catJ]) ?_
  refine go_iinc (j := 2) (v := x3 + (-1)) (lv' := [(3, .int (x3 + (-1))), (2, .int x_1), (0, .long x0)]) dX0_wordsOf_34 rfl rfl (by decide) (by first | rfl | simp [catR, catI, catJ]) ?_
  refine go_goto (tgt := 5) dX0_wordsOf_37 (by decide) ?_
  refine go_sub (lv' := [(0, .long x0), (2, .int x_1), (3, .int (x3 + (-1)))]) [2, 1, 0] rfl ?_
  exact c5 x0 x_1 (x3 + (-1)) h q hf
def f_X0_wordsOf_104 (k51 : Int64 → Int32 → Option Nat → Int32 → Int32 → AH → Option (Option Nat × AH)) (x0 : Int64) (x2 : Int32) (r3 : Option Nat) (x4 : Int32) (x5 : Int32) (h : AH) : Option (Option Nat × AH) := k51 x0 x2 r3 x4 (x5 + (-1)) h
set_option maxRecDepth 20000 in
set_option maxHeartbeats 4000000 in
theorem t_X0_wordsOf_104 {Ω : Om} {k51 : Int64 → Int32 → Option Nat → Int32 → Int32 → AH → Option (Option Nat × AH)} (c51 : ∀ (x0 : Int64) (x2 : Int32) (r3 : Option Nat) (x4 : Int32) (x5 : Int32) (h : AH) (q : Option Nat × AH), k51 x0 x2 r3 x4 x5 h = some q → Go Ω M_X0_wordsOf 51 [(0, .long x0), (2, .int x2), (3, vR Ω r3), (4, .int x4), (5, .int x5)] [] h (some (vR Ω q.1)) q.2) (x0 : Int64) (x2 : Int32) (r3 : Option Nat) (x4 : Int32) (x5 : Int32) (h : AH) (q : Option Nat × AH) (hf : f_X0_wordsOf_104 k51 x0 x2 r3 x4 x5 h = some q) : Go Ω M_X0_wordsOf 104 [(0, .long x0), (2, .int x2), (3, vR Ω r3), (4, .int x4), (5, .int x5)] [] h (some (vR Ω q.1)) q.2 := by
  unfold f_X0_wordsOf_104 at hf
  refine go_iinc (j := 4) (v := x5 + (-1)) (lv' := [(5, .int (x5 + (-1))), (0, .long x0), (2, .int x2), (3, vR Ω r3), (4, .int x4)]) dX0_wordsOf_104 rfl rfl (by decide) (by first | rfl | simp [catR, catI, catJ]) ?_
  refine go_goto (tgt := 51) dX0_wordsOf_107 (by decide) ?_
  refine go_sub (lv' := [(0, .long x0), (2, .int x2), (3, vR Ω r3), (4, .int x4), (5, .int (x5 + (-1)))]) [1, 2, 3, 4, 0] rfl ?_
  exact c51 x0 x2 r3 x4 (x5 + (-1)) h q hf
def f_X0_wordsOf_51 : Nat → Int64 → Int32 → Option Nat → Int32 → Int32 → AH → Option (Option Nat × AH)
  | 0, _, _, _, _, _, _ => none
  | n + 1, x0, x2, r3, x4, x5, h => (if x5 < 0 then
      some (r3, h)
    else
      lt (((x0.toUInt64 >>> ((8 * x5).toInt64.toUInt64 &&& Int64.toUInt64 63)).toInt64) &&& 255) fun x_1 =>
      (if (lg_cmp x_1 46) = 0 then
        f_X0_wordsOf_104 (fun x0 x2 r3 x4 x5 h => f_X0_wordsOf_51 n x0 x2 r3 x4 x5 h) x0 x2 r3 (x4 + 1) x5 h
      else
        (if x2 ≤ x4 then
          f_X0_wordsOf_104 (fun x0 x2 r3 x4 x5 h => f_X0_wordsOf_51 n x0 x2 r3 x4 x5 h) x0 x2 r3 x4 x5 h
        else
          nn r3 fun a_2 =>
          arJ h a_2 x4 fun x_3 =>
          asJ h a_2 x4 ((x_3 <<< ((8 : Int32).toInt64 &&& 63)) ||| x_1) fun h_4 =>
          f_X0_wordsOf_104 (fun x0 x2 r3 x4 x5 h => f_X0_wordsOf_51 n x0 x2 r3 x4 x5 h) x0 x2 (some a_2) x4 x5 h_4)))
set_option maxRecDepth 20000 in
set_option maxHeartbeats 4000000 in
theorem t_X0_wordsOf_51 {Ω : Om} : ∀ (n : Nat) (x0 : Int64) (x2 : Int32) (r3 : Option Nat) (x4 : Int32) (x5 : Int32) (h : AH) (q : Option Nat × AH), f_X0_wordsOf_51 n x0 x2 r3 x4 x5 h = some q → Go Ω M_X0_wordsOf 51 [(0, .long x0), (2, .int x2), (3, vR Ω r3), (4, .int x4), (5, .int x5)] [] h (some (vR Ω q.1)) q.2 := by
  intro n
  induction n with
  | zero => intro x0 x2 r3 x4 x5 h q hf; cases hf
  | succ n ih =>
    intro x0 x2 r3 x4 x5 h q hf
    rw [f_X0_wordsOf_51] at hf
    refine go_iload dX0_wordsOf_51 4 rfl ?_
    refine go_if_lt (tgt := 110) dX0_wordsOf_53 (by decide) hf (fun hf => ?_) (fun hf => ?_)
    · refine go_aload_n dX0_wordsOf_110 rfl 2 rfl ?_
      exact go_areturn dX0_wordsOf_111 rfl (Or.inr ⟨_, rfl⟩) hf
    · refine go_lload_n dX0_wordsOf_56 rfl 0 rfl ?_
      refine go_bipush 8 dX0_wordsOf_57 (by decide) ?_
      refine go_iload dX0_wordsOf_59 4 rfl ?_
      refine go_imul dX0_wordsOf_61 ?_
      refine go_lushr dX0_wordsOf_62 ?_
      refine go_ldc2 255 dX0_wordsOf_63 w837 ?_
      refine go_land dX0_wordsOf_66 ?_
      refine lt_J hf (fun x_1 hf => ?_)
      refine go_lstore (i := 6) (lv' := [(6, .long x_1), (0, .long x0), (2, .int x2), (3, vR Ω r3), (4, .int x4), (5, .int x5)]) dX0_wordsOf_67 (by decide) (by first | rfl | simp [catR, catI, catJ]) ?_
      refine go_lload dX0_wordsOf_69 0 rfl ?_
      refine go_ldc2 46 dX0_wordsOf_71 w838 ?_
      refine go_lcmp dX0_wordsOf_74 ?_
      refine go_if_ne (tgt := 84) dX0_wordsOf_75 (by decide) hf (fun hf => ?_) (fun hf => ?_)
      · refine go_iload dX0_wordsOf_84 4 rfl ?_
        refine go_iload_n dX0_wordsOf_86 rfl 2 rfl ?_
        refine go_icmp_ge (tgt := 104) dX0_wordsOf_87 (by decide) hf (fun hf => ?_) (fun hf => ?_)
        · refine go_sub (lv' := [(0, .long x0), (2, .int x2), (3, vR Ω r3), (4, .int x4), (5, .int x5)]) [1, 2, 3, 4, 5] rfl ?_
          exact t_X0_wordsOf_104 ih x0 x2 r3 x4 x5 h q hf
        · refine go_aload_n dX0_wordsOf_90 rfl 3 rfl ?_
          refine go_iload dX0_wordsOf_91 4 rfl ?_
          refine go_aload_n dX0_wordsOf_93 rfl 3 rfl ?_
          refine go_iload dX0_wordsOf_94 4 rfl ?_
          obtain ⟨a_2, rfl, hga_2⟩ := nn_some hf
          have hf := hga_2
          refine go_laload dX0_wordsOf_96 hf (fun x_3 hf => ?_)
          refine go_bipush 8 dX0_wordsOf_97 (by decide) ?_
          refine go_lshl dX0_wordsOf_99 ?_
          refine go_lload dX0_wordsOf_100 0 rfl ?_
          refine go_lor dX0_wordsOf_102 ?_
          refine go_lastore dX0_wordsOf_103 hf (fun h_4 hf => ?_)
          refine go_sub (lv' := [(0, .long x0), (2, .int x2), (3, vR Ω (some a_2)), (4, .int x4), (5, .int x5)]) [1, 2, 3, 4, 5] rfl ?_
          exact t_X0_wordsOf_104 ih x0 x2 (some a_2) x4 x5 h_4 q hf
      · refine go_iinc (j := 4) (v := x4 + 1) (lv' := [(4, .int (x4 + 1)), (6, .long x_1), (0, .long x0), (2, .int x2), (3, vR Ω r3), (5, .int x5)]) dX0_wordsOf_78 rfl rfl (by decide) (by first | rfl | simp [catR, catI, catJ]) ?_
        refine go_goto (tgt := 104) dX0_wordsOf_81 (by decide) ?_
        refine go_sub (lv' := [(0, .long x0), (2, .int x2), (3, vR Ω r3), (4, .int (x4 + 1)), (5, .int x5)]) [2, 3, 4, 0, 5] rfl ?_
        exact t_X0_wordsOf_104 ih x0 x2 r3 (x4 + 1) x5 h q hf
def f_X0_wordsOf_40 (x0 : Int64) (x2 : Int32) (h : AH) : Option (Option Nat × AH) := nwA h 101 x2 fun a_1 h_2 =>
  f_X0_wordsOf_51 FU x0 x2 (some a_1) 0 7 h_2
set_option maxRecDepth 20000 in
set_option maxHeartbeats 4000000 in
theorem t_X0_wordsOf_40 {Ω : Om} (x0 : Int64) (x2 : Int32) (h : AH) (q : Option Nat × AH) (hf : f_X0_wordsOf_40 x0 x2 h = some q) : Go Ω M_X0_wordsOf 40 [(0, .long x0), (2, .int x2)] [] h (some (vR Ω q.1)) q.2 := by
  unfold f_X0_wordsOf_40 at hf
  refine go_iload_n dX0_wordsOf_40 rfl 1 rfl ?_
  refine go_newJ dX0_wordsOf_41 hf (fun a_1 h_2 hf => ?_)
  refine go_astore_n (i := 3) (lv' := [(3, vR Ω (some a_1)), (0, .long x0), (2, .int x2)]) dX0_wordsOf_43 rfl (by decide) (by first | rfl | simp [catR, catI, catJ]) ?_
  refine go_iconst 0 dX0_wordsOf_44 rfl ?_
  refine go_istore (i := 4) (lv' := [(4, .int 0), (3, vR Ω (some a_1)), (0, .long x0), (2, .int x2)]) dX0_wordsOf_45 (by decide) (by first | rfl | simp [catR, catI, catJ]) ?_
  refine go_bipush 7 dX0_wordsOf_47 (by decide) ?_
  refine go_istore (i := 5) (lv' := [(5, .int 7), (4, .int 0), (3, vR Ω (some a_1)), (0, .long x0), (2, .int x2)]) dX0_wordsOf_49 (by decide) (by first | rfl | simp [catR, catI, catJ]) ?_
  refine go_sub (lv' := [(0, .long x0), (2, .int x2), (3, vR Ω (some a_1)), (4, .int 0), (5, .int 7)]) [3, 4, 2, 1, 0] rfl ?_
  exact t_X0_wordsOf_51 FU x0 x2 (some a_1) 0 7 h_2 q hf
def f_X0_wordsOf_5 : Nat → Int64 → Int32 → Int32 → AH → Option (Option Nat × AH)
  | 0, _, _, _, _ => none
  | n + 1, x0, x2, x3, h => (if x3 < 0 then
      f_X0_wordsOf_40 x0 x2 h
    else
      (if (lg_cmp (((x0.toUInt64 >>> ((8 * x3).toInt64.toUInt64 &&& Int64.toUInt64 63)).toInt64) &&& 255) 46) = 0 then
        f_X0_wordsOf_32 (fun x0 x2 x3 h => f_X0_wordsOf_5 n x0 x2 x3 h) x0 x3 1 x2 h
      else
        f_X0_wordsOf_32 (fun x0 x2 x3 h => f_X0_wordsOf_5 n x0 x2 x3 h) x0 x3 0 x2 h))
set_option maxRecDepth 20000 in
set_option maxHeartbeats 4000000 in
theorem t_X0_wordsOf_5 {Ω : Om} : ∀ (n : Nat) (x0 : Int64) (x2 : Int32) (x3 : Int32) (h : AH) (q : Option Nat × AH), f_X0_wordsOf_5 n x0 x2 x3 h = some q → Go Ω M_X0_wordsOf 5 [(0, .long x0), (2, .int x2), (3, .int x3)] [] h (some (vR Ω q.1)) q.2 := by
  intro n
  induction n with
  | zero => intro x0 x2 x3 h q hf; cases hf
  | succ n ih =>
    intro x0 x2 x3 h q hf
    rw [f_X0_wordsOf_5] at hf
    refine go_iload_n dX0_wordsOf_5 rfl 2 rfl ?_
    refine go_if_lt (tgt := 40) dX0_wordsOf_6 (by decide) hf (fun hf => ?_) (fun hf => ?_)
    · refine go_sub (lv' := [(0, .long x0), (2, .int x2)]) [0, 1] rfl ?_
      exact t_X0_wordsOf_40 x0 x2 h q hf
    · refine go_iload_n dX0_wordsOf_9 rfl 1 rfl ?_
      refine go_lload_n dX0_wordsOf_10 rfl 0 rfl ?_
      refine go_bipush 8 dX0_wordsOf_11 (by decide) ?_
      refine go_iload_n dX0_wordsOf_13 rfl 2 rfl ?_
      refine go_imul dX0_wordsOf_14 ?_
      refine go_lushr dX0_wordsOf_15 ?_
      refine go_ldc2 255 dX0_wordsOf_16 w837 ?_
      refine go_land dX0_wordsOf_19 ?_
      refine go_ldc2 46 dX0_wordsOf_20 w838 ?_
      refine go_lcmp dX0_wordsOf_23 ?_
      refine go_if_ne (tgt := 31) dX0_wordsOf_24 (by decide) hf (fun hf => ?_) (fun hf => ?_)
      · refine go_iconst 0 dX0_wordsOf_31 rfl ?_
        refine go_sub (lv' := [(0, .long x0), (3, .int x3)]) [0, 2] rfl ?_
        exact t_X0_wordsOf_32 ih x0 x3 0 x2 h q hf
      · refine go_iconst 1 dX0_wordsOf_27 rfl ?_
        refine go_goto (tgt := 32) dX0_wordsOf_28 (by decide) ?_
        refine go_sub (lv' := [(0, .long x0), (3, .int x3)]) [0, 2] rfl ?_
        exact t_X0_wordsOf_32 ih x0 x3 1 x2 h q hf
def f_X0_wordsOf (x0 : Int64) (h : AH) : Option (Option Nat × AH) := f_X0_wordsOf_5 FU x0 1 7 h
set_option maxRecDepth 20000 in
set_option maxHeartbeats 4000000 in
theorem t_X0_wordsOf {Ω : Om} (x0 : Int64) (h : AH) (q : Option Nat × AH) (hf : f_X0_wordsOf x0 h = some q) : Go Ω M_X0_wordsOf 0 (lv_args 0 [.long x0]) [] h (some (vR Ω q.1)) q.2 := by
  unfold f_X0_wordsOf at hf
  rw [la_J, la_0]
  refine go_sub (lv' := [(0, .long x0)]) [0] rfl ?_
  refine go_iconst 1 dX0_wordsOf_0 rfl ?_
  refine go_istore_n (i := 2) (lv' := [(2, .int 1), (0, .long x0)]) dX0_wordsOf_1 rfl (by decide) (by first | rfl | simp [catR, catI, catJ]) ?_
  refine go_bipush 7 dX0_wordsOf_2 (by decide) ?_
  refine go_istore_n (i := 3) (lv' := [(3, .int 7), (2, .int 1), (0, .long x0)]) dX0_wordsOf_4 rfl (by decide) (by first | rfl | simp [catR, catI, catJ]) ?_
  refine go_sub (lv' := [(0, .long x0), (2, .int 1), (3, .int 7)]) [2, 1, 0] rfl ?_
  exact t_X0_wordsOf_5 FU x0 1 7 h q hf
-- LetterBroker$Binding.<init>(LLetterBroker$Queue;LLetterBroker$Exchange;J)V
theorem dX0_init_0 : decode cX0_init 0 = .ok (.aload_n 0, 1) := by decide +kernel
theorem dX0_init_1 : decode cX0_init 1 = .ok (.invokespecial 3, 3) := by decide +kernel
theorem dX0_init_4 : decode cX0_init 4 = .ok (.aload_n 0, 1) := by decide +kernel
theorem dX0_init_5 : decode cX0_init 5 = .ok (.aload_n 1, 1) := by decide +kernel
theorem dX0_init_6 : decode cX0_init 6 = .ok (.putfield 9, 3) := by decide +kernel
theorem dX0_init_9 : decode cX0_init 9 = .ok (.aload_n 0, 1) := by decide +kernel
theorem dX0_init_10 : decode cX0_init 10 = .ok (.aload_n 2, 1) := by decide +kernel
theorem dX0_init_11 : decode cX0_init 11 = .ok (.putfield 15, 3) := by decide +kernel
theorem dX0_init_14 : decode cX0_init 14 = .ok (.aload_n 0, 1) := by decide +kernel
theorem dX0_init_15 : decode cX0_init 15 = .ok (.lload_n 3, 1) := by decide +kernel
theorem dX0_init_16 : decode cX0_init 16 = .ok (.putfield 19, 3) := by decide +kernel
theorem dX0_init_19 : decode cX0_init 19 = .ok (.aload_n 0, 1) := by decide +kernel
theorem dX0_init_20 : decode cX0_init 20 = .ok (.lload_n 3, 1) := by decide +kernel
theorem dX0_init_21 : decode cX0_init 21 = .ok (.invokestatic 23, 3) := by decide +kernel
theorem dX0_init_24 : decode cX0_init 24 = .ok (.putfield 27, 3) := by decide +kernel
theorem dX0_init_27 : decode cX0_init 27 = .ok (.return_, 1) := by decide +kernel
def f_X0_init (a0 : Nat) (r1 : Option Nat) (r2 : Option Nat) (x3 : Int64) (h : AH) : Option (Unit × AH) := wrR h a0 1 0 r1 fun h_1 =>
  wrR h_1 a0 1 1 r2 fun h_2 =>
  wrJ h_2 a0 1 2 x3 fun h_3 =>
  bd (f_X0_wordsOf x3 h_3) fun r_6 h_5 =>
  wrR h_5 a0 1 3 r_6 fun h_7 =>
  some ((), h_7)
set_option maxRecDepth 20000 in
set_option maxHeartbeats 4000000 in
theorem t_X0_init {Ω : Om} (a0 : Nat) (r1 : Option Nat) (r2 : Option Nat) (x3 : Int64) (h : AH) (q : Unit × AH) (hf : f_X0_init a0 r1 r2 x3 h = some q) : Go Ω M_X0_init 0 (lv_args 0 [vR Ω (some a0), vR Ω r1, vR Ω r2, .long x3]) [] h none q.2 := by
  unfold f_X0_init at hf
  rw [la_R, la_R, la_R, la_J, la_0]
  refine go_sub (lv' := [(0, vR Ω (some a0)), (1, vR Ω r1), (2, vR Ω r2), (3, .long x3)]) [0, 1, 2, 3] rfl ?_
  refine go_aload_n dX0_init_0 rfl 0 rfl ?_
  refine go_objInit dX0_init_1 w833 ⟨by decide, cadd (csum (Nat.le_of_ble_eq_true rfl)) (by decide +kernel)⟩ ?_
  refine go_aload_n dX0_init_4 rfl 0 rfl ?_
  refine go_aload_n dX0_init_5 rfl 1 rfl ?_
  refine go_putR dX0_init_6 fl_839_0 (fun q hq => by cases hq; exact Or.inr ⟨rfl, rfl, rfl⟩) (fun _ _ => rfl) (Or.inl ⟨_, rfl⟩) hf (fun h_1 hf => ?_)
  refine go_aload_n dX0_init_9 rfl 0 rfl ?_
  refine go_aload_n dX0_init_10 rfl 2 rfl ?_
  refine go_putR dX0_init_11 fl_841_0 (fun q hq => by cases hq; exact Or.inr ⟨rfl, rfl, rfl⟩) (fun _ _ => rfl) (Or.inl ⟨_, rfl⟩) hf (fun h_2 hf => ?_)
  refine go_aload_n dX0_init_14 rfl 0 rfl ?_
  refine go_lload_n dX0_init_15 rfl 3 rfl ?_
  refine go_putJ dX0_init_16 fl_843_0 (fun q hq => by cases hq; exact Or.inr ⟨rfl, rfl, rfl⟩) (fun _ _ => rfl) rfl hf (fun h_3 hf => ?_)
  refine go_aload_n dX0_init_19 rfl 0 rfl ?_
  refine go_lload_n dX0_init_20 rfl 3 rfl ?_
  obtain ⟨z_4, hc, hf⟩ := bd_some hf
  refine go_callS (y2 := M_X0_wordsOf) dX0_init_21 mo_X0_wordsOf ⟨Nat.le_of_ble_eq_true rfl, Nat.le_of_ble_eq_true rfl⟩ na_X0_wordsOf w834 w835 [.long x3] rfl (n_X0_wordsOf x3) rfl (csum (Nat.le_of_ble_eq_true rfl)) (t_X0_wordsOf x3 h_3 _ hc) ?_
  obtain ⟨r_6, h_5⟩ := z_4
  refine go_putR dX0_init_24 fl_845_0 (fun q hq => by cases hq; exact Or.inr ⟨rfl, rfl, rfl⟩) (fun _ _ => rfl) (Or.inr ⟨_, rfl⟩) hf (fun h_7 hf => ?_)
  exact go_return dX0_init_27 rfl hf
-- LetterBroker$Office.bindingAt(LLetterBroker$Queue;LLetterBroker$Exchange;J)I
theorem dX8_bindingAt_0 : decode cX8_bindingAt 0 = .ok (.iconst 0, 1) := by decide +kernel
theorem dX8_bindingAt_1 : decode cX8_bindingAt 1 = .ok (.istore 5, 2) := by decide +kernel
theorem dX8_bindingAt_3 : decode cX8_bindingAt 3 = .ok (.iload 5, 2) := by decide +kernel
theorem dX8_bindingAt_5 : decode cX8_bindingAt 5 = .ok (.aload_n 0, 1) := by decide +kernel
theorem dX8_bindingAt_6 : decode cX8_bindingAt 6 = .ok (.getfield 21, 3) := by decide +kernel
theorem dX8_bindingAt_9 : decode cX8_bindingAt 9 = .ok (.invokeinterface 38 1, 5) := by decide +kernel
theorem dX8_bindingAt_14 : decode cX8_bindingAt 14 = .ok (.if_icmp .ge 56, 3) := by decide +kernel
theorem dX8_bindingAt_17 : decode cX8_bindingAt 17 = .ok (.aload_n 0, 1) := by decide +kernel
theorem dX8_bindingAt_18 : decode cX8_bindingAt 18 = .ok (.getfield 21, 3) := by decide +kernel
theorem dX8_bindingAt_21 : decode cX8_bindingAt 21 = .ok (.iload 5, 2) := by decide +kernel
theorem dX8_bindingAt_23 : decode cX8_bindingAt 23 = .ok (.invokeinterface 42 2, 5) := by decide +kernel
theorem dX8_bindingAt_28 : decode cX8_bindingAt 28 = .ok (.checkcast 53, 3) := by decide +kernel
theorem dX8_bindingAt_31 : decode cX8_bindingAt 31 = .ok (.astore 6, 2) := by decide +kernel
theorem dX8_bindingAt_33 : decode cX8_bindingAt 33 = .ok (.aload 6, 2) := by decide +kernel
theorem dX8_bindingAt_35 : decode cX8_bindingAt 35 = .ok (.getfield 55, 3) := by decide +kernel
theorem dX8_bindingAt_38 : decode cX8_bindingAt 38 = .ok (.aload_n 1, 1) := by decide +kernel
theorem dX8_bindingAt_39 : decode cX8_bindingAt 39 = .ok (.if_acmp .ne 25, 3) := by decide +kernel
theorem dX8_bindingAt_42 : decode cX8_bindingAt 42 = .ok (.aload 6, 2) := by decide +kernel
theorem dX8_bindingAt_44 : decode cX8_bindingAt 44 = .ok (.getfield 59, 3) := by decide +kernel
theorem dX8_bindingAt_47 : decode cX8_bindingAt 47 = .ok (.aload_n 2, 1) := by decide +kernel
theorem dX8_bindingAt_48 : decode cX8_bindingAt 48 = .ok (.if_acmp .ne 16, 3) := by decide +kernel
theorem dX8_bindingAt_51 : decode cX8_bindingAt 51 = .ok (.aload 6, 2) := by decide +kernel
theorem dX8_bindingAt_53 : decode cX8_bindingAt 53 = .ok (.getfield 63, 3) := by decide +kernel
theorem dX8_bindingAt_56 : decode cX8_bindingAt 56 = .ok (.lload_n 3, 1) := by decide +kernel
theorem dX8_bindingAt_57 : decode cX8_bindingAt 57 = .ok (.lcmp, 1) := by decide +kernel
theorem dX8_bindingAt_58 : decode cX8_bindingAt 58 = .ok (.ifCond .ne 6, 3) := by decide +kernel
theorem dX8_bindingAt_61 : decode cX8_bindingAt 61 = .ok (.iload 5, 2) := by decide +kernel
theorem dX8_bindingAt_63 : decode cX8_bindingAt 63 = .ok (.ireturn, 1) := by decide +kernel
theorem dX8_bindingAt_64 : decode cX8_bindingAt 64 = .ok (.iinc 5 1, 3) := by decide +kernel
theorem dX8_bindingAt_67 : decode cX8_bindingAt 67 = .ok (.goto (-64), 3) := by decide +kernel
theorem dX8_bindingAt_70 : decode cX8_bindingAt 70 = .ok (.iconst (-1), 1) := by decide +kernel
theorem dX8_bindingAt_71 : decode cX8_bindingAt 71 = .ok (.ireturn, 1) := by decide +kernel
def f_X8_bindingAt_64 (k3 : Nat → Option Nat → Option Nat → Int64 → Int32 → AH → Option (Int32 × AH)) (a0 : Nat) (r1 : Option Nat) (r2 : Option Nat) (x3 : Int64) (x5 : Int32) (h : AH) : Option (Int32 × AH) := k3 a0 r1 r2 x3 (x5 + 1) h
set_option maxRecDepth 20000 in
set_option maxHeartbeats 4000000 in
theorem t_X8_bindingAt_64 {Ω : Om} {k3 : Nat → Option Nat → Option Nat → Int64 → Int32 → AH → Option (Int32 × AH)} (c3 : ∀ (a0 : Nat) (r1 : Option Nat) (r2 : Option Nat) (x3 : Int64) (x5 : Int32) (h : AH) (q : Int32 × AH), k3 a0 r1 r2 x3 x5 h = some q → Go Ω M_X8_bindingAt 3 [(0, vR Ω (some a0)), (1, vR Ω r1), (2, vR Ω r2), (3, .long x3), (5, .int x5)] [] h (some (.int q.1)) q.2) (a0 : Nat) (r1 : Option Nat) (r2 : Option Nat) (x3 : Int64) (x5 : Int32) (h : AH) (q : Int32 × AH) (hf : f_X8_bindingAt_64 k3 a0 r1 r2 x3 x5 h = some q) : Go Ω M_X8_bindingAt 64 [(0, vR Ω (some a0)), (1, vR Ω r1), (2, vR Ω r2), (3, .long x3), (5, .int x5)] [] h (some (.int q.1)) q.2 := by
  unfold f_X8_bindingAt_64 at hf
  refine go_iinc (j := 4) (v := x5 + 1) (lv' := [(5, .int (x5 + 1)), (0, vR Ω (some a0)), (1, vR Ω r1), (2, vR Ω r2), (3, .long x3)]) dX8_bindingAt_64 rfl rfl (by decide) (by first | rfl | simp [catR, catI, catJ]) ?_
  refine go_goto (tgt := 3) dX8_bindingAt_67 (by decide) ?_
  refine go_sub (lv' := [(0, vR Ω (some a0)), (1, vR Ω r1), (2, vR Ω r2), (3, .long x3), (5, .int (x5 + 1))]) [1, 2, 3, 4, 0] rfl ?_
  exact c3 a0 r1 r2 x3 (x5 + 1) h q hf
def f_X8_bindingAt_3 : Nat → Nat → Option Nat → Option Nat → Int64 → Int32 → AH → Option (Int32 × AH)
  | 0, _, _, _, _, _, _ => none
  | n + 1, a0, r1, r2, x3, x5, h => rdR h a0 9 2 fun r_1 =>
    nn r_1 fun a_2 =>
    kg h a_2 0 (bd (f_Jx4a65c_size_8abf5 a_2 h) fun x_5 h_4 =>
    (if x_5 ≤ x5 then
      some (((-1)), h_4)
    else
      rdR h_4 a0 9 2 fun r_6 =>
      nn r_6 fun a_7 =>
      kg h_4 a_7 0 (bd (f_Jx4a65c_get_915e3 a_7 x5 h_4) fun r_10 h_9 =>
      ckc h_9 r_10 1 (
      nn r_10 fun a_11 =>
      rdR h_9 a_11 1 0 fun r_12 =>
      aq r_12 r1
        (rdR h_9 a_11 1 1 fun r_13 =>
        aq r_13 r2
          (rdJ h_9 a_11 1 2 fun x_14 =>
          (if (lg_cmp x_14 x3) = 0 then
            some (x5, h_9)
          else
            f_X8_bindingAt_64 (fun a0 r1 r2 x3 x5 h => f_X8_bindingAt_3 n a0 r1 r2 x3 x5 h) a0 r1 r2 x3 x5 h_9))
          (f_X8_bindingAt_64 (fun a0 r1 r2 x3 x5 h => f_X8_bindingAt_3 n a0 r1 r2 x3 x5 h) a0 r1 r2 x3 x5 h_9))
        (f_X8_bindingAt_64 (fun a0 r1 r2 x3 x5 h => f_X8_bindingAt_3 n a0 r1 r2 x3 x5 h) a0 r1 r2 x3 x5 h_9)))))
set_option maxRecDepth 20000 in
set_option maxHeartbeats 4000000 in
theorem t_X8_bindingAt_3 {Ω : Om} : ∀ (n : Nat) (a0 : Nat) (r1 : Option Nat) (r2 : Option Nat) (x3 : Int64) (x5 : Int32) (h : AH) (q : Int32 × AH), f_X8_bindingAt_3 n a0 r1 r2 x3 x5 h = some q → Go Ω M_X8_bindingAt 3 [(0, vR Ω (some a0)), (1, vR Ω r1), (2, vR Ω r2), (3, .long x3), (5, .int x5)] [] h (some (.int q.1)) q.2 := by
  intro n
  induction n with
  | zero => intro a0 r1 r2 x3 x5 h q hf; cases hf
  | succ n ih =>
    intro a0 r1 r2 x3 x5 h q hf
    rw [f_X8_bindingAt_3] at hf
    refine go_iload dX8_bindingAt_3 4 rfl ?_
    refine go_aload_n dX8_bindingAt_5 rfl 0 rfl ?_
    refine go_getR dX8_bindingAt_6 fl_320_0 (fun _ _ => rfl) hf (fun r_1 hf => ?_)
    obtain ⟨a_2, rfl, hga_2⟩ := nn_some hf
    have hf := hga_2
    obtain ⟨hk, hf⟩ := kg_some hf
    obtain ⟨z_3, hc, hf⟩ := bd_some hf
    refine go_callF (y2 := M_Jx4a65c_size_8abf5) (x2 := ⟨"java/util/List", "size", "()I"⟩) dX8_bindingAt_9 mo_Jx4a65c_size_8abf5 ⟨Nat.le_of_ble_eq_true rfl, Nat.le_of_ble_eq_true rfl⟩ na_Jx4a65c_size_8abf5 w536 w522 w520 (by decide) (fun U hU => hU.2.2.2.2.1) hk [] rfl (n_Jx4a65c_size_8abf5 (a_2)) rfl (csum (Nat.le_of_ble_eq_true rfl)) (t_Jx4a65c_size_8abf5 (a_2) h _ hc) ?_
    obtain ⟨x_5, h_4⟩ := z_3
    refine go_icmp_ge (tgt := 70) dX8_bindingAt_14 (by decide) hf (fun hf => ?_) (fun hf => ?_)
    · refine go_iconst (-1) dX8_bindingAt_70 rfl ?_
      exact go_ireturn dX8_bindingAt_71 rfl hf
    · refine go_aload_n dX8_bindingAt_17 rfl 0 rfl ?_
      refine go_getR dX8_bindingAt_18 fl_320_0 (fun _ _ => rfl) hf (fun r_6 hf => ?_)
      refine go_iload dX8_bindingAt_21 4 rfl ?_
      obtain ⟨a_7, rfl, hga_7⟩ := nn_some hf
      have hf := hga_7
      obtain ⟨hk, hf⟩ := kg_some hf
      obtain ⟨z_8, hc, hf⟩ := bd_some hf
      refine go_callF (y2 := M_Jx4a65c_get_915e3) (x2 := ⟨"java/util/List", "get", "(I)Ljava/lang/Object;"⟩) dX8_bindingAt_23 mo_Jx4a65c_get_915e3 ⟨Nat.le_of_ble_eq_true rfl, Nat.le_of_ble_eq_true rfl⟩ na_Jx4a65c_get_915e3 w538 w543 w541 (by decide) (fun U hU => hU.2.2.1) hk [.int x5] rfl (n_Jx4a65c_get_915e3 (a_7) x5) rfl (csum (Nat.le_of_ble_eq_true rfl)) (t_Jx4a65c_get_915e3 (a_7) x5 h_4 _ hc) ?_
      obtain ⟨r_10, h_9⟩ := z_8
      refine go_cast (c := 1) dX8_bindingAt_28 (by decide) rfl w561 hf (fun hf => ?_)
      refine go_astore (i := 6) (lv' := [(6, vR Ω r_10), (0, vR Ω (some a0)), (1, vR Ω r1), (2, vR Ω r2), (3, .long x3), (5, .int x5)]) dX8_bindingAt_31 (by decide) (by first | rfl | simp [catR, catI, catJ]) ?_
      refine go_aload dX8_bindingAt_33 0 rfl ?_
      obtain ⟨a_11, rfl, hga_11⟩ := nn_some hf
      have hf := hga_11
      refine go_getR dX8_bindingAt_35 fl_840_0 (fun _ _ => rfl) hf (fun r_12 hf => ?_)
      refine go_aload_n dX8_bindingAt_38 rfl 2 rfl ?_
      refine go_acmp_ne (tgt := 64) dX8_bindingAt_39 (by decide) hf (fun hf => ?_) (fun hf => ?_)
      · refine go_sub (lv' := [(0, vR Ω (some a0)), (1, vR Ω r1), (2, vR Ω r2), (3, .long x3), (5, .int x5)]) [1, 2, 3, 4, 5] rfl ?_
        exact t_X8_bindingAt_64 ih a0 r1 r2 x3 x5 h_9 q hf
      · refine go_aload dX8_bindingAt_42 0 rfl ?_
        refine go_getR dX8_bindingAt_44 fl_842_0 (fun _ _ => rfl) hf (fun r_13 hf => ?_)
        refine go_aload_n dX8_bindingAt_47 rfl 3 rfl ?_
        refine go_acmp_ne (tgt := 64) dX8_bindingAt_48 (by decide) hf (fun hf => ?_) (fun hf => ?_)
        · refine go_sub (lv' := [(0, vR Ω (some a0)), (1, vR Ω r1), (2, vR Ω r2), (3, .long x3), (5, .int x5)]) [1, 2, 3, 4, 5] rfl ?_
          exact t_X8_bindingAt_64 ih a0 r1 r2 x3 x5 h_9 q hf
        · refine go_aload dX8_bindingAt_51 0 rfl ?_
          refine go_getJ dX8_bindingAt_53 fl_844_0 (fun _ _ => rfl) hf (fun x_14 hf => ?_)
          refine go_lload_n dX8_bindingAt_56 rfl 4 rfl ?_
          refine go_lcmp dX8_bindingAt_57 ?_
          refine go_if_ne (tgt := 64) dX8_bindingAt_58 (by decide) hf (fun hf => ?_) (fun hf => ?_)
          · refine go_sub (lv' := [(0, vR Ω (some a0)), (1, vR Ω r1), (2, vR Ω r2), (3, .long x3), (5, .int x5)]) [1, 2, 3, 4, 5] rfl ?_
            exact t_X8_bindingAt_64 ih a0 r1 r2 x3 x5 h_9 q hf
          · refine go_iload dX8_bindingAt_61 5 rfl ?_
            exact go_ireturn dX8_bindingAt_63 rfl hf
def f_X8_bindingAt (a0 : Nat) (r1 : Option Nat) (r2 : Option Nat) (x3 : Int64) (h : AH) : Option (Int32 × AH) := f_X8_bindingAt_3 FU a0 r1 r2 x3 0 h
set_option maxRecDepth 20000 in
set_option maxHeartbeats 4000000 in
theorem t_X8_bindingAt {Ω : Om} (a0 : Nat) (r1 : Option Nat) (r2 : Option Nat) (x3 : Int64) (h : AH) (q : Int32 × AH) (hf : f_X8_bindingAt a0 r1 r2 x3 h = some q) : Go Ω M_X8_bindingAt 0 (lv_args 0 [vR Ω (some a0), vR Ω r1, vR Ω r2, .long x3]) [] h (some (.int q.1)) q.2 := by
  unfold f_X8_bindingAt at hf
  rw [la_R, la_R, la_R, la_J, la_0]
  refine go_sub (lv' := [(0, vR Ω (some a0)), (1, vR Ω r1), (2, vR Ω r2), (3, .long x3)]) [0, 1, 2, 3] rfl ?_
  refine go_iconst 0 dX8_bindingAt_0 rfl ?_
  refine go_istore (i := 5) (lv' := [(5, .int 0), (0, vR Ω (some a0)), (1, vR Ω r1), (2, vR Ω r2), (3, .long x3)]) dX8_bindingAt_1 (by decide) (by first | rfl | simp [catR, catI, catJ]) ?_
  refine go_sub (lv' := [(0, vR Ω (some a0)), (1, vR Ω r1), (2, vR Ω r2), (3, .long x3), (5, .int 0)]) [1, 2, 3, 4, 0] rfl ?_
  exact t_X8_bindingAt_3 FU a0 r1 r2 x3 0 h q hf
-- LetterBroker$Office.exchangeNamed(J)LLetterBroker$Exchange;
theorem dX8_exchangeNamed_0 : decode cX8_exchangeNamed 0 = .ok (.iconst 0, 1) := by decide +kernel
theorem dX8_exchangeNamed_1 : decode cX8_exchangeNamed 1 = .ok (.istore_n 3, 1) := by decide +kernel
theorem dX8_exchangeNamed_2 : decode cX8_exchangeNamed 2 = .ok (.iload_n 3, 1) := by decide +kernel
theorem dX8_exchangeNamed_3 : decode cX8_exchangeNamed 3 = .ok (.aload_n 0, 1) := by decide +kernel
theorem dX8_exchangeNamed_4 : decode cX8_exchangeNamed 4 = .ok (.getfield 12, 3) := by decide +kernel
theorem dX8_exchangeNamed_7 : decode cX8_exchangeNamed 7 = .ok (.invokeinterface 38 1, 5) := by decide +kernel
theorem dX8_exchangeNamed_12 : decode cX8_exchangeNamed 12 = .ok (.if_icmp .ge 44, 3) := by decide +kernel
theorem dX8_exchangeNamed_15 : decode cX8_exchangeNamed 15 = .ok (.aload_n 0, 1) := by decide +kernel
theorem dX8_exchangeNamed_16 : decode cX8_exchangeNamed 16 = .ok (.getfield 12, 3) := by decide +kernel
theorem dX8_exchangeNamed_19 : decode cX8_exchangeNamed 19 = .ok (.iload_n 3, 1) := by decide +kernel
theorem dX8_exchangeNamed_20 : decode cX8_exchangeNamed 20 = .ok (.invokeinterface 42 2, 5) := by decide +kernel
theorem dX8_exchangeNamed_25 : decode cX8_exchangeNamed 25 = .ok (.checkcast 27, 3) := by decide +kernel
theorem dX8_exchangeNamed_28 : decode cX8_exchangeNamed 28 = .ok (.getfield 46, 3) := by decide +kernel
theorem dX8_exchangeNamed_31 : decode cX8_exchangeNamed 31 = .ok (.lload_n 1, 1) := by decide +kernel
theorem dX8_exchangeNamed_32 : decode cX8_exchangeNamed 32 = .ok (.lcmp, 1) := by decide +kernel
theorem dX8_exchangeNamed_33 : decode cX8_exchangeNamed 33 = .ok (.ifCond .ne 17, 3) := by decide +kernel
theorem dX8_exchangeNamed_36 : decode cX8_exchangeNamed 36 = .ok (.aload_n 0, 1) := by decide +kernel
theorem dX8_exchangeNamed_37 : decode cX8_exchangeNamed 37 = .ok (.getfield 12, 3) := by decide +kernel
theorem dX8_exchangeNamed_40 : decode cX8_exchangeNamed 40 = .ok (.iload_n 3, 1) := by decide +kernel
theorem dX8_exchangeNamed_41 : decode cX8_exchangeNamed 41 = .ok (.invokeinterface 42 2, 5) := by decide +kernel
theorem dX8_exchangeNamed_46 : decode cX8_exchangeNamed 46 = .ok (.checkcast 27, 3) := by decide +kernel
theorem dX8_exchangeNamed_49 : decode cX8_exchangeNamed 49 = .ok (.areturn, 1) := by decide +kernel
theorem dX8_exchangeNamed_50 : decode cX8_exchangeNamed 50 = .ok (.iinc 3 1, 3) := by decide +kernel
theorem dX8_exchangeNamed_53 : decode cX8_exchangeNamed 53 = .ok (.goto (-51), 3) := by decide +kernel
theorem dX8_exchangeNamed_56 : decode cX8_exchangeNamed 56 = .ok (.aconst_null, 1) := by decide +kernel
theorem dX8_exchangeNamed_57 : decode cX8_exchangeNamed 57 = .ok (.areturn, 1) := by decide +kernel
def f_X8_exchangeNamed_36 (a0 : Nat) (x3 : Int32) (h : AH) : Option (Option Nat × AH) := rdR h a0 9 0 fun r_1 =>
  nn r_1 fun a_2 =>
  kg h a_2 0 (bd (f_Jx4a65c_get_915e3 a_2 x3 h) fun r_5 h_4 =>
  ckc h_4 r_5 6 (
  some (r_5, h_4)))
set_option maxRecDepth 20000 in
set_option maxHeartbeats 4000000 in
theorem t_X8_exchangeNamed_36 {Ω : Om} (a0 : Nat) (x3 : Int32) (h : AH) (q : Option Nat × AH) (hf : f_X8_exchangeNamed_36 a0 x3 h = some q) : Go Ω M_X8_exchangeNamed 36 [(0, vR Ω (some a0)), (3, .int x3)] [] h (some (vR Ω q.1)) q.2 := by
  unfold f_X8_exchangeNamed_36 at hf
  refine go_aload_n dX8_exchangeNamed_36 rfl 0 rfl ?_
  refine go_getR dX8_exchangeNamed_37 fl_316_0 (fun _ _ => rfl) hf (fun r_1 hf => ?_)
  refine go_iload_n dX8_exchangeNamed_40 rfl 1 rfl ?_
  obtain ⟨a_2, rfl, hga_2⟩ := nn_some hf
  have hf := hga_2
  obtain ⟨hk, hf⟩ := kg_some hf
  obtain ⟨z_3, hc, hf⟩ := bd_some hf
  refine go_callF (y2 := M_Jx4a65c_get_915e3) (x2 := ⟨"java/util/List", "get", "(I)Ljava/lang/Object;"⟩) dX8_exchangeNamed_41 mo_Jx4a65c_get_915e3 ⟨Nat.le_of_ble_eq_true rfl, Nat.le_of_ble_eq_true rfl⟩ na_Jx4a65c_get_915e3 w538 w543 w541 (by decide) (fun U hU => hU.2.2.1) hk [.int x3] rfl (n_Jx4a65c_get_915e3 (a_2) x3) rfl (csum (Nat.le_of_ble_eq_true rfl)) (t_Jx4a65c_get_915e3 (a_2) x3 h _ hc) ?_
  obtain ⟨r_5, h_4⟩ := z_3
  refine go_cast (c := 6) dX8_exchangeNamed_46 (by decide) rfl w232 hf (fun hf => ?_)
  exact go_areturn dX8_exchangeNamed_49 rfl (Or.inl ⟨_, rfl⟩) hf
def f_X8_exchangeNamed_2 : Nat → Nat → Int64 → Int32 → AH → Option (Option Nat × AH)
  | 0, _, _, _, _ => none
  | n + 1, a0, x1, x3, h => rdR h a0 9 0 fun r_1 =>
    nn r_1 fun a_2 =>
    kg h a_2 0 (bd (f_Jx4a65c_size_8abf5 a_2 h) fun x_5 h_4 =>
    (if x_5 ≤ x3 then
      some (none, h_4)
    else
      rdR h_4 a0 9 0 fun r_6 =>
      nn r_6 fun a_7 =>
      kg h_4 a_7 0 (bd (f_Jx4a65c_get_915e3 a_7 x3 h_4) fun r_10 h_9 =>
      ckc h_9 r_10 6 (
      nn r_10 fun a_11 =>
      rdJ h_9 a_11 6 0 fun x_12 =>
      (if (lg_cmp x_12 x1) = 0 then
        f_X8_exchangeNamed_36 a0 x3 h_9
      else
        f_X8_exchangeNamed_2 n a0 x1 (x3 + 1) h_9)))))
set_option maxRecDepth 20000 in
set_option maxHeartbeats 4000000 in
theorem t_X8_exchangeNamed_2 {Ω : Om} : ∀ (n : Nat) (a0 : Nat) (x1 : Int64) (x3 : Int32) (h : AH) (q : Option Nat × AH), f_X8_exchangeNamed_2 n a0 x1 x3 h = some q → Go Ω M_X8_exchangeNamed 2 [(0, vR Ω (some a0)), (1, .long x1), (3, .int x3)] [] h (some (vR Ω q.1)) q.2 := by
  intro n
  induction n with
  | zero => intro a0 x1 x3 h q hf; cases hf
  | succ n ih =>
    intro a0 x1 x3 h q hf
    rw [f_X8_exchangeNamed_2] at hf
    refine go_iload_n dX8_exchangeNamed_2 rfl 2 rfl ?_
    refine go_aload_n dX8_exchangeNamed_3 rfl 0 rfl ?_
    refine go_getR dX8_exchangeNamed_4 fl_316_0 (fun _ _ => rfl) hf (fun r_1 hf => ?_)
    obtain ⟨a_2, rfl, hga_2⟩ := nn_some hf
    have hf := hga_2
    obtain ⟨hk, hf⟩ := kg_some hf
    obtain ⟨z_3, hc, hf⟩ := bd_some hf
    refine go_callF (y2 := M_Jx4a65c_size_8abf5) (x2 := ⟨"java/util/List", "size", "()I"⟩) dX8_exchangeNamed_7 mo_Jx4a65c_size_8abf5 ⟨Nat.le_of_ble_eq_true rfl, Nat.le_of_ble_eq_true rfl⟩ na_Jx4a65c_size_8abf5 w536 w522 w520 (by decide) (fun U hU => hU.2.2.2.2.1) hk [] rfl (n_Jx4a65c_size_8abf5 (a_2)) rfl (csum (Nat.le_of_ble_eq_true rfl)) (t_Jx4a65c_size_8abf5 (a_2) h _ hc) ?_
    obtain ⟨x_5, h_4⟩ := z_3
    refine go_icmp_ge (tgt := 56) dX8_exchangeNamed_12 (by decide) hf (fun hf => ?_) (fun hf => ?_)
    · refine go_null dX8_exchangeNamed_56 ?_
      exact go_areturn dX8_exchangeNamed_57 rfl (Or.inl ⟨_, rfl⟩) hf
    · refine go_aload_n dX8_exchangeNamed_15 rfl 0 rfl ?_
      refine go_getR dX8_exchangeNamed_16 fl_316_0 (fun _ _ => rfl) hf (fun r_6 hf => ?_)
      refine go_iload_n dX8_exchangeNamed_19 rfl 2 rfl ?_
      obtain ⟨a_7, rfl, hga_7⟩ := nn_some hf
      have hf := hga_7
      obtain ⟨hk, hf⟩ := kg_some hf
      obtain ⟨z_8, hc, hf⟩ := bd_some hf
      refine go_callF (y2 := M_Jx4a65c_get_915e3) (x2 := ⟨"java/util/List", "get", "(I)Ljava/lang/Object;"⟩) dX8_exchangeNamed_20 mo_Jx4a65c_get_915e3 ⟨Nat.le_of_ble_eq_true rfl, Nat.le_of_ble_eq_true rfl⟩ na_Jx4a65c_get_915e3 w538 w543 w541 (by decide) (fun U hU => hU.2.2.1) hk [.int x3] rfl (n_Jx4a65c_get_915e3 (a_7) x3) rfl (csum (Nat.le_of_ble_eq_true rfl)) (t_Jx4a65c_get_915e3 (a_7) x3 h_4 _ hc) ?_
      obtain ⟨r_10, h_9⟩ := z_8
      refine go_cast (c := 6) dX8_exchangeNamed_25 (by decide) rfl w232 hf (fun hf => ?_)
      obtain ⟨a_11, rfl, hga_11⟩ := nn_some hf
      have hf := hga_11
      refine go_getJ dX8_exchangeNamed_28 fl_239_0 (fun _ _ => rfl) hf (fun x_12 hf => ?_)
      refine go_lload_n dX8_exchangeNamed_31 rfl 1 rfl ?_
      refine go_lcmp dX8_exchangeNamed_32 ?_
      refine go_if_ne (tgt := 50) dX8_exchangeNamed_33 (by decide) hf (fun hf => ?_) (fun hf => ?_)
      · refine go_iinc (j := 2) (v := x3 + 1) (lv' := [(3, .int (x3 + 1)), (0, vR Ω (some a0)), (1, .long x1)]) dX8_exchangeNamed_50 rfl rfl (by decide) (by first | rfl | simp [catR, catI, catJ]) ?_
        refine go_goto (tgt := 2) dX8_exchangeNamed_53 (by decide) ?_
        refine go_sub (lv' := [(0, vR Ω (some a0)), (1, .long x1), (3, .int (x3 + 1))]) [1, 2, 0] rfl ?_
        exact ih a0 x1 (x3 + 1) h_9 q hf
      · refine go_sub (lv' := [(0, vR Ω (some a0)), (3, .int x3)]) [0, 2] rfl ?_
        exact t_X8_exchangeNamed_36 a0 x3 h_9 q hf
def f_X8_exchangeNamed (a0 : Nat) (x1 : Int64) (h : AH) : Option (Option Nat × AH) := f_X8_exchangeNamed_2 FU a0 x1 0 h
set_option maxRecDepth 20000 in
set_option maxHeartbeats 4000000 in
theorem t_X8_exchangeNamed {Ω : Om} (a0 : Nat) (x1 : Int64) (h : AH) (q : Option Nat × AH) (hf : f_X8_exchangeNamed a0 x1 h = some q) : Go Ω M_X8_exchangeNamed 0 (lv_args 0 [vR Ω (some a0), .long x1]) [] h (some (vR Ω q.1)) q.2 := by
  unfold f_X8_exchangeNamed at hf
  rw [la_R, la_J, la_0]
  refine go_sub (lv' := [(0, vR Ω (some a0)), (1, .long x1)]) [0, 1] rfl ?_
  refine go_iconst 0 dX8_exchangeNamed_0 rfl ?_
  refine go_istore_n (i := 3) (lv' := [(3, .int 0), (0, vR Ω (some a0)), (1, .long x1)]) dX8_exchangeNamed_1 rfl (by decide) (by first | rfl | simp [catR, catI, catJ]) ?_
  refine go_sub (lv' := [(0, vR Ω (some a0)), (1, .long x1), (3, .int 0)]) [1, 2, 0] rfl ?_
  exact t_X8_exchangeNamed_2 FU a0 x1 0 h q hf
-- LetterBroker$Office.queueNamed(J)LLetterBroker$Queue;
theorem dX8_queueNamed_0 : decode cX8_queueNamed 0 = .ok (.iconst 0, 1) := by decide +kernel
theorem dX8_queueNamed_1 : decode cX8_queueNamed 1 = .ok (.istore_n 3, 1) := by decide +kernel
theorem dX8_queueNamed_2 : decode cX8_queueNamed 2 = .ok (.iload_n 3, 1) := by decide +kernel
theorem dX8_queueNamed_3 : decode cX8_queueNamed 3 = .ok (.aload_n 0, 1) := by decide +kernel
theorem dX8_queueNamed_4 : decode cX8_queueNamed 4 = .ok (.getfield 18, 3) := by decide +kernel
theorem dX8_queueNamed_7 : decode cX8_queueNamed 7 = .ok (.invokeinterface 38 1, 5) := by decide +kernel
theorem dX8_queueNamed_12 : decode cX8_queueNamed 12 = .ok (.if_icmp .ge 44, 3) := by decide +kernel
theorem dX8_queueNamed_15 : decode cX8_queueNamed 15 = .ok (.aload_n 0, 1) := by decide +kernel
theorem dX8_queueNamed_16 : decode cX8_queueNamed 16 = .ok (.getfield 18, 3) := by decide +kernel
theorem dX8_queueNamed_19 : decode cX8_queueNamed 19 = .ok (.iload_n 3, 1) := by decide +kernel
theorem dX8_queueNamed_20 : decode cX8_queueNamed 20 = .ok (.invokeinterface 42 2, 5) := by decide +kernel
theorem dX8_queueNamed_25 : decode cX8_queueNamed 25 = .ok (.checkcast 50, 3) := by decide +kernel
theorem dX8_queueNamed_28 : decode cX8_queueNamed 28 = .ok (.getfield 52, 3) := by decide +kernel
theorem dX8_queueNamed_31 : decode cX8_queueNamed 31 = .ok (.lload_n 1, 1) := by decide +kernel
theorem dX8_queueNamed_32 : decode cX8_queueNamed 32 = .ok (.lcmp, 1) := by decide +kernel
theorem dX8_queueNamed_33 : decode cX8_queueNamed 33 = .ok (.ifCond .ne 17, 3) := by decide +kernel
theorem dX8_queueNamed_36 : decode cX8_queueNamed 36 = .ok (.aload_n 0, 1) := by decide +kernel
theorem dX8_queueNamed_37 : decode cX8_queueNamed 37 = .ok (.getfield 18, 3) := by decide +kernel
theorem dX8_queueNamed_40 : decode cX8_queueNamed 40 = .ok (.iload_n 3, 1) := by decide +kernel
theorem dX8_queueNamed_41 : decode cX8_queueNamed 41 = .ok (.invokeinterface 42 2, 5) := by decide +kernel
theorem dX8_queueNamed_46 : decode cX8_queueNamed 46 = .ok (.checkcast 50, 3) := by decide +kernel
theorem dX8_queueNamed_49 : decode cX8_queueNamed 49 = .ok (.areturn, 1) := by decide +kernel
theorem dX8_queueNamed_50 : decode cX8_queueNamed 50 = .ok (.iinc 3 1, 3) := by decide +kernel
theorem dX8_queueNamed_53 : decode cX8_queueNamed 53 = .ok (.goto (-51), 3) := by decide +kernel
theorem dX8_queueNamed_56 : decode cX8_queueNamed 56 = .ok (.aconst_null, 1) := by decide +kernel
theorem dX8_queueNamed_57 : decode cX8_queueNamed 57 = .ok (.areturn, 1) := by decide +kernel
def f_X8_queueNamed_36 (a0 : Nat) (x3 : Int32) (h : AH) : Option (Option Nat × AH) := rdR h a0 9 1 fun r_1 =>
  nn r_1 fun a_2 =>
  kg h a_2 0 (bd (f_Jx4a65c_get_915e3 a_2 x3 h) fun r_5 h_4 =>
  ckc h_4 r_5 11 (
  some (r_5, h_4)))
set_option maxRecDepth 20000 in
set_option maxHeartbeats 4000000 in
theorem t_X8_queueNamed_36 {Ω : Om} (a0 : Nat) (x3 : Int32) (h : AH) (q : Option Nat × AH) (hf : f_X8_queueNamed_36 a0 x3 h = some q) : Go Ω M_X8_queueNamed 36 [(0, vR Ω (some a0)), (3, .int x3)] [] h (some (vR Ω q.1)) q.2 := by
  unfold f_X8_queueNamed_36 at hf
  refine go_aload_n dX8_queueNamed_36 rfl 0 rfl ?_
  refine go_getR dX8_queueNamed_37 fl_318_0 (fun _ _ => rfl) hf (fun r_1 hf => ?_)
  refine go_iload_n dX8_queueNamed_40 rfl 1 rfl ?_
  obtain ⟨a_2, rfl, hga_2⟩ := nn_some hf
  have hf := hga_2
  obtain ⟨hk, hf⟩ := kg_some hf
  obtain ⟨z_3, hc, hf⟩ := bd_some hf
  refine go_callF (y2 := M_Jx4a65c_get_915e3) (x2 := ⟨"java/util/List", "get", "(I)Ljava/lang/Object;"⟩) dX8_queueNamed_41 mo_Jx4a65c_get_915e3 ⟨Nat.le_of_ble_eq_true rfl, Nat.le_of_ble_eq_true rfl⟩ na_Jx4a65c_get_915e3 w538 w543 w541 (by decide) (fun U hU => hU.2.2.1) hk [.int x3] rfl (n_Jx4a65c_get_915e3 (a_2) x3) rfl (csum (Nat.le_of_ble_eq_true rfl)) (t_Jx4a65c_get_915e3 (a_2) x3 h _ hc) ?_
  obtain ⟨r_5, h_4⟩ := z_3
  refine go_cast (c := 11) dX8_queueNamed_46 (by decide) rfl w556 hf (fun hf => ?_)
  exact go_areturn dX8_queueNamed_49 rfl (Or.inl ⟨_, rfl⟩) hf
def f_X8_queueNamed_2 : Nat → Nat → Int64 → Int32 → AH → Option (Option Nat × AH)
  | 0, _, _, _, _ => none
  | n + 1, a0, x1, x3, h => rdR h a0 9 1 fun r_1 =>
    nn r_1 fun a_2 =>
    kg h a_2 0 (bd (f_Jx4a65c_size_8abf5 a_2 h) fun x_5 h_4 =>
    (if x_5 ≤ x3 then
      some (none, h_4)
    else
      rdR h_4 a0 9 1 fun r_6 =>
      nn r_6 fun a_7 =>
      kg h_4 a_7 0 (bd (f_Jx4a65c_get_915e3 a_7 x3 h_4) fun r_10 h_9 =>
      ckc h_9 r_10 11 (
      nn r_10 fun a_11 =>
      rdJ h_9 a_11 11 0 fun x_12 =>
      (if (lg_cmp x_12 x1) = 0 then
        f_X8_queueNamed_36 a0 x3 h_9
      else
        f_X8_queueNamed_2 n a0 x1 (x3 + 1) h_9)))))
set_option maxRecDepth 20000 in
set_option maxHeartbeats 4000000 in
theorem t_X8_queueNamed_2 {Ω : Om} : ∀ (n : Nat) (a0 : Nat) (x1 : Int64) (x3 : Int32) (h : AH) (q : Option Nat × AH), f_X8_queueNamed_2 n a0 x1 x3 h = some q → Go Ω M_X8_queueNamed 2 [(0, vR Ω (some a0)), (1, .long x1), (3, .int x3)] [] h (some (vR Ω q.1)) q.2 := by
  intro n
  induction n with
  | zero => intro a0 x1 x3 h q hf; cases hf
  | succ n ih =>
    intro a0 x1 x3 h q hf
    rw [f_X8_queueNamed_2] at hf
    refine go_iload_n dX8_queueNamed_2 rfl 2 rfl ?_
    refine go_aload_n dX8_queueNamed_3 rfl 0 rfl ?_
    refine go_getR dX8_queueNamed_4 fl_318_0 (fun _ _ => rfl) hf (fun r_1 hf => ?_)
    obtain ⟨a_2, rfl, hga_2⟩ := nn_some hf
    have hf := hga_2
    obtain ⟨hk, hf⟩ := kg_some hf
    obtain ⟨z_3, hc, hf⟩ := bd_some hf
    refine go_callF (y2 := M_Jx4a65c_size_8abf5) (x2 := ⟨"java/util/List", "size", "()I"⟩) dX8_queueNamed_7 mo_Jx4a65c_size_8abf5 ⟨Nat.le_of_ble_eq_true rfl, Nat.le_of_ble_eq_true rfl⟩ na_Jx4a65c_size_8abf5 w536 w522 w520 (by decide) (fun U hU => hU.2.2.2.2.1) hk [] rfl (n_Jx4a65c_size_8abf5 (a_2)) rfl (csum (Nat.le_of_ble_eq_true rfl)) (t_Jx4a65c_size_8abf5 (a_2) h _ hc) ?_
    obtain ⟨x_5, h_4⟩ := z_3
    refine go_icmp_ge (tgt := 56) dX8_queueNamed_12 (by decide) hf (fun hf => ?_) (fun hf => ?_)
    · refine go_null dX8_queueNamed_56 ?_
      exact go_areturn dX8_queueNamed_57 rfl (Or.inl ⟨_, rfl⟩) hf
    · refine go_aload_n dX8_queueNamed_15 rfl 0 rfl ?_
      refine go_getR dX8_queueNamed_16 fl_318_0 (fun _ _ => rfl) hf (fun r_6 hf => ?_)
      refine go_iload_n dX8_queueNamed_19 rfl 2 rfl ?_
      obtain ⟨a_7, rfl, hga_7⟩ := nn_some hf
      have hf := hga_7
      obtain ⟨hk, hf⟩ := kg_some hf
      obtain ⟨z_8, hc, hf⟩ := bd_some hf
      refine go_callF (y2 := M_Jx4a65c_get_915e3) (x2 := ⟨"java/util/List", "get", "(I)Ljava/lang/Object;"⟩) dX8_queueNamed_20 mo_Jx4a65c_get_915e3 ⟨Nat.le_of_ble_eq_true rfl, Nat.le_of_ble_eq_true rfl⟩ na_Jx4a65c_get_915e3 w538 w543 w541 (by decide) (fun U hU => hU.2.2.1) hk [.int x3] rfl (n_Jx4a65c_get_915e3 (a_7) x3) rfl (csum (Nat.le_of_ble_eq_true rfl)) (t_Jx4a65c_get_915e3 (a_7) x3 h_4 _ hc) ?_
      obtain ⟨r_10, h_9⟩ := z_8
      refine go_cast (c := 11) dX8_queueNamed_25 (by decide) rfl w556 hf (fun hf => ?_)
      obtain ⟨a_11, rfl, hga_11⟩ := nn_some hf
      have hf := hga_11
      refine go_getJ dX8_queueNamed_28 fl_801_0 (fun _ _ => rfl) hf (fun x_12 hf => ?_)
      refine go_lload_n dX8_queueNamed_31 rfl 1 rfl ?_
      refine go_lcmp dX8_queueNamed_32 ?_
      refine go_if_ne (tgt := 50) dX8_queueNamed_33 (by decide) hf (fun hf => ?_) (fun hf => ?_)
      · refine go_iinc (j := 2) (v := x3 + 1) (lv' := [(3, .int (x3 + 1)), (0, vR Ω (some a0)), (1, .long x1)]) dX8_queueNamed_50 rfl rfl (by decide) (by first | rfl | simp [catR, catI, catJ]) ?_
        refine go_goto (tgt := 2) dX8_queueNamed_53 (by decide) ?_
        refine go_sub (lv' := [(0, vR Ω (some a0)), (1, .long x1), (3, .int (x3 + 1))]) [1, 2, 0] rfl ?_
        exact ih a0 x1 (x3 + 1) h_9 q hf
      · refine go_sub (lv' := [(0, vR Ω (some a0)), (3, .int x3)]) [0, 2] rfl ?_
        exact t_X8_queueNamed_36 a0 x3 h_9 q hf
def f_X8_queueNamed (a0 : Nat) (x1 : Int64) (h : AH) : Option (Option Nat × AH) := f_X8_queueNamed_2 FU a0 x1 0 h
set_option maxRecDepth 20000 in
set_option maxHeartbeats 4000000 in
theorem t_X8_queueNamed {Ω : Om} (a0 : Nat) (x1 : Int64) (h : AH) (q : Option Nat × AH) (hf : f_X8_queueNamed a0 x1 h = some q) : Go Ω M_X8_queueNamed 0 (lv_args 0 [vR Ω (some a0), .long x1]) [] h (some (vR Ω q.1)) q.2 := by
  unfold f_X8_queueNamed at hf
  rw [la_R, la_J, la_0]
  refine go_sub (lv' := [(0, vR Ω (some a0)), (1, .long x1)]) [0, 1] rfl ?_
  refine go_iconst 0 dX8_queueNamed_0 rfl ?_
  refine go_istore_n (i := 3) (lv' := [(3, .int 0), (0, vR Ω (some a0)), (1, .long x1)]) dX8_queueNamed_1 rfl (by decide) (by first | rfl | simp [catR, catI, catJ]) ?_
  refine go_sub (lv' := [(0, vR Ω (some a0)), (1, .long x1), (3, .int 0)]) [1, 2, 0] rfl ?_
  exact t_X8_queueNamed_2 FU a0 x1 0 h q hf
-- LetterBroker.changeBinding(LLetterBroker$Channel;I)I
theorem dX11_changeBinding_0 : decode cX11_changeBinding 0 = .ok (.aload_n 0, 1) := by decide +kernel
theorem dX11_changeBinding_1 : decode cX11_changeBinding 1 = .ok (.getfield 26, 3) := by decide +kernel
theorem dX11_changeBinding_4 : decode cX11_changeBinding 4 = .ok (.aload_n 0, 1) := by decide +kernel
theorem dX11_changeBinding_5 : decode cX11_changeBinding 5 = .ok (.getfield 10, 3) := by decide +kernel
theorem dX11_changeBinding_8 : decode cX11_changeBinding 8 = .ok (.invokevirtual 283, 3) := by decide +kernel
theorem dX11_changeBinding_11 : decode cX11_changeBinding 11 = .ok (.invokevirtual 315, 3) := by decide +kernel
theorem dX11_changeBinding_14 : decode cX11_changeBinding 14 = .ok (.astore_n 3, 1) := by decide +kernel
theorem dX11_changeBinding_15 : decode cX11_changeBinding 15 = .ok (.aload_n 0, 1) := by decide +kernel
theorem dX11_changeBinding_16 : decode cX11_changeBinding 16 = .ok (.getfield 26, 3) := by decide +kernel
theorem dX11_changeBinding_19 : decode cX11_changeBinding 19 = .ok (.aload_n 0, 1) := by decide +kernel
theorem dX11_changeBinding_20 : decode cX11_changeBinding 20 = .ok (.getfield 10, 3) := by decide +kernel
theorem dX11_changeBinding_23 : decode cX11_changeBinding 23 = .ok (.invokevirtual 283, 3) := by decide +kernel
theorem dX11_changeBinding_26 : decode cX11_changeBinding 26 = .ok (.invokevirtual 290, 3) := by decide +kernel
theorem dX11_changeBinding_29 : decode cX11_changeBinding 29 = .ok (.astore 4, 2) := by decide +kernel
theorem dX11_changeBinding_31 : decode cX11_changeBinding 31 = .ok (.aload_n 0, 1) := by decide +kernel
theorem dX11_changeBinding_32 : decode cX11_changeBinding 32 = .ok (.getfield 10, 3) := by decide +kernel
theorem dX11_changeBinding_35 : decode cX11_changeBinding 35 = .ok (.invokevirtual 283, 3) := by decide +kernel
theorem dX11_changeBinding_38 : decode cX11_changeBinding 38 = .ok (.lstore 5, 2) := by decide +kernel
theorem dX11_changeBinding_40 : decode cX11_changeBinding 40 = .ok (.aload_n 0, 1) := by decide +kernel
theorem dX11_changeBinding_41 : decode cX11_changeBinding 41 = .ok (.getfield 10, 3) := by decide +kernel
theorem dX11_changeBinding_44 : decode cX11_changeBinding 44 = .ok (.invokevirtual 132, 3) := by decide +kernel
theorem dX11_changeBinding_47 : decode cX11_changeBinding 47 = .ok (.ifCond .ne 7, 3) := by decide +kernel
theorem dX11_changeBinding_50 : decode cX11_changeBinding 50 = .ok (.sipush 501, 3) := by decide +kernel
theorem dX11_changeBinding_53 : decode cX11_changeBinding 53 = .ok (.ireturn, 1) := by decide +kernel
theorem dX11_changeBinding_54 : decode cX11_changeBinding 54 = .ok (.aload_n 3, 1) := by decide +kernel
theorem dX11_changeBinding_55 : decode cX11_changeBinding 55 = .ok (.ifnull 8, 3) := by decide +kernel
theorem dX11_changeBinding_58 : decode cX11_changeBinding 58 = .ok (.aload 4, 2) := by decide +kernel
theorem dX11_changeBinding_60 : decode cX11_changeBinding 60 = .ok (.ifnonnull 7, 3) := by decide +kernel
theorem dX11_changeBinding_63 : decode cX11_changeBinding 63 = .ok (.sipush 404, 3) := by decide +kernel
theorem dX11_changeBinding_66 : decode cX11_changeBinding 66 = .ok (.ireturn, 1) := by decide +kernel
theorem dX11_changeBinding_67 : decode cX11_changeBinding 67 = .ok (.aload 4, 2) := by decide +kernel
theorem dX11_changeBinding_69 : decode cX11_changeBinding 69 = .ok (.getfield 325, 3) := by decide +kernel
theorem dX11_changeBinding_72 : decode cX11_changeBinding 72 = .ok (.lconst 0, 1) := by decide +kernel
theorem dX11_changeBinding_73 : decode cX11_changeBinding 73 = .ok (.lcmp, 1) := by decide +kernel
theorem dX11_changeBinding_74 : decode cX11_changeBinding 74 = .ok (.ifCond .ne 7, 3) := by decide +kernel
theorem dX11_changeBinding_77 : decode cX11_changeBinding 77 = .ok (.sipush 403, 3) := by decide +kernel
theorem dX11_changeBinding_80 : decode cX11_changeBinding 80 = .ok (.ireturn, 1) := by decide +kernel
theorem dX11_changeBinding_81 : decode cX11_changeBinding 81 = .ok (.aload_n 0, 1) := by decide +kernel
theorem dX11_changeBinding_82 : decode cX11_changeBinding 82 = .ok (.getfield 26, 3) := by decide +kernel
theorem dX11_changeBinding_85 : decode cX11_changeBinding 85 = .ok (.aload_n 3, 1) := by decide +kernel
theorem dX11_changeBinding_86 : decode cX11_changeBinding 86 = .ok (.aload 4, 2) := by decide +kernel
theorem dX11_changeBinding_88 : decode cX11_changeBinding 88 = .ok (.lload 5, 2) := by decide +kernel
theorem dX11_changeBinding_90 : decode cX11_changeBinding 90 = .ok (.invokevirtual 329, 3) := by decide +kernel
theorem dX11_changeBinding_93 : decode cX11_changeBinding 93 = .ok (.istore 7, 2) := by decide +kernel
theorem dX11_changeBinding_95 : decode cX11_changeBinding 95 = .ok (.iload_n 2, 1) := by decide +kernel
theorem dX11_changeBinding_96 : decode cX11_changeBinding 96 = .ok (.sipush 12850, 3) := by decide +kernel
theorem dX11_changeBinding_99 : decode cX11_changeBinding 99 = .ok (.if_icmp .ne 23, 3) := by decide +kernel
theorem dX11_changeBinding_102 : decode cX11_changeBinding 102 = .ok (.iload 7, 2) := by decide +kernel
theorem dX11_changeBinding_104 : decode cX11_changeBinding 104 = .ok (.ifCond .lt 18, 3) := by decide +kernel
theorem dX11_changeBinding_107 : decode cX11_changeBinding 107 = .ok (.aload_n 0, 1) := by decide +kernel
theorem dX11_changeBinding_108 : decode cX11_changeBinding 108 = .ok (.getfield 26, 3) := by decide +kernel
theorem dX11_changeBinding_111 : decode cX11_changeBinding 111 = .ok (.getfield 333, 3) := by decide +kernel
theorem dX11_changeBinding_114 : decode cX11_changeBinding 114 = .ok (.iload 7, 2) := by decide +kernel
theorem dX11_changeBinding_116 : decode cX11_changeBinding 116 = .ok (.invokeinterface 336 2, 5) := by decide +kernel
theorem dX11_changeBinding_121 : decode cX11_changeBinding 121 = .ok (.pop, 1) := by decide +kernel
theorem dX11_changeBinding_122 : decode cX11_changeBinding 122 = .ok (.iload_n 2, 1) := by decide +kernel
theorem dX11_changeBinding_123 : decode cX11_changeBinding 123 = .ok (.sipush 12820, 3) := by decide +kernel
theorem dX11_changeBinding_126 : decode cX11_changeBinding 126 = .ok (.if_icmp .ne 54, 3) := by decide +kernel
theorem dX11_changeBinding_129 : decode cX11_changeBinding 129 = .ok (.iload 7, 2) := by decide +kernel
theorem dX11_changeBinding_131 : decode cX11_changeBinding 131 = .ok (.ifCond .ge 49, 3) := by decide +kernel
theorem dX11_changeBinding_134 : decode cX11_changeBinding 134 = .ok (.aload_n 0, 1) := by decide +kernel
theorem dX11_changeBinding_135 : decode cX11_changeBinding 135 = .ok (.getfield 26, 3) := by decide +kernel
theorem dX11_changeBinding_138 : decode cX11_changeBinding 138 = .ok (.getfield 333, 3) := by decide +kernel
theorem dX11_changeBinding_141 : decode cX11_changeBinding 141 = .ok (.invokeinterface 87 1, 5) := by decide +kernel
theorem dX11_changeBinding_146 : decode cX11_changeBinding 146 = .ok (.bipush 12, 2) := by decide +kernel
theorem dX11_changeBinding_148 : decode cX11_changeBinding 148 = .ok (.if_icmp .lt 7, 3) := by decide +kernel
theorem dX11_changeBinding_151 : decode cX11_changeBinding 151 = .ok (.sipush 506, 3) := by decide +kernel
theorem dX11_changeBinding_154 : decode cX11_changeBinding 154 = .ok (.ireturn, 1) := by decide +kernel
theorem dX11_changeBinding_155 : decode cX11_changeBinding 155 = .ok (.aload_n 0, 1) := by decide +kernel
theorem dX11_changeBinding_156 : decode cX11_changeBinding 156 = .ok (.getfield 26, 3) := by decide +kernel
theorem dX11_changeBinding_159 : decode cX11_changeBinding 159 = .ok (.getfield 333, 3) := by decide +kernel
theorem dX11_changeBinding_162 : decode cX11_changeBinding 162 = .ok (.new 338, 3) := by decide +kernel
theorem dX11_changeBinding_165 : decode cX11_changeBinding 165 = .ok (.dup, 1) := by decide +kernel
theorem dX11_changeBinding_166 : decode cX11_changeBinding 166 = .ok (.aload_n 3, 1) := by decide +kernel
theorem dX11_changeBinding_167 : decode cX11_changeBinding 167 = .ok (.aload 4, 2) := by decide +kernel
theorem dX11_changeBinding_169 : decode cX11_changeBinding 169 = .ok (.lload 5, 2) := by decide +kernel
theorem dX11_changeBinding_171 : decode cX11_changeBinding 171 = .ok (.invokespecial 340, 3) := by decide +kernel
theorem dX11_changeBinding_174 : decode cX11_changeBinding 174 = .ok (.invokeinterface 304 2, 5) := by decide +kernel
theorem dX11_changeBinding_179 : decode cX11_changeBinding 179 = .ok (.pop, 1) := by decide +kernel
theorem dX11_changeBinding_180 : decode cX11_changeBinding 180 = .ok (.aload_n 0, 1) := by decide +kernel
theorem dX11_changeBinding_181 : decode cX11_changeBinding 181 = .ok (.getfield 19, 3) := by decide +kernel
theorem dX11_changeBinding_184 : decode cX11_changeBinding 184 = .ok (.aload_n 1, 1) := by decide +kernel
theorem dX11_changeBinding_185 : decode cX11_changeBinding 185 = .ok (.getfield 145, 3) := by decide +kernel
theorem dX11_changeBinding_188 : decode cX11_changeBinding 188 = .ok (.iload_n 2, 1) := by decide +kernel
theorem dX11_changeBinding_189 : decode cX11_changeBinding 189 = .ok (.iconst 1, 1) := by decide +kernel
theorem dX11_changeBinding_190 : decode cX11_changeBinding 190 = .ok (.iadd, 1) := by decide +kernel
theorem dX11_changeBinding_191 : decode cX11_changeBinding 191 = .ok (.invokevirtual 125, 3) := by decide +kernel
theorem dX11_changeBinding_194 : decode cX11_changeBinding 194 = .ok (.iconst 0, 1) := by decide +kernel
theorem dX11_changeBinding_195 : decode cX11_changeBinding 195 = .ok (.ireturn, 1) := by decide +kernel
def f_X11_changeBinding_180 (a0 : Nat) (r1 : Option Nat) (x2 : Int32) (h : AH) : Option (Int32 × AH) := rdR h a0 12 1 fun r_1 =>
  nn r1 fun a_2 =>
  rdI h a_2 2 0 fun x_3 =>
  nn r_1 fun a_4 =>
  kg h a_4 10 (bd (f_X9_tell a_4 x_3 (x2 + 1) h) fun _ h_6 =>
  some (0, h_6))
set_option maxRecDepth 20000 in
set_option maxHeartbeats 4000000 in
theorem t_X11_changeBinding_180 {Ω : Om} (a0 : Nat) (r1 : Option Nat) (x2 : Int32) (h : AH) (q : Int32 × AH) (hf : f_X11_changeBinding_180 a0 r1 x2 h = some q) : Go Ω M_X11_changeBinding 180 [(0, vR Ω (some a0)), (1, vR Ω r1), (2, .int x2)] [] h (some (.int q.1)) q.2 := by
  unfold f_X11_changeBinding_180 at hf
  refine go_aload_n dX11_changeBinding_180 rfl 0 rfl ?_
  refine go_getR dX11_changeBinding_181 fl_389_0 (fun _ _ => rfl) hf (fun r_1 hf => ?_)
  refine go_aload_n dX11_changeBinding_184 rfl 1 rfl ?_
  obtain ⟨a_2, rfl, hga_2⟩ := nn_some hf
  have hf := hga_2
  refine go_getI dX11_changeBinding_185 fl_349_0 (fun _ _ => rfl) hf (fun x_3 hf => ?_)
  refine go_iload_n dX11_changeBinding_188 rfl 2 rfl ?_
  refine go_iconst 1 dX11_changeBinding_189 rfl ?_
  refine go_iadd dX11_changeBinding_190 ?_
  obtain ⟨a_4, rfl, hga_4⟩ := nn_some hf
  have hf := hga_4
  obtain ⟨hk, hf⟩ := kg_some hf
  obtain ⟨z_5, hc, hf⟩ := bd_some hf
  refine go_callV (y2 := M_X9_tell) (c2 := 10) dX11_changeBinding_191 mo_X9_tell ⟨Nat.le_of_ble_eq_true rfl, Nat.le_of_ble_eq_true rfl⟩ na_X9_tell w430 w431 (by decide) rfl w432 hk [.int x_3, .int (x2 + 1)] rfl (n_X9_tell (a_4) x_3 (x2 + 1)) rfl (csum (Nat.le_of_ble_eq_true rfl)) (t_X9_tell (a_4) x_3 (x2 + 1) h _ hc) ?_
  obtain ⟨_, h_6⟩ := z_5
  refine go_iconst 0 dX11_changeBinding_194 rfl ?_
  exact go_ireturn dX11_changeBinding_195 rfl hf
def f_X11_changeBinding_122 (a0 : Nat) (r1 : Option Nat) (x2 : Int32) (r3 : Option Nat) (r4 : Option Nat) (x5 : Int64) (x7 : Int32) (h : AH) : Option (Int32 × AH) := (if x2 = 12820 then
    (if 0 ≤ x7 then
      f_X11_changeBinding_180 a0 r1 x2 h
    else
      rdR h a0 12 2 fun r_1 =>
      nn r_1 fun a_2 =>
      rdR h a_2 9 2 fun r_3 =>
      nn r_3 fun a_4 =>
      kg h a_4 0 (bd (f_Jx4a65c_size_8abf5 a_4 h) fun x_7 h_6 =>
      (if x_7 < 12 then
        rdR h_6 a0 12 2 fun r_8 =>
        nn r_8 fun a_9 =>
        rdR h_6 a_9 9 2 fun r_10 =>
        nwO h_6 1 fun a_11 h_12 =>
        bd (f_X0_init a_11 r3 r4 x5 h_12) fun _ h_14 =>
        nn r_10 fun a_15 =>
        kg h_14 a_15 0 (bd (f_Jx4a65c_add_9ea2d a_15 (some a_11) h_14) fun x_18 h_17 =>
        f_X11_changeBinding_180 a0 r1 x2 h_17)
      else
        some (506, h_6))))
  else
    f_X11_changeBinding_180 a0 r1 x2 h)
set_option maxRecDepth 20000 in
set_option maxHeartbeats 4000000 in
theorem t_X11_changeBinding_122 {Ω : Om} (a0 : Nat) (r1 : Option Nat) (x2 : Int32) (r3 : Option Nat) (r4 : Option Nat) (x5 : Int64) (x7 : Int32) (h : AH) (q : Int32 × AH) (hf : f_X11_changeBinding_122 a0 r1 x2 r3 r4 x5 x7 h = some q) : Go Ω M_X11_changeBinding 122 [(0, vR Ω (some a0)), (1, vR Ω r1), (2, .int x2), (3, vR Ω r3), (4, vR Ω r4), (5, .long x5), (7, .int x7)] [] h (some (.int q.1)) q.2 := by
  unfold f_X11_changeBinding_122 at hf
  refine go_iload_n dX11_changeBinding_122 rfl 2 rfl ?_
  refine go_sipush 12820 dX11_changeBinding_123 (by decide) ?_
  refine go_icmp_ne (tgt := 180) dX11_changeBinding_126 (by decide) hf (fun hf => ?_) (fun hf => ?_)
  · refine go_sub (lv' := [(0, vR Ω (some a0)), (1, vR Ω r1), (2, .int x2)]) [0, 1, 2] rfl ?_
    exact t_X11_changeBinding_180 a0 r1 x2 h q hf
  · refine go_iload dX11_changeBinding_129 6 rfl ?_
    refine go_if_ge (tgt := 180) dX11_changeBinding_131 (by decide) hf (fun hf => ?_) (fun hf => ?_)
    · refine go_sub (lv' := [(0, vR Ω (some a0)), (1, vR Ω r1), (2, .int x2)]) [0, 1, 2] rfl ?_
      exact t_X11_changeBinding_180 a0 r1 x2 h q hf
    · refine go_aload_n dX11_changeBinding_134 rfl 0 rfl ?_
      refine go_getR dX11_changeBinding_135 fl_390_0 (fun _ _ => rfl) hf (fun r_1 hf => ?_)
      obtain ⟨a_2, rfl, hga_2⟩ := nn_some hf
      have hf := hga_2
      refine go_getR dX11_changeBinding_138 fl_321_0 (fun _ _ => rfl) hf (fun r_3 hf => ?_)
      obtain ⟨a_4, rfl, hga_4⟩ := nn_some hf
      have hf := hga_4
      obtain ⟨hk, hf⟩ := kg_some hf
      obtain ⟨z_5, hc, hf⟩ := bd_some hf
      refine go_callF (y2 := M_Jx4a65c_size_8abf5) (x2 := ⟨"java/util/List", "size", "()I"⟩) dX11_changeBinding_141 mo_Jx4a65c_size_8abf5 ⟨Nat.le_of_ble_eq_true rfl, Nat.le_of_ble_eq_true rfl⟩ na_Jx4a65c_size_8abf5 w517 w522 w520 (by decide) (fun U hU => hU.2.2.2.2.1) hk [] rfl (n_Jx4a65c_size_8abf5 (a_4)) rfl (csum (Nat.le_of_ble_eq_true rfl)) (t_Jx4a65c_size_8abf5 (a_4) h _ hc) ?_
      obtain ⟨x_7, h_6⟩ := z_5
      refine go_bipush 12 dX11_changeBinding_146 (by decide) ?_
      refine go_icmp_lt (tgt := 155) dX11_changeBinding_148 (by decide) hf (fun hf => ?_) (fun hf => ?_)
      · refine go_aload_n dX11_changeBinding_155 rfl 0 rfl ?_
        refine go_getR dX11_changeBinding_156 fl_390_0 (fun _ _ => rfl) hf (fun r_8 hf => ?_)
        obtain ⟨a_9, rfl, hga_9⟩ := nn_some hf
        have hf := hga_9
        refine go_getR dX11_changeBinding_159 fl_321_0 (fun _ _ => rfl) hf (fun r_10 hf => ?_)
        refine go_new (c := 1) dX11_changeBinding_162 (by decide) rfl w828 hf (fun a_11 h_12 hf => ?_)
        refine go_dup dX11_changeBinding_165 catR ?_
        refine go_aload_n dX11_changeBinding_166 rfl 3 rfl ?_
        refine go_aload dX11_changeBinding_167 4 rfl ?_
        refine go_lload dX11_changeBinding_169 5 rfl ?_
        obtain ⟨z_13, hc, hf⟩ := bd_some hf
        refine go_callI (y2 := M_X0_init) dX11_changeBinding_171 mo_X0_init ⟨Nat.le_of_ble_eq_true rfl, Nat.le_of_ble_eq_true rfl⟩ na_X0_init w830 w831 rfl rfl [vR Ω r3, vR Ω r4, .long x5] rfl (n_X0_init (a_11) r3 r4 x5) rfl (csum (Nat.le_of_ble_eq_true rfl)) (t_X0_init (a_11) r3 r4 x5 h_12 _ hc) ?_
        obtain ⟨_, h_14⟩ := z_13
        obtain ⟨a_15, rfl, hga_15⟩ := nn_some hf
        have hf := hga_15
        obtain ⟨hk, hf⟩ := kg_some hf
        obtain ⟨z_16, hc, hf⟩ := bd_some hf
        refine go_callF (y2 := M_Jx4a65c_add_9ea2d) (x2 := ⟨"java/util/List", "add", "(Ljava/lang/Object;)Z"⟩) dX11_changeBinding_174 mo_Jx4a65c_add_9ea2d ⟨Nat.le_of_ble_eq_true rfl, Nat.le_of_ble_eq_true rfl⟩ na_Jx4a65c_add_9ea2d w526 w256 w254 (by decide) (fun U hU => hU.1) hk [vR Ω (some a_11)] rfl (n_Jx4a65c_add_9ea2d (a_15) (some a_11)) rfl (csum (Nat.le_of_ble_eq_true rfl)) (t_Jx4a65c_add_9ea2d (a_15) (some a_11) h_14 _ hc) ?_
        obtain ⟨x_18, h_17⟩ := z_16
        refine go_pop dX11_changeBinding_179 rfl ?_
        refine go_sub (lv' := [(0, vR Ω (some a0)), (1, vR Ω r1), (2, .int x2)]) [0, 1, 2] rfl ?_
        exact t_X11_changeBinding_180 a0 r1 x2 h_17 q hf
      · refine go_sipush 506 dX11_changeBinding_151 (by decide) ?_
        exact go_ireturn dX11_changeBinding_154 rfl hf
def f_X11_changeBinding (a0 : Nat) (r1 : Option Nat) (x2 : Int32) (h : AH) : Option (Int32 × AH) := rdR h a0 12 2 fun r_1 =>
  rdR h a0 12 0 fun r_2 =>
  nn r_2 fun a_3 =>
  kg h a_3 7 (bd (f_X6_readName a_3 h) fun x_6 h_5 =>
  nn r_1 fun a_7 =>
  kg h_5 a_7 9 (bd (f_X8_queueNamed a_7 x_6 h_5) fun r_10 h_9 =>
  rdR h_9 a0 12 2 fun r_11 =>
  rdR h_9 a0 12 0 fun r_12 =>
  nn r_12 fun a_13 =>
  kg h_9 a_13 7 (bd (f_X6_readName a_13 h_9) fun x_16 h_15 =>
  nn r_11 fun a_17 =>
  kg h_15 a_17 9 (bd (f_X8_exchangeNamed a_17 x_16 h_15) fun r_20 h_19 =>
  rdR h_19 a0 12 0 fun r_21 =>
  nn r_21 fun a_22 =>
  kg h_19 a_22 7 (bd (f_X6_readName a_22 h_19) fun x_25 h_24 =>
  rdR h_24 a0 12 0 fun r_26 =>
  nn r_26 fun a_27 =>
  kg h_24 a_27 7 (bd (f_X6_isJustRead a_27 h_24) fun x_30 h_29 =>
  (if x_30 = 0 then
    some (501, h_29)
  else
    nb r_10
      (some (404, h_29))
      (fun a_31 => nb r_20
        (some (404, h_29))
        (fun a_32 => rdJ h_29 a_32 6 0 fun x_33 =>
        (if (lg_cmp x_33 0) = 0 then
          some (403, h_29)
        else
          rdR h_29 a0 12 2 fun r_34 =>
          nn r_34 fun a_35 =>
          kg h_29 a_35 9 (bd (f_X8_bindingAt a_35 (some a_31) (some a_32) x_25 h_29) fun x_38 h_37 =>
          (if x2 = 12850 then
            (if x_38 < 0 then
              f_X11_changeBinding_122 a0 r1 x2 (some a_31) (some a_32) x_25 x_38 h_37
            else
              rdR h_37 a0 12 2 fun r_39 =>
              nn r_39 fun a_40 =>
              rdR h_37 a_40 9 2 fun r_41 =>
              nn r_41 fun a_42 =>
              kg h_37 a_42 0 (bd (f_Jx4a65c_remove_915e3 a_42 x_38 h_37) fun r_45 h_44 =>
              f_X11_changeBinding_122 a0 r1 x2 (some a_31) (some a_32) x_25 x_38 h_44))
          else
            f_X11_changeBinding_122 a0 r1 x2 (some a_31) (some a_32) x_25 x_38 h_37))))))))))))
set_option maxRecDepth 20000 in
set_option maxHeartbeats 4000000 in
theorem t_X11_changeBinding {Ω : Om} (a0 : Nat) (r1 : Option Nat) (x2 : Int32) (h : AH) (q : Int32 × AH) (hf : f_X11_changeBinding a0 r1 x2 h = some q) : Go Ω M_X11_changeBinding 0 (lv_args 0 [vR Ω (some a0), vR Ω r1, .int x2]) [] h (some (.int q.1)) q.2 := by
  unfold f_X11_changeBinding at hf
  rw [la_R, la_R, la_I, la_0]
  refine go_sub (lv' := [(0, vR Ω (some a0)), (1, vR Ω r1), (2, .int x2)]) [0, 1, 2] rfl ?_
  refine go_aload_n dX11_changeBinding_0 rfl 0 rfl ?_
  refine go_getR dX11_changeBinding_1 fl_390_0 (fun _ _ => rfl) hf (fun r_1 hf => ?_)
  refine go_aload_n dX11_changeBinding_4 rfl 0 rfl ?_
  refine go_getR dX11_changeBinding_5 fl_388_0 (fun _ _ => rfl) hf (fun r_2 hf => ?_)
  obtain ⟨a_3, rfl, hga_3⟩ := nn_some hf
  have hf := hga_3
  obtain ⟨hk, hf⟩ := kg_some hf
  obtain ⟨z_4, hc, hf⟩ := bd_some hf
  refine go_callV (y2 := M_X6_readName) (c2 := 7) dX11_changeBinding_8 mo_X6_readName ⟨Nat.le_of_ble_eq_true rfl, Nat.le_of_ble_eq_true rfl⟩ na_X6_readName w758 w759 (by decide) rfl w760 hk [] rfl (n_X6_readName (a_3)) rfl (csum (Nat.le_of_ble_eq_true rfl)) (t_X6_readName (a_3) h _ hc) ?_
  obtain ⟨x_6, h_5⟩ := z_4
  obtain ⟨a_7, rfl, hga_7⟩ := nn_some hf
  have hf := hga_7
  obtain ⟨hk, hf⟩ := kg_some hf
  obtain ⟨z_8, hc, hf⟩ := bd_some hf
  refine go_callV (y2 := M_X8_queueNamed) (c2 := 9) dX11_changeBinding_11 mo_X8_queueNamed ⟨Nat.le_of_ble_eq_true rfl, Nat.le_of_ble_eq_true rfl⟩ na_X8_queueNamed w788 w789 (by decide) rfl w790 hk [.long x_6] rfl (n_X8_queueNamed (a_7) x_6) rfl (csum (Nat.le_of_ble_eq_true rfl)) (t_X8_queueNamed (a_7) x_6 h_5 _ hc) ?_
  obtain ⟨r_10, h_9⟩ := z_8
  refine go_astore_n (i := 3) (lv' := [(3, vR Ω r_10), (0, vR Ω (some a0)), (1, vR Ω r1), (2, .int x2)]) dX11_changeBinding_14 rfl (by decide) (by first | rfl | simp [catR, catI, catJ]) ?_
  refine go_aload_n dX11_changeBinding_15 rfl 1 rfl ?_
  refine go_getR dX11_changeBinding_16 fl_390_0 (fun _ _ => rfl) hf (fun r_11 hf => ?_)
  refine go_aload_n dX11_changeBinding_19 rfl 1 rfl ?_
  refine go_getR dX11_changeBinding_20 fl_388_0 (fun _ _ => rfl) hf (fun r_12 hf => ?_)
  obtain ⟨a_13, rfl, hga_13⟩ := nn_some hf
  have hf := hga_13
  obtain ⟨hk, hf⟩ := kg_some hf
  obtain ⟨z_14, hc, hf⟩ := bd_some hf
  refine go_callV (y2 := M_X6_readName) (c2 := 7) dX11_changeBinding_23 mo_X6_readName ⟨Nat.le_of_ble_eq_true rfl, Nat.le_of_ble_eq_true rfl⟩ na_X6_readName w758 w759 (by decide) rfl w760 hk [] rfl (n_X6_readName (a_13)) rfl (csum (Nat.le_of_ble_eq_true rfl)) (t_X6_readName (a_13) h_9 _ hc) ?_
  obtain ⟨x_16, h_15⟩ := z_14
  obtain ⟨a_17, rfl, hga_17⟩ := nn_some hf
  have hf := hga_17
  obtain ⟨hk, hf⟩ := kg_some hf
  obtain ⟨z_18, hc, hf⟩ := bd_some hf
  refine go_callV (y2 := M_X8_exchangeNamed) (c2 := 9) dX11_changeBinding_26 mo_X8_exchangeNamed ⟨Nat.le_of_ble_eq_true rfl, Nat.le_of_ble_eq_true rfl⟩ na_X8_exchangeNamed w766 w767 (by decide) rfl w768 hk [.long x_16] rfl (n_X8_exchangeNamed (a_17) x_16) rfl (csum (Nat.le_of_ble_eq_true rfl)) (t_X8_exchangeNamed (a_17) x_16 h_15 _ hc) ?_
  obtain ⟨r_20, h_19⟩ := z_18
  refine go_astore (i := 4) (lv' := [(4, vR Ω r_20), (3, vR Ω r_10), (0, vR Ω (some a0)), (1, vR Ω r1), (2, .int x2)]) dX11_changeBinding_29 (by decide) (by first | rfl | simp [catR, catI, catJ]) ?_
  refine go_aload_n dX11_changeBinding_31 rfl 2 rfl ?_
  refine go_getR dX11_changeBinding_32 fl_388_0 (fun _ _ => rfl) hf (fun r_21 hf => ?_)
  obtain ⟨a_22, rfl, hga_22⟩ := nn_some hf
  have hf := hga_22
  obtain ⟨hk, hf⟩ := kg_some hf
  obtain ⟨z_23, hc, hf⟩ := bd_some hf
  refine go_callV (y2 := M_X6_readName) (c2 := 7) dX11_changeBinding_35 mo_X6_readName ⟨Nat.le_of_ble_eq_true rfl, Nat.le_of_ble_eq_true rfl⟩ na_X6_readName w758 w759 (by decide) rfl w760 hk [] rfl (n_X6_readName (a_22)) rfl (csum (Nat.le_of_ble_eq_true rfl)) (t_X6_readName (a_22) h_19 _ hc) ?_
  obtain ⟨x_25, h_24⟩ := z_23
  refine go_lstore (i := 5) (lv' := [(5, .long x_25), (4, vR Ω r_20), (3, vR Ω r_10), (0, vR Ω (some a0)), (1, vR Ω r1), (2, .int x2)]) dX11_changeBinding_38 (by decide) (by first | rfl | simp [catR, catI, catJ]) ?_
  refine go_aload_n dX11_changeBinding_40 rfl 3 rfl ?_
  refine go_getR dX11_changeBinding_41 fl_388_0 (fun _ _ => rfl) hf (fun r_26 hf => ?_)
  obtain ⟨a_27, rfl, hga_27⟩ := nn_some hf
  have hf := hga_27
  obtain ⟨hk, hf⟩ := kg_some hf
  obtain ⟨z_28, hc, hf⟩ := bd_some hf
  refine go_callV (y2 := M_X6_isJustRead) (c2 := 7) dX11_changeBinding_44 mo_X6_isJustRead ⟨Nat.le_of_ble_eq_true rfl, Nat.le_of_ble_eq_true rfl⟩ na_X6_isJustRead w474 w475 (by decide) rfl w476 hk [] rfl (n_X6_isJustRead (a_27)) rfl (csum (Nat.le_of_ble_eq_true rfl)) (t_X6_isJustRead (a_27) h_24 _ hc) ?_
  obtain ⟨x_30, h_29⟩ := z_28
  refine go_if_ne (tgt := 54) dX11_changeBinding_47 (by decide) hf (fun hf => ?_) (fun hf => ?_)
  · refine go_aload_n dX11_changeBinding_54 rfl 2 rfl ?_
    refine go_ifnull (x := r_10) (tgt := 63) dX11_changeBinding_55 (by decide) hf ?_ ?_
    · rintro rfl hf
      refine go_sipush 404 dX11_changeBinding_63 (by decide) ?_
      exact go_ireturn dX11_changeBinding_66 rfl hf
    · rintro a_31 rfl hf
      refine go_aload dX11_changeBinding_58 1 rfl ?_
      refine go_ifnonnull (x := r_20) (tgt := 67) dX11_changeBinding_60 (by decide) hf ?_ ?_
      · rintro rfl hf
        refine go_sipush 404 dX11_changeBinding_63 (by decide) ?_
        exact go_ireturn dX11_changeBinding_66 rfl hf
      · rintro a_32 rfl hf
        refine go_aload dX11_changeBinding_67 1 rfl ?_
        refine go_getJ dX11_changeBinding_69 fl_240_0 (fun _ _ => rfl) hf (fun x_33 hf => ?_)
        refine go_lconst 0 dX11_changeBinding_72 rfl ?_
        refine go_lcmp dX11_changeBinding_73 ?_
        refine go_if_ne (tgt := 81) dX11_changeBinding_74 (by decide) hf (fun hf => ?_) (fun hf => ?_)
        · refine go_aload_n dX11_changeBinding_81 rfl 3 rfl ?_
          refine go_getR dX11_changeBinding_82 fl_390_0 (fun _ _ => rfl) hf (fun r_34 hf => ?_)
          refine go_aload_n dX11_changeBinding_85 rfl 2 rfl ?_
          refine go_aload dX11_changeBinding_86 1 rfl ?_
          refine go_lload dX11_changeBinding_88 0 rfl ?_
          obtain ⟨a_35, rfl, hga_35⟩ := nn_some hf
          have hf := hga_35
          obtain ⟨hk, hf⟩ := kg_some hf
          obtain ⟨z_36, hc, hf⟩ := bd_some hf
          refine go_callV (y2 := M_X8_bindingAt) (c2 := 9) dX11_changeBinding_90 mo_X8_bindingAt ⟨Nat.le_of_ble_eq_true rfl, Nat.le_of_ble_eq_true rfl⟩ na_X8_bindingAt w822 w823 (by decide) rfl w824 hk [vR Ω (some a_31), vR Ω (some a_32), .long x_25] rfl (n_X8_bindingAt (a_35) (some a_31) (some a_32) x_25) rfl (csum (Nat.le_of_ble_eq_true rfl)) (t_X8_bindingAt (a_35) (some a_31) (some a_32) x_25 h_29 _ hc) ?_
          obtain ⟨x_38, h_37⟩ := z_36
          refine go_istore (i := 7) (lv' := [(7, .int x_38), (5, .long x_25), (4, vR Ω (some a_32)), (3, vR Ω (some a_31)), (0, vR Ω (some a0)), (1, vR Ω r1), (2, .int x2)]) dX11_changeBinding_93 (by decide) (by first | rfl | simp [catR, catI, catJ]) ?_
          refine go_iload_n dX11_changeBinding_95 rfl 6 rfl ?_
          refine go_sipush 12850 dX11_changeBinding_96 (by decide) ?_
          refine go_icmp_ne (tgt := 122) dX11_changeBinding_99 (by decide) hf (fun hf => ?_) (fun hf => ?_)
          · refine go_sub (lv' := [(0, vR Ω (some a0)), (1, vR Ω r1), (2, .int x2), (3, vR Ω (some a_31)), (4, vR Ω (some a_32)), (5, .long x_25), (7, .int x_38)]) [4, 5, 6, 3, 2, 1, 0] rfl ?_
            exact t_X11_changeBinding_122 a0 r1 x2 (some a_31) (some a_32) x_25 x_38 h_37 q hf
          · refine go_iload dX11_changeBinding_102 0 rfl ?_
            refine go_if_lt (tgt := 122) dX11_changeBinding_104 (by decide) hf (fun hf => ?_) (fun hf => ?_)
            · refine go_sub (lv' := [(0, vR Ω (some a0)), (1, vR Ω r1), (2, .int x2), (3, vR Ω (some a_31)), (4, vR Ω (some a_32)), (5, .long x_25), (7, .int x_38)]) [4, 5, 6, 3, 2, 1, 0] rfl ?_
              exact t_X11_changeBinding_122 a0 r1 x2 (some a_31) (some a_32) x_25 x_38 h_37 q hf
            · refine go_aload_n dX11_changeBinding_107 rfl 4 rfl ?_
              refine go_getR dX11_changeBinding_108 fl_390_0 (fun _ _ => rfl) hf (fun r_39 hf => ?_)
              obtain ⟨a_40, rfl, hga_40⟩ := nn_some hf
              have hf := hga_40
              refine go_getR dX11_changeBinding_111 fl_321_0 (fun _ _ => rfl) hf (fun r_41 hf => ?_)
              refine go_iload dX11_changeBinding_114 0 rfl ?_
              obtain ⟨a_42, rfl, hga_42⟩ := nn_some hf
              have hf := hga_42
              obtain ⟨hk, hf⟩ := kg_some hf
              obtain ⟨z_43, hc, hf⟩ := bd_some hf
              refine go_callF (y2 := M_Jx4a65c_remove_915e3) (x2 := ⟨"java/util/List", "remove", "(I)Ljava/lang/Object;"⟩) dX11_changeBinding_116 mo_Jx4a65c_remove_915e3 ⟨Nat.le_of_ble_eq_true rfl, Nat.le_of_ble_eq_true rfl⟩ na_Jx4a65c_remove_915e3 w827 w681 w679 (by decide) (fun U hU => hU.2.2.2.1) hk [.int x_38] rfl (n_Jx4a65c_remove_915e3 (a_42) x_38) rfl (csum (Nat.le_of_ble_eq_true rfl)) (t_Jx4a65c_remove_915e3 (a_42) x_38 h_37 _ hc) ?_
              obtain ⟨r_45, h_44⟩ := z_43
              refine go_pop dX11_changeBinding_121 catR ?_
              refine go_sub (lv' := [(0, vR Ω (some a0)), (1, vR Ω r1), (2, .int x2), (3, vR Ω (some a_31)), (4, vR Ω (some a_32)), (5, .long x_25), (7, .int x_38)]) [4, 5, 6, 3, 2, 1, 0] rfl ?_
              exact t_X11_changeBinding_122 a0 r1 x2 (some a_31) (some a_32) x_25 x_38 h_44 q hf
        · refine go_sipush 403 dX11_changeBinding_77 (by decide) ?_
          exact go_ireturn dX11_changeBinding_80 rfl hf
  · refine go_sipush 501 dX11_changeBinding_50 (by decide) ?_
    exact go_ireturn dX11_changeBinding_53 rfl hf
-- LetterBroker.closeChannel(LLetterBroker$Channel;)I
theorem dX11_closeChannel_0 : decode cX11_closeChannel 0 = .ok (.aload_n 0, 1) := by decide +kernel
theorem dX11_closeChannel_1 : decode cX11_closeChannel 1 = .ok (.getfield 10, 3) := by decide +kernel
theorem dX11_closeChannel_4 : decode cX11_closeChannel 4 = .ok (.invokevirtual 132, 3) := by decide +kernel
theorem dX11_closeChannel_7 : decode cX11_closeChannel 7 = .ok (.ifCond .ne 7, 3) := by decide +kernel
theorem dX11_closeChannel_10 : decode cX11_closeChannel 10 = .ok (.sipush 501, 3) := by decide +kernel
theorem dX11_closeChannel_13 : decode cX11_closeChannel 13 = .ok (.ireturn, 1) := by decide +kernel
theorem dX11_closeChannel_14 : decode cX11_closeChannel 14 = .ok (.aload_n 0, 1) := by decide +kernel
theorem dX11_closeChannel_15 : decode cX11_closeChannel 15 = .ok (.aload_n 1, 1) := by decide +kernel
theorem dX11_closeChannel_16 : decode cX11_closeChannel 16 = .ok (.iconst 0, 1) := by decide +kernel
theorem dX11_closeChannel_17 : decode cX11_closeChannel 17 = .ok (.invokevirtual 146, 3) := by decide +kernel
theorem dX11_closeChannel_20 : decode cX11_closeChannel 20 = .ok (.aload_n 0, 1) := by decide +kernel
theorem dX11_closeChannel_21 : decode cX11_closeChannel 21 = .ok (.getfield 19, 3) := by decide +kernel
theorem dX11_closeChannel_24 : decode cX11_closeChannel 24 = .ok (.aload_n 1, 1) := by decide +kernel
theorem dX11_closeChannel_25 : decode cX11_closeChannel 25 = .ok (.getfield 145, 3) := by decide +kernel
theorem dX11_closeChannel_28 : decode cX11_closeChannel 28 = .ok (.sipush 5161, 3) := by decide +kernel
theorem dX11_closeChannel_31 : decode cX11_closeChannel 31 = .ok (.invokevirtual 125, 3) := by decide +kernel
theorem dX11_closeChannel_34 : decode cX11_closeChannel 34 = .ok (.iconst 0, 1) := by decide +kernel
theorem dX11_closeChannel_35 : decode cX11_closeChannel 35 = .ok (.ireturn, 1) := by decide +kernel
def f_X11_closeChannel (a0 : Nat) (r1 : Option Nat) (h : AH) : Option (Int32 × AH) := rdR h a0 12 0 fun r_1 =>
  nn r_1 fun a_2 =>
  kg h a_2 7 (bd (f_X6_isJustRead a_2 h) fun x_5 h_4 =>
  (if x_5 = 0 then
    some (501, h_4)
  else
    kg h_4 a0 12 (bd (f_X11_leaveChannel a0 r1 0 h_4) fun _ h_7 =>
    rdR h_7 a0 12 1 fun r_8 =>
    nn r1 fun a_9 =>
    rdI h_7 a_9 2 0 fun x_10 =>
    nn r_8 fun a_11 =>
    kg h_7 a_11 10 (bd (f_X9_tell a_11 x_10 5161 h_7) fun _ h_13 =>
    some (0, h_13)))))
set_option maxRecDepth 20000 in
set_option maxHeartbeats 4000000 in
theorem t_X11_closeChannel {Ω : Om} (a0 : Nat) (r1 : Option Nat) (h : AH) (q : Int32 × AH) (hf : f_X11_closeChannel a0 r1 h = some q) : Go Ω M_X11_closeChannel 0 (lv_args 0 [vR Ω (some a0), vR Ω r1]) [] h (some (.int q.1)) q.2 := by
  unfold f_X11_closeChannel at hf
  rw [la_R, la_R, la_0]
  refine go_sub (lv' := [(0, vR Ω (some a0)), (1, vR Ω r1)]) [0, 1] rfl ?_
  refine go_aload_n dX11_closeChannel_0 rfl 0 rfl ?_
  refine go_getR dX11_closeChannel_1 fl_388_0 (fun _ _ => rfl) hf (fun r_1 hf => ?_)
  obtain ⟨a_2, rfl, hga_2⟩ := nn_some hf
  have hf := hga_2
  obtain ⟨hk, hf⟩ := kg_some hf
  obtain ⟨z_3, hc, hf⟩ := bd_some hf
  refine go_callV (y2 := M_X6_isJustRead) (c2 := 7) dX11_closeChannel_4 mo_X6_isJustRead ⟨Nat.le_of_ble_eq_true rfl, Nat.le_of_ble_eq_true rfl⟩ na_X6_isJustRead w474 w475 (by decide) rfl w476 hk [] rfl (n_X6_isJustRead (a_2)) rfl (csum (Nat.le_of_ble_eq_true rfl)) (t_X6_isJustRead (a_2) h _ hc) ?_
  obtain ⟨x_5, h_4⟩ := z_3
  refine go_if_ne (tgt := 14) dX11_closeChannel_7 (by decide) hf (fun hf => ?_) (fun hf => ?_)
  · refine go_aload_n dX11_closeChannel_14 rfl 0 rfl ?_
    refine go_aload_n dX11_closeChannel_15 rfl 1 rfl ?_
    refine go_iconst 0 dX11_closeChannel_16 rfl ?_
    obtain ⟨hk, hf⟩ := kg_some hf
    obtain ⟨z_6, hc, hf⟩ := bd_some hf
    refine go_callV (y2 := M_X11_leaveChannel) (c2 := 12) dX11_closeChannel_17 mo_X11_leaveChannel ⟨Nat.le_of_ble_eq_true rfl, Nat.le_of_ble_eq_true rfl⟩ na_X11_leaveChannel w666 w668 (by decide) rfl w18 hk [vR Ω r1, .int 0] rfl (n_X11_leaveChannel (a0) r1 0) rfl (csum (Nat.le_of_ble_eq_true rfl)) (t_X11_leaveChannel (a0) r1 0 h_4 _ hc) ?_
    obtain ⟨_, h_7⟩ := z_6
    refine go_aload_n dX11_closeChannel_20 rfl 0 rfl ?_
    refine go_getR dX11_closeChannel_21 fl_389_0 (fun _ _ => rfl) hf (fun r_8 hf => ?_)
    refine go_aload_n dX11_closeChannel_24 rfl 1 rfl ?_
    obtain ⟨a_9, rfl, hga_9⟩ := nn_some hf
    have hf := hga_9
    refine go_getI dX11_closeChannel_25 fl_349_0 (fun _ _ => rfl) hf (fun x_10 hf => ?_)
    refine go_sipush 5161 dX11_closeChannel_28 (by decide) ?_
    obtain ⟨a_11, rfl, hga_11⟩ := nn_some hf
    have hf := hga_11
    obtain ⟨hk, hf⟩ := kg_some hf
    obtain ⟨z_12, hc, hf⟩ := bd_some hf
    refine go_callV (y2 := M_X9_tell) (c2 := 10) dX11_closeChannel_31 mo_X9_tell ⟨Nat.le_of_ble_eq_true rfl, Nat.le_of_ble_eq_true rfl⟩ na_X9_tell w430 w431 (by decide) rfl w432 hk [.int x_10, .int 5161] rfl (n_X9_tell (a_11) x_10 5161) rfl (csum (Nat.le_of_ble_eq_true rfl)) (t_X9_tell (a_11) x_10 5161 h_7 _ hc) ?_
    obtain ⟨_, h_13⟩ := z_12
    refine go_iconst 0 dX11_closeChannel_34 rfl ?_
    exact go_ireturn dX11_closeChannel_35 rfl hf
  · refine go_sipush 501 dX11_closeChannel_10 (by decide) ?_
    exact go_ireturn dX11_closeChannel_13 rfl hf
-- java/lang/Integer.bitCount(I)I
theorem dJ6_bitCount_0f7a4_0 : decode cJ6_bitCount_0f7a4 0 = .ok (.iload_n 0, 1) := by decide +kernel
theorem dJ6_bitCount_0f7a4_1 : decode cJ6_bitCount_0f7a4 1 = .ok (.iload_n 0, 1) := by decide +kernel
theorem dJ6_bitCount_0f7a4_2 : decode cJ6_bitCount_0f7a4 2 = .ok (.iconst 1, 1) := by decide +kernel
theorem dJ6_bitCount_0f7a4_3 : decode cJ6_bitCount_0f7a4 3 = .ok (.iushr, 1) := by decide +kernel
theorem dJ6_bitCount_0f7a4_4 : decode cJ6_bitCount_0f7a4 4 = .ok (.ldc_w 265, 3) := by decide +kernel
theorem dJ6_bitCount_0f7a4_7 : decode cJ6_bitCount_0f7a4 7 = .ok (.iand, 1) := by decide +kernel
theorem dJ6_bitCount_0f7a4_8 : decode cJ6_bitCount_0f7a4 8 = .ok (.isub, 1) := by decide +kernel
theorem dJ6_bitCount_0f7a4_9 : decode cJ6_bitCount_0f7a4 9 = .ok (.istore_n 0, 1) := by decide +kernel
theorem dJ6_bitCount_0f7a4_10 : decode cJ6_bitCount_0f7a4 10 = .ok (.iload_n 0, 1) := by decide +kernel
theorem dJ6_bitCount_0f7a4_11 : decode cJ6_bitCount_0f7a4 11 = .ok (.ldc_w 266, 3) := by decide +kernel
theorem dJ6_bitCount_0f7a4_14 : decode cJ6_bitCount_0f7a4 14 = .ok (.iand, 1) := by decide +kernel
theorem dJ6_bitCount_0f7a4_15 : decode cJ6_bitCount_0f7a4 15 = .ok (.iload_n 0, 1) := by decide +kernel
theorem dJ6_bitCount_0f7a4_16 : decode cJ6_bitCount_0f7a4 16 = .ok (.iconst 2, 1) := by decide +kernel
theorem dJ6_bitCount_0f7a4_17 : decode cJ6_bitCount_0f7a4 17 = .ok (.iushr, 1) := by decide +kernel
theorem dJ6_bitCount_0f7a4_18 : decode cJ6_bitCount_0f7a4 18 = .ok (.ldc_w 266, 3) := by decide +kernel
theorem dJ6_bitCount_0f7a4_21 : decode cJ6_bitCount_0f7a4 21 = .ok (.iand, 1) := by decide +kernel
theorem dJ6_bitCount_0f7a4_22 : decode cJ6_bitCount_0f7a4 22 = .ok (.iadd, 1) := by decide +kernel
theorem dJ6_bitCount_0f7a4_23 : decode cJ6_bitCount_0f7a4 23 = .ok (.istore_n 0, 1) := by decide +kernel
theorem dJ6_bitCount_0f7a4_24 : decode cJ6_bitCount_0f7a4 24 = .ok (.iload_n 0, 1) := by decide +kernel
theorem dJ6_bitCount_0f7a4_25 : decode cJ6_bitCount_0f7a4 25 = .ok (.iload_n 0, 1) := by decide +kernel
theorem dJ6_bitCount_0f7a4_26 : decode cJ6_bitCount_0f7a4 26 = .ok (.iconst 4, 1) := by decide +kernel
theorem dJ6_bitCount_0f7a4_27 : decode cJ6_bitCount_0f7a4 27 = .ok (.iushr, 1) := by decide +kernel
theorem dJ6_bitCount_0f7a4_28 : decode cJ6_bitCount_0f7a4 28 = .ok (.iadd, 1) := by decide +kernel
theorem dJ6_bitCount_0f7a4_29 : decode cJ6_bitCount_0f7a4 29 = .ok (.ldc_w 267, 3) := by decide +kernel
theorem dJ6_bitCount_0f7a4_32 : decode cJ6_bitCount_0f7a4 32 = .ok (.iand, 1) := by decide +kernel
theorem dJ6_bitCount_0f7a4_33 : decode cJ6_bitCount_0f7a4 33 = .ok (.istore_n 0, 1) := by decide +kernel
theorem dJ6_bitCount_0f7a4_34 : decode cJ6_bitCount_0f7a4 34 = .ok (.iload_n 0, 1) := by decide +kernel
theorem dJ6_bitCount_0f7a4_35 : decode cJ6_bitCount_0f7a4 35 = .ok (.iload_n 0, 1) := by decide +kernel
theorem dJ6_bitCount_0f7a4_36 : decode cJ6_bitCount_0f7a4 36 = .ok (.bipush 8, 2) := by decide +kernel
theorem dJ6_bitCount_0f7a4_38 : decode cJ6_bitCount_0f7a4 38 = .ok (.iushr, 1) := by decide +kernel
theorem dJ6_bitCount_0f7a4_39 : decode cJ6_bitCount_0f7a4 39 = .ok (.iadd, 1) := by decide +kernel
theorem dJ6_bitCount_0f7a4_40 : decode cJ6_bitCount_0f7a4 40 = .ok (.istore_n 0, 1) := by decide +kernel
theorem dJ6_bitCount_0f7a4_41 : decode cJ6_bitCount_0f7a4 41 = .ok (.iload_n 0, 1) := by decide +kernel
theorem dJ6_bitCount_0f7a4_42 : decode cJ6_bitCount_0f7a4 42 = .ok (.iload_n 0, 1) := by decide +kernel
theorem dJ6_bitCount_0f7a4_43 : decode cJ6_bitCount_0f7a4 43 = .ok (.bipush 16, 2) := by decide +kernel
theorem dJ6_bitCount_0f7a4_45 : decode cJ6_bitCount_0f7a4 45 = .ok (.iushr, 1) := by decide +kernel
theorem dJ6_bitCount_0f7a4_46 : decode cJ6_bitCount_0f7a4 46 = .ok (.iadd, 1) := by decide +kernel
theorem dJ6_bitCount_0f7a4_47 : decode cJ6_bitCount_0f7a4 47 = .ok (.istore_n 0, 1) := by decide +kernel
theorem dJ6_bitCount_0f7a4_48 : decode cJ6_bitCount_0f7a4 48 = .ok (.iload_n 0, 1) := by decide +kernel
theorem dJ6_bitCount_0f7a4_49 : decode cJ6_bitCount_0f7a4 49 = .ok (.bipush 63, 2) := by decide +kernel
theorem dJ6_bitCount_0f7a4_51 : decode cJ6_bitCount_0f7a4 51 = .ok (.iand, 1) := by decide +kernel
theorem dJ6_bitCount_0f7a4_52 : decode cJ6_bitCount_0f7a4 52 = .ok (.ireturn, 1) := by decide +kernel
def f_J6_bitCount_0f7a4 (x0 : Int32) (h : AH) : Option (Int32 × AH) := lt (x0 - (((x0.toUInt32 >>> ((1 : Int32).toUInt32 &&& Int32.toUInt32 31)).toInt32) &&& 1431655765)) fun x_1 =>
  lt ((x_1 &&& 858993459) + (((x_1.toUInt32 >>> ((2 : Int32).toUInt32 &&& Int32.toUInt32 31)).toInt32) &&& 858993459)) fun x_2 =>
  lt ((x_2 + ((x_2.toUInt32 >>> ((4 : Int32).toUInt32 &&& Int32.toUInt32 31)).toInt32)) &&& 252645135) fun x_3 =>
  lt (x_3 + ((x_3.toUInt32 >>> ((8 : Int32).toUInt32 &&& Int32.toUInt32 31)).toInt32)) fun x_4 =>
  lt (x_4 + ((x_4.toUInt32 >>> ((16 : Int32).toUInt32 &&& Int32.toUInt32 31)).toInt32)) fun x_5 =>
  some ((x_5 &&& 63), h)
set_option maxRecDepth 20000 in
set_option maxHeartbeats 4000000 in
theorem t_J6_bitCount_0f7a4 {Ω : Om} (x0 : Int32) (h : AH) (q : Int32 × AH) (hf : f_J6_bitCount_0f7a4 x0 h = some q) : Go Ω M_J6_bitCount_0f7a4 0 (lv_args 0 [.int x0]) [] h (some (.int q.1)) q.2 := by
  unfold f_J6_bitCount_0f7a4 at hf
  rw [la_I, la_0]
  refine go_sub (lv' := [(0, .int x0)]) [0] rfl ?_
  refine go_iload_n dJ6_bitCount_0f7a4_0 rfl 0 rfl ?_
  refine go_iload_n dJ6_bitCount_0f7a4_1 rfl 0 rfl ?_
  refine go_iconst 1 dJ6_bitCount_0f7a4_2 rfl ?_
  refine go_iushr dJ6_bitCount_0f7a4_3 ?_
  refine go_ldcw 1431655765 dJ6_bitCount_0f7a4_4 w571 ?_
  refine go_iand dJ6_bitCount_0f7a4_7 ?_
  refine go_isub dJ6_bitCount_0f7a4_8 ?_
  refine lt_I hf (fun x_1 hf => ?_)
  refine go_istore_n (i := 0) (lv' := [(0, .int x_1)]) dJ6_bitCount_0f7a4_9 rfl (by decide) (by first | rfl | simp [catR, catI, catJ]) ?_
  refine go_iload_n dJ6_bitCount_0f7a4_10 rfl 0 rfl ?_
  refine go_ldcw 858993459 dJ6_bitCount_0f7a4_11 w572 ?_
  refine go_iand dJ6_bitCount_0f7a4_14 ?_
  refine go_iload_n dJ6_bitCount_0f7a4_15 rfl 0 rfl ?_
  refine go_iconst 2 dJ6_bitCount_0f7a4_16 rfl ?_
  refine go_iushr dJ6_bitCount_0f7a4_17 ?_
  refine go_ldcw 858993459 dJ6_bitCount_0f7a4_18 w572 ?_
  refine go_iand dJ6_bitCount_0f7a4_21 ?_
  refine go_iadd dJ6_bitCount_0f7a4_22 ?_
  refine lt_I hf (fun x_2 hf => ?_)
  refine go_istore_n (i := 0) (lv' := [(0, .int x_2)]) dJ6_bitCount_0f7a4_23 rfl (by decide) (by first | rfl | simp [catR, catI, catJ]) ?_
  refine go_iload_n dJ6_bitCount_0f7a4_24 rfl 0 rfl ?_
  refine go_iload_n dJ6_bitCount_0f7a4_25 rfl 0 rfl ?_
  refine go_iconst 4 dJ6_bitCount_0f7a4_26 rfl ?_
  refine go_iushr dJ6_bitCount_0f7a4_27 ?_
  refine go_iadd dJ6_bitCount_0f7a4_28 ?_
  refine go_ldcw 252645135 dJ6_bitCount_0f7a4_29 w573 ?_
  refine go_iand dJ6_bitCount_0f7a4_32 ?_
  refine lt_I hf (fun x_3 hf => ?_)
  refine go_istore_n (i := 0) (lv' := [(0, .int x_3)]) dJ6_bitCount_0f7a4_33 rfl (by decide) (by first | rfl | simp [catR, catI, catJ]) ?_
  refine go_iload_n dJ6_bitCount_0f7a4_34 rfl 0 rfl ?_
  refine go_iload_n dJ6_bitCount_0f7a4_35 rfl 0 rfl ?_
  refine go_bipush 8 dJ6_bitCount_0f7a4_36 (by decide) ?_
  refine go_iushr dJ6_bitCount_0f7a4_38 ?_
  refine go_iadd dJ6_bitCount_0f7a4_39 ?_
  refine lt_I hf (fun x_4 hf => ?_)
  refine go_istore_n (i := 0) (lv' := [(0, .int x_4)]) dJ6_bitCount_0f7a4_40 rfl (by decide) (by first | rfl | simp [catR, catI, catJ]) ?_
  refine go_iload_n dJ6_bitCount_0f7a4_41 rfl 0 rfl ?_
  refine go_iload_n dJ6_bitCount_0f7a4_42 rfl 0 rfl ?_
  refine go_bipush 16 dJ6_bitCount_0f7a4_43 (by decide) ?_
  refine go_iushr dJ6_bitCount_0f7a4_45 ?_
  refine go_iadd dJ6_bitCount_0f7a4_46 ?_
  refine lt_I hf (fun x_5 hf => ?_)
  refine go_istore_n (i := 0) (lv' := [(0, .int x_5)]) dJ6_bitCount_0f7a4_47 rfl (by decide) (by first | rfl | simp [catR, catI, catJ]) ?_
  refine go_iload_n dJ6_bitCount_0f7a4_48 rfl 0 rfl ?_
  refine go_bipush 63 dJ6_bitCount_0f7a4_49 (by decide) ?_
  refine go_iand dJ6_bitCount_0f7a4_51 ?_
  exact go_ireturn dJ6_bitCount_0f7a4_52 rfl hf
-- LetterBroker$Office.lettersThatWait()I
theorem dX8_lettersThatWait_0 : decode cX8_lettersThatWait 0 = .ok (.iconst 0, 1) := by decide +kernel
theorem dX8_lettersThatWait_1 : decode cX8_lettersThatWait 1 = .ok (.istore_n 1, 1) := by decide +kernel
theorem dX8_lettersThatWait_2 : decode cX8_lettersThatWait 2 = .ok (.iconst 0, 1) := by decide +kernel
theorem dX8_lettersThatWait_3 : decode cX8_lettersThatWait 3 = .ok (.istore_n 2, 1) := by decide +kernel
theorem dX8_lettersThatWait_4 : decode cX8_lettersThatWait 4 = .ok (.iload_n 2, 1) := by decide +kernel
theorem dX8_lettersThatWait_5 : decode cX8_lettersThatWait 5 = .ok (.aload_n 0, 1) := by decide +kernel
theorem dX8_lettersThatWait_6 : decode cX8_lettersThatWait 6 = .ok (.getfield 18, 3) := by decide +kernel
theorem dX8_lettersThatWait_9 : decode cX8_lettersThatWait 9 = .ok (.invokeinterface 38 1, 5) := by decide +kernel
theorem dX8_lettersThatWait_14 : decode cX8_lettersThatWait 14 = .ok (.if_icmp .ge 33, 3) := by decide +kernel
theorem dX8_lettersThatWait_17 : decode cX8_lettersThatWait 17 = .ok (.iload_n 1, 1) := by decide +kernel
theorem dX8_lettersThatWait_18 : decode cX8_lettersThatWait 18 = .ok (.aload_n 0, 1) := by decide +kernel
theorem dX8_lettersThatWait_19 : decode cX8_lettersThatWait 19 = .ok (.getfield 18, 3) := by decide +kernel
theorem dX8_lettersThatWait_22 : decode cX8_lettersThatWait 22 = .ok (.iload_n 2, 1) := by decide +kernel
theorem dX8_lettersThatWait_23 : decode cX8_lettersThatWait 23 = .ok (.invokeinterface 42 2, 5) := by decide +kernel
theorem dX8_lettersThatWait_28 : decode cX8_lettersThatWait 28 = .ok (.checkcast 50, 3) := by decide +kernel
theorem dX8_lettersThatWait_31 : decode cX8_lettersThatWait 31 = .ok (.getfield 76, 3) := by decide +kernel
theorem dX8_lettersThatWait_34 : decode cX8_lettersThatWait 34 = .ok (.invokeinterface 38 1, 5) := by decide +kernel
theorem dX8_lettersThatWait_39 : decode cX8_lettersThatWait 39 = .ok (.iadd, 1) := by decide +kernel
theorem dX8_lettersThatWait_40 : decode cX8_lettersThatWait 40 = .ok (.istore_n 1, 1) := by decide +kernel
theorem dX8_lettersThatWait_41 : decode cX8_lettersThatWait 41 = .ok (.iinc 2 1, 3) := by decide +kernel
theorem dX8_lettersThatWait_44 : decode cX8_lettersThatWait 44 = .ok (.goto (-40), 3) := by decide +kernel
theorem dX8_lettersThatWait_47 : decode cX8_lettersThatWait 47 = .ok (.iload_n 1, 1) := by decide +kernel
theorem dX8_lettersThatWait_48 : decode cX8_lettersThatWait 48 = .ok (.ireturn, 1) := by decide +kernel
def f_X8_lettersThatWait_4 : Nat → Nat → Int32 → Int32 → AH → Option (Int32 × AH)
  | 0, _, _, _, _ => none
  | n + 1, a0, x1, x2, h => rdR h a0 9 1 fun r_1 =>
    nn r_1 fun a_2 =>
    kg h a_2 0 (bd (f_Jx4a65c_size_8abf5 a_2 h) fun x_5 h_4 =>
    (if x_5 ≤ x2 then
      some (x1, h_4)
    else
      rdR h_4 a0 9 1 fun r_6 =>
      nn r_6 fun a_7 =>
      kg h_4 a_7 0 (bd (f_Jx4a65c_get_915e3 a_7 x2 h_4) fun r_10 h_9 =>
      ckc h_9 r_10 11 (
      nn r_10 fun a_11 =>
      rdR h_9 a_11 11 1 fun r_12 =>
      nn r_12 fun a_13 =>
      kg h_9 a_13 0 (bd (f_Jx4a65c_size_8abf5 a_13 h_9) fun x_16 h_15 =>
      lt (x1 + x_16) fun x_17 =>
      f_X8_lettersThatWait_4 n a0 x_17 (x2 + 1) h_15)))))
set_option maxRecDepth 20000 in
set_option maxHeartbeats 4000000 in
theorem t_X8_lettersThatWait_4 {Ω : Om} : ∀ (n : Nat) (a0 : Nat) (x1 : Int32) (x2 : Int32) (h : AH) (q : Int32 × AH), f_X8_lettersThatWait_4 n a0 x1 x2 h = some q → Go Ω M_X8_lettersThatWait 4 [(0, vR Ω (some a0)), (1, .int x1), (2, .int x2)] [] h (some (.int q.1)) q.2 := by
  intro n
  induction n with
  | zero => intro a0 x1 x2 h q hf; cases hf
  | succ n ih =>
    intro a0 x1 x2 h q hf
    rw [f_X8_lettersThatWait_4] at hf
    refine go_iload_n dX8_lettersThatWait_4 rfl 2 rfl ?_
    refine go_aload_n dX8_lettersThatWait_5 rfl 0 rfl ?_
    refine go_getR dX8_lettersThatWait_6 fl_318_0 (fun _ _ => rfl) hf (fun r_1 hf => ?_)
    obtain ⟨a_2, rfl, hga_2⟩ := nn_some hf
    have hf := hga_2
    obtain ⟨hk, hf⟩ := kg_some hf
    obtain ⟨z_3, hc, hf⟩ := bd_some hf
    refine go_callF (y2 := M_Jx4a65c_size_8abf5) (x2 := ⟨"java/util/List", "size", "()I"⟩) dX8_lettersThatWait_9 mo_Jx4a65c_size_8abf5 ⟨Nat.le_of_ble_eq_true rfl, Nat.le_of_ble_eq_true rfl⟩ na_Jx4a65c_size_8abf5 w536 w522 w520 (by decide) (fun U hU => hU.2.2.2.2.1) hk [] rfl (n_Jx4a65c_size_8abf5 (a_2)) rfl (csum (Nat.le_of_ble_eq_true rfl)) (t_Jx4a65c_size_8abf5 (a_2) h _ hc) ?_
    obtain ⟨x_5, h_4⟩ := z_3
    refine go_icmp_ge (tgt := 47) dX8_lettersThatWait_14 (by decide) hf (fun hf => ?_) (fun hf => ?_)
    · refine go_iload_n dX8_lettersThatWait_47 rfl 1 rfl ?_
      exact go_ireturn dX8_lettersThatWait_48 rfl hf
    · refine go_iload_n dX8_lettersThatWait_17 rfl 1 rfl ?_
      refine go_aload_n dX8_lettersThatWait_18 rfl 0 rfl ?_
      refine go_getR dX8_lettersThatWait_19 fl_318_0 (fun _ _ => rfl) hf (fun r_6 hf => ?_)
      refine go_iload_n dX8_lettersThatWait_22 rfl 2 rfl ?_
      obtain ⟨a_7, rfl, hga_7⟩ := nn_some hf
      have hf := hga_7
      obtain ⟨hk, hf⟩ := kg_some hf
      obtain ⟨z_8, hc, hf⟩ := bd_some hf
      refine go_callF (y2 := M_Jx4a65c_get_915e3) (x2 := ⟨"java/util/List", "get", "(I)Ljava/lang/Object;"⟩) dX8_lettersThatWait_23 mo_Jx4a65c_get_915e3 ⟨Nat.le_of_ble_eq_true rfl, Nat.le_of_ble_eq_true rfl⟩ na_Jx4a65c_get_915e3 w538 w543 w541 (by decide) (fun U hU => hU.2.2.1) hk [.int x2] rfl (n_Jx4a65c_get_915e3 (a_7) x2) rfl (csum (Nat.le_of_ble_eq_true rfl)) (t_Jx4a65c_get_915e3 (a_7) x2 h_4 _ hc) ?_
      obtain ⟨r_10, h_9⟩ := z_8
      refine go_cast (c := 11) dX8_lettersThatWait_28 (by decide) rfl w556 hf (fun hf => ?_)
      obtain ⟨a_11, rfl, hga_11⟩ := nn_some hf
      have hf := hga_11
      refine go_getR dX8_lettersThatWait_31 fl_803_0 (fun _ _ => rfl) hf (fun r_12 hf => ?_)
      obtain ⟨a_13, rfl, hga_13⟩ := nn_some hf
      have hf := hga_13
      obtain ⟨hk, hf⟩ := kg_some hf
      obtain ⟨z_14, hc, hf⟩ := bd_some hf
      refine go_callF (y2 := M_Jx4a65c_size_8abf5) (x2 := ⟨"java/util/List", "size", "()I"⟩) dX8_lettersThatWait_34 mo_Jx4a65c_size_8abf5 ⟨Nat.le_of_ble_eq_true rfl, Nat.le_of_ble_eq_true rfl⟩ na_Jx4a65c_size_8abf5 w536 w522 w520 (by decide) (fun U hU => hU.2.2.2.2.1) hk [] rfl (n_Jx4a65c_size_8abf5 (a_13)) rfl (csum (Nat.le_of_ble_eq_true rfl)) (t_Jx4a65c_size_8abf5 (a_13) h_9 _ hc) ?_
      obtain ⟨x_16, h_15⟩ := z_14
      refine go_iadd dX8_lettersThatWait_39 ?_
      refine lt_I hf (fun x_17 hf => ?_)
      refine go_istore_n (i := 1) (lv' := [(1, .int x_17), (0, vR Ω (some a0)), (2, .int x2)]) dX8_lettersThatWait_40 rfl (by decide) (by first | rfl | simp [catR, catI, catJ]) ?_
      refine go_iinc (j := 2) (v := x2 + 1) (lv' := [(2, .int (x2 + 1)), (1, .int x_17), (0, vR Ω (some a0))]) dX8_lettersThatWait_41 rfl rfl (by decide) (by first | rfl | simp [catR, catI, catJ]) ?_
      refine go_goto (tgt := 4) dX8_lettersThatWait_44 (by decide) ?_
      refine go_sub (lv' := [(0, vR Ω (some a0)), (1, .int x_17), (2, .int (x2 + 1))]) [2, 1, 0] rfl ?_
      exact ih a0 x_17 (x2 + 1) h_15 q hf
def f_X8_lettersThatWait (a0 : Nat) (h : AH) : Option (Int32 × AH) := f_X8_lettersThatWait_4 FU a0 0 0 h
set_option maxRecDepth 20000 in
set_option maxHeartbeats 4000000 in
theorem t_X8_lettersThatWait {Ω : Om} (a0 : Nat) (h : AH) (q : Int32 × AH) (hf : f_X8_lettersThatWait a0 h = some q) : Go Ω M_X8_lettersThatWait 0 (lv_args 0 [vR Ω (some a0)]) [] h (some (.int q.1)) q.2 := by
  unfold f_X8_lettersThatWait at hf
  rw [la_R, la_0]
  refine go_sub (lv' := [(0, vR Ω (some a0))]) [0] rfl ?_
  refine go_iconst 0 dX8_lettersThatWait_0 rfl ?_
  refine go_istore_n (i := 1) (lv' := [(1, .int 0), (0, vR Ω (some a0))]) dX8_lettersThatWait_1 rfl (by decide) (by first | rfl | simp [catR, catI, catJ]) ?_
  refine go_iconst 0 dX8_lettersThatWait_2 rfl ?_
  refine go_istore_n (i := 2) (lv' := [(2, .int 0), (1, .int 0), (0, vR Ω (some a0))]) dX8_lettersThatWait_3 rfl (by decide) (by first | rfl | simp [catR, catI, catJ]) ?_
  refine go_sub (lv' := [(0, vR Ω (some a0)), (1, .int 0), (2, .int 0)]) [2, 1, 0] rfl ?_
  exact t_X8_lettersThatWait_4 FU a0 0 0 h q hf
-- LetterBroker.lettersInAll()I
theorem dX11_lettersInAll_0 : decode cX11_lettersInAll 0 = .ok (.aload_n 0, 1) := by decide +kernel
theorem dX11_lettersInAll_1 : decode cX11_lettersInAll 1 = .ok (.getfield 26, 3) := by decide +kernel
theorem dX11_lettersInAll_4 : decode cX11_lettersInAll 4 = .ok (.invokevirtual 411, 3) := by decide +kernel
theorem dX11_lettersInAll_7 : decode cX11_lettersInAll 7 = .ok (.istore_n 1, 1) := by decide +kernel
theorem dX11_lettersInAll_8 : decode cX11_lettersInAll 8 = .ok (.iconst 0, 1) := by decide +kernel
theorem dX11_lettersInAll_9 : decode cX11_lettersInAll 9 = .ok (.istore_n 2, 1) := by decide +kernel
theorem dX11_lettersInAll_10 : decode cX11_lettersInAll 10 = .ok (.iload_n 2, 1) := by decide +kernel
theorem dX11_lettersInAll_11 : decode cX11_lettersInAll 11 = .ok (.iconst 3, 1) := by decide +kernel
theorem dX11_lettersInAll_12 : decode cX11_lettersInAll 12 = .ok (.if_icmp .ge 26, 3) := by decide +kernel
theorem dX11_lettersInAll_15 : decode cX11_lettersInAll 15 = .ok (.iload_n 1, 1) := by decide +kernel
theorem dX11_lettersInAll_16 : decode cX11_lettersInAll 16 = .ok (.aload_n 0, 1) := by decide +kernel
theorem dX11_lettersInAll_17 : decode cX11_lettersInAll 17 = .ok (.getfield 32, 3) := by decide +kernel
theorem dX11_lettersInAll_20 : decode cX11_lettersInAll 20 = .ok (.iload_n 2, 1) := by decide +kernel
theorem dX11_lettersInAll_21 : decode cX11_lettersInAll 21 = .ok (.aaload, 1) := by decide +kernel
theorem dX11_lettersInAll_22 : decode cX11_lettersInAll 22 = .ok (.getfield 83, 3) := by decide +kernel
theorem dX11_lettersInAll_25 : decode cX11_lettersInAll 25 = .ok (.invokeinterface 87 1, 5) := by decide +kernel
theorem dX11_lettersInAll_30 : decode cX11_lettersInAll 30 = .ok (.iadd, 1) := by decide +kernel
theorem dX11_lettersInAll_31 : decode cX11_lettersInAll 31 = .ok (.istore_n 1, 1) := by decide +kernel
theorem dX11_lettersInAll_32 : decode cX11_lettersInAll 32 = .ok (.iinc 2 1, 3) := by decide +kernel
theorem dX11_lettersInAll_35 : decode cX11_lettersInAll 35 = .ok (.goto (-25), 3) := by decide +kernel
theorem dX11_lettersInAll_38 : decode cX11_lettersInAll 38 = .ok (.iload_n 1, 1) := by decide +kernel
theorem dX11_lettersInAll_39 : decode cX11_lettersInAll 39 = .ok (.ireturn, 1) := by decide +kernel
def f_X11_lettersInAll_10 : Nat → Nat → Int32 → Int32 → AH → Option (Int32 × AH)
  | 0, _, _, _, _ => none
  | n + 1, a0, x1, x2, h => (if 3 ≤ x2 then
      some (x1, h)
    else
      rdR h a0 12 3 fun r_1 =>
      nn r_1 fun a_2 =>
      arC h a_2 x2 fun r_3 =>
      nn r_3 fun a_4 =>
      rdR h a_4 2 1 fun r_5 =>
      nn r_5 fun a_6 =>
      kg h a_6 0 (bd (f_Jx4a65c_size_8abf5 a_6 h) fun x_9 h_8 =>
      lt (x1 + x_9) fun x_10 =>
      f_X11_lettersInAll_10 n a0 x_10 (x2 + 1) h_8))
set_option maxRecDepth 20000 in
set_option maxHeartbeats 4000000 in
theorem t_X11_lettersInAll_10 {Ω : Om} : ∀ (n : Nat) (a0 : Nat) (x1 : Int32) (x2 : Int32) (h : AH) (q : Int32 × AH), f_X11_lettersInAll_10 n a0 x1 x2 h = some q → Go Ω M_X11_lettersInAll 10 [(0, vR Ω (some a0)), (1, .int x1), (2, .int x2)] [] h (some (.int q.1)) q.2 := by
  intro n
  induction n with
  | zero => intro a0 x1 x2 h q hf; cases hf
  | succ n ih =>
    intro a0 x1 x2 h q hf
    rw [f_X11_lettersInAll_10] at hf
    refine go_iload_n dX11_lettersInAll_10 rfl 2 rfl ?_
    refine go_iconst 3 dX11_lettersInAll_11 rfl ?_
    refine go_icmp_ge (tgt := 38) dX11_lettersInAll_12 (by decide) hf (fun hf => ?_) (fun hf => ?_)
    · refine go_iload_n dX11_lettersInAll_38 rfl 1 rfl ?_
      exact go_ireturn dX11_lettersInAll_39 rfl hf
    · refine go_iload_n dX11_lettersInAll_15 rfl 1 rfl ?_
      refine go_aload_n dX11_lettersInAll_16 rfl 0 rfl ?_
      refine go_getR dX11_lettersInAll_17 fl_391_0 (fun _ _ => rfl) hf (fun r_1 hf => ?_)
      refine go_iload_n dX11_lettersInAll_20 rfl 2 rfl ?_
      obtain ⟨a_2, rfl, hga_2⟩ := nn_some hf
      have hf := hga_2
      refine go_caload dX11_lettersInAll_21 hf (fun r_3 hf => ?_)
      obtain ⟨a_4, rfl, hga_4⟩ := nn_some hf
      have hf := hga_4
      refine go_getR dX11_lettersInAll_22 fl_352_0 (fun _ _ => rfl) hf (fun r_5 hf => ?_)
      obtain ⟨a_6, rfl, hga_6⟩ := nn_some hf
      have hf := hga_6
      obtain ⟨hk, hf⟩ := kg_some hf
      obtain ⟨z_7, hc, hf⟩ := bd_some hf
      refine go_callF (y2 := M_Jx4a65c_size_8abf5) (x2 := ⟨"java/util/List", "size", "()I"⟩) dX11_lettersInAll_25 mo_Jx4a65c_size_8abf5 ⟨Nat.le_of_ble_eq_true rfl, Nat.le_of_ble_eq_true rfl⟩ na_Jx4a65c_size_8abf5 w517 w522 w520 (by decide) (fun U hU => hU.2.2.2.2.1) hk [] rfl (n_Jx4a65c_size_8abf5 (a_6)) rfl (csum (Nat.le_of_ble_eq_true rfl)) (t_Jx4a65c_size_8abf5 (a_6) h _ hc) ?_
      obtain ⟨x_9, h_8⟩ := z_7
      refine go_iadd dX11_lettersInAll_30 ?_
      refine lt_I hf (fun x_10 hf => ?_)
      refine go_istore_n (i := 1) (lv' := [(1, .int x_10), (0, vR Ω (some a0)), (2, .int x2)]) dX11_lettersInAll_31 rfl (by decide) (by first | rfl | simp [catR, catI, catJ]) ?_
      refine go_iinc (j := 2) (v := x2 + 1) (lv' := [(2, .int (x2 + 1)), (1, .int x_10), (0, vR Ω (some a0))]) dX11_lettersInAll_32 rfl rfl (by decide) (by first | rfl | simp [catR, catI, catJ]) ?_
      refine go_goto (tgt := 10) dX11_lettersInAll_35 (by decide) ?_
      refine go_sub (lv' := [(0, vR Ω (some a0)), (1, .int x_10), (2, .int (x2 + 1))]) [2, 1, 0] rfl ?_
      exact ih a0 x_10 (x2 + 1) h_8 q hf
def f_X11_lettersInAll (a0 : Nat) (h : AH) : Option (Int32 × AH) := rdR h a0 12 2 fun r_1 =>
  nn r_1 fun a_2 =>
  kg h a_2 9 (bd (f_X8_lettersThatWait a_2 h) fun x_5 h_4 =>
  f_X11_lettersInAll_10 FU a0 x_5 0 h_4)
set_option maxRecDepth 20000 in
set_option maxHeartbeats 4000000 in
theorem t_X11_lettersInAll {Ω : Om} (a0 : Nat) (h : AH) (q : Int32 × AH) (hf : f_X11_lettersInAll a0 h = some q) : Go Ω M_X11_lettersInAll 0 (lv_args 0 [vR Ω (some a0)]) [] h (some (.int q.1)) q.2 := by
  unfold f_X11_lettersInAll at hf
  rw [la_R, la_0]
  refine go_sub (lv' := [(0, vR Ω (some a0))]) [0] rfl ?_
  refine go_aload_n dX11_lettersInAll_0 rfl 0 rfl ?_
  refine go_getR dX11_lettersInAll_1 fl_390_0 (fun _ _ => rfl) hf (fun r_1 hf => ?_)
  obtain ⟨a_2, rfl, hga_2⟩ := nn_some hf
  have hf := hga_2
  obtain ⟨hk, hf⟩ := kg_some hf
  obtain ⟨z_3, hc, hf⟩ := bd_some hf
  refine go_callV (y2 := M_X8_lettersThatWait) (c2 := 9) dX11_lettersInAll_4 mo_X8_lettersThatWait ⟨Nat.le_of_ble_eq_true rfl, Nat.le_of_ble_eq_true rfl⟩ na_X8_lettersThatWait w578 w579 (by decide) rfl w580 hk [] rfl (n_X8_lettersThatWait (a_2)) rfl (csum (Nat.le_of_ble_eq_true rfl)) (t_X8_lettersThatWait (a_2) h _ hc) ?_
  obtain ⟨x_5, h_4⟩ := z_3
  refine go_istore_n (i := 1) (lv' := [(1, .int x_5), (0, vR Ω (some a0))]) dX11_lettersInAll_7 rfl (by decide) (by first | rfl | simp [catR, catI, catJ]) ?_
  refine go_iconst 0 dX11_lettersInAll_8 rfl ?_
  refine go_istore_n (i := 2) (lv' := [(2, .int 0), (1, .int x_5), (0, vR Ω (some a0))]) dX11_lettersInAll_9 rfl (by decide) (by first | rfl | simp [catR, catI, catJ]) ?_
  refine go_sub (lv' := [(0, vR Ω (some a0)), (1, .int x_5), (2, .int 0)]) [2, 1, 0] rfl ?_
  exact t_X11_lettersInAll_10 FU a0 x_5 0 h_4 q hf
-- LetterBroker.sendReturned(LLetterBroker$Channel;LLetterBroker$Draft;)V
theorem dX11_sendReturned_0 : decode cX11_sendReturned 0 = .ok (.aload_n 0, 1) := by decide +kernel
theorem dX11_sendReturned_1 : decode cX11_sendReturned 1 = .ok (.getfield 19, 3) := by decide +kernel
theorem dX11_sendReturned_4 : decode cX11_sendReturned 4 = .ok (.aload_n 1, 1) := by decide +kernel
theorem dX11_sendReturned_5 : decode cX11_sendReturned 5 = .ok (.getfield 145, 3) := by decide +kernel
theorem dX11_sendReturned_8 : decode cX11_sendReturned 8 = .ok (.sipush 15410, 3) := by decide +kernel
theorem dX11_sendReturned_11 : decode cX11_sendReturned 11 = .ok (.invokevirtual 272, 3) := by decide +kernel
theorem dX11_sendReturned_14 : decode cX11_sendReturned 14 = .ok (.aload_n 0, 1) := by decide +kernel
theorem dX11_sendReturned_15 : decode cX11_sendReturned 15 = .ok (.getfield 19, 3) := by decide +kernel
theorem dX11_sendReturned_18 : decode cX11_sendReturned 18 = .ok (.sipush 312, 3) := by decide +kernel
theorem dX11_sendReturned_21 : decode cX11_sendReturned 21 = .ok (.invokevirtual 414, 3) := by decide +kernel
theorem dX11_sendReturned_24 : decode cX11_sendReturned 24 = .ok (.aload_n 0, 1) := by decide +kernel
theorem dX11_sendReturned_25 : decode cX11_sendReturned 25 = .ok (.getfield 19, 3) := by decide +kernel
theorem dX11_sendReturned_28 : decode cX11_sendReturned 28 = .ok (.aload_n 2, 1) := by decide +kernel
theorem dX11_sendReturned_29 : decode cX11_sendReturned 29 = .ok (.getfield 417, 3) := by decide +kernel
theorem dX11_sendReturned_32 : decode cX11_sendReturned 32 = .ok (.invokevirtual 322, 3) := by decide +kernel
theorem dX11_sendReturned_35 : decode cX11_sendReturned 35 = .ok (.aload_n 0, 1) := by decide +kernel
theorem dX11_sendReturned_36 : decode cX11_sendReturned 36 = .ok (.getfield 19, 3) := by decide +kernel
theorem dX11_sendReturned_39 : decode cX11_sendReturned 39 = .ok (.aload_n 2, 1) := by decide +kernel
theorem dX11_sendReturned_40 : decode cX11_sendReturned 40 = .ok (.getfield 420, 3) := by decide +kernel
theorem dX11_sendReturned_43 : decode cX11_sendReturned 43 = .ok (.invokevirtual 322, 3) := by decide +kernel
theorem dX11_sendReturned_46 : decode cX11_sendReturned 46 = .ok (.aload_n 0, 1) := by decide +kernel
theorem dX11_sendReturned_47 : decode cX11_sendReturned 47 = .ok (.getfield 19, 3) := by decide +kernel
theorem dX11_sendReturned_50 : decode cX11_sendReturned 50 = .ok (.invokevirtual 277, 3) := by decide +kernel
theorem dX11_sendReturned_53 : decode cX11_sendReturned 53 = .ok (.aload_n 0, 1) := by decide +kernel
theorem dX11_sendReturned_54 : decode cX11_sendReturned 54 = .ok (.getfield 19, 3) := by decide +kernel
theorem dX11_sendReturned_57 : decode cX11_sendReturned 57 = .ok (.aload_n 1, 1) := by decide +kernel
theorem dX11_sendReturned_58 : decode cX11_sendReturned 58 = .ok (.getfield 145, 3) := by decide +kernel
theorem dX11_sendReturned_61 : decode cX11_sendReturned 61 = .ok (.aload_n 2, 1) := by decide +kernel
theorem dX11_sendReturned_62 : decode cX11_sendReturned 62 = .ok (.invokevirtual 423, 3) := by decide +kernel
theorem dX11_sendReturned_65 : decode cX11_sendReturned 65 = .ok (.return_, 1) := by decide +kernel
def f_X11_sendReturned (a0 : Nat) (r1 : Option Nat) (r2 : Option Nat) (h : AH) : Option (Unit × AH) := rdR h a0 12 1 fun r_1 =>
  nn r1 fun a_2 =>
  rdI h a_2 2 0 fun x_3 =>
  nn r_1 fun a_4 =>
  kg h a_4 10 (bd (f_X9_begin a_4 x_3 15410 h) fun _ h_6 =>
  rdR h_6 a0 12 1 fun r_7 =>
  nn r_7 fun a_8 =>
  kg h_6 a_8 10 (bd (f_X9_putShort a_8 312 h_6) fun _ h_10 =>
  rdR h_10 a0 12 1 fun r_11 =>
  nn r2 fun a_12 =>
  rdJ h_10 a_12 5 0 fun x_13 =>
  nn r_11 fun a_14 =>
  kg h_10 a_14 10 (bd (f_X9_putName a_14 x_13 h_10) fun _ h_16 =>
  rdR h_16 a0 12 1 fun r_17 =>
  rdJ h_16 a_12 5 1 fun x_18 =>
  nn r_17 fun a_19 =>
  kg h_16 a_19 10 (bd (f_X9_putName a_19 x_18 h_16) fun _ h_21 =>
  rdR h_21 a0 12 1 fun r_22 =>
  nn r_22 fun a_23 =>
  kg h_21 a_23 10 (bd (f_X9_end a_23 h_21) fun _ h_25 =>
  rdR h_25 a0 12 1 fun r_26 =>
  rdI h_25 a_2 2 0 fun x_27 =>
  nn r_26 fun a_28 =>
  kg h_25 a_28 10 (bd (f_X9_putContent a_28 x_27 (some a_12) h_25) fun _ h_30 =>
  some ((), h_30)))))))
set_option maxRecDepth 20000 in
set_option maxHeartbeats 4000000 in
theorem t_X11_sendReturned {Ω : Om} (a0 : Nat) (r1 : Option Nat) (r2 : Option Nat) (h : AH) (q : Unit × AH) (hf : f_X11_sendReturned a0 r1 r2 h = some q) : Go Ω M_X11_sendReturned 0 (lv_args 0 [vR Ω (some a0), vR Ω r1, vR Ω r2]) [] h none q.2 := by
  unfold f_X11_sendReturned at hf
  rw [la_R, la_R, la_R, la_0]
  refine go_sub (lv' := [(0, vR Ω (some a0)), (1, vR Ω r1), (2, vR Ω r2)]) [0, 1, 2] rfl ?_
  refine go_aload_n dX11_sendReturned_0 rfl 0 rfl ?_
  refine go_getR dX11_sendReturned_1 fl_389_0 (fun _ _ => rfl) hf (fun r_1 hf => ?_)
  refine go_aload_n dX11_sendReturned_4 rfl 1 rfl ?_
  obtain ⟨a_2, rfl, hga_2⟩ := nn_some hf
  have hf := hga_2
  refine go_getI dX11_sendReturned_5 fl_349_0 (fun _ _ => rfl) hf (fun x_3 hf => ?_)
  refine go_sipush 15410 dX11_sendReturned_8 (by decide) ?_
  obtain ⟨a_4, rfl, hga_4⟩ := nn_some hf
  have hf := hga_4
  obtain ⟨hk, hf⟩ := kg_some hf
  obtain ⟨z_5, hc, hf⟩ := bd_some hf
  refine go_callV (y2 := M_X9_begin) (c2 := 10) dX11_sendReturned_11 mo_X9_begin ⟨Nat.le_of_ble_eq_true rfl, Nat.le_of_ble_eq_true rfl⟩ na_X9_begin w586 w435 (by decide) rfl w436 hk [.int x_3, .int 15410] rfl (n_X9_begin (a_4) x_3 15410) rfl (csum (Nat.le_of_ble_eq_true rfl)) (t_X9_begin (a_4) x_3 15410 h _ hc) ?_
  obtain ⟨_, h_6⟩ := z_5
  refine go_aload_n dX11_sendReturned_14 rfl 0 rfl ?_
  refine go_getR dX11_sendReturned_15 fl_389_0 (fun _ _ => rfl) hf (fun r_7 hf => ?_)
  refine go_sipush 312 dX11_sendReturned_18 (by decide) ?_
  obtain ⟨a_8, rfl, hga_8⟩ := nn_some hf
  have hf := hga_8
  obtain ⟨hk, hf⟩ := kg_some hf
  obtain ⟨z_9, hc, hf⟩ := bd_some hf
  refine go_callV (y2 := M_X9_putShort) (c2 := 10) dX11_sendReturned_21 mo_X9_putShort ⟨Nat.le_of_ble_eq_true rfl, Nat.le_of_ble_eq_true rfl⟩ na_X9_putShort w587 w588 (by decide) rfl w589 hk [.int 312] rfl (n_X9_putShort (a_8) 312) rfl (csum (Nat.le_of_ble_eq_true rfl)) (t_X9_putShort (a_8) 312 h_6 _ hc) ?_
  obtain ⟨_, h_10⟩ := z_9
  refine go_aload_n dX11_sendReturned_24 rfl 0 rfl ?_
  refine go_getR dX11_sendReturned_25 fl_389_0 (fun _ _ => rfl) hf (fun r_11 hf => ?_)
  refine go_aload_n dX11_sendReturned_28 rfl 2 rfl ?_
  obtain ⟨a_12, rfl, hga_12⟩ := nn_some hf
  have hf := hga_12
  refine go_getJ dX11_sendReturned_29 fl_942_0 (fun _ _ => rfl) hf (fun x_13 hf => ?_)
  obtain ⟨a_14, rfl, hga_14⟩ := nn_some hf
  have hf := hga_14
  obtain ⟨hk, hf⟩ := kg_some hf
  obtain ⟨z_15, hc, hf⟩ := bd_some hf
  refine go_callV (y2 := M_X9_putName) (c2 := 10) dX11_sendReturned_32 mo_X9_putName ⟨Nat.le_of_ble_eq_true rfl, Nat.le_of_ble_eq_true rfl⟩ na_X9_putName w591 w592 (by decide) rfl w593 hk [.long x_13] rfl (n_X9_putName (a_14) x_13) rfl (csum (Nat.le_of_ble_eq_true rfl)) (t_X9_putName (a_14) x_13 h_10 _ hc) ?_
  obtain ⟨_, h_16⟩ := z_15
  refine go_aload_n dX11_sendReturned_35 rfl 0 rfl ?_
  refine go_getR dX11_sendReturned_36 fl_389_0 (fun _ _ => rfl) hf (fun r_17 hf => ?_)
  refine go_aload_n dX11_sendReturned_39 rfl 2 rfl ?_
  refine go_getJ dX11_sendReturned_40 fl_947_0 (fun _ _ => rfl) hf (fun x_18 hf => ?_)
  obtain ⟨a_19, rfl, hga_19⟩ := nn_some hf
  have hf := hga_19
  obtain ⟨hk, hf⟩ := kg_some hf
  obtain ⟨z_20, hc, hf⟩ := bd_some hf
  refine go_callV (y2 := M_X9_putName) (c2 := 10) dX11_sendReturned_43 mo_X9_putName ⟨Nat.le_of_ble_eq_true rfl, Nat.le_of_ble_eq_true rfl⟩ na_X9_putName w591 w592 (by decide) rfl w593 hk [.long x_18] rfl (n_X9_putName (a_19) x_18) rfl (csum (Nat.le_of_ble_eq_true rfl)) (t_X9_putName (a_19) x_18 h_16 _ hc) ?_
  obtain ⟨_, h_21⟩ := z_20
  refine go_aload_n dX11_sendReturned_46 rfl 0 rfl ?_
  refine go_getR dX11_sendReturned_47 fl_389_0 (fun _ _ => rfl) hf (fun r_22 hf => ?_)
  obtain ⟨a_23, rfl, hga_23⟩ := nn_some hf
  have hf := hga_23
  obtain ⟨hk, hf⟩ := kg_some hf
  obtain ⟨z_24, hc, hf⟩ := bd_some hf
  refine go_callV (y2 := M_X9_end) (c2 := 10) dX11_sendReturned_50 mo_X9_end ⟨Nat.le_of_ble_eq_true rfl, Nat.le_of_ble_eq_true rfl⟩ na_X9_end w595 w443 (by decide) rfl w444 hk [] rfl (n_X9_end (a_23)) rfl (csum (Nat.le_of_ble_eq_true rfl)) (t_X9_end (a_23) h_21 _ hc) ?_
  obtain ⟨_, h_25⟩ := z_24
  refine go_aload_n dX11_sendReturned_53 rfl 0 rfl ?_
  refine go_getR dX11_sendReturned_54 fl_389_0 (fun _ _ => rfl) hf (fun r_26 hf => ?_)
  refine go_aload_n dX11_sendReturned_57 rfl 1 rfl ?_
  refine go_getI dX11_sendReturned_58 fl_349_0 (fun _ _ => rfl) hf (fun x_27 hf => ?_)
  refine go_aload_n dX11_sendReturned_61 rfl 2 rfl ?_
  obtain ⟨a_28, rfl, hga_28⟩ := nn_some hf
  have hf := hga_28
  obtain ⟨hk, hf⟩ := kg_some hf
  obtain ⟨z_29, hc, hf⟩ := bd_some hf
  refine go_callV (y2 := M_X9_putContent) (c2 := 10) dX11_sendReturned_62 mo_X9_putContent ⟨Nat.le_of_ble_eq_true rfl, Nat.le_of_ble_eq_true rfl⟩ na_X9_putContent w596 w597 (by decide) rfl w598 hk [.int x_27, vR Ω (some a_12)] rfl (n_X9_putContent (a_28) x_27 (some a_12)) rfl (csum (Nat.le_of_ble_eq_true rfl)) (t_X9_putContent (a_28) x_27 (some a_12) h_25 _ hc) ?_
  obtain ⟨_, h_30⟩ := z_29
  exact go_return dX11_sendReturned_65 rfl hf

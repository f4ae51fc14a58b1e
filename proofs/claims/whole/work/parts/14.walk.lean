/-! printed by wip/whole/gen: functions and their walks -/
-- LetterBroker$Office.consumersOf(LLetterBroker$Queue;)I
theorem dX8_consumersOf_0 : decode cX8_consumersOf 0 = .ok (.iconst 0, 1) := by decide +kernel
theorem dX8_consumersOf_1 : decode cX8_consumersOf 1 = .ok (.istore_n 2, 1) := by decide +kernel
theorem dX8_consumersOf_2 : decode cX8_consumersOf 2 = .ok (.iconst 0, 1) := by decide +kernel
theorem dX8_consumersOf_3 : decode cX8_consumersOf 3 = .ok (.istore_n 3, 1) := by decide +kernel
theorem dX8_consumersOf_4 : decode cX8_consumersOf 4 = .ok (.iload_n 3, 1) := by decide +kernel
theorem dX8_consumersOf_5 : decode cX8_consumersOf 5 = .ok (.aload_n 0, 1) := by decide +kernel
theorem dX8_consumersOf_6 : decode cX8_consumersOf 6 = .ok (.getfield 24, 3) := by decide +kernel
theorem dX8_consumersOf_9 : decode cX8_consumersOf 9 = .ok (.invokeinterface 38 1, 5) := by decide +kernel
theorem dX8_consumersOf_14 : decode cX8_consumersOf 14 = .ok (.if_icmp .ge 37, 3) := by decide +kernel
theorem dX8_consumersOf_17 : decode cX8_consumersOf 17 = .ok (.iload_n 2, 1) := by decide +kernel
theorem dX8_consumersOf_18 : decode cX8_consumersOf 18 = .ok (.aload_n 0, 1) := by decide +kernel
theorem dX8_consumersOf_19 : decode cX8_consumersOf 19 = .ok (.getfield 24, 3) := by decide +kernel
theorem dX8_consumersOf_22 : decode cX8_consumersOf 22 = .ok (.iload_n 3, 1) := by decide +kernel
theorem dX8_consumersOf_23 : decode cX8_consumersOf 23 = .ok (.invokeinterface 42 2, 5) := by decide +kernel
theorem dX8_consumersOf_28 : decode cX8_consumersOf 28 = .ok (.checkcast 66, 3) := by decide +kernel
theorem dX8_consumersOf_31 : decode cX8_consumersOf 31 = .ok (.getfield 75, 3) := by decide +kernel
theorem dX8_consumersOf_34 : decode cX8_consumersOf 34 = .ok (.aload_n 1, 1) := by decide +kernel
theorem dX8_consumersOf_35 : decode cX8_consumersOf 35 = .ok (.if_acmp .ne 7, 3) := by decide +kernel
theorem dX8_consumersOf_38 : decode cX8_consumersOf 38 = .ok (.iconst 1, 1) := by decide +kernel
theorem dX8_consumersOf_39 : decode cX8_consumersOf 39 = .ok (.goto 4, 3) := by decide +kernel
theorem dX8_consumersOf_42 : decode cX8_consumersOf 42 = .ok (.iconst 0, 1) := by decide +kernel
theorem dX8_consumersOf_43 : decode cX8_consumersOf 43 = .ok (.iadd, 1) := by decide +kernel
theorem dX8_consumersOf_44 : decode cX8_consumersOf 44 = .ok (.istore_n 2, 1) := by decide +kernel
theorem dX8_consumersOf_45 : decode cX8_consumersOf 45 = .ok (.iinc 3 1, 3) := by decide +kernel
theorem dX8_consumersOf_48 : decode cX8_consumersOf 48 = .ok (.goto (-44), 3) := by decide +kernel
theorem dX8_consumersOf_51 : decode cX8_consumersOf 51 = .ok (.iload_n 2, 1) := by decide +kernel
theorem dX8_consumersOf_52 : decode cX8_consumersOf 52 = .ok (.ireturn, 1) := by decide +kernel
def f_X8_consumersOf_43 (k4 : Nat → Option Nat → Int32 → Int32 → AH → Option (Int32 × AH)) (a0 : Nat) (r1 : Option Nat) (x3 : Int32) (s0 : Int32) (s1 : Int32) (h : AH) : Option (Int32 × AH) := lt (s1 + s0) fun x_1 =>
  k4 a0 r1 x_1 (x3 + 1) h
set_option maxRecDepth 20000 in
set_option maxHeartbeats 4000000 in
theorem t_X8_consumersOf_43 {Ω : Om} {k4 : Nat → Option Nat → Int32 → Int32 → AH → Option (Int32 × AH)} (c4 : ∀ (a0 : Nat) (r1 : Option Nat) (x2 : Int32) (x3 : Int32) (h : AH) (q : Int32 × AH), k4 a0 r1 x2 x3 h = some q → Go Ω M_X8_consumersOf 4 [(0, vR Ω (some a0)), (1, vR Ω r1), (2, .int x2), (3, .int x3)] [] h (some (.int q.1)) q.2) (a0 : Nat) (r1 : Option Nat) (x3 : Int32) (s0 : Int32) (s1 : Int32) (h : AH) (q : Int32 × AH) (hf : f_X8_consumersOf_43 k4 a0 r1 x3 s0 s1 h = some q) : Go Ω M_X8_consumersOf 43 [(0, vR Ω (some a0)), (1, vR Ω r1), (3, .int x3)] [.int s0, .int s1] h (some (.int q.1)) q.2 := by
  unfold f_X8_consumersOf_43 at hf
  refine go_iadd dX8_consumersOf_43 ?_
  refine lt_I hf (fun x_1 hf => ?_)
  refine go_istore_n (i := 2) (lv' := [(2, .int x_1), (0, vR Ω (some a0)), (1, vR Ω r1), (3, .int x3)]) dX8_consumersOf_44 rfl (by decide) (by first | rfl | simp [catR, catI, catJ]) ?_
  refine go_iinc (j := 3) (v := x3 + 1) (lv' := [(3, .int (x3 + 1)), (2, .int x_1), (0, vR Ω (some a0)), (1, vR Ω r1)]) dX8_consumersOf_45 rfl rfl (by decide) (by first | rfl | simp [catR, catI, catJ]) ?_
  refine go_goto (tgt := 4) dX8_consumersOf_48 (by decide) ?_
  refine go_sub (lv' := [(0, vR Ω (some a0)), (1, vR Ω r1), (2, .int x_1), (3, .int (x3 + 1))]) [2, 3, 1, 0] rfl ?_
  exact c4 a0 r1 x_1 (x3 + 1) h q hf
def f_X8_consumersOf_4 : Nat → Nat → Option Nat → Int32 → Int32 → AH → Option (Int32 × AH)
  | 0, _, _, _, _, _ => none
  | n + 1, a0, r1, x2, x3, h => rdR h a0 9 3 fun r_1 =>
    nn r_1 fun a_2 =>
    kg h a_2 0 (bd (f_Jx4a65c_size_8abf5 a_2 h) fun x_5 h_4 =>
    (if x_5 ≤ x3 then
      some (x2, h_4)
    else
      rdR h_4 a0 9 3 fun r_6 =>
      nn r_6 fun a_7 =>
      kg h_4 a_7 0 (bd (f_Jx4a65c_get_915e3 a_7 x3 h_4) fun r_10 h_9 =>
      ckc h_9 r_10 3 (
      nn r_10 fun a_11 =>
      rdR h_9 a_11 3 0 fun r_12 =>
      aq r_12 r1
        (f_X8_consumersOf_43 (fun a0 r1 x2 x3 h => f_X8_consumersOf_4 n a0 r1 x2 x3 h) a0 r1 x3 1 x2 h_9)
        (f_X8_consumersOf_43 (fun a0 r1 x2 x3 h => f_X8_consumersOf_4 n a0 r1 x2 x3 h) a0 r1 x3 0 x2 h_9)))))
set_option maxRecDepth 20000 in
set_option maxHeartbeats 4000000 in
theorem t_X8_consumersOf_4 {Ω : Om} : ∀ (n : Nat) (a0 : Nat) (r1 : Option Nat) (x2 : Int32) (x3 : Int32) (h : AH) (q : Int32 × AH), f_X8_consumersOf_4 n a0 r1 x2 x3 h = some q → Go Ω M_X8_consumersOf 4 [(0, vR Ω (some a0)), (1, vR Ω r1), (2, .int x2), (3, .int x3)] [] h (some (.int q.1)) q.2 := by
  intro n
  induction n with
  | zero => intro a0 r1 x2 x3 h q hf; cases hf
  | succ n ih =>
    intro a0 r1 x2 x3 h q hf
    rw [f_X8_consumersOf_4] at hf
    refine go_iload_n dX8_consumersOf_4 rfl 3 rfl ?_
    refine go_aload_n dX8_consumersOf_5 rfl 0 rfl ?_
    refine go_getR dX8_consumersOf_6 fl_322_0 (fun _ _ => rfl) hf (fun r_1 hf => ?_)
    obtain ⟨a_2, rfl, hga_2⟩ := nn_some hf
    have hf := hga_2
    obtain ⟨hk, hf⟩ := kg_some hf
    obtain ⟨z_3, hc, hf⟩ := bd_some hf
    refine go_callF (y2 := M_Jx4a65c_size_8abf5) (x2 := ⟨"java/util/List", "size", "()I"⟩) dX8_consumersOf_9 mo_Jx4a65c_size_8abf5 ⟨Nat.le_of_ble_eq_true rfl, Nat.le_of_ble_eq_true rfl⟩ na_Jx4a65c_size_8abf5 w536 w522 w520 (by decide) (fun U hU => hU.2.2.2.2.1) hk [] rfl (n_Jx4a65c_size_8abf5 (a_2)) rfl (csum (Nat.le_of_ble_eq_true rfl)) (t_Jx4a65c_size_8abf5 (a_2) h _ hc) ?_
    obtain ⟨x_5, h_4⟩ := z_3
    refine go_icmp_ge (tgt := 51) dX8_consumersOf_14 (by decide) hf (fun hf => ?_) (fun hf => ?_)
    · refine go_iload_n dX8_consumersOf_51 rfl 2 rfl ?_
      exact go_ireturn dX8_consumersOf_52 rfl hf
    · refine go_iload_n dX8_consumersOf_17 rfl 2 rfl ?_
      refine go_aload_n dX8_consumersOf_18 rfl 0 rfl ?_
      refine go_getR dX8_consumersOf_19 fl_322_0 (fun _ _ => rfl) hf (fun r_6 hf => ?_)
      refine go_iload_n dX8_consumersOf_22 rfl 3 rfl ?_
      obtain ⟨a_7, rfl, hga_7⟩ := nn_some hf
      have hf := hga_7
      obtain ⟨hk, hf⟩ := kg_some hf
      obtain ⟨z_8, hc, hf⟩ := bd_some hf
      refine go_callF (y2 := M_Jx4a65c_get_915e3) (x2 := ⟨"java/util/List", "get", "(I)Ljava/lang/Object;"⟩) dX8_consumersOf_23 mo_Jx4a65c_get_915e3 ⟨Nat.le_of_ble_eq_true rfl, Nat.le_of_ble_eq_true rfl⟩ na_Jx4a65c_get_915e3 w538 w543 w541 (by decide) (fun U hU => hU.2.2.1) hk [.int x3] rfl (n_Jx4a65c_get_915e3 (a_7) x3) rfl (csum (Nat.le_of_ble_eq_true rfl)) (t_Jx4a65c_get_915e3 (a_7) x3 h_4 _ hc) ?_
      obtain ⟨r_10, h_9⟩ := z_8
      refine go_cast (c := 3) dX8_consumersOf_28 (by decide) rfl w674 hf (fun hf => ?_)
      obtain ⟨a_11, rfl, hga_11⟩ := nn_some hf
      have hf := hga_11
      refine go_getR dX8_consumersOf_31 fl_901_0 (fun _ _ => rfl) hf (fun r_12 hf => ?_)
      refine go_aload_n dX8_consumersOf_34 rfl 1 rfl ?_
      refine go_acmp_ne (tgt := 42) dX8_consumersOf_35 (by decide) hf (fun hf => ?_) (fun hf => ?_)
      · refine go_iconst 0 dX8_consumersOf_42 rfl ?_
        refine go_sub (lv' := [(0, vR Ω (some a0)), (1, vR Ω r1), (3, .int x3)]) [0, 1, 3] rfl ?_
        exact t_X8_consumersOf_43 ih a0 r1 x3 0 x2 h_9 q hf
      · refine go_iconst 1 dX8_consumersOf_38 rfl ?_
        refine go_goto (tgt := 43) dX8_consumersOf_39 (by decide) ?_
        refine go_sub (lv' := [(0, vR Ω (some a0)), (1, vR Ω r1), (3, .int x3)]) [0, 1, 3] rfl ?_
        exact t_X8_consumersOf_43 ih a0 r1 x3 1 x2 h_9 q hf
def f_X8_consumersOf (a0 : Nat) (r1 : Option Nat) (h : AH) : Option (Int32 × AH) := f_X8_consumersOf_4 FU a0 r1 0 0 h
set_option maxRecDepth 20000 in
set_option maxHeartbeats 4000000 in
theorem t_X8_consumersOf {Ω : Om} (a0 : Nat) (r1 : Option Nat) (h : AH) (q : Int32 × AH) (hf : f_X8_consumersOf a0 r1 h = some q) : Go Ω M_X8_consumersOf 0 (lv_args 0 [vR Ω (some a0), vR Ω r1]) [] h (some (.int q.1)) q.2 := by
  unfold f_X8_consumersOf at hf
  rw [la_R, la_R, la_0]
  refine go_sub (lv' := [(0, vR Ω (some a0)), (1, vR Ω r1)]) [0, 1] rfl ?_
  refine go_iconst 0 dX8_consumersOf_0 rfl ?_
  refine go_istore_n (i := 2) (lv' := [(2, .int 0), (0, vR Ω (some a0)), (1, vR Ω r1)]) dX8_consumersOf_1 rfl (by decide) (by first | rfl | simp [catR, catI, catJ]) ?_
  refine go_iconst 0 dX8_consumersOf_2 rfl ?_
  refine go_istore_n (i := 3) (lv' := [(3, .int 0), (2, .int 0), (0, vR Ω (some a0)), (1, vR Ω r1)]) dX8_consumersOf_3 rfl (by decide) (by first | rfl | simp [catR, catI, catJ]) ?_
  refine go_sub (lv' := [(0, vR Ω (some a0)), (1, vR Ω r1), (2, .int 0), (3, .int 0)]) [2, 3, 1, 0] rfl ?_
  exact t_X8_consumersOf_4 FU a0 r1 0 0 h q hf
-- LetterBroker.queue(II)I
theorem dX11_queue_0 : decode cX11_queue 0 = .ok (.iload_n 1, 1) := by decide +kernel
theorem dX11_queue_1 : decode cX11_queue 1 = .ok (.ifCond .lt 19, 3) := by decide +kernel
theorem dX11_queue_4 : decode cX11_queue 4 = .ok (.iload_n 1, 1) := by decide +kernel
theorem dX11_queue_5 : decode cX11_queue 5 = .ok (.aload_n 0, 1) := by decide +kernel
theorem dX11_queue_6 : decode cX11_queue 6 = .ok (.getfield 26, 3) := by decide +kernel
theorem dX11_queue_9 : decode cX11_queue 9 = .ok (.getfield 97, 3) := by decide +kernel
theorem dX11_queue_12 : decode cX11_queue 12 = .ok (.invokeinterface 87 1, 5) := by decide +kernel
theorem dX11_queue_17 : decode cX11_queue 17 = .ok (.if_icmp .lt 5, 3) := by decide +kernel
theorem dX11_queue_20 : decode cX11_queue 20 = .ok (.iconst (-1), 1) := by decide +kernel
theorem dX11_queue_21 : decode cX11_queue 21 = .ok (.ireturn, 1) := by decide +kernel
theorem dX11_queue_22 : decode cX11_queue 22 = .ok (.aload_n 0, 1) := by decide +kernel
theorem dX11_queue_23 : decode cX11_queue 23 = .ok (.getfield 26, 3) := by decide +kernel
theorem dX11_queue_26 : decode cX11_queue 26 = .ok (.getfield 97, 3) := by decide +kernel
theorem dX11_queue_29 : decode cX11_queue 29 = .ok (.iload_n 1, 1) := by decide +kernel
theorem dX11_queue_30 : decode cX11_queue 30 = .ok (.invokeinterface 100 2, 5) := by decide +kernel
theorem dX11_queue_35 : decode cX11_queue 35 = .ok (.checkcast 104, 3) := by decide +kernel
theorem dX11_queue_38 : decode cX11_queue 38 = .ok (.astore_n 3, 1) := by decide +kernel
theorem dX11_queue_39 : decode cX11_queue 39 = .ok (.iload_n 2, 1) := by decide +kernel
theorem dX11_queue_40 : decode cX11_queue 40 = .ok (.tableswitch 93 0 3 #[32, 42, 51, 60], 32) := by decide +kernel
theorem dX11_queue_72 : decode cX11_queue 72 = .ok (.aload_n 3, 1) := by decide +kernel
theorem dX11_queue_73 : decode cX11_queue 73 = .ok (.getfield 106, 3) := by decide +kernel
theorem dX11_queue_76 : decode cX11_queue 76 = .ok (.invokeinterface 87 1, 5) := by decide +kernel
theorem dX11_queue_81 : decode cX11_queue 81 = .ok (.ireturn, 1) := by decide +kernel
theorem dX11_queue_82 : decode cX11_queue 82 = .ok (.aload_n 0, 1) := by decide +kernel
theorem dX11_queue_83 : decode cX11_queue 83 = .ok (.getfield 26, 3) := by decide +kernel
theorem dX11_queue_86 : decode cX11_queue 86 = .ok (.aload_n 3, 1) := by decide +kernel
theorem dX11_queue_87 : decode cX11_queue 87 = .ok (.invokevirtual 109, 3) := by decide +kernel
theorem dX11_queue_90 : decode cX11_queue 90 = .ok (.ireturn, 1) := by decide +kernel
theorem dX11_queue_91 : decode cX11_queue 91 = .ok (.aload_n 0, 1) := by decide +kernel
theorem dX11_queue_92 : decode cX11_queue 92 = .ok (.getfield 26, 3) := by decide +kernel
theorem dX11_queue_95 : decode cX11_queue 95 = .ok (.aload_n 3, 1) := by decide +kernel
theorem dX11_queue_96 : decode cX11_queue 96 = .ok (.invokevirtual 113, 3) := by decide +kernel
theorem dX11_queue_99 : decode cX11_queue 99 = .ok (.ireturn, 1) := by decide +kernel
theorem dX11_queue_100 : decode cX11_queue 100 = .ok (.aload_n 3, 1) := by decide +kernel
theorem dX11_queue_101 : decode cX11_queue 101 = .ok (.getfield 106, 3) := by decide +kernel
theorem dX11_queue_104 : decode cX11_queue 104 = .ok (.invokeinterface 116 1, 5) := by decide +kernel
theorem dX11_queue_109 : decode cX11_queue 109 = .ok (.ifCond .eq 7, 3) := by decide +kernel
theorem dX11_queue_112 : decode cX11_queue 112 = .ok (.iconst 0, 1) := by decide +kernel
theorem dX11_queue_113 : decode cX11_queue 113 = .ok (.goto 19, 3) := by decide +kernel
theorem dX11_queue_116 : decode cX11_queue 116 = .ok (.aload_n 3, 1) := by decide +kernel
theorem dX11_queue_117 : decode cX11_queue 117 = .ok (.getfield 106, 3) := by decide +kernel
theorem dX11_queue_120 : decode cX11_queue 120 = .ok (.iconst 0, 1) := by decide +kernel
theorem dX11_queue_121 : decode cX11_queue 121 = .ok (.invokeinterface 100 2, 5) := by decide +kernel
theorem dX11_queue_126 : decode cX11_queue 126 = .ok (.checkcast 120, 3) := by decide +kernel
theorem dX11_queue_129 : decode cX11_queue 129 = .ok (.getfield 122, 3) := by decide +kernel
theorem dX11_queue_132 : decode cX11_queue 132 = .ok (.ireturn, 1) := by decide +kernel
theorem dX11_queue_133 : decode cX11_queue 133 = .ok (.iconst (-1), 1) := by decide +kernel
theorem dX11_queue_134 : decode cX11_queue 134 = .ok (.ireturn, 1) := by decide +kernel
def f_X11_queue (a0 : Nat) (x1 : Int32) (x2 : Int32) (h : AH) : Option (Int32 × AH) := (if x1 < 0 then
    some (((-1)), h)
  else
    rdR h a0 12 2 fun r_1 =>
    nn r_1 fun a_2 =>
    rdR h a_2 9 1 fun r_3 =>
    nn r_3 fun a_4 =>
    kg h a_4 0 (bd (f_Jx4a65c_size_8abf5 a_4 h) fun x_7 h_6 =>
    (if x1 < x_7 then
      rdR h_6 a0 12 2 fun r_8 =>
      nn r_8 fun a_9 =>
      rdR h_6 a_9 9 1 fun r_10 =>
      nn r_10 fun a_11 =>
      kg h_6 a_11 0 (bd (f_Jx4a65c_get_915e3 a_11 x1 h_6) fun r_14 h_13 =>
      ckc h_13 r_14 11 (
      (if x2 = 0 then
        nn r_14 fun a_15 =>
        rdR h_13 a_15 11 1 fun r_16 =>
        nn r_16 fun a_17 =>
        kg h_13 a_17 0 (bd (f_Jx4a65c_size_8abf5 a_17 h_13) fun x_20 h_19 =>
        some (x_20, h_19))
      else (if x2 = 1 then
        rdR h_13 a0 12 2 fun r_21 =>
        nn r_21 fun a_22 =>
        kg h_13 a_22 9 (bd (f_X8_consumersOf a_22 r_14 h_13) fun x_25 h_24 =>
        some (x_25, h_24))
      else (if x2 = 2 then
        rdR h_13 a0 12 2 fun r_26 =>
        nn r_26 fun a_27 =>
        kg h_13 a_27 9 (bd (f_X8_bindingsOf a_27 r_14 h_13) fun x_30 h_29 =>
        some (x_30, h_29))
      else (if x2 = 3 then
        nn r_14 fun a_31 =>
        rdR h_13 a_31 11 1 fun r_32 =>
        nn r_32 fun a_33 =>
        kg h_13 a_33 0 (bd (f_Jx4a65c_isEmpty_aae02 a_33 h_13) fun x_36 h_35 =>
        (if x_36 = 0 then
          rdR h_35 a_31 11 1 fun r_37 =>
          nn r_37 fun a_38 =>
          kg h_35 a_38 0 (bd (f_Jx4a65c_get_915e3 a_38 0 h_35) fun r_41 h_40 =>
          ckc h_40 r_41 8 (
          nn r_41 fun a_42 =>
          rdI h_40 a_42 8 2 fun x_43 =>
          some (x_43, h_40)))
        else
          some (0, h_35)))
      else some (((-1)), h_13)))))))
    else
      some (((-1)), h_6))))
set_option maxRecDepth 20000 in
set_option maxHeartbeats 4000000 in
theorem t_X11_queue {Ω : Om} (a0 : Nat) (x1 : Int32) (x2 : Int32) (h : AH) (q : Int32 × AH) (hf : f_X11_queue a0 x1 x2 h = some q) : Go Ω M_X11_queue 0 (lv_args 0 [vR Ω (some a0), .int x1, .int x2]) [] h (some (.int q.1)) q.2 := by
  unfold f_X11_queue at hf
  rw [la_R, la_I, la_I, la_0]
  refine go_sub (lv' := [(0, vR Ω (some a0)), (1, .int x1), (2, .int x2)]) [0, 1, 2] rfl ?_
  refine go_iload_n dX11_queue_0 rfl 1 rfl ?_
  refine go_if_lt (tgt := 20) dX11_queue_1 (by decide) hf (fun hf => ?_) (fun hf => ?_)
  · refine go_iconst (-1) dX11_queue_20 rfl ?_
    exact go_ireturn dX11_queue_21 rfl hf
  · refine go_iload_n dX11_queue_4 rfl 1 rfl ?_
    refine go_aload_n dX11_queue_5 rfl 0 rfl ?_
    refine go_getR dX11_queue_6 fl_390_0 (fun _ _ => rfl) hf (fun r_1 hf => ?_)
    obtain ⟨a_2, rfl, hga_2⟩ := nn_some hf
    have hf := hga_2
    refine go_getR dX11_queue_9 fl_319_0 (fun _ _ => rfl) hf (fun r_3 hf => ?_)
    obtain ⟨a_4, rfl, hga_4⟩ := nn_some hf
    have hf := hga_4
    obtain ⟨hk, hf⟩ := kg_some hf
    obtain ⟨z_5, hc, hf⟩ := bd_some hf
    refine go_callF (y2 := M_Jx4a65c_size_8abf5) (x2 := ⟨"java/util/List", "size", "()I"⟩) dX11_queue_12 mo_Jx4a65c_size_8abf5 ⟨Nat.le_of_ble_eq_true rfl, Nat.le_of_ble_eq_true rfl⟩ na_Jx4a65c_size_8abf5 w517 w522 w520 (by decide) (fun U hU => hU.2.2.2.2.1) hk [] rfl (n_Jx4a65c_size_8abf5 (a_4)) rfl (csum (Nat.le_of_ble_eq_true rfl)) (t_Jx4a65c_size_8abf5 (a_4) h _ hc) ?_
    obtain ⟨x_7, h_6⟩ := z_5
    refine go_icmp_lt (tgt := 22) dX11_queue_17 (by decide) hf (fun hf => ?_) (fun hf => ?_)
    · refine go_aload_n dX11_queue_22 rfl 0 rfl ?_
      refine go_getR dX11_queue_23 fl_390_0 (fun _ _ => rfl) hf (fun r_8 hf => ?_)
      obtain ⟨a_9, rfl, hga_9⟩ := nn_some hf
      have hf := hga_9
      refine go_getR dX11_queue_26 fl_319_0 (fun _ _ => rfl) hf (fun r_10 hf => ?_)
      refine go_iload_n dX11_queue_29 rfl 1 rfl ?_
      obtain ⟨a_11, rfl, hga_11⟩ := nn_some hf
      have hf := hga_11
      obtain ⟨hk, hf⟩ := kg_some hf
      obtain ⟨z_12, hc, hf⟩ := bd_some hf
      refine go_callF (y2 := M_Jx4a65c_get_915e3) (x2 := ⟨"java/util/List", "get", "(I)Ljava/lang/Object;"⟩) dX11_queue_30 mo_Jx4a65c_get_915e3 ⟨Nat.le_of_ble_eq_true rfl, Nat.le_of_ble_eq_true rfl⟩ na_Jx4a65c_get_915e3 w1041 w543 w541 (by decide) (fun U hU => hU.2.2.1) hk [.int x1] rfl (n_Jx4a65c_get_915e3 (a_11) x1) rfl (csum (Nat.le_of_ble_eq_true rfl)) (t_Jx4a65c_get_915e3 (a_11) x1 h_6 _ hc) ?_
      obtain ⟨r_14, h_13⟩ := z_12
      refine go_cast (c := 11) dX11_queue_35 (by decide) rfl w792 hf (fun hf => ?_)
      refine go_astore_n (i := 3) (lv' := [(3, vR Ω r_14), (0, vR Ω (some a0)), (1, .int x1), (2, .int x2)]) dX11_queue_38 rfl (by decide) (by first | rfl | simp [catR, catI, catJ]) ?_
      refine go_iload_n dX11_queue_39 rfl 3 rfl ?_
      by_cases e0 : x2 = 0
      · rw [if_pos e0] at hf
        refine go_tsw1 (off := 32) (tgt := 72) dX11_queue_40 (by rw [e0]; decide) (by rw [e0]; decide) (by rw [e0]; decide) (by decide) ?_
        refine go_aload_n dX11_queue_72 rfl 0 rfl ?_
        obtain ⟨a_15, rfl, hga_15⟩ := nn_some hf
        have hf := hga_15
        refine go_getR dX11_queue_73 fl_804_0 (fun _ _ => rfl) hf (fun r_16 hf => ?_)
        obtain ⟨a_17, rfl, hga_17⟩ := nn_some hf
        have hf := hga_17
        obtain ⟨hk, hf⟩ := kg_some hf
        obtain ⟨z_18, hc, hf⟩ := bd_some hf
        refine go_callF (y2 := M_Jx4a65c_size_8abf5) (x2 := ⟨"java/util/List", "size", "()I"⟩) dX11_queue_76 mo_Jx4a65c_size_8abf5 ⟨Nat.le_of_ble_eq_true rfl, Nat.le_of_ble_eq_true rfl⟩ na_Jx4a65c_size_8abf5 w517 w522 w520 (by decide) (fun U hU => hU.2.2.2.2.1) hk [] rfl (n_Jx4a65c_size_8abf5 (a_17)) rfl (csum (Nat.le_of_ble_eq_true rfl)) (t_Jx4a65c_size_8abf5 (a_17) h_13 _ hc) ?_
        obtain ⟨x_20, h_19⟩ := z_18
        exact go_ireturn dX11_queue_81 rfl hf
      rw [if_neg e0] at hf
      by_cases e1 : x2 = 1
      · rw [if_pos e1] at hf
        refine go_tsw1 (off := 42) (tgt := 82) dX11_queue_40 (by rw [e1]; decide) (by rw [e1]; decide) (by rw [e1]; decide) (by decide) ?_
        refine go_aload_n dX11_queue_82 rfl 1 rfl ?_
        refine go_getR dX11_queue_83 fl_390_0 (fun _ _ => rfl) hf (fun r_21 hf => ?_)
        refine go_aload_n dX11_queue_86 rfl 0 rfl ?_
        obtain ⟨a_22, rfl, hga_22⟩ := nn_some hf
        have hf := hga_22
        obtain ⟨hk, hf⟩ := kg_some hf
        obtain ⟨z_23, hc, hf⟩ := bd_some hf
        refine go_callV (y2 := M_X8_consumersOf) (c2 := 9) dX11_queue_87 mo_X8_consumersOf ⟨Nat.le_of_ble_eq_true rfl, Nat.le_of_ble_eq_true rfl⟩ na_X8_consumersOf w814 w815 (by decide) rfl w816 hk [vR Ω r_14] rfl (n_X8_consumersOf (a_22) r_14) rfl (csum (Nat.le_of_ble_eq_true rfl)) (t_X8_consumersOf (a_22) r_14 h_13 _ hc) ?_
        obtain ⟨x_25, h_24⟩ := z_23
        exact go_ireturn dX11_queue_90 rfl hf
      rw [if_neg e1] at hf
      by_cases e2 : x2 = 2
      · rw [if_pos e2] at hf
        refine go_tsw1 (off := 51) (tgt := 91) dX11_queue_40 (by rw [e2]; decide) (by rw [e2]; decide) (by rw [e2]; decide) (by decide) ?_
        refine go_aload_n dX11_queue_91 rfl 1 rfl ?_
        refine go_getR dX11_queue_92 fl_390_0 (fun _ _ => rfl) hf (fun r_26 hf => ?_)
        refine go_aload_n dX11_queue_95 rfl 0 rfl ?_
        obtain ⟨a_27, rfl, hga_27⟩ := nn_some hf
        have hf := hga_27
        obtain ⟨hk, hf⟩ := kg_some hf
        obtain ⟨z_28, hc, hf⟩ := bd_some hf
        refine go_callV (y2 := M_X8_bindingsOf) (c2 := 9) dX11_queue_96 mo_X8_bindingsOf ⟨Nat.le_of_ble_eq_true rfl, Nat.le_of_ble_eq_true rfl⟩ na_X8_bindingsOf w1109 w1110 (by decide) rfl w1111 hk [vR Ω r_14] rfl (n_X8_bindingsOf (a_27) r_14) rfl (csum (Nat.le_of_ble_eq_true rfl)) (t_X8_bindingsOf (a_27) r_14 h_13 _ hc) ?_
        obtain ⟨x_30, h_29⟩ := z_28
        exact go_ireturn dX11_queue_99 rfl hf
      rw [if_neg e2] at hf
      by_cases e3 : x2 = 3
      · rw [if_pos e3] at hf
        refine go_tsw1 (off := 60) (tgt := 100) dX11_queue_40 (by rw [e3]; decide) (by rw [e3]; decide) (by rw [e3]; decide) (by decide) ?_
        refine go_aload_n dX11_queue_100 rfl 0 rfl ?_
        obtain ⟨a_31, rfl, hga_31⟩ := nn_some hf
        have hf := hga_31
        refine go_getR dX11_queue_101 fl_804_0 (fun _ _ => rfl) hf (fun r_32 hf => ?_)
        obtain ⟨a_33, rfl, hga_33⟩ := nn_some hf
        have hf := hga_33
        obtain ⟨hk, hf⟩ := kg_some hf
        obtain ⟨z_34, hc, hf⟩ := bd_some hf
        refine go_callF (y2 := M_Jx4a65c_isEmpty_aae02) (x2 := ⟨"java/util/List", "isEmpty", "()Z"⟩) dX11_queue_104 mo_Jx4a65c_isEmpty_aae02 ⟨Nat.le_of_ble_eq_true rfl, Nat.le_of_ble_eq_true rfl⟩ na_Jx4a65c_isEmpty_aae02 w867 w872 w870 (by decide) (fun U hU => hU.2.2.2.2.2.1) hk [] rfl (n_Jx4a65c_isEmpty_aae02 (a_33)) rfl (csum (Nat.le_of_ble_eq_true rfl)) (t_Jx4a65c_isEmpty_aae02 (a_33) h_13 _ hc) ?_
        obtain ⟨x_36, h_35⟩ := z_34
        refine go_if_eq (tgt := 116) dX11_queue_109 (by decide) hf (fun hf => ?_) (fun hf => ?_)
        · refine go_aload_n dX11_queue_116 rfl 0 rfl ?_
          refine go_getR dX11_queue_117 fl_804_0 (fun _ _ => rfl) hf (fun r_37 hf => ?_)
          refine go_iconst 0 dX11_queue_120 rfl ?_
          obtain ⟨a_38, rfl, hga_38⟩ := nn_some hf
          have hf := hga_38
          obtain ⟨hk, hf⟩ := kg_some hf
          obtain ⟨z_39, hc, hf⟩ := bd_some hf
          refine go_callF (y2 := M_Jx4a65c_get_915e3) (x2 := ⟨"java/util/List", "get", "(I)Ljava/lang/Object;"⟩) dX11_queue_121 mo_Jx4a65c_get_915e3 ⟨Nat.le_of_ble_eq_true rfl, Nat.le_of_ble_eq_true rfl⟩ na_Jx4a65c_get_915e3 w1041 w543 w541 (by decide) (fun U hU => hU.2.2.1) hk [.int 0] rfl (n_Jx4a65c_get_915e3 (a_38) 0) rfl (csum (Nat.le_of_ble_eq_true rfl)) (t_Jx4a65c_get_915e3 (a_38) 0 h_35 _ hc) ?_
          obtain ⟨r_41, h_40⟩ := z_39
          refine go_cast (c := 8) dX11_queue_126 (by decide) rfl w977 hf (fun hf => ?_)
          obtain ⟨a_42, rfl, hga_42⟩ := nn_some hf
          have hf := hga_42
          refine go_getI dX11_queue_129 fl_617_0 (fun _ _ => rfl) hf (fun x_43 hf => ?_)
          exact go_ireturn dX11_queue_132 rfl hf
        · refine go_iconst 0 dX11_queue_112 rfl ?_
          refine go_goto (tgt := 132) dX11_queue_113 (by decide) ?_
          exact go_ireturn dX11_queue_132 rfl hf
      rw [if_neg e3] at hf
      have n0 := ti (n := 0) (by decide) e0
      have n1 := ti (n := 1) (by decide) e1
      have n2 := ti (n := 2) (by decide) e2
      have n3 := ti (n := 3) (by decide) e3
      refine go_tsw0 (tgt := 133) dX11_queue_40 (by omega) (by decide) ?_
      refine go_iconst (-1) dX11_queue_133 rfl ?_
      exact go_ireturn dX11_queue_134 rfl hf
    · refine go_iconst (-1) dX11_queue_20 rfl ?_
      exact go_ireturn dX11_queue_21 rfl hf
-- LetterBroker.ready()I
theorem dX11_ready_0 : decode cX11_ready 0 = .ok (.aload_n 0, 1) := by decide +kernel
theorem dX11_ready_1 : decode cX11_ready 1 = .ok (.getfield 19, 3) := by decide +kernel
theorem dX11_ready_4 : decode cX11_ready 4 = .ok (.getfield 50, 3) := by decide +kernel
theorem dX11_ready_7 : decode cX11_ready 7 = .ok (.ireturn, 1) := by decide +kernel
def f_X11_ready (a0 : Nat) (h : AH) : Option (Int32 × AH) := rdR h a0 12 1 fun r_1 =>
  nn r_1 fun a_2 =>
  rdI h a_2 10 0 fun x_3 =>
  some (x_3, h)
set_option maxRecDepth 20000 in
set_option maxHeartbeats 4000000 in
theorem t_X11_ready {Ω : Om} (a0 : Nat) (h : AH) (q : Int32 × AH) (hf : f_X11_ready a0 h = some q) : Go Ω M_X11_ready 0 (lv_args 0 [vR Ω (some a0)]) [] h (some (.int q.1)) q.2 := by
  unfold f_X11_ready at hf
  rw [la_R, la_0]
  refine go_sub (lv' := [(0, vR Ω (some a0))]) [0] rfl ?_
  refine go_aload_n dX11_ready_0 rfl 0 rfl ?_
  refine go_getR dX11_ready_1 fl_389_0 (fun _ _ => rfl) hf (fun r_1 hf => ?_)
  obtain ⟨a_2, rfl, hga_2⟩ := nn_some hf
  have hf := hga_2
  refine go_getI dX11_ready_4 fl_184_0 (fun _ _ => rfl) hf (fun x_3 hf => ?_)
  exact go_ireturn dX11_ready_7 rfl hf
-- LetterBroker$Outbox.take()I
theorem dX9_take_0 : decode cX9_take 0 = .ok (.aload_n 0, 1) := by decide +kernel
theorem dX9_take_1 : decode cX9_take 1 = .ok (.getfield 15, 3) := by decide +kernel
theorem dX9_take_4 : decode cX9_take 4 = .ok (.ifCond .ne 5, 3) := by decide +kernel
theorem dX9_take_7 : decode cX9_take 7 = .ok (.iconst (-1), 1) := by decide +kernel
theorem dX9_take_8 : decode cX9_take 8 = .ok (.ireturn, 1) := by decide +kernel
theorem dX9_take_9 : decode cX9_take 9 = .ok (.aload_n 0, 1) := by decide +kernel
theorem dX9_take_10 : decode cX9_take 10 = .ok (.getfield 11, 3) := by decide +kernel
theorem dX9_take_13 : decode cX9_take 13 = .ok (.aload_n 0, 1) := by decide +kernel
theorem dX9_take_14 : decode cX9_take 14 = .ok (.getfield 19, 3) := by decide +kernel
theorem dX9_take_17 : decode cX9_take 17 = .ok (.iaload, 1) := by decide +kernel
theorem dX9_take_18 : decode cX9_take 18 = .ok (.istore_n 1, 1) := by decide +kernel
theorem dX9_take_19 : decode cX9_take 19 = .ok (.aload_n 0, 1) := by decide +kernel
theorem dX9_take_20 : decode cX9_take 20 = .ok (.aload_n 0, 1) := by decide +kernel
theorem dX9_take_21 : decode cX9_take 21 = .ok (.getfield 19, 3) := by decide +kernel
theorem dX9_take_24 : decode cX9_take 24 = .ok (.iconst 1, 1) := by decide +kernel
theorem dX9_take_25 : decode cX9_take 25 = .ok (.iadd, 1) := by decide +kernel
theorem dX9_take_26 : decode cX9_take 26 = .ok (.sipush 2400, 3) := by decide +kernel
theorem dX9_take_29 : decode cX9_take 29 = .ok (.irem, 1) := by decide +kernel
theorem dX9_take_30 : decode cX9_take 30 = .ok (.putfield 19, 3) := by decide +kernel
theorem dX9_take_33 : decode cX9_take 33 = .ok (.aload_n 0, 1) := by decide +kernel
theorem dX9_take_34 : decode cX9_take 34 = .ok (.dup, 1) := by decide +kernel
theorem dX9_take_35 : decode cX9_take 35 = .ok (.getfield 15, 3) := by decide +kernel
theorem dX9_take_38 : decode cX9_take 38 = .ok (.iconst 1, 1) := by decide +kernel
theorem dX9_take_39 : decode cX9_take 39 = .ok (.isub, 1) := by decide +kernel
theorem dX9_take_40 : decode cX9_take 40 = .ok (.putfield 15, 3) := by decide +kernel
theorem dX9_take_43 : decode cX9_take 43 = .ok (.iload_n 1, 1) := by decide +kernel
theorem dX9_take_44 : decode cX9_take 44 = .ok (.ireturn, 1) := by decide +kernel
def f_X9_take (a0 : Nat) (h : AH) : Option (Int32 × AH) := rdI h a0 10 0 fun x_1 =>
  (if x_1 = 0 then
    some (((-1)), h)
  else
    rdR h a0 10 1 fun r_2 =>
    rdI h a0 10 2 fun x_3 =>
    nn r_2 fun a_4 =>
    arI h a_4 x_3 fun x_5 =>
    rdI h a0 10 2 fun x_6 =>
    nz 2400 (
    wrI h a0 10 2 ((x_6 + 1) - (x_6 + 1) / 2400 * 2400) fun h_7 =>
    rdI h_7 a0 10 0 fun x_8 =>
    wrI h_7 a0 10 0 (x_8 - 1) fun h_9 =>
    some (x_5, h_9)))
set_option maxRecDepth 20000 in
set_option maxHeartbeats 4000000 in
theorem t_X9_take {Ω : Om} (a0 : Nat) (h : AH) (q : Int32 × AH) (hf : f_X9_take a0 h = some q) : Go Ω M_X9_take 0 (lv_args 0 [vR Ω (some a0)]) [] h (some (.int q.1)) q.2 := by
  unfold f_X9_take at hf
  rw [la_R, la_0]
  refine go_sub (lv' := [(0, vR Ω (some a0))]) [0] rfl ?_
  refine go_aload_n dX9_take_0 rfl 0 rfl ?_
  refine go_getI dX9_take_1 fl_183_0 (fun _ _ => rfl) hf (fun x_1 hf => ?_)
  refine go_if_ne (tgt := 9) dX9_take_4 (by decide) hf (fun hf => ?_) (fun hf => ?_)
  · refine go_aload_n dX9_take_9 rfl 0 rfl ?_
    refine go_getR dX9_take_10 fl_185_0 (fun _ _ => rfl) hf (fun r_2 hf => ?_)
    refine go_aload_n dX9_take_13 rfl 0 rfl ?_
    refine go_getI dX9_take_14 fl_186_0 (fun _ _ => rfl) hf (fun x_3 hf => ?_)
    obtain ⟨a_4, rfl, hga_4⟩ := nn_some hf
    have hf := hga_4
    refine go_iaload dX9_take_17 hf (fun x_5 hf => ?_)
    refine go_istore_n (i := 1) (lv' := [(1, .int x_5), (0, vR Ω (some a0))]) dX9_take_18 rfl (by decide) (by first | rfl | simp [catR, catI, catJ]) ?_
    refine go_aload_n dX9_take_19 rfl 1 rfl ?_
    refine go_aload_n dX9_take_20 rfl 1 rfl ?_
    refine go_getI dX9_take_21 fl_186_0 (fun _ _ => rfl) hf (fun x_6 hf => ?_)
    refine go_iconst 1 dX9_take_24 rfl ?_
    refine go_iadd dX9_take_25 ?_
    refine go_sipush 2400 dX9_take_26 (by decide) ?_
    obtain ⟨hz0, hf⟩ := nz_some hf
    refine go_irem dX9_take_29 hz0 ?_
    refine go_putI dX9_take_30 fl_186_0 (fun q hq => by cases hq; exact Or.inl rfl) (fun _ _ => rfl) rfl hf (fun h_7 hf => ?_)
    refine go_aload_n dX9_take_33 rfl 1 rfl ?_
    refine go_dup dX9_take_34 catR ?_
    refine go_getI dX9_take_35 fl_183_0 (fun _ _ => rfl) hf (fun x_8 hf => ?_)
    refine go_iconst 1 dX9_take_38 rfl ?_
    refine go_isub dX9_take_39 ?_
    refine go_putI dX9_take_40 fl_183_0 (fun q hq => by cases hq; exact Or.inl rfl) (fun _ _ => rfl) rfl hf (fun h_9 hf => ?_)
    refine go_iload_n dX9_take_43 rfl 0 rfl ?_
    exact go_ireturn dX9_take_44 rfl hf
  · refine go_iconst (-1) dX9_take_7 rfl ?_
    exact go_ireturn dX9_take_8 rfl hf
-- LetterBroker.receive()I
theorem dX11_receive_0 : decode cX11_receive 0 = .ok (.aload_n 0, 1) := by decide +kernel
theorem dX11_receive_1 : decode cX11_receive 1 = .ok (.getfield 19, 3) := by decide +kernel
theorem dX11_receive_4 : decode cX11_receive 4 = .ok (.invokevirtual 73, 3) := by decide +kernel
theorem dX11_receive_7 : decode cX11_receive 7 = .ok (.ireturn, 1) := by decide +kernel
def f_X11_receive (a0 : Nat) (h : AH) : Option (Int32 × AH) := rdR h a0 12 1 fun r_1 =>
  nn r_1 fun a_2 =>
  kg h a_2 10 (bd (f_X9_take a_2 h) fun x_5 h_4 =>
  some (x_5, h_4))
set_option maxRecDepth 20000 in
set_option maxHeartbeats 4000000 in
theorem t_X11_receive {Ω : Om} (a0 : Nat) (h : AH) (q : Int32 × AH) (hf : f_X11_receive a0 h = some q) : Go Ω M_X11_receive 0 (lv_args 0 [vR Ω (some a0)]) [] h (some (.int q.1)) q.2 := by
  unfold f_X11_receive at hf
  rw [la_R, la_0]
  refine go_sub (lv' := [(0, vR Ω (some a0))]) [0] rfl ?_
  refine go_aload_n dX11_receive_0 rfl 0 rfl ?_
  refine go_getR dX11_receive_1 fl_389_0 (fun _ _ => rfl) hf (fun r_1 hf => ?_)
  obtain ⟨a_2, rfl, hga_2⟩ := nn_some hf
  have hf := hga_2
  obtain ⟨hk, hf⟩ := kg_some hf
  obtain ⟨z_3, hc, hf⟩ := bd_some hf
  refine go_callV (y2 := M_X9_take) (c2 := 10) dX11_receive_4 mo_X9_take ⟨Nat.le_of_ble_eq_true rfl, Nat.le_of_ble_eq_true rfl⟩ na_X9_take w1089 w1090 (by decide) rfl w1091 hk [] rfl (n_X9_take (a_2)) rfl (csum (Nat.le_of_ble_eq_true rfl)) (t_X9_take (a_2) h _ hc) ?_
  obtain ⟨x_5, h_4⟩ := z_3
  exact go_ireturn dX11_receive_7 rfl hf
-- LetterBroker$Inbox.add(JI)V
theorem dX6_add_0 : decode cX6_add 0 = .ok (.iload_n 3, 1) := by decide +kernel
theorem dX6_add_1 : decode cX6_add 1 = .ok (.iconst 1, 1) := by decide +kernel
theorem dX6_add_2 : decode cX6_add 2 = .ok (.isub, 1) := by decide +kernel
theorem dX6_add_3 : decode cX6_add 3 = .ok (.istore 4, 2) := by decide +kernel
theorem dX6_add_5 : decode cX6_add 5 = .ok (.iload 4, 2) := by decide +kernel
theorem dX6_add_7 : decode cX6_add 7 = .ok (.ifCond .lt 52, 3) := by decide +kernel
theorem dX6_add_10 : decode cX6_add 10 = .ok (.aload_n 0, 1) := by decide +kernel
theorem dX6_add_11 : decode cX6_add 11 = .ok (.getfield 15, 3) := by decide +kernel
theorem dX6_add_14 : decode cX6_add 14 = .ok (.aload_n 0, 1) := by decide +kernel
theorem dX6_add_15 : decode cX6_add 15 = .ok (.getfield 9, 3) := by decide +kernel
theorem dX6_add_18 : decode cX6_add 18 = .ok (.arraylength, 1) := by decide +kernel
theorem dX6_add_19 : decode cX6_add 19 = .ok (.if_icmp .ge 40, 3) := by decide +kernel
theorem dX6_add_22 : decode cX6_add 22 = .ok (.aload_n 0, 1) := by decide +kernel
theorem dX6_add_23 : decode cX6_add 23 = .ok (.getfield 9, 3) := by decide +kernel
theorem dX6_add_26 : decode cX6_add 26 = .ok (.aload_n 0, 1) := by decide +kernel
theorem dX6_add_27 : decode cX6_add 27 = .ok (.getfield 15, 3) := by decide +kernel
theorem dX6_add_30 : decode cX6_add 30 = .ok (.lload_n 1, 1) := by decide +kernel
theorem dX6_add_31 : decode cX6_add 31 = .ok (.bipush 8, 2) := by decide +kernel
theorem dX6_add_33 : decode cX6_add 33 = .ok (.iload 4, 2) := by decide +kernel
theorem dX6_add_35 : decode cX6_add 35 = .ok (.imul, 1) := by decide +kernel
theorem dX6_add_36 : decode cX6_add 36 = .ok (.lushr, 1) := by decide +kernel
theorem dX6_add_37 : decode cX6_add 37 = .ok (.l2i, 1) := by decide +kernel
theorem dX6_add_38 : decode cX6_add 38 = .ok (.sipush 255, 3) := by decide +kernel
theorem dX6_add_41 : decode cX6_add 41 = .ok (.iand, 1) := by decide +kernel
theorem dX6_add_42 : decode cX6_add 42 = .ok (.iastore, 1) := by decide +kernel
theorem dX6_add_43 : decode cX6_add 43 = .ok (.aload_n 0, 1) := by decide +kernel
theorem dX6_add_44 : decode cX6_add 44 = .ok (.dup, 1) := by decide +kernel
theorem dX6_add_45 : decode cX6_add 45 = .ok (.getfield 15, 3) := by decide +kernel
theorem dX6_add_48 : decode cX6_add 48 = .ok (.iconst 1, 1) := by decide +kernel
theorem dX6_add_49 : decode cX6_add 49 = .ok (.iadd, 1) := by decide +kernel
theorem dX6_add_50 : decode cX6_add 50 = .ok (.putfield 15, 3) := by decide +kernel
theorem dX6_add_53 : decode cX6_add 53 = .ok (.iinc 4 (-1), 3) := by decide +kernel
theorem dX6_add_56 : decode cX6_add 56 = .ok (.goto (-51), 3) := by decide +kernel
theorem dX6_add_59 : decode cX6_add 59 = .ok (.return_, 1) := by decide +kernel
def f_X6_add_5 : Nat → Nat → Int64 → Int32 → AH → Option (Unit × AH)
  | 0, _, _, _, _ => none
  | n + 1, a0, x1, x4, h => (if x4 < 0 then
      some ((), h)
    else
      rdI h a0 7 0 fun x_1 =>
      rdR h a0 7 1 fun r_2 =>
      nn r_2 fun a_3 =>
      aln h a_3 fun x_4 =>
      (if x_4 ≤ x_1 then
        some ((), h)
      else
        rdR h a0 7 1 fun r_5 =>
        rdI h a0 7 0 fun x_6 =>
        nn r_5 fun a_7 =>
        asI h a_7 x_6 ((((x1.toUInt64 >>> ((8 * x4).toInt64.toUInt64 &&& Int64.toUInt64 63)).toInt64).toInt32) &&& 255) fun h_8 =>
        rdI h_8 a0 7 0 fun x_9 =>
        wrI h_8 a0 7 0 (x_9 + 1) fun h_10 =>
        f_X6_add_5 n a0 x1 (x4 + (-1)) h_10))
set_option maxRecDepth 20000 in
set_option maxHeartbeats 4000000 in
theorem t_X6_add_5 {Ω : Om} : ∀ (n : Nat) (a0 : Nat) (x1 : Int64) (x4 : Int32) (h : AH) (q : Unit × AH), f_X6_add_5 n a0 x1 x4 h = some q → Go Ω M_X6_add 5 [(0, vR Ω (some a0)), (1, .long x1), (4, .int x4)] [] h none q.2 := by
  intro n
  induction n with
  | zero => intro a0 x1 x4 h q hf; cases hf
  | succ n ih =>
    intro a0 x1 x4 h q hf
    rw [f_X6_add_5] at hf
    refine go_iload dX6_add_5 2 rfl ?_
    refine go_if_lt (tgt := 59) dX6_add_7 (by decide) hf (fun hf => ?_) (fun hf => ?_)
    · exact go_return dX6_add_59 rfl hf
    · refine go_aload_n dX6_add_10 rfl 0 rfl ?_
      refine go_getI dX6_add_11 fl_156_0 (fun _ _ => rfl) hf (fun x_1 hf => ?_)
      refine go_aload_n dX6_add_14 rfl 0 rfl ?_
      refine go_getR dX6_add_15 fl_158_0 (fun _ _ => rfl) hf (fun r_2 hf => ?_)
      obtain ⟨a_3, rfl, hga_3⟩ := nn_some hf
      have hf := hga_3
      refine go_alen dX6_add_18 hf (fun x_4 hf => ?_)
      refine go_icmp_ge (tgt := 59) dX6_add_19 (by decide) hf (fun hf => ?_) (fun hf => ?_)
      · exact go_return dX6_add_59 rfl hf
      · refine go_aload_n dX6_add_22 rfl 0 rfl ?_
        refine go_getR dX6_add_23 fl_158_0 (fun _ _ => rfl) hf (fun r_5 hf => ?_)
        refine go_aload_n dX6_add_26 rfl 0 rfl ?_
        refine go_getI dX6_add_27 fl_156_0 (fun _ _ => rfl) hf (fun x_6 hf => ?_)
        refine go_lload_n dX6_add_30 rfl 1 rfl ?_
        refine go_bipush 8 dX6_add_31 (by decide) ?_
        refine go_iload dX6_add_33 2 rfl ?_
        refine go_imul dX6_add_35 ?_
        refine go_lushr dX6_add_36 ?_
        refine go_l2i dX6_add_37 ?_
        refine go_sipush 255 dX6_add_38 (by decide) ?_
        refine go_iand dX6_add_41 ?_
        obtain ⟨a_7, rfl, hga_7⟩ := nn_some hf
        have hf := hga_7
        refine go_iastore dX6_add_42 hf (fun h_8 hf => ?_)
        refine go_aload_n dX6_add_43 rfl 0 rfl ?_
        refine go_dup dX6_add_44 catR ?_
        refine go_getI dX6_add_45 fl_156_0 (fun _ _ => rfl) hf (fun x_9 hf => ?_)
        refine go_iconst 1 dX6_add_48 rfl ?_
        refine go_iadd dX6_add_49 ?_
        refine go_putI dX6_add_50 fl_156_0 (fun q hq => by cases hq; exact Or.inl rfl) (fun _ _ => rfl) rfl hf (fun h_10 hf => ?_)
        refine go_iinc (j := 2) (v := x4 + (-1)) (lv' := [(4, .int (x4 + (-1))), (0, vR Ω (some a0)), (1, .long x1)]) dX6_add_53 rfl rfl (by decide) (by first | rfl | simp [catR, catI, catJ]) ?_
        refine go_goto (tgt := 5) dX6_add_56 (by decide) ?_
        refine go_sub (lv' := [(0, vR Ω (some a0)), (1, .long x1), (4, .int (x4 + (-1)))]) [1, 2, 0] rfl ?_
        exact ih a0 x1 (x4 + (-1)) h_10 q hf
def f_X6_add (a0 : Nat) (x1 : Int64) (x3 : Int32) (h : AH) : Option (Unit × AH) := lt (x3 - 1) fun x_1 =>
  f_X6_add_5 FU a0 x1 x_1 h
set_option maxRecDepth 20000 in
set_option maxHeartbeats 4000000 in
theorem t_X6_add {Ω : Om} (a0 : Nat) (x1 : Int64) (x3 : Int32) (h : AH) (q : Unit × AH) (hf : f_X6_add a0 x1 x3 h = some q) : Go Ω M_X6_add 0 (lv_args 0 [vR Ω (some a0), .long x1, .int x3]) [] h none q.2 := by
  unfold f_X6_add at hf
  rw [la_R, la_J, la_I, la_0]
  refine go_sub (lv' := [(0, vR Ω (some a0)), (1, .long x1), (3, .int x3)]) [0, 1, 2] rfl ?_
  refine go_iload_n dX6_add_0 rfl 2 rfl ?_
  refine go_iconst 1 dX6_add_1 rfl ?_
  refine go_isub dX6_add_2 ?_
  refine lt_I hf (fun x_1 hf => ?_)
  refine go_istore (i := 4) (lv' := [(4, .int x_1), (0, vR Ω (some a0)), (1, .long x1), (3, .int x3)]) dX6_add_3 (by decide) (by first | rfl | simp [catR, catI, catJ]) ?_
  refine go_sub (lv' := [(0, vR Ω (some a0)), (1, .long x1), (4, .int x_1)]) [1, 2, 0] rfl ?_
  exact t_X6_add_5 FU a0 x1 x_1 h q hf
-- LetterBroker.send(JI)I
theorem dX11_send_0 : decode cX11_send 0 = .ok (.aload_n 0, 1) := by decide +kernel
theorem dX11_send_1 : decode cX11_send 1 = .ok (.getfield 39, 3) := by decide +kernel
theorem dX11_send_4 : decode cX11_send 4 = .ok (.iconst 5, 1) := by decide +kernel
theorem dX11_send_5 : decode cX11_send 5 = .ok (.if_icmp .eq 29, 3) := by decide +kernel
theorem dX11_send_8 : decode cX11_send 8 = .ok (.iload_n 3, 1) := by decide +kernel
theorem dX11_send_9 : decode cX11_send 9 = .ok (.iconst 1, 1) := by decide +kernel
theorem dX11_send_10 : decode cX11_send 10 = .ok (.if_icmp .lt 24, 3) := by decide +kernel
theorem dX11_send_13 : decode cX11_send 13 = .ok (.iload_n 3, 1) := by decide +kernel
theorem dX11_send_14 : decode cX11_send 14 = .ok (.bipush 8, 2) := by decide +kernel
theorem dX11_send_16 : decode cX11_send 16 = .ok (.if_icmp .gt 18, 3) := by decide +kernel
theorem dX11_send_19 : decode cX11_send 19 = .ok (.aload_n 0, 1) := by decide +kernel
theorem dX11_send_20 : decode cX11_send 20 = .ok (.getfield 10, 3) := by decide +kernel
theorem dX11_send_23 : decode cX11_send 23 = .ok (.getfield 43, 3) := by decide +kernel
theorem dX11_send_26 : decode cX11_send 26 = .ok (.iload_n 3, 1) := by decide +kernel
theorem dX11_send_27 : decode cX11_send 27 = .ok (.iadd, 1) := by decide +kernel
theorem dX11_send_28 : decode cX11_send 28 = .ok (.sipush 300, 3) := by decide +kernel
theorem dX11_send_31 : decode cX11_send 31 = .ok (.if_icmp .le 5, 3) := by decide +kernel
theorem dX11_send_34 : decode cX11_send 34 = .ok (.iconst (-1), 1) := by decide +kernel
theorem dX11_send_35 : decode cX11_send 35 = .ok (.ireturn, 1) := by decide +kernel
theorem dX11_send_36 : decode cX11_send 36 = .ok (.aload_n 0, 1) := by decide +kernel
theorem dX11_send_37 : decode cX11_send 37 = .ok (.getfield 10, 3) := by decide +kernel
theorem dX11_send_40 : decode cX11_send 40 = .ok (.lload_n 1, 1) := by decide +kernel
theorem dX11_send_41 : decode cX11_send 41 = .ok (.iload_n 3, 1) := by decide +kernel
theorem dX11_send_42 : decode cX11_send 42 = .ok (.invokevirtual 46, 3) := by decide +kernel
theorem dX11_send_45 : decode cX11_send 45 = .ok (.aload_n 0, 1) := by decide +kernel
theorem dX11_send_46 : decode cX11_send 46 = .ok (.getfield 10, 3) := by decide +kernel
theorem dX11_send_49 : decode cX11_send 49 = .ok (.getfield 43, 3) := by decide +kernel
theorem dX11_send_52 : decode cX11_send 52 = .ok (.ireturn, 1) := by decide +kernel
def f_X11_send (a0 : Nat) (x1 : Int64) (x3 : Int32) (h : AH) : Option (Int32 × AH) := rdI h a0 12 4 fun x_1 =>
  (if x_1 = 5 then
    some (((-1)), h)
  else
    (if x3 < 1 then
      some (((-1)), h)
    else
      (if 8 < x3 then
        some (((-1)), h)
      else
        rdR h a0 12 0 fun r_2 =>
        nn r_2 fun a_3 =>
        rdI h a_3 7 0 fun x_4 =>
        (if (x_4 + x3) ≤ 300 then
          rdR h a0 12 0 fun r_5 =>
          nn r_5 fun a_6 =>
          kg h a_6 7 (bd (f_X6_add a_6 x1 x3 h) fun _ h_8 =>
          rdR h_8 a0 12 0 fun r_9 =>
          nn r_9 fun a_10 =>
          rdI h_8 a_10 7 0 fun x_11 =>
          some (x_11, h_8))
        else
          some (((-1)), h)))))
set_option maxRecDepth 20000 in
set_option maxHeartbeats 4000000 in
theorem t_X11_send {Ω : Om} (a0 : Nat) (x1 : Int64) (x3 : Int32) (h : AH) (q : Int32 × AH) (hf : f_X11_send a0 x1 x3 h = some q) : Go Ω M_X11_send 0 (lv_args 0 [vR Ω (some a0), .long x1, .int x3]) [] h (some (.int q.1)) q.2 := by
  unfold f_X11_send at hf
  rw [la_R, la_J, la_I, la_0]
  refine go_sub (lv' := [(0, vR Ω (some a0)), (1, .long x1), (3, .int x3)]) [0, 1, 2] rfl ?_
  refine go_aload_n dX11_send_0 rfl 0 rfl ?_
  refine go_getI dX11_send_1 fl_392_0 (fun _ _ => rfl) hf (fun x_1 hf => ?_)
  refine go_iconst 5 dX11_send_4 rfl ?_
  refine go_icmp_eq (tgt := 34) dX11_send_5 (by decide) hf (fun hf => ?_) (fun hf => ?_)
  · refine go_iconst (-1) dX11_send_34 rfl ?_
    exact go_ireturn dX11_send_35 rfl hf
  · refine go_iload_n dX11_send_8 rfl 2 rfl ?_
    refine go_iconst 1 dX11_send_9 rfl ?_
    refine go_icmp_lt (tgt := 34) dX11_send_10 (by decide) hf (fun hf => ?_) (fun hf => ?_)
    · refine go_iconst (-1) dX11_send_34 rfl ?_
      exact go_ireturn dX11_send_35 rfl hf
    · refine go_iload_n dX11_send_13 rfl 2 rfl ?_
      refine go_bipush 8 dX11_send_14 (by decide) ?_
      refine go_icmp_gt (tgt := 34) dX11_send_16 (by decide) hf (fun hf => ?_) (fun hf => ?_)
      · refine go_iconst (-1) dX11_send_34 rfl ?_
        exact go_ireturn dX11_send_35 rfl hf
      · refine go_aload_n dX11_send_19 rfl 0 rfl ?_
        refine go_getR dX11_send_20 fl_388_0 (fun _ _ => rfl) hf (fun r_2 hf => ?_)
        obtain ⟨a_3, rfl, hga_3⟩ := nn_some hf
        have hf := hga_3
        refine go_getI dX11_send_23 fl_157_0 (fun _ _ => rfl) hf (fun x_4 hf => ?_)
        refine go_iload_n dX11_send_26 rfl 2 rfl ?_
        refine go_iadd dX11_send_27 ?_
        refine go_sipush 300 dX11_send_28 (by decide) ?_
        refine go_icmp_le (tgt := 36) dX11_send_31 (by decide) hf (fun hf => ?_) (fun hf => ?_)
        · refine go_aload_n dX11_send_36 rfl 0 rfl ?_
          refine go_getR dX11_send_37 fl_388_0 (fun _ _ => rfl) hf (fun r_5 hf => ?_)
          refine go_lload_n dX11_send_40 rfl 1 rfl ?_
          refine go_iload_n dX11_send_41 rfl 2 rfl ?_
          obtain ⟨a_6, rfl, hga_6⟩ := nn_some hf
          have hf := hga_6
          obtain ⟨hk, hf⟩ := kg_some hf
          obtain ⟨z_7, hc, hf⟩ := bd_some hf
          refine go_callV (y2 := M_X6_add) (c2 := 7) dX11_send_42 mo_X6_add ⟨Nat.le_of_ble_eq_true rfl, Nat.le_of_ble_eq_true rfl⟩ na_X6_add w408 w409 (by decide) rfl w410 hk [.long x1, .int x3] rfl (n_X6_add (a_6) x1 x3) rfl (csum (Nat.le_of_ble_eq_true rfl)) (t_X6_add (a_6) x1 x3 h _ hc) ?_
          obtain ⟨_, h_8⟩ := z_7
          refine go_aload_n dX11_send_45 rfl 0 rfl ?_
          refine go_getR dX11_send_46 fl_388_0 (fun _ _ => rfl) hf (fun r_9 hf => ?_)
          obtain ⟨a_10, rfl, hga_10⟩ := nn_some hf
          have hf := hga_10
          refine go_getI dX11_send_49 fl_157_0 (fun _ _ => rfl) hf (fun x_11 hf => ?_)
          exact go_ireturn dX11_send_52 rfl hf
        · refine go_iconst (-1) dX11_send_34 rfl ?_
          exact go_ireturn dX11_send_35 rfl hf
-- java/util/ArrayList.fastRemove([Ljava/lang/Object;I)V
theorem dJx4a65c_fastRemove_b59b0_0 : decode cJx4a65c_fastRemove_b59b0 0 = .ok (.aload_n 0, 1) := by decide +kernel
theorem dJx4a65c_fastRemove_b59b0_1 : decode cJx4a65c_fastRemove_b59b0 1 = .ok (.dup, 1) := by decide +kernel
theorem dJx4a65c_fastRemove_b59b0_2 : decode cJx4a65c_fastRemove_b59b0 2 = .ok (.getfield 63, 3) := by decide +kernel
theorem dJx4a65c_fastRemove_b59b0_5 : decode cJx4a65c_fastRemove_b59b0 5 = .ok (.iconst 1, 1) := by decide +kernel
theorem dJx4a65c_fastRemove_b59b0_6 : decode cJx4a65c_fastRemove_b59b0 6 = .ok (.iadd, 1) := by decide +kernel
theorem dJx4a65c_fastRemove_b59b0_7 : decode cJx4a65c_fastRemove_b59b0 7 = .ok (.putfield 63, 3) := by decide +kernel
theorem dJx4a65c_fastRemove_b59b0_10 : decode cJx4a65c_fastRemove_b59b0 10 = .ok (.aload_n 0, 1) := by decide +kernel
theorem dJx4a65c_fastRemove_b59b0_11 : decode cJx4a65c_fastRemove_b59b0 11 = .ok (.getfield 48, 3) := by decide +kernel
theorem dJx4a65c_fastRemove_b59b0_14 : decode cJx4a65c_fastRemove_b59b0 14 = .ok (.iconst 1, 1) := by decide +kernel
theorem dJx4a65c_fastRemove_b59b0_15 : decode cJx4a65c_fastRemove_b59b0 15 = .ok (.isub, 1) := by decide +kernel
theorem dJx4a65c_fastRemove_b59b0_16 : decode cJx4a65c_fastRemove_b59b0 16 = .ok (.dup, 1) := by decide +kernel
theorem dJx4a65c_fastRemove_b59b0_17 : decode cJx4a65c_fastRemove_b59b0 17 = .ok (.istore_n 3, 1) := by decide +kernel
theorem dJx4a65c_fastRemove_b59b0_18 : decode cJx4a65c_fastRemove_b59b0 18 = .ok (.iload_n 2, 1) := by decide +kernel
theorem dJx4a65c_fastRemove_b59b0_19 : decode cJx4a65c_fastRemove_b59b0 19 = .ok (.if_icmp .le 15, 3) := by decide +kernel
theorem dJx4a65c_fastRemove_b59b0_22 : decode cJx4a65c_fastRemove_b59b0 22 = .ok (.aload_n 1, 1) := by decide +kernel
theorem dJx4a65c_fastRemove_b59b0_23 : decode cJx4a65c_fastRemove_b59b0 23 = .ok (.iload_n 2, 1) := by decide +kernel
theorem dJx4a65c_fastRemove_b59b0_24 : decode cJx4a65c_fastRemove_b59b0 24 = .ok (.iconst 1, 1) := by decide +kernel
theorem dJx4a65c_fastRemove_b59b0_25 : decode cJx4a65c_fastRemove_b59b0 25 = .ok (.iadd, 1) := by decide +kernel
theorem dJx4a65c_fastRemove_b59b0_26 : decode cJx4a65c_fastRemove_b59b0 26 = .ok (.aload_n 1, 1) := by decide +kernel
theorem dJx4a65c_fastRemove_b59b0_27 : decode cJx4a65c_fastRemove_b59b0 27 = .ok (.iload_n 2, 1) := by decide +kernel
theorem dJx4a65c_fastRemove_b59b0_28 : decode cJx4a65c_fastRemove_b59b0 28 = .ok (.iload_n 3, 1) := by decide +kernel
theorem dJx4a65c_fastRemove_b59b0_29 : decode cJx4a65c_fastRemove_b59b0 29 = .ok (.iload_n 2, 1) := by decide +kernel
theorem dJx4a65c_fastRemove_b59b0_30 : decode cJx4a65c_fastRemove_b59b0 30 = .ok (.isub, 1) := by decide +kernel
theorem dJx4a65c_fastRemove_b59b0_31 : decode cJx4a65c_fastRemove_b59b0 31 = .ok (.invokestatic 112, 3) := by decide +kernel
theorem dJx4a65c_fastRemove_b59b0_34 : decode cJx4a65c_fastRemove_b59b0 34 = .ok (.aload_n 1, 1) := by decide +kernel
theorem dJx4a65c_fastRemove_b59b0_35 : decode cJx4a65c_fastRemove_b59b0 35 = .ok (.aload_n 0, 1) := by decide +kernel
theorem dJx4a65c_fastRemove_b59b0_36 : decode cJx4a65c_fastRemove_b59b0 36 = .ok (.iload_n 3, 1) := by decide +kernel
theorem dJx4a65c_fastRemove_b59b0_37 : decode cJx4a65c_fastRemove_b59b0 37 = .ok (.dup_x1, 1) := by decide +kernel
theorem dJx4a65c_fastRemove_b59b0_38 : decode cJx4a65c_fastRemove_b59b0 38 = .ok (.putfield 48, 3) := by decide +kernel
theorem dJx4a65c_fastRemove_b59b0_41 : decode cJx4a65c_fastRemove_b59b0 41 = .ok (.aconst_null, 1) := by decide +kernel
theorem dJx4a65c_fastRemove_b59b0_42 : decode cJx4a65c_fastRemove_b59b0 42 = .ok (.aastore, 1) := by decide +kernel
theorem dJx4a65c_fastRemove_b59b0_43 : decode cJx4a65c_fastRemove_b59b0 43 = .ok (.return_, 1) := by decide +kernel
def f_Jx4a65c_fastRemove_b59b0_34 (a0 : Nat) (r1 : Option Nat) (x3 : Int32) (h : AH) : Option (Unit × AH) := wrI h a0 0 2 x3 fun h_1 =>
  nn r1 fun a_2 =>
  asO h_1 a_2 x3 none fun h_3 =>
  some ((), h_3)
set_option maxRecDepth 20000 in
set_option maxHeartbeats 4000000 in
theorem t_Jx4a65c_fastRemove_b59b0_34 {Ω : Om} (a0 : Nat) (r1 : Option Nat) (x3 : Int32) (h : AH) (q : Unit × AH) (hf : f_Jx4a65c_fastRemove_b59b0_34 a0 r1 x3 h = some q) : Go Ω M_Jx4a65c_fastRemove_b59b0 34 [(0, vR Ω (some a0)), (1, vR Ω r1), (3, .int x3)] [] h none q.2 := by
  unfold f_Jx4a65c_fastRemove_b59b0_34 at hf
  refine go_aload_n dJx4a65c_fastRemove_b59b0_34 rfl 1 rfl ?_
  refine go_aload_n dJx4a65c_fastRemove_b59b0_35 rfl 0 rfl ?_
  refine go_iload_n dJx4a65c_fastRemove_b59b0_36 rfl 2 rfl ?_
  refine go_dup_x1 dJx4a65c_fastRemove_b59b0_37 rfl catR ?_
  refine go_putI dJx4a65c_fastRemove_b59b0_38 fl_221_0 (fun q hq => by cases hq; exact Or.inl rfl) (fun _ _ => rfl) rfl hf (fun h_1 hf => ?_)
  refine go_null dJx4a65c_fastRemove_b59b0_41 ?_
  obtain ⟨a_2, rfl, hga_2⟩ := nn_some hf
  have hf := hga_2
  refine go_oastore dJx4a65c_fastRemove_b59b0_42 hf (fun h_3 hf => ?_)
  exact go_return dJx4a65c_fastRemove_b59b0_43 rfl hf
def f_Jx4a65c_fastRemove_b59b0 (a0 : Nat) (r1 : Option Nat) (x2 : Int32) (h : AH) : Option (Unit × AH) := rdI h a0 0 0 fun x_1 =>
  wrI h a0 0 0 (x_1 + 1) fun h_2 =>
  rdI h_2 a0 0 2 fun x_3 =>
  lt (x_3 - 1) fun x_4 =>
  (if (x_3 - 1) ≤ x2 then
    f_Jx4a65c_fastRemove_b59b0_34 a0 r1 x_4 h_2
  else
    nn r1 fun a_5 =>
    cpO h_2 a_5 (x2 + 1) a_5 x2 (x_4 - x2) fun h_6 =>
    f_Jx4a65c_fastRemove_b59b0_34 a0 (some a_5) x_4 h_6)
set_option maxRecDepth 20000 in
set_option maxHeartbeats 4000000 in
theorem t_Jx4a65c_fastRemove_b59b0 {Ω : Om} (a0 : Nat) (r1 : Option Nat) (x2 : Int32) (h : AH) (q : Unit × AH) (hf : f_Jx4a65c_fastRemove_b59b0 a0 r1 x2 h = some q) : Go Ω M_Jx4a65c_fastRemove_b59b0 0 (lv_args 0 [vR Ω (some a0), vR Ω r1, .int x2]) [] h none q.2 := by
  unfold f_Jx4a65c_fastRemove_b59b0 at hf
  rw [la_R, la_R, la_I, la_0]
  refine go_sub (lv' := [(0, vR Ω (some a0)), (1, vR Ω r1), (2, .int x2)]) [0, 1, 2] rfl ?_
  refine go_aload_n dJx4a65c_fastRemove_b59b0_0 rfl 0 rfl ?_
  refine go_dup dJx4a65c_fastRemove_b59b0_1 catR ?_
  refine go_getI dJx4a65c_fastRemove_b59b0_2 fl_223_0 (fun _ _ => rfl) hf (fun x_1 hf => ?_)
  refine go_iconst 1 dJx4a65c_fastRemove_b59b0_5 rfl ?_
  refine go_iadd dJx4a65c_fastRemove_b59b0_6 ?_
  refine go_putI dJx4a65c_fastRemove_b59b0_7 fl_223_0 (fun q hq => by cases hq; exact Or.inl rfl) (fun _ _ => rfl) rfl hf (fun h_2 hf => ?_)
  refine go_aload_n dJx4a65c_fastRemove_b59b0_10 rfl 0 rfl ?_
  refine go_getI dJx4a65c_fastRemove_b59b0_11 fl_221_0 (fun _ _ => rfl) hf (fun x_3 hf => ?_)
  refine go_iconst 1 dJx4a65c_fastRemove_b59b0_14 rfl ?_
  refine go_isub dJx4a65c_fastRemove_b59b0_15 ?_
  refine go_dup dJx4a65c_fastRemove_b59b0_16 rfl ?_
  refine lt_I hf (fun x_4 hf => ?_)
  refine go_istore_n (i := 3) (lv' := [(3, .int x_4), (0, vR Ω (some a0)), (1, vR Ω r1), (2, .int x2)]) dJx4a65c_fastRemove_b59b0_17 rfl (by decide) (by first | rfl | simp [catR, catI, catJ]) ?_
  refine go_iload_n dJx4a65c_fastRemove_b59b0_18 rfl 3 rfl ?_
  refine go_icmp_le (tgt := 34) dJx4a65c_fastRemove_b59b0_19 (by decide) hf (fun hf => ?_) (fun hf => ?_)
  · refine go_sub (lv' := [(0, vR Ω (some a0)), (1, vR Ω r1), (3, .int x_4)]) [1, 2, 0] rfl ?_
    exact t_Jx4a65c_fastRemove_b59b0_34 a0 r1 x_4 h_2 q hf
  · refine go_aload_n dJx4a65c_fastRemove_b59b0_22 rfl 2 rfl ?_
    refine go_iload_n dJx4a65c_fastRemove_b59b0_23 rfl 3 rfl ?_
    refine go_iconst 1 dJx4a65c_fastRemove_b59b0_24 rfl ?_
    refine go_iadd dJx4a65c_fastRemove_b59b0_25 ?_
    refine go_aload_n dJx4a65c_fastRemove_b59b0_26 rfl 2 rfl ?_
    refine go_iload_n dJx4a65c_fastRemove_b59b0_27 rfl 3 rfl ?_
    refine go_iload_n dJx4a65c_fastRemove_b59b0_28 rfl 0 rfl ?_
    refine go_iload_n dJx4a65c_fastRemove_b59b0_29 rfl 3 rfl ?_
    refine go_isub dJx4a65c_fastRemove_b59b0_30 ?_
    obtain ⟨a_5, rfl, hga_5⟩ := nn_some hf
    have hf := hga_5
    refine go_cpO dJx4a65c_fastRemove_b59b0_31 w688 ⟨by decide, cadd (csum (Nat.le_of_ble_eq_true rfl)) (by decide +kernel)⟩ hf (fun h_6 hf => ?_)
    refine go_sub (lv' := [(0, vR Ω (some a0)), (1, vR Ω (some a_5)), (3, .int x_4)]) [1, 2, 0] rfl ?_
    exact t_Jx4a65c_fastRemove_b59b0_34 a0 (some a_5) x_4 h_6 q hf
-- java/util/ArrayList.remove(I)Ljava/lang/Object;
theorem dJx4a65c_remove_915e3_0 : decode cJx4a65c_remove_915e3 0 = .ok (.iload_n 1, 1) := by decide +kernel
theorem dJx4a65c_remove_915e3_1 : decode cJx4a65c_remove_915e3 1 = .ok (.aload_n 0, 1) := by decide +kernel
theorem dJx4a65c_remove_915e3_2 : decode cJx4a65c_remove_915e3 2 = .ok (.getfield 48, 3) := by decide +kernel
theorem dJx4a65c_remove_915e3_5 : decode cJx4a65c_remove_915e3 5 = .ok (.invokestatic 118, 3) := by decide +kernel
theorem dJx4a65c_remove_915e3_8 : decode cJx4a65c_remove_915e3 8 = .ok (.pop, 1) := by decide +kernel
theorem dJx4a65c_remove_915e3_9 : decode cJx4a65c_remove_915e3 9 = .ok (.aload_n 0, 1) := by decide +kernel
theorem dJx4a65c_remove_915e3_10 : decode cJx4a65c_remove_915e3 10 = .ok (.getfield 9, 3) := by decide +kernel
theorem dJx4a65c_remove_915e3_13 : decode cJx4a65c_remove_915e3 13 = .ok (.astore_n 2, 1) := by decide +kernel
theorem dJx4a65c_remove_915e3_14 : decode cJx4a65c_remove_915e3 14 = .ok (.aload_n 2, 1) := by decide +kernel
theorem dJx4a65c_remove_915e3_15 : decode cJx4a65c_remove_915e3 15 = .ok (.iload_n 1, 1) := by decide +kernel
theorem dJx4a65c_remove_915e3_16 : decode cJx4a65c_remove_915e3 16 = .ok (.aaload, 1) := by decide +kernel
theorem dJx4a65c_remove_915e3_17 : decode cJx4a65c_remove_915e3 17 = .ok (.astore_n 3, 1) := by decide +kernel
theorem dJx4a65c_remove_915e3_18 : decode cJx4a65c_remove_915e3 18 = .ok (.aload_n 0, 1) := by decide +kernel
theorem dJx4a65c_remove_915e3_19 : decode cJx4a65c_remove_915e3 19 = .ok (.aload_n 2, 1) := by decide +kernel
theorem dJx4a65c_remove_915e3_20 : decode cJx4a65c_remove_915e3 20 = .ok (.iload_n 1, 1) := by decide +kernel
theorem dJx4a65c_remove_915e3_21 : decode cJx4a65c_remove_915e3 21 = .ok (.invokevirtual 144, 3) := by decide +kernel
theorem dJx4a65c_remove_915e3_24 : decode cJx4a65c_remove_915e3 24 = .ok (.aload_n 3, 1) := by decide +kernel
theorem dJx4a65c_remove_915e3_25 : decode cJx4a65c_remove_915e3 25 = .ok (.areturn, 1) := by decide +kernel
def f_Jx4a65c_remove_915e3 (a0 : Nat) (x1 : Int32) (h : AH) : Option (Option Nat × AH) := rdI h a0 0 2 fun x_1 =>
  bd (f_J15_checkIndex_7cf53 x1 x_1 h) fun x_4 h_3 =>
  rdR h_3 a0 0 1 fun r_5 =>
  nn r_5 fun a_6 =>
  arO h_3 a_6 x1 fun r_7 =>
  kg h_3 a0 0 (bd (f_Jx4a65c_fastRemove_b59b0 a0 (some a_6) x1 h_3) fun _ h_9 =>
  some (r_7, h_9))
set_option maxRecDepth 20000 in
set_option maxHeartbeats 4000000 in
theorem t_Jx4a65c_remove_915e3 {Ω : Om} (a0 : Nat) (x1 : Int32) (h : AH) (q : Option Nat × AH) (hf : f_Jx4a65c_remove_915e3 a0 x1 h = some q) : Go Ω M_Jx4a65c_remove_915e3 0 (lv_args 0 [vR Ω (some a0), .int x1]) [] h (some (vR Ω q.1)) q.2 := by
  unfold f_Jx4a65c_remove_915e3 at hf
  rw [la_R, la_I, la_0]
  refine go_sub (lv' := [(0, vR Ω (some a0)), (1, .int x1)]) [0, 1] rfl ?_
  refine go_iload_n dJx4a65c_remove_915e3_0 rfl 1 rfl ?_
  refine go_aload_n dJx4a65c_remove_915e3_1 rfl 0 rfl ?_
  refine go_getI dJx4a65c_remove_915e3_2 fl_221_0 (fun _ _ => rfl) hf (fun x_1 hf => ?_)
  obtain ⟨z_2, hc, hf⟩ := bd_some hf
  refine go_callS (y2 := M_J15_checkIndex_7cf53) dJx4a65c_remove_915e3_5 mo_J15_checkIndex_7cf53 ⟨Nat.le_of_ble_eq_true rfl, Nat.le_of_ble_eq_true rfl⟩ na_J15_checkIndex_7cf53 w546 w547 [.int x1, .int x_1] rfl (n_J15_checkIndex_7cf53 x1 x_1) rfl (csum (Nat.le_of_ble_eq_true rfl)) (t_J15_checkIndex_7cf53 x1 x_1 h _ hc) ?_
  obtain ⟨x_4, h_3⟩ := z_2
  refine go_pop dJx4a65c_remove_915e3_8 rfl ?_
  refine go_aload_n dJx4a65c_remove_915e3_9 rfl 0 rfl ?_
  refine go_getR dJx4a65c_remove_915e3_10 fl_220_0 (fun _ _ => rfl) hf (fun r_5 hf => ?_)
  refine go_astore_n (i := 2) (lv' := [(2, vR Ω r_5), (0, vR Ω (some a0)), (1, .int x1)]) dJx4a65c_remove_915e3_13 rfl (by decide) (by first | rfl | simp [catR, catI, catJ]) ?_
  refine go_aload_n dJx4a65c_remove_915e3_14 rfl 0 rfl ?_
  refine go_iload_n dJx4a65c_remove_915e3_15 rfl 2 rfl ?_
  obtain ⟨a_6, rfl, hga_6⟩ := nn_some hf
  have hf := hga_6
  refine go_oaload dJx4a65c_remove_915e3_16 hf (fun r_7 hf => ?_)
  refine go_astore_n (i := 3) (lv' := [(3, vR Ω r_7), (2, vR Ω (some a_6)), (0, vR Ω (some a0)), (1, .int x1)]) dJx4a65c_remove_915e3_17 rfl (by decide) (by first | rfl | simp [catR, catI, catJ]) ?_
  refine go_aload_n dJx4a65c_remove_915e3_18 rfl 2 rfl ?_
  refine go_aload_n dJx4a65c_remove_915e3_19 rfl 1 rfl ?_
  refine go_iload_n dJx4a65c_remove_915e3_20 rfl 3 rfl ?_
  obtain ⟨hk, hf⟩ := kg_some hf
  obtain ⟨z_8, hc, hf⟩ := bd_some hf
  refine go_callV (y2 := M_Jx4a65c_fastRemove_b59b0) (c2 := 0) dJx4a65c_remove_915e3_21 mo_Jx4a65c_fastRemove_b59b0 ⟨Nat.le_of_ble_eq_true rfl, Nat.le_of_ble_eq_true rfl⟩ na_Jx4a65c_fastRemove_b59b0 w684 w686 (by decide) rfl w19 hk [vR Ω (some a_6), .int x1] rfl (n_Jx4a65c_fastRemove_b59b0 (a0) (some a_6) x1) rfl (csum (Nat.le_of_ble_eq_true rfl)) (t_Jx4a65c_fastRemove_b59b0 (a0) (some a_6) x1 h_3 _ hc) ?_
  obtain ⟨_, h_9⟩ := z_8
  refine go_aload_n dJx4a65c_remove_915e3_24 rfl 0 rfl ?_
  exact go_areturn dJx4a65c_remove_915e3_25 rfl (Or.inl ⟨_, rfl⟩) hf
-- LetterBroker$Channel.take(LLetterBroker$Letter;Z)V
theorem dX1_take_0 : decode cX1_take 0 = .ok (.aload_n 0, 1) := by decide +kernel
theorem dX1_take_1 : decode cX1_take 1 = .ok (.dup, 1) := by decide +kernel
theorem dX1_take_2 : decode cX1_take 2 = .ok (.getfield 35, 3) := by decide +kernel
theorem dX1_take_5 : decode cX1_take 5 = .ok (.iconst 1, 1) := by decide +kernel
theorem dX1_take_6 : decode cX1_take 6 = .ok (.iadd, 1) := by decide +kernel
theorem dX1_take_7 : decode cX1_take 7 = .ok (.putfield 35, 3) := by decide +kernel
theorem dX1_take_10 : decode cX1_take 10 = .ok (.aload_n 1, 1) := by decide +kernel
theorem dX1_take_11 : decode cX1_take 11 = .ok (.aload_n 0, 1) := by decide +kernel
theorem dX1_take_12 : decode cX1_take 12 = .ok (.getfield 35, 3) := by decide +kernel
theorem dX1_take_15 : decode cX1_take 15 = .ok (.putfield 38, 3) := by decide +kernel
theorem dX1_take_18 : decode cX1_take 18 = .ok (.iload_n 2, 1) := by decide +kernel
theorem dX1_take_19 : decode cX1_take 19 = .ok (.ifCond .ne 14, 3) := by decide +kernel
theorem dX1_take_22 : decode cX1_take 22 = .ok (.aload_n 0, 1) := by decide +kernel
theorem dX1_take_23 : decode cX1_take 23 = .ok (.getfield 12, 3) := by decide +kernel
theorem dX1_take_26 : decode cX1_take 26 = .ok (.aload_n 1, 1) := by decide +kernel
theorem dX1_take_27 : decode cX1_take 27 = .ok (.invokeinterface 43 2, 5) := by decide +kernel
theorem dX1_take_32 : decode cX1_take 32 = .ok (.pop, 1) := by decide +kernel
theorem dX1_take_33 : decode cX1_take 33 = .ok (.return_, 1) := by decide +kernel
def f_X1_take (a0 : Nat) (r1 : Option Nat) (x2 : Int32) (h : AH) : Option (Unit × AH) := rdI h a0 2 7 fun x_1 =>
  wrI h a0 2 7 (x_1 + 1) fun h_2 =>
  rdI h_2 a0 2 7 fun x_3 =>
  nn r1 fun a_4 =>
  wrI h_2 a_4 8 4 x_3 fun h_5 =>
  (if x2 = 0 then
    rdR h_5 a0 2 1 fun r_6 =>
    nn r_6 fun a_7 =>
    kg h_5 a_7 0 (bd (f_Jx4a65c_add_9ea2d a_7 (some a_4) h_5) fun x_10 h_9 =>
    some ((), h_9))
  else
    some ((), h_5))
set_option maxRecDepth 20000 in
set_option maxHeartbeats 4000000 in
theorem t_X1_take {Ω : Om} (a0 : Nat) (r1 : Option Nat) (x2 : Int32) (h : AH) (q : Unit × AH) (hf : f_X1_take a0 r1 x2 h = some q) : Go Ω M_X1_take 0 (lv_args 0 [vR Ω (some a0), vR Ω r1, .int x2]) [] h none q.2 := by
  unfold f_X1_take at hf
  rw [la_R, la_R, la_I, la_0]
  refine go_sub (lv' := [(0, vR Ω (some a0)), (1, vR Ω r1), (2, .int x2)]) [0, 1, 2] rfl ?_
  refine go_aload_n dX1_take_0 rfl 0 rfl ?_
  refine go_dup dX1_take_1 catR ?_
  refine go_getI dX1_take_2 fl_365_0 (fun _ _ => rfl) hf (fun x_1 hf => ?_)
  refine go_iconst 1 dX1_take_5 rfl ?_
  refine go_iadd dX1_take_6 ?_
  refine go_putI dX1_take_7 fl_365_0 (fun q hq => by cases hq; exact Or.inl rfl) (fun _ _ => rfl) rfl hf (fun h_2 hf => ?_)
  refine go_aload_n dX1_take_10 rfl 1 rfl ?_
  refine go_aload_n dX1_take_11 rfl 0 rfl ?_
  refine go_getI dX1_take_12 fl_365_0 (fun _ _ => rfl) hf (fun x_3 hf => ?_)
  obtain ⟨a_4, rfl, hga_4⟩ := nn_some hf
  have hf := hga_4
  refine go_putI dX1_take_15 fl_620_0 (fun q hq => by cases hq; exact Or.inl rfl) (fun _ _ => rfl) rfl hf (fun h_5 hf => ?_)
  refine go_iload_n dX1_take_18 rfl 2 rfl ?_
  refine go_if_ne (tgt := 33) dX1_take_19 (by decide) hf (fun hf => ?_) (fun hf => ?_)
  · exact go_return dX1_take_33 rfl hf
  · refine go_aload_n dX1_take_22 rfl 0 rfl ?_
    refine go_getR dX1_take_23 fl_350_0 (fun _ _ => rfl) hf (fun r_6 hf => ?_)
    refine go_aload_n dX1_take_26 rfl 1 rfl ?_
    obtain ⟨a_7, rfl, hga_7⟩ := nn_some hf
    have hf := hga_7
    obtain ⟨hk, hf⟩ := kg_some hf
    obtain ⟨z_8, hc, hf⟩ := bd_some hf
    refine go_callF (y2 := M_Jx4a65c_add_9ea2d) (x2 := ⟨"java/util/List", "add", "(Ljava/lang/Object;)Z"⟩) dX1_take_27 mo_Jx4a65c_add_9ea2d ⟨Nat.le_of_ble_eq_true rfl, Nat.le_of_ble_eq_true rfl⟩ na_Jx4a65c_add_9ea2d w983 w256 w254 (by decide) (fun U hU => hU.1) hk [vR Ω (some a_4)] rfl (n_Jx4a65c_add_9ea2d (a_7) (some a_4)) rfl (csum (Nat.le_of_ble_eq_true rfl)) (t_Jx4a65c_add_9ea2d (a_7) (some a_4) h_5 _ hc) ?_
    obtain ⟨x_10, h_9⟩ := z_8
    refine go_pop dX1_take_32 rfl ?_
    exact go_return dX1_take_33 rfl hf
-- LetterBroker$Outbox.put(I)V
theorem dX9_put_0 : decode cX9_put 0 = .ok (.aload_n 0, 1) := by decide +kernel
theorem dX9_put_1 : decode cX9_put 1 = .ok (.getfield 15, 3) := by decide +kernel
theorem dX9_put_4 : decode cX9_put 4 = .ok (.sipush 2400, 3) := by decide +kernel
theorem dX9_put_7 : decode cX9_put 7 = .ok (.if_icmp .ge 32, 3) := by decide +kernel
theorem dX9_put_10 : decode cX9_put 10 = .ok (.aload_n 0, 1) := by decide +kernel
theorem dX9_put_11 : decode cX9_put 11 = .ok (.getfield 11, 3) := by decide +kernel
theorem dX9_put_14 : decode cX9_put 14 = .ok (.aload_n 0, 1) := by decide +kernel
theorem dX9_put_15 : decode cX9_put 15 = .ok (.getfield 19, 3) := by decide +kernel
theorem dX9_put_18 : decode cX9_put 18 = .ok (.aload_n 0, 1) := by decide +kernel
theorem dX9_put_19 : decode cX9_put 19 = .ok (.getfield 15, 3) := by decide +kernel
theorem dX9_put_22 : decode cX9_put 22 = .ok (.iadd, 1) := by decide +kernel
theorem dX9_put_23 : decode cX9_put 23 = .ok (.sipush 2400, 3) := by decide +kernel
theorem dX9_put_26 : decode cX9_put 26 = .ok (.irem, 1) := by decide +kernel
theorem dX9_put_27 : decode cX9_put 27 = .ok (.iload_n 1, 1) := by decide +kernel
theorem dX9_put_28 : decode cX9_put 28 = .ok (.iastore, 1) := by decide +kernel
theorem dX9_put_29 : decode cX9_put 29 = .ok (.aload_n 0, 1) := by decide +kernel
theorem dX9_put_30 : decode cX9_put 30 = .ok (.dup, 1) := by decide +kernel
theorem dX9_put_31 : decode cX9_put 31 = .ok (.getfield 15, 3) := by decide +kernel
theorem dX9_put_34 : decode cX9_put 34 = .ok (.iconst 1, 1) := by decide +kernel
theorem dX9_put_35 : decode cX9_put 35 = .ok (.iadd, 1) := by decide +kernel
theorem dX9_put_36 : decode cX9_put 36 = .ok (.putfield 15, 3) := by decide +kernel
theorem dX9_put_39 : decode cX9_put 39 = .ok (.return_, 1) := by decide +kernel
def f_X9_put (a0 : Nat) (x1 : Int32) (h : AH) : Option (Unit × AH) := rdI h a0 10 0 fun x_1 =>
  (if 2400 ≤ x_1 then
    some ((), h)
  else
    rdR h a0 10 1 fun r_2 =>
    rdI h a0 10 2 fun x_3 =>
    rdI h a0 10 0 fun x_4 =>
    nz 2400 (
    nn r_2 fun a_5 =>
    asI h a_5 ((x_3 + x_4) - (x_3 + x_4) / 2400 * 2400) x1 fun h_6 =>
    rdI h_6 a0 10 0 fun x_7 =>
    wrI h_6 a0 10 0 (x_7 + 1) fun h_8 =>
    some ((), h_8)))
set_option maxRecDepth 20000 in
set_option maxHeartbeats 4000000 in
theorem t_X9_put {Ω : Om} (a0 : Nat) (x1 : Int32) (h : AH) (q : Unit × AH) (hf : f_X9_put a0 x1 h = some q) : Go Ω M_X9_put 0 (lv_args 0 [vR Ω (some a0), .int x1]) [] h none q.2 := by
  unfold f_X9_put at hf
  rw [la_R, la_I, la_0]
  refine go_sub (lv' := [(0, vR Ω (some a0)), (1, .int x1)]) [0, 1] rfl ?_
  refine go_aload_n dX9_put_0 rfl 0 rfl ?_
  refine go_getI dX9_put_1 fl_183_0 (fun _ _ => rfl) hf (fun x_1 hf => ?_)
  refine go_sipush 2400 dX9_put_4 (by decide) ?_
  refine go_icmp_ge (tgt := 39) dX9_put_7 (by decide) hf (fun hf => ?_) (fun hf => ?_)
  · exact go_return dX9_put_39 rfl hf
  · refine go_aload_n dX9_put_10 rfl 0 rfl ?_
    refine go_getR dX9_put_11 fl_185_0 (fun _ _ => rfl) hf (fun r_2 hf => ?_)
    refine go_aload_n dX9_put_14 rfl 0 rfl ?_
    refine go_getI dX9_put_15 fl_186_0 (fun _ _ => rfl) hf (fun x_3 hf => ?_)
    refine go_aload_n dX9_put_18 rfl 0 rfl ?_
    refine go_getI dX9_put_19 fl_183_0 (fun _ _ => rfl) hf (fun x_4 hf => ?_)
    refine go_iadd dX9_put_22 ?_
    refine go_sipush 2400 dX9_put_23 (by decide) ?_
    obtain ⟨hz0, hf⟩ := nz_some hf
    refine go_irem dX9_put_26 hz0 ?_
    refine go_iload_n dX9_put_27 rfl 1 rfl ?_
    obtain ⟨a_5, rfl, hga_5⟩ := nn_some hf
    have hf := hga_5
    refine go_iastore dX9_put_28 hf (fun h_6 hf => ?_)
    refine go_aload_n dX9_put_29 rfl 0 rfl ?_
    refine go_dup dX9_put_30 catR ?_
    refine go_getI dX9_put_31 fl_183_0 (fun _ _ => rfl) hf (fun x_7 hf => ?_)
    refine go_iconst 1 dX9_put_34 rfl ?_
    refine go_iadd dX9_put_35 ?_
    refine go_putI dX9_put_36 fl_183_0 (fun q hq => by cases hq; exact Or.inl rfl) (fun _ _ => rfl) rfl hf (fun h_8 hf => ?_)
    exact go_return dX9_put_39 rfl hf
-- LetterBroker$Outbox.begin(II)V
theorem dX9_begin_0 : decode cX9_begin 0 = .ok (.aload_n 0, 1) := by decide +kernel
theorem dX9_begin_1 : decode cX9_begin 1 = .ok (.iconst 1, 1) := by decide +kernel
theorem dX9_begin_2 : decode cX9_begin 2 = .ok (.invokevirtual 22, 3) := by decide +kernel
theorem dX9_begin_5 : decode cX9_begin 5 = .ok (.aload_n 0, 1) := by decide +kernel
theorem dX9_begin_6 : decode cX9_begin 6 = .ok (.iload_n 1, 1) := by decide +kernel
theorem dX9_begin_7 : decode cX9_begin 7 = .ok (.invokevirtual 22, 3) := by decide +kernel
theorem dX9_begin_10 : decode cX9_begin 10 = .ok (.aload_n 0, 1) := by decide +kernel
theorem dX9_begin_11 : decode cX9_begin 11 = .ok (.aload_n 0, 1) := by decide +kernel
theorem dX9_begin_12 : decode cX9_begin 12 = .ok (.getfield 19, 3) := by decide +kernel
theorem dX9_begin_15 : decode cX9_begin 15 = .ok (.aload_n 0, 1) := by decide +kernel
theorem dX9_begin_16 : decode cX9_begin 16 = .ok (.getfield 15, 3) := by decide +kernel
theorem dX9_begin_19 : decode cX9_begin 19 = .ok (.iadd, 1) := by decide +kernel
theorem dX9_begin_20 : decode cX9_begin 20 = .ok (.sipush 2400, 3) := by decide +kernel
theorem dX9_begin_23 : decode cX9_begin 23 = .ok (.irem, 1) := by decide +kernel
theorem dX9_begin_24 : decode cX9_begin 24 = .ok (.putfield 26, 3) := by decide +kernel
theorem dX9_begin_27 : decode cX9_begin 27 = .ok (.aload_n 0, 1) := by decide +kernel
theorem dX9_begin_28 : decode cX9_begin 28 = .ok (.iconst 0, 1) := by decide +kernel
theorem dX9_begin_29 : decode cX9_begin 29 = .ok (.invokevirtual 22, 3) := by decide +kernel
theorem dX9_begin_32 : decode cX9_begin 32 = .ok (.aload_n 0, 1) := by decide +kernel
theorem dX9_begin_33 : decode cX9_begin 33 = .ok (.aload_n 0, 1) := by decide +kernel
theorem dX9_begin_34 : decode cX9_begin 34 = .ok (.getfield 15, 3) := by decide +kernel
theorem dX9_begin_37 : decode cX9_begin 37 = .ok (.putfield 29, 3) := by decide +kernel
theorem dX9_begin_40 : decode cX9_begin 40 = .ok (.aload_n 0, 1) := by decide +kernel
theorem dX9_begin_41 : decode cX9_begin 41 = .ok (.iload_n 2, 1) := by decide +kernel
theorem dX9_begin_42 : decode cX9_begin 42 = .ok (.bipush 8, 2) := by decide +kernel
theorem dX9_begin_44 : decode cX9_begin 44 = .ok (.ishr, 1) := by decide +kernel
theorem dX9_begin_45 : decode cX9_begin 45 = .ok (.invokevirtual 22, 3) := by decide +kernel
theorem dX9_begin_48 : decode cX9_begin 48 = .ok (.aload_n 0, 1) := by decide +kernel
theorem dX9_begin_49 : decode cX9_begin 49 = .ok (.iload_n 2, 1) := by decide +kernel
theorem dX9_begin_50 : decode cX9_begin 50 = .ok (.sipush 255, 3) := by decide +kernel
theorem dX9_begin_53 : decode cX9_begin 53 = .ok (.iand, 1) := by decide +kernel
theorem dX9_begin_54 : decode cX9_begin 54 = .ok (.invokevirtual 22, 3) := by decide +kernel
theorem dX9_begin_57 : decode cX9_begin 57 = .ok (.return_, 1) := by decide +kernel
def f_X9_begin (a0 : Nat) (x1 : Int32) (x2 : Int32) (h : AH) : Option (Unit × AH) := kg h a0 10 (bd (f_X9_put a0 1 h) fun _ h_2 =>
  kg h_2 a0 10 (bd (f_X9_put a0 x1 h_2) fun _ h_4 =>
  rdI h_4 a0 10 2 fun x_5 =>
  rdI h_4 a0 10 0 fun x_6 =>
  nz 2400 (
  wrI h_4 a0 10 3 ((x_5 + x_6) - (x_5 + x_6) / 2400 * 2400) fun h_7 =>
  kg h_7 a0 10 (bd (f_X9_put a0 0 h_7) fun _ h_9 =>
  rdI h_9 a0 10 0 fun x_10 =>
  wrI h_9 a0 10 4 x_10 fun h_11 =>
  kg h_11 a0 10 (bd (f_X9_put a0 (x2 >>> ((8 : Int32) &&& 31)) h_11) fun _ h_13 =>
  kg h_13 a0 10 (bd (f_X9_put a0 (x2 &&& 255) h_13) fun _ h_15 =>
  some ((), h_15)))))))
set_option maxRecDepth 20000 in
set_option maxHeartbeats 4000000 in
theorem t_X9_begin {Ω : Om} (a0 : Nat) (x1 : Int32) (x2 : Int32) (h : AH) (q : Unit × AH) (hf : f_X9_begin a0 x1 x2 h = some q) : Go Ω M_X9_begin 0 (lv_args 0 [vR Ω (some a0), .int x1, .int x2]) [] h none q.2 := by
  unfold f_X9_begin at hf
  rw [la_R, la_I, la_I, la_0]
  refine go_sub (lv' := [(0, vR Ω (some a0)), (1, .int x1), (2, .int x2)]) [0, 1, 2] rfl ?_
  refine go_aload_n dX9_begin_0 rfl 0 rfl ?_
  refine go_iconst 1 dX9_begin_1 rfl ?_
  obtain ⟨hk, hf⟩ := kg_some hf
  obtain ⟨z_1, hc, hf⟩ := bd_some hf
  refine go_callV (y2 := M_X9_put) (c2 := 10) dX9_begin_2 mo_X9_put ⟨Nat.le_of_ble_eq_true rfl, Nat.le_of_ble_eq_true rfl⟩ na_X9_put w438 w439 (by decide) rfl w440 hk [.int 1] rfl (n_X9_put (a0) 1) rfl (csum (Nat.le_of_ble_eq_true rfl)) (t_X9_put (a0) 1 h _ hc) ?_
  obtain ⟨_, h_2⟩ := z_1
  refine go_aload_n dX9_begin_5 rfl 0 rfl ?_
  refine go_iload_n dX9_begin_6 rfl 1 rfl ?_
  obtain ⟨hk, hf⟩ := kg_some hf
  obtain ⟨z_3, hc, hf⟩ := bd_some hf
  refine go_callV (y2 := M_X9_put) (c2 := 10) dX9_begin_7 mo_X9_put ⟨Nat.le_of_ble_eq_true rfl, Nat.le_of_ble_eq_true rfl⟩ na_X9_put w438 w439 (by decide) rfl w440 hk [.int x1] rfl (n_X9_put (a0) x1) rfl (csum (Nat.le_of_ble_eq_true rfl)) (t_X9_put (a0) x1 h_2 _ hc) ?_
  obtain ⟨_, h_4⟩ := z_3
  refine go_aload_n dX9_begin_10 rfl 0 rfl ?_
  refine go_aload_n dX9_begin_11 rfl 0 rfl ?_
  refine go_getI dX9_begin_12 fl_186_0 (fun _ _ => rfl) hf (fun x_5 hf => ?_)
  refine go_aload_n dX9_begin_15 rfl 0 rfl ?_
  refine go_getI dX9_begin_16 fl_183_0 (fun _ _ => rfl) hf (fun x_6 hf => ?_)
  refine go_iadd dX9_begin_19 ?_
  refine go_sipush 2400 dX9_begin_20 (by decide) ?_
  obtain ⟨hz0, hf⟩ := nz_some hf
  refine go_irem dX9_begin_23 hz0 ?_
  refine go_putI dX9_begin_24 fl_187_0 (fun q hq => by cases hq; exact Or.inl rfl) (fun _ _ => rfl) rfl hf (fun h_7 hf => ?_)
  refine go_aload_n dX9_begin_27 rfl 0 rfl ?_
  refine go_iconst 0 dX9_begin_28 rfl ?_
  obtain ⟨hk, hf⟩ := kg_some hf
  obtain ⟨z_8, hc, hf⟩ := bd_some hf
  refine go_callV (y2 := M_X9_put) (c2 := 10) dX9_begin_29 mo_X9_put ⟨Nat.le_of_ble_eq_true rfl, Nat.le_of_ble_eq_true rfl⟩ na_X9_put w438 w439 (by decide) rfl w440 hk [.int 0] rfl (n_X9_put (a0) 0) rfl (csum (Nat.le_of_ble_eq_true rfl)) (t_X9_put (a0) 0 h_7 _ hc) ?_
  obtain ⟨_, h_9⟩ := z_8
  refine go_aload_n dX9_begin_32 rfl 0 rfl ?_
  refine go_aload_n dX9_begin_33 rfl 0 rfl ?_
  refine go_getI dX9_begin_34 fl_183_0 (fun _ _ => rfl) hf (fun x_10 hf => ?_)
  refine go_putI dX9_begin_37 fl_188_0 (fun q hq => by cases hq; exact Or.inl rfl) (fun _ _ => rfl) rfl hf (fun h_11 hf => ?_)
  refine go_aload_n dX9_begin_40 rfl 0 rfl ?_
  refine go_iload_n dX9_begin_41 rfl 2 rfl ?_
  refine go_bipush 8 dX9_begin_42 (by decide) ?_
  refine go_ishr dX9_begin_44 ?_
  obtain ⟨hk, hf⟩ := kg_some hf
  obtain ⟨z_12, hc, hf⟩ := bd_some hf
  refine go_callV (y2 := M_X9_put) (c2 := 10) dX9_begin_45 mo_X9_put ⟨Nat.le_of_ble_eq_true rfl, Nat.le_of_ble_eq_true rfl⟩ na_X9_put w438 w439 (by decide) rfl w440 hk [.int (x2 >>> ((8 : Int32) &&& 31))] rfl (n_X9_put (a0) (x2 >>> ((8 : Int32) &&& 31))) rfl (csum (Nat.le_of_ble_eq_true rfl)) (t_X9_put (a0) (x2 >>> ((8 : Int32) &&& 31)) h_11 _ hc) ?_
  obtain ⟨_, h_13⟩ := z_12
  refine go_aload_n dX9_begin_48 rfl 0 rfl ?_
  refine go_iload_n dX9_begin_49 rfl 2 rfl ?_
  refine go_sipush 255 dX9_begin_50 (by decide) ?_
  refine go_iand dX9_begin_53 ?_
  obtain ⟨hk, hf⟩ := kg_some hf
  obtain ⟨z_14, hc, hf⟩ := bd_some hf
  refine go_callV (y2 := M_X9_put) (c2 := 10) dX9_begin_54 mo_X9_put ⟨Nat.le_of_ble_eq_true rfl, Nat.le_of_ble_eq_true rfl⟩ na_X9_put w438 w439 (by decide) rfl w440 hk [.int (x2 &&& 255)] rfl (n_X9_put (a0) (x2 &&& 255)) rfl (csum (Nat.le_of_ble_eq_true rfl)) (t_X9_put (a0) (x2 &&& 255) h_13 _ hc) ?_
  obtain ⟨_, h_15⟩ := z_14
  exact go_return dX9_begin_57 rfl hf
-- LetterBroker$Outbox.end()V
theorem dX9_end_0 : decode cX9_end 0 = .ok (.aload_n 0, 1) := by decide +kernel
theorem dX9_end_1 : decode cX9_end 1 = .ok (.getfield 11, 3) := by decide +kernel
theorem dX9_end_4 : decode cX9_end 4 = .ok (.aload_n 0, 1) := by decide +kernel
theorem dX9_end_5 : decode cX9_end 5 = .ok (.getfield 26, 3) := by decide +kernel
theorem dX9_end_8 : decode cX9_end 8 = .ok (.aload_n 0, 1) := by decide +kernel
theorem dX9_end_9 : decode cX9_end 9 = .ok (.getfield 15, 3) := by decide +kernel
theorem dX9_end_12 : decode cX9_end 12 = .ok (.aload_n 0, 1) := by decide +kernel
theorem dX9_end_13 : decode cX9_end 13 = .ok (.getfield 29, 3) := by decide +kernel
theorem dX9_end_16 : decode cX9_end 16 = .ok (.isub, 1) := by decide +kernel
theorem dX9_end_17 : decode cX9_end 17 = .ok (.iastore, 1) := by decide +kernel
theorem dX9_end_18 : decode cX9_end 18 = .ok (.aload_n 0, 1) := by decide +kernel
theorem dX9_end_19 : decode cX9_end 19 = .ok (.sipush 206, 3) := by decide +kernel
theorem dX9_end_22 : decode cX9_end 22 = .ok (.invokevirtual 22, 3) := by decide +kernel
theorem dX9_end_25 : decode cX9_end 25 = .ok (.return_, 1) := by decide +kernel
def f_X9_end (a0 : Nat) (h : AH) : Option (Unit × AH) := rdR h a0 10 1 fun r_1 =>
  rdI h a0 10 3 fun x_2 =>
  rdI h a0 10 0 fun x_3 =>
  rdI h a0 10 4 fun x_4 =>
  nn r_1 fun a_5 =>
  asI h a_5 x_2 (x_3 - x_4) fun h_6 =>
  kg h_6 a0 10 (bd (f_X9_put a0 206 h_6) fun _ h_8 =>
  some ((), h_8))
set_option maxRecDepth 20000 in
set_option maxHeartbeats 4000000 in
theorem t_X9_end {Ω : Om} (a0 : Nat) (h : AH) (q : Unit × AH) (hf : f_X9_end a0 h = some q) : Go Ω M_X9_end 0 (lv_args 0 [vR Ω (some a0)]) [] h none q.2 := by
  unfold f_X9_end at hf
  rw [la_R, la_0]
  refine go_sub (lv' := [(0, vR Ω (some a0))]) [0] rfl ?_
  refine go_aload_n dX9_end_0 rfl 0 rfl ?_
  refine go_getR dX9_end_1 fl_185_0 (fun _ _ => rfl) hf (fun r_1 hf => ?_)
  refine go_aload_n dX9_end_4 rfl 0 rfl ?_
  refine go_getI dX9_end_5 fl_187_0 (fun _ _ => rfl) hf (fun x_2 hf => ?_)
  refine go_aload_n dX9_end_8 rfl 0 rfl ?_
  refine go_getI dX9_end_9 fl_183_0 (fun _ _ => rfl) hf (fun x_3 hf => ?_)
  refine go_aload_n dX9_end_12 rfl 0 rfl ?_
  refine go_getI dX9_end_13 fl_188_0 (fun _ _ => rfl) hf (fun x_4 hf => ?_)
  refine go_isub dX9_end_16 ?_
  obtain ⟨a_5, rfl, hga_5⟩ := nn_some hf
  have hf := hga_5
  refine go_iastore dX9_end_17 hf (fun h_6 hf => ?_)
  refine go_aload_n dX9_end_18 rfl 0 rfl ?_
  refine go_sipush 206 dX9_end_19 (by decide) ?_
  obtain ⟨hk, hf⟩ := kg_some hf
  obtain ⟨z_7, hc, hf⟩ := bd_some hf
  refine go_callV (y2 := M_X9_put) (c2 := 10) dX9_end_22 mo_X9_put ⟨Nat.le_of_ble_eq_true rfl, Nat.le_of_ble_eq_true rfl⟩ na_X9_put w438 w439 (by decide) rfl w440 hk [.int 206] rfl (n_X9_put (a0) 206) rfl (csum (Nat.le_of_ble_eq_true rfl)) (t_X9_put (a0) 206 h_6 _ hc) ?_
  obtain ⟨_, h_8⟩ := z_7
  exact go_return dX9_end_25 rfl hf
-- LetterBroker$Outbox.putContent(ILLetterBroker$Draft;)V
theorem dX9_putContent_0 : decode cX9_putContent 0 = .ok (.aload_n 0, 1) := by decide +kernel
theorem dX9_putContent_1 : decode cX9_putContent 1 = .ok (.iconst 2, 1) := by decide +kernel
theorem dX9_putContent_2 : decode cX9_putContent 2 = .ok (.invokevirtual 22, 3) := by decide +kernel
theorem dX9_putContent_5 : decode cX9_putContent 5 = .ok (.aload_n 0, 1) := by decide +kernel
theorem dX9_putContent_6 : decode cX9_putContent 6 = .ok (.iload_n 1, 1) := by decide +kernel
theorem dX9_putContent_7 : decode cX9_putContent 7 = .ok (.invokevirtual 22, 3) := by decide +kernel
theorem dX9_putContent_10 : decode cX9_putContent 10 = .ok (.aload_n 0, 1) := by decide +kernel
theorem dX9_putContent_11 : decode cX9_putContent 11 = .ok (.iconst 1, 1) := by decide +kernel
theorem dX9_putContent_12 : decode cX9_putContent 12 = .ok (.invokevirtual 22, 3) := by decide +kernel
theorem dX9_putContent_15 : decode cX9_putContent 15 = .ok (.aload_n 0, 1) := by decide +kernel
theorem dX9_putContent_16 : decode cX9_putContent 16 = .ok (.aload_n 2, 1) := by decide +kernel
theorem dX9_putContent_17 : decode cX9_putContent 17 = .ok (.getfield 68, 3) := by decide +kernel
theorem dX9_putContent_20 : decode cX9_putContent 20 = .ok (.invokevirtual 22, 3) := by decide +kernel
theorem dX9_putContent_23 : decode cX9_putContent 23 = .ok (.aload_n 0, 1) := by decide +kernel
theorem dX9_putContent_24 : decode cX9_putContent 24 = .ok (.sipush 206, 3) := by decide +kernel
theorem dX9_putContent_27 : decode cX9_putContent 27 = .ok (.invokevirtual 22, 3) := by decide +kernel
theorem dX9_putContent_30 : decode cX9_putContent 30 = .ok (.aload_n 2, 1) := by decide +kernel
theorem dX9_putContent_31 : decode cX9_putContent 31 = .ok (.getfield 68, 3) := by decide +kernel
theorem dX9_putContent_34 : decode cX9_putContent 34 = .ok (.ifCond .le 63, 3) := by decide +kernel
theorem dX9_putContent_37 : decode cX9_putContent 37 = .ok (.aload_n 0, 1) := by decide +kernel
theorem dX9_putContent_38 : decode cX9_putContent 38 = .ok (.iconst 3, 1) := by decide +kernel
theorem dX9_putContent_39 : decode cX9_putContent 39 = .ok (.invokevirtual 22, 3) := by decide +kernel
theorem dX9_putContent_42 : decode cX9_putContent 42 = .ok (.aload_n 0, 1) := by decide +kernel
theorem dX9_putContent_43 : decode cX9_putContent 43 = .ok (.iload_n 1, 1) := by decide +kernel
theorem dX9_putContent_44 : decode cX9_putContent 44 = .ok (.invokevirtual 22, 3) := by decide +kernel
theorem dX9_putContent_47 : decode cX9_putContent 47 = .ok (.aload_n 0, 1) := by decide +kernel
theorem dX9_putContent_48 : decode cX9_putContent 48 = .ok (.aload_n 2, 1) := by decide +kernel
theorem dX9_putContent_49 : decode cX9_putContent 49 = .ok (.getfield 68, 3) := by decide +kernel
theorem dX9_putContent_52 : decode cX9_putContent 52 = .ok (.invokevirtual 22, 3) := by decide +kernel
theorem dX9_putContent_55 : decode cX9_putContent 55 = .ok (.aload_n 2, 1) := by decide +kernel
theorem dX9_putContent_56 : decode cX9_putContent 56 = .ok (.getfield 68, 3) := by decide +kernel
theorem dX9_putContent_59 : decode cX9_putContent 59 = .ok (.iconst 1, 1) := by decide +kernel
theorem dX9_putContent_60 : decode cX9_putContent 60 = .ok (.isub, 1) := by decide +kernel
theorem dX9_putContent_61 : decode cX9_putContent 61 = .ok (.istore_n 3, 1) := by decide +kernel
theorem dX9_putContent_62 : decode cX9_putContent 62 = .ok (.iload_n 3, 1) := by decide +kernel
theorem dX9_putContent_63 : decode cX9_putContent 63 = .ok (.ifCond .lt 27, 3) := by decide +kernel
theorem dX9_putContent_66 : decode cX9_putContent 66 = .ok (.aload_n 0, 1) := by decide +kernel
theorem dX9_putContent_67 : decode cX9_putContent 67 = .ok (.aload_n 2, 1) := by decide +kernel
theorem dX9_putContent_68 : decode cX9_putContent 68 = .ok (.getfield 71, 3) := by decide +kernel
theorem dX9_putContent_71 : decode cX9_putContent 71 = .ok (.bipush 8, 2) := by decide +kernel
theorem dX9_putContent_73 : decode cX9_putContent 73 = .ok (.iload_n 3, 1) := by decide +kernel
theorem dX9_putContent_74 : decode cX9_putContent 74 = .ok (.imul, 1) := by decide +kernel
theorem dX9_putContent_75 : decode cX9_putContent 75 = .ok (.lushr, 1) := by decide +kernel
theorem dX9_putContent_76 : decode cX9_putContent 76 = .ok (.l2i, 1) := by decide +kernel
theorem dX9_putContent_77 : decode cX9_putContent 77 = .ok (.sipush 255, 3) := by decide +kernel
theorem dX9_putContent_80 : decode cX9_putContent 80 = .ok (.iand, 1) := by decide +kernel
theorem dX9_putContent_81 : decode cX9_putContent 81 = .ok (.invokevirtual 22, 3) := by decide +kernel
theorem dX9_putContent_84 : decode cX9_putContent 84 = .ok (.iinc 3 (-1), 3) := by decide +kernel
theorem dX9_putContent_87 : decode cX9_putContent 87 = .ok (.goto (-25), 3) := by decide +kernel
theorem dX9_putContent_90 : decode cX9_putContent 90 = .ok (.aload_n 0, 1) := by decide +kernel
theorem dX9_putContent_91 : decode cX9_putContent 91 = .ok (.sipush 206, 3) := by decide +kernel
theorem dX9_putContent_94 : decode cX9_putContent 94 = .ok (.invokevirtual 22, 3) := by decide +kernel
theorem dX9_putContent_97 : decode cX9_putContent 97 = .ok (.return_, 1) := by decide +kernel
def f_X9_putContent_90 (a0 : Nat) (h : AH) : Option (Unit × AH) := kg h a0 10 (bd (f_X9_put a0 206 h) fun _ h_2 =>
  some ((), h_2))
set_option maxRecDepth 20000 in
set_option maxHeartbeats 4000000 in
theorem t_X9_putContent_90 {Ω : Om} (a0 : Nat) (h : AH) (q : Unit × AH) (hf : f_X9_putContent_90 a0 h = some q) : Go Ω M_X9_putContent 90 [(0, vR Ω (some a0))] [] h none q.2 := by
  unfold f_X9_putContent_90 at hf
  refine go_aload_n dX9_putContent_90 rfl 0 rfl ?_
  refine go_sipush 206 dX9_putContent_91 (by decide) ?_
  obtain ⟨hk, hf⟩ := kg_some hf
  obtain ⟨z_1, hc, hf⟩ := bd_some hf
  refine go_callV (y2 := M_X9_put) (c2 := 10) dX9_putContent_94 mo_X9_put ⟨Nat.le_of_ble_eq_true rfl, Nat.le_of_ble_eq_true rfl⟩ na_X9_put w438 w439 (by decide) rfl w440 hk [.int 206] rfl (n_X9_put (a0) 206) rfl (csum (Nat.le_of_ble_eq_true rfl)) (t_X9_put (a0) 206 h _ hc) ?_
  obtain ⟨_, h_2⟩ := z_1
  exact go_return dX9_putContent_97 rfl hf
def f_X9_putContent_62 : Nat → Nat → Option Nat → Int32 → AH → Option (Unit × AH)
  | 0, _, _, _, _ => none
  | n + 1, a0, r2, x3, h => (if x3 < 0 then
      f_X9_putContent_90 a0 h
    else
      nn r2 fun a_1 =>
      rdJ h a_1 5 5 fun x_2 =>
      kg h a0 10 (bd (f_X9_put a0 ((((x_2.toUInt64 >>> ((8 * x3).toInt64.toUInt64 &&& Int64.toUInt64 63)).toInt64).toInt32) &&& 255) h) fun _ h_4 =>
      f_X9_putContent_62 n a0 (some a_1) (x3 + (-1)) h_4))
set_option maxRecDepth 20000 in
set_option maxHeartbeats 4000000 in
theorem t_X9_putContent_62 {Ω : Om} : ∀ (n : Nat) (a0 : Nat) (r2 : Option Nat) (x3 : Int32) (h : AH) (q : Unit × AH), f_X9_putContent_62 n a0 r2 x3 h = some q → Go Ω M_X9_putContent 62 [(0, vR Ω (some a0)), (2, vR Ω r2), (3, .int x3)] [] h none q.2 := by
  intro n
  induction n with
  | zero => intro a0 r2 x3 h q hf; cases hf
  | succ n ih =>
    intro a0 r2 x3 h q hf
    rw [f_X9_putContent_62] at hf
    refine go_iload_n dX9_putContent_62 rfl 2 rfl ?_
    refine go_if_lt (tgt := 90) dX9_putContent_63 (by decide) hf (fun hf => ?_) (fun hf => ?_)
    · refine go_sub (lv' := [(0, vR Ω (some a0))]) [0] rfl ?_
      exact t_X9_putContent_90 a0 h q hf
    · refine go_aload_n dX9_putContent_66 rfl 0 rfl ?_
      refine go_aload_n dX9_putContent_67 rfl 1 rfl ?_
      obtain ⟨a_1, rfl, hga_1⟩ := nn_some hf
      have hf := hga_1
      refine go_getJ dX9_putContent_68 fl_956_0 (fun _ _ => rfl) hf (fun x_2 hf => ?_)
      refine go_bipush 8 dX9_putContent_71 (by decide) ?_
      refine go_iload_n dX9_putContent_73 rfl 2 rfl ?_
      refine go_imul dX9_putContent_74 ?_
      refine go_lushr dX9_putContent_75 ?_
      refine go_l2i dX9_putContent_76 ?_
      refine go_sipush 255 dX9_putContent_77 (by decide) ?_
      refine go_iand dX9_putContent_80 ?_
      obtain ⟨hk, hf⟩ := kg_some hf
      obtain ⟨z_3, hc, hf⟩ := bd_some hf
      refine go_callV (y2 := M_X9_put) (c2 := 10) dX9_putContent_81 mo_X9_put ⟨Nat.le_of_ble_eq_true rfl, Nat.le_of_ble_eq_true rfl⟩ na_X9_put w438 w439 (by decide) rfl w440 hk [.int ((((x_2.toUInt64 >>> ((8 * x3).toInt64.toUInt64 &&& Int64.toUInt64 63)).toInt64).toInt32) &&& 255)] rfl (n_X9_put (a0) ((((x_2.toUInt64 >>> ((8 * x3).toInt64.toUInt64 &&& Int64.toUInt64 63)).toInt64).toInt32) &&& 255)) rfl (csum (Nat.le_of_ble_eq_true rfl)) (t_X9_put (a0) ((((x_2.toUInt64 >>> ((8 * x3).toInt64.toUInt64 &&& Int64.toUInt64 63)).toInt64).toInt32) &&& 255) h _ hc) ?_
      obtain ⟨_, h_4⟩ := z_3
      refine go_iinc (j := 2) (v := x3 + (-1)) (lv' := [(3, .int (x3 + (-1))), (0, vR Ω (some a0)), (2, vR Ω (some a_1))]) dX9_putContent_84 rfl rfl (by decide) (by first | rfl | simp [catR, catI, catJ]) ?_
      refine go_goto (tgt := 62) dX9_putContent_87 (by decide) ?_
      refine go_sub (lv' := [(0, vR Ω (some a0)), (2, vR Ω (some a_1)), (3, .int (x3 + (-1)))]) [1, 2, 0] rfl ?_
      exact ih a0 (some a_1) (x3 + (-1)) h_4 q hf
def f_X9_putContent (a0 : Nat) (x1 : Int32) (r2 : Option Nat) (h : AH) : Option (Unit × AH) := kg h a0 10 (bd (f_X9_put a0 2 h) fun _ h_2 =>
  kg h_2 a0 10 (bd (f_X9_put a0 x1 h_2) fun _ h_4 =>
  kg h_4 a0 10 (bd (f_X9_put a0 1 h_4) fun _ h_6 =>
  nn r2 fun a_7 =>
  rdI h_6 a_7 5 4 fun x_8 =>
  kg h_6 a0 10 (bd (f_X9_put a0 x_8 h_6) fun _ h_10 =>
  kg h_10 a0 10 (bd (f_X9_put a0 206 h_10) fun _ h_12 =>
  rdI h_12 a_7 5 4 fun x_13 =>
  (if x_13 ≤ 0 then
    some ((), h_12)
  else
    kg h_12 a0 10 (bd (f_X9_put a0 3 h_12) fun _ h_15 =>
    kg h_15 a0 10 (bd (f_X9_put a0 x1 h_15) fun _ h_17 =>
    rdI h_17 a_7 5 4 fun x_18 =>
    kg h_17 a0 10 (bd (f_X9_put a0 x_18 h_17) fun _ h_20 =>
    rdI h_20 a_7 5 4 fun x_21 =>
    lt (x_21 - 1) fun x_22 =>
    f_X9_putContent_62 FU a0 (some a_7) x_22 h_20)))))))))
set_option maxRecDepth 20000 in
set_option maxHeartbeats 4000000 in
theorem t_X9_putContent {Ω : Om} (a0 : Nat) (x1 : Int32) (r2 : Option Nat) (h : AH) (q : Unit × AH) (hf : f_X9_putContent a0 x1 r2 h = some q) : Go Ω M_X9_putContent 0 (lv_args 0 [vR Ω (some a0), .int x1, vR Ω r2]) [] h none q.2 := by
  unfold f_X9_putContent at hf
  rw [la_R, la_I, la_R, la_0]
  refine go_sub (lv' := [(0, vR Ω (some a0)), (1, .int x1), (2, vR Ω r2)]) [0, 1, 2] rfl ?_
  refine go_aload_n dX9_putContent_0 rfl 0 rfl ?_
  refine go_iconst 2 dX9_putContent_1 rfl ?_
  obtain ⟨hk, hf⟩ := kg_some hf
  obtain ⟨z_1, hc, hf⟩ := bd_some hf
  refine go_callV (y2 := M_X9_put) (c2 := 10) dX9_putContent_2 mo_X9_put ⟨Nat.le_of_ble_eq_true rfl, Nat.le_of_ble_eq_true rfl⟩ na_X9_put w438 w439 (by decide) rfl w440 hk [.int 2] rfl (n_X9_put (a0) 2) rfl (csum (Nat.le_of_ble_eq_true rfl)) (t_X9_put (a0) 2 h _ hc) ?_
  obtain ⟨_, h_2⟩ := z_1
  refine go_aload_n dX9_putContent_5 rfl 0 rfl ?_
  refine go_iload_n dX9_putContent_6 rfl 1 rfl ?_
  obtain ⟨hk, hf⟩ := kg_some hf
  obtain ⟨z_3, hc, hf⟩ := bd_some hf
  refine go_callV (y2 := M_X9_put) (c2 := 10) dX9_putContent_7 mo_X9_put ⟨Nat.le_of_ble_eq_true rfl, Nat.le_of_ble_eq_true rfl⟩ na_X9_put w438 w439 (by decide) rfl w440 hk [.int x1] rfl (n_X9_put (a0) x1) rfl (csum (Nat.le_of_ble_eq_true rfl)) (t_X9_put (a0) x1 h_2 _ hc) ?_
  obtain ⟨_, h_4⟩ := z_3
  refine go_aload_n dX9_putContent_10 rfl 0 rfl ?_
  refine go_iconst 1 dX9_putContent_11 rfl ?_
  obtain ⟨hk, hf⟩ := kg_some hf
  obtain ⟨z_5, hc, hf⟩ := bd_some hf
  refine go_callV (y2 := M_X9_put) (c2 := 10) dX9_putContent_12 mo_X9_put ⟨Nat.le_of_ble_eq_true rfl, Nat.le_of_ble_eq_true rfl⟩ na_X9_put w438 w439 (by decide) rfl w440 hk [.int 1] rfl (n_X9_put (a0) 1) rfl (csum (Nat.le_of_ble_eq_true rfl)) (t_X9_put (a0) 1 h_4 _ hc) ?_
  obtain ⟨_, h_6⟩ := z_5
  refine go_aload_n dX9_putContent_15 rfl 0 rfl ?_
  refine go_aload_n dX9_putContent_16 rfl 2 rfl ?_
  obtain ⟨a_7, rfl, hga_7⟩ := nn_some hf
  have hf := hga_7
  refine go_getI dX9_putContent_17 fl_953_0 (fun _ _ => rfl) hf (fun x_8 hf => ?_)
  obtain ⟨hk, hf⟩ := kg_some hf
  obtain ⟨z_9, hc, hf⟩ := bd_some hf
  refine go_callV (y2 := M_X9_put) (c2 := 10) dX9_putContent_20 mo_X9_put ⟨Nat.le_of_ble_eq_true rfl, Nat.le_of_ble_eq_true rfl⟩ na_X9_put w438 w439 (by decide) rfl w440 hk [.int x_8] rfl (n_X9_put (a0) x_8) rfl (csum (Nat.le_of_ble_eq_true rfl)) (t_X9_put (a0) x_8 h_6 _ hc) ?_
  obtain ⟨_, h_10⟩ := z_9
  refine go_aload_n dX9_putContent_23 rfl 0 rfl ?_
  refine go_sipush 206 dX9_putContent_24 (by decide) ?_
  obtain ⟨hk, hf⟩ := kg_some hf
  obtain ⟨z_11, hc, hf⟩ := bd_some hf
  refine go_callV (y2 := M_X9_put) (c2 := 10) dX9_putContent_27 mo_X9_put ⟨Nat.le_of_ble_eq_true rfl, Nat.le_of_ble_eq_true rfl⟩ na_X9_put w438 w439 (by decide) rfl w440 hk [.int 206] rfl (n_X9_put (a0) 206) rfl (csum (Nat.le_of_ble_eq_true rfl)) (t_X9_put (a0) 206 h_10 _ hc) ?_
  obtain ⟨_, h_12⟩ := z_11
  refine go_aload_n dX9_putContent_30 rfl 2 rfl ?_
  refine go_getI dX9_putContent_31 fl_953_0 (fun _ _ => rfl) hf (fun x_13 hf => ?_)
  refine go_if_le (tgt := 97) dX9_putContent_34 (by decide) hf (fun hf => ?_) (fun hf => ?_)
  · exact go_return dX9_putContent_97 rfl hf
  · refine go_aload_n dX9_putContent_37 rfl 0 rfl ?_
    refine go_iconst 3 dX9_putContent_38 rfl ?_
    obtain ⟨hk, hf⟩ := kg_some hf
    obtain ⟨z_14, hc, hf⟩ := bd_some hf
    refine go_callV (y2 := M_X9_put) (c2 := 10) dX9_putContent_39 mo_X9_put ⟨Nat.le_of_ble_eq_true rfl, Nat.le_of_ble_eq_true rfl⟩ na_X9_put w438 w439 (by decide) rfl w440 hk [.int 3] rfl (n_X9_put (a0) 3) rfl (csum (Nat.le_of_ble_eq_true rfl)) (t_X9_put (a0) 3 h_12 _ hc) ?_
    obtain ⟨_, h_15⟩ := z_14
    refine go_aload_n dX9_putContent_42 rfl 0 rfl ?_
    refine go_iload_n dX9_putContent_43 rfl 1 rfl ?_
    obtain ⟨hk, hf⟩ := kg_some hf
    obtain ⟨z_16, hc, hf⟩ := bd_some hf
    refine go_callV (y2 := M_X9_put) (c2 := 10) dX9_putContent_44 mo_X9_put ⟨Nat.le_of_ble_eq_true rfl, Nat.le_of_ble_eq_true rfl⟩ na_X9_put w438 w439 (by decide) rfl w440 hk [.int x1] rfl (n_X9_put (a0) x1) rfl (csum (Nat.le_of_ble_eq_true rfl)) (t_X9_put (a0) x1 h_15 _ hc) ?_
    obtain ⟨_, h_17⟩ := z_16
    refine go_aload_n dX9_putContent_47 rfl 0 rfl ?_
    refine go_aload_n dX9_putContent_48 rfl 2 rfl ?_
    refine go_getI dX9_putContent_49 fl_953_0 (fun _ _ => rfl) hf (fun x_18 hf => ?_)
    obtain ⟨hk, hf⟩ := kg_some hf
    obtain ⟨z_19, hc, hf⟩ := bd_some hf
    refine go_callV (y2 := M_X9_put) (c2 := 10) dX9_putContent_52 mo_X9_put ⟨Nat.le_of_ble_eq_true rfl, Nat.le_of_ble_eq_true rfl⟩ na_X9_put w438 w439 (by decide) rfl w440 hk [.int x_18] rfl (n_X9_put (a0) x_18) rfl (csum (Nat.le_of_ble_eq_true rfl)) (t_X9_put (a0) x_18 h_17 _ hc) ?_
    obtain ⟨_, h_20⟩ := z_19
    refine go_aload_n dX9_putContent_55 rfl 2 rfl ?_
    refine go_getI dX9_putContent_56 fl_953_0 (fun _ _ => rfl) hf (fun x_21 hf => ?_)
    refine go_iconst 1 dX9_putContent_59 rfl ?_
    refine go_isub dX9_putContent_60 ?_
    refine lt_I hf (fun x_22 hf => ?_)
    refine go_istore_n (i := 3) (lv' := [(3, .int x_22), (0, vR Ω (some a0)), (1, .int x1), (2, vR Ω (some a_7))]) dX9_putContent_61 rfl (by decide) (by first | rfl | simp [catR, catI, catJ]) ?_
    refine go_sub (lv' := [(0, vR Ω (some a0)), (2, vR Ω (some a_7)), (3, .int x_22)]) [1, 3, 0] rfl ?_
    exact t_X9_putContent_62 FU a0 (some a_7) x_22 h_20 q hf
-- LetterBroker$Outbox.putName(J)V
theorem dX9_putName_0 : decode cX9_putName 0 = .ok (.iconst 0, 1) := by decide +kernel
theorem dX9_putName_1 : decode cX9_putName 1 = .ok (.istore_n 3, 1) := by decide +kernel
theorem dX9_putName_2 : decode cX9_putName 2 = .ok (.lload_n 1, 1) := by decide +kernel
theorem dX9_putName_3 : decode cX9_putName 3 = .ok (.lstore 4, 2) := by decide +kernel
theorem dX9_putName_5 : decode cX9_putName 5 = .ok (.iload_n 3, 1) := by decide +kernel
theorem dX9_putName_6 : decode cX9_putName 6 = .ok (.bipush 8, 2) := by decide +kernel
theorem dX9_putName_8 : decode cX9_putName 8 = .ok (.if_icmp .ge 23, 3) := by decide +kernel
theorem dX9_putName_11 : decode cX9_putName 11 = .ok (.lload 4, 2) := by decide +kernel
theorem dX9_putName_13 : decode cX9_putName 13 = .ok (.lconst 0, 1) := by decide +kernel
theorem dX9_putName_14 : decode cX9_putName 14 = .ok (.lcmp, 1) := by decide +kernel
theorem dX9_putName_15 : decode cX9_putName 15 = .ok (.ifCond .eq 16, 3) := by decide +kernel
theorem dX9_putName_18 : decode cX9_putName 18 = .ok (.iinc 3 1, 3) := by decide +kernel
theorem dX9_putName_21 : decode cX9_putName 21 = .ok (.lload 4, 2) := by decide +kernel
theorem dX9_putName_23 : decode cX9_putName 23 = .ok (.bipush 8, 2) := by decide +kernel
theorem dX9_putName_25 : decode cX9_putName 25 = .ok (.lushr, 1) := by decide +kernel
theorem dX9_putName_26 : decode cX9_putName 26 = .ok (.lstore 4, 2) := by decide +kernel
theorem dX9_putName_28 : decode cX9_putName 28 = .ok (.goto (-23), 3) := by decide +kernel
theorem dX9_putName_31 : decode cX9_putName 31 = .ok (.aload_n 0, 1) := by decide +kernel
theorem dX9_putName_32 : decode cX9_putName 32 = .ok (.iload_n 3, 1) := by decide +kernel
theorem dX9_putName_33 : decode cX9_putName 33 = .ok (.invokevirtual 22, 3) := by decide +kernel
theorem dX9_putName_36 : decode cX9_putName 36 = .ok (.iload_n 3, 1) := by decide +kernel
theorem dX9_putName_37 : decode cX9_putName 37 = .ok (.iconst 1, 1) := by decide +kernel
theorem dX9_putName_38 : decode cX9_putName 38 = .ok (.isub, 1) := by decide +kernel
theorem dX9_putName_39 : decode cX9_putName 39 = .ok (.istore 4, 2) := by decide +kernel
theorem dX9_putName_41 : decode cX9_putName 41 = .ok (.iload 4, 2) := by decide +kernel
theorem dX9_putName_43 : decode cX9_putName 43 = .ok (.ifCond .lt 25, 3) := by decide +kernel
theorem dX9_putName_46 : decode cX9_putName 46 = .ok (.aload_n 0, 1) := by decide +kernel
theorem dX9_putName_47 : decode cX9_putName 47 = .ok (.lload_n 1, 1) := by decide +kernel
theorem dX9_putName_48 : decode cX9_putName 48 = .ok (.bipush 8, 2) := by decide +kernel
theorem dX9_putName_50 : decode cX9_putName 50 = .ok (.iload 4, 2) := by decide +kernel
theorem dX9_putName_52 : decode cX9_putName 52 = .ok (.imul, 1) := by decide +kernel
theorem dX9_putName_53 : decode cX9_putName 53 = .ok (.lushr, 1) := by decide +kernel
theorem dX9_putName_54 : decode cX9_putName 54 = .ok (.l2i, 1) := by decide +kernel
theorem dX9_putName_55 : decode cX9_putName 55 = .ok (.sipush 255, 3) := by decide +kernel
theorem dX9_putName_58 : decode cX9_putName 58 = .ok (.iand, 1) := by decide +kernel
theorem dX9_putName_59 : decode cX9_putName 59 = .ok (.invokevirtual 22, 3) := by decide +kernel
theorem dX9_putName_62 : decode cX9_putName 62 = .ok (.iinc 4 (-1), 3) := by decide +kernel
theorem dX9_putName_65 : decode cX9_putName 65 = .ok (.goto (-24), 3) := by decide +kernel
theorem dX9_putName_68 : decode cX9_putName 68 = .ok (.return_, 1) := by decide +kernel
def f_X9_putName_41 : Nat → Nat → Int64 → Int32 → AH → Option (Unit × AH)
  | 0, _, _, _, _ => none
  | n + 1, a0, x1, x4, h => (if x4 < 0 then
      some ((), h)
    else
      kg h a0 10 (bd (f_X9_put a0 ((((x1.toUInt64 >>> ((8 * x4).toInt64.toUInt64 &&& Int64.toUInt64 63)).toInt64).toInt32) &&& 255) h) fun _ h_2 =>
      f_X9_putName_41 n a0 x1 (x4 + (-1)) h_2))
set_option maxRecDepth 20000 in
set_option maxHeartbeats 4000000 in
theorem t_X9_putName_41 {Ω : Om} : ∀ (n : Nat) (a0 : Nat) (x1 : Int64) (x4 : Int32) (h : AH) (q : Unit × AH), f_X9_putName_41 n a0 x1 x4 h = some q → Go Ω M_X9_putName 41 [(0, vR Ω (some a0)), (1, .long x1), (4, .int x4)] [] h none q.2 := by
  intro n
  induction n with
  | zero => intro a0 x1 x4 h q hf; cases hf
  | succ n ih =>
    intro a0 x1 x4 h q hf
    rw [f_X9_putName_41] at hf
    refine go_iload dX9_putName_41 2 rfl ?_
    refine go_if_lt (tgt := 68) dX9_putName_43 (by decide) hf (fun hf => ?_) (fun hf => ?_)
    · exact go_return dX9_putName_68 rfl hf
    · refine go_aload_n dX9_putName_46 rfl 0 rfl ?_
      refine go_lload_n dX9_putName_47 rfl 1 rfl ?_
      refine go_bipush 8 dX9_putName_48 (by decide) ?_
      refine go_iload dX9_putName_50 2 rfl ?_
      refine go_imul dX9_putName_52 ?_
      refine go_lushr dX9_putName_53 ?_
      refine go_l2i dX9_putName_54 ?_
      refine go_sipush 255 dX9_putName_55 (by decide) ?_
      refine go_iand dX9_putName_58 ?_
      obtain ⟨hk, hf⟩ := kg_some hf
      obtain ⟨z_1, hc, hf⟩ := bd_some hf
      refine go_callV (y2 := M_X9_put) (c2 := 10) dX9_putName_59 mo_X9_put ⟨Nat.le_of_ble_eq_true rfl, Nat.le_of_ble_eq_true rfl⟩ na_X9_put w438 w439 (by decide) rfl w440 hk [.int ((((x1.toUInt64 >>> ((8 * x4).toInt64.toUInt64 &&& Int64.toUInt64 63)).toInt64).toInt32) &&& 255)] rfl (n_X9_put (a0) ((((x1.toUInt64 >>> ((8 * x4).toInt64.toUInt64 &&& Int64.toUInt64 63)).toInt64).toInt32) &&& 255)) rfl (csum (Nat.le_of_ble_eq_true rfl)) (t_X9_put (a0) ((((x1.toUInt64 >>> ((8 * x4).toInt64.toUInt64 &&& Int64.toUInt64 63)).toInt64).toInt32) &&& 255) h _ hc) ?_
      obtain ⟨_, h_2⟩ := z_1
      refine go_iinc (j := 2) (v := x4 + (-1)) (lv' := [(4, .int (x4 + (-1))), (0, vR Ω (some a0)), (1, .long x1)]) dX9_putName_62 rfl rfl (by decide) (by first | rfl | simp [catR, catI, catJ]) ?_
      refine go_goto (tgt := 41) dX9_putName_65 (by decide) ?_
      refine go_sub (lv' := [(0, vR Ω (some a0)), (1, .long x1), (4, .int (x4 + (-1)))]) [1, 2, 0] rfl ?_
      exact ih a0 x1 (x4 + (-1)) h_2 q hf
def f_X9_putName_31 (a0 : Nat) (x1 : Int64) (x3 : Int32) (h : AH) : Option (Unit × AH) := kg h a0 10 (bd (f_X9_put a0 x3 h) fun _ h_2 =>
  lt (x3 - 1) fun x_3 =>
  f_X9_putName_41 FU a0 x1 x_3 h_2)
set_option maxRecDepth 20000 in
set_option maxHeartbeats 4000000 in
theorem t_X9_putName_31 {Ω : Om} (a0 : Nat) (x1 : Int64) (x3 : Int32) (h : AH) (q : Unit × AH) (hf : f_X9_putName_31 a0 x1 x3 h = some q) : Go Ω M_X9_putName 31 [(0, vR Ω (some a0)), (1, .long x1), (3, .int x3)] [] h none q.2 := by
  unfold f_X9_putName_31 at hf
  refine go_aload_n dX9_putName_31 rfl 0 rfl ?_
  refine go_iload_n dX9_putName_32 rfl 2 rfl ?_
  obtain ⟨hk, hf⟩ := kg_some hf
  obtain ⟨z_1, hc, hf⟩ := bd_some hf
  refine go_callV (y2 := M_X9_put) (c2 := 10) dX9_putName_33 mo_X9_put ⟨Nat.le_of_ble_eq_true rfl, Nat.le_of_ble_eq_true rfl⟩ na_X9_put w438 w439 (by decide) rfl w440 hk [.int x3] rfl (n_X9_put (a0) x3) rfl (csum (Nat.le_of_ble_eq_true rfl)) (t_X9_put (a0) x3 h _ hc) ?_
  obtain ⟨_, h_2⟩ := z_1
  refine go_iload_n dX9_putName_36 rfl 2 rfl ?_
  refine go_iconst 1 dX9_putName_37 rfl ?_
  refine go_isub dX9_putName_38 ?_
  refine lt_I hf (fun x_3 hf => ?_)
  refine go_istore (i := 4) (lv' := [(4, .int x_3), (0, vR Ω (some a0)), (1, .long x1), (3, .int x3)]) dX9_putName_39 (by decide) (by first | rfl | simp [catR, catI, catJ]) ?_
  refine go_sub (lv' := [(0, vR Ω (some a0)), (1, .long x1), (4, .int x_3)]) [1, 2, 0] rfl ?_
  exact t_X9_putName_41 FU a0 x1 x_3 h_2 q hf
def f_X9_putName_5 : Nat → Nat → Int64 → Int32 → Int64 → AH → Option (Unit × AH)
  | 0, _, _, _, _, _ => none
  | n + 1, a0, x1, x3, x4, h => (if 8 ≤ x3 then
      f_X9_putName_31 a0 x1 x3 h
    else
      (if (lg_cmp x4 0) = 0 then
        f_X9_putName_31 a0 x1 x3 h
      else
        lt ((x4.toUInt64 >>> ((8 : Int32).toInt64.toUInt64 &&& Int64.toUInt64 63)).toInt64) fun x_1 =>
        f_X9_putName_5 n a0 x1 (x3 + 1) x_1 h))
set_option maxRecDepth 20000 in
set_option maxHeartbeats 4000000 in
theorem t_X9_putName_5 {Ω : Om} : ∀ (n : Nat) (a0 : Nat) (x1 : Int64) (x3 : Int32) (x4 : Int64) (h : AH) (q : Unit × AH), f_X9_putName_5 n a0 x1 x3 x4 h = some q → Go Ω M_X9_putName 5 [(0, vR Ω (some a0)), (1, .long x1), (3, .int x3), (4, .long x4)] [] h none q.2 := by
  intro n
  induction n with
  | zero => intro a0 x1 x3 x4 h q hf; cases hf
  | succ n ih =>
    intro a0 x1 x3 x4 h q hf
    rw [f_X9_putName_5] at hf
    refine go_iload_n dX9_putName_5 rfl 2 rfl ?_
    refine go_bipush 8 dX9_putName_6 (by decide) ?_
    refine go_icmp_ge (tgt := 31) dX9_putName_8 (by decide) hf (fun hf => ?_) (fun hf => ?_)
    · refine go_sub (lv' := [(0, vR Ω (some a0)), (1, .long x1), (3, .int x3)]) [0, 1, 2] rfl ?_
      exact t_X9_putName_31 a0 x1 x3 h q hf
    · refine go_lload dX9_putName_11 3 rfl ?_
      refine go_lconst 0 dX9_putName_13 rfl ?_
      refine go_lcmp dX9_putName_14 ?_
      refine go_if_eq (tgt := 31) dX9_putName_15 (by decide) hf (fun hf => ?_) (fun hf => ?_)
      · refine go_sub (lv' := [(0, vR Ω (some a0)), (1, .long x1), (3, .int x3)]) [0, 1, 2] rfl ?_
        exact t_X9_putName_31 a0 x1 x3 h q hf
      · refine go_iinc (j := 2) (v := x3 + 1) (lv' := [(3, .int (x3 + 1)), (0, vR Ω (some a0)), (1, .long x1), (4, .long x4)]) dX9_putName_18 rfl rfl (by decide) (by first | rfl | simp [catR, catI, catJ]) ?_
        refine go_lload dX9_putName_21 3 rfl ?_
        refine go_bipush 8 dX9_putName_23 (by decide) ?_
        refine go_lushr dX9_putName_25 ?_
        refine lt_J hf (fun x_1 hf => ?_)
        refine go_lstore (i := 4) (lv' := [(4, .long x_1), (3, .int (x3 + 1)), (0, vR Ω (some a0)), (1, .long x1)]) dX9_putName_26 (by decide) (by first | rfl | simp [catR, catI, catJ]) ?_
        refine go_goto (tgt := 5) dX9_putName_28 (by decide) ?_
        refine go_sub (lv' := [(0, vR Ω (some a0)), (1, .long x1), (3, .int (x3 + 1)), (4, .long x_1)]) [2, 3, 1, 0] rfl ?_
        exact ih a0 x1 (x3 + 1) x_1 h q hf
def f_X9_putName (a0 : Nat) (x1 : Int64) (h : AH) : Option (Unit × AH) := f_X9_putName_5 FU a0 x1 0 x1 h
set_option maxRecDepth 20000 in
set_option maxHeartbeats 4000000 in
theorem t_X9_putName {Ω : Om} (a0 : Nat) (x1 : Int64) (h : AH) (q : Unit × AH) (hf : f_X9_putName a0 x1 h = some q) : Go Ω M_X9_putName 0 (lv_args 0 [vR Ω (some a0), .long x1]) [] h none q.2 := by
  unfold f_X9_putName at hf
  rw [la_R, la_J, la_0]
  refine go_sub (lv' := [(0, vR Ω (some a0)), (1, .long x1)]) [0, 1] rfl ?_
  refine go_iconst 0 dX9_putName_0 rfl ?_
  refine go_istore_n (i := 3) (lv' := [(3, .int 0), (0, vR Ω (some a0)), (1, .long x1)]) dX9_putName_1 rfl (by decide) (by first | rfl | simp [catR, catI, catJ]) ?_
  refine go_lload_n dX9_putName_2 rfl 2 rfl ?_
  refine go_lstore (i := 4) (lv' := [(4, .long x1), (3, .int 0), (0, vR Ω (some a0)), (1, .long x1)]) dX9_putName_3 (by decide) (by first | rfl | simp [catR, catI, catJ]) ?_
  refine go_sub (lv' := [(0, vR Ω (some a0)), (1, .long x1), (3, .int 0), (4, .long x1)]) [2, 3, 1, 0] rfl ?_
  exact t_X9_putName_5 FU a0 x1 0 x1 h q hf
-- LetterBroker$Outbox.putShort(I)V
theorem dX9_putShort_0 : decode cX9_putShort 0 = .ok (.aload_n 0, 1) := by decide +kernel
theorem dX9_putShort_1 : decode cX9_putShort 1 = .ok (.iload_n 1, 1) := by decide +kernel
theorem dX9_putShort_2 : decode cX9_putShort 2 = .ok (.bipush 8, 2) := by decide +kernel
theorem dX9_putShort_4 : decode cX9_putShort 4 = .ok (.ishr, 1) := by decide +kernel
theorem dX9_putShort_5 : decode cX9_putShort 5 = .ok (.invokevirtual 22, 3) := by decide +kernel
theorem dX9_putShort_8 : decode cX9_putShort 8 = .ok (.aload_n 0, 1) := by decide +kernel
theorem dX9_putShort_9 : decode cX9_putShort 9 = .ok (.iload_n 1, 1) := by decide +kernel
theorem dX9_putShort_10 : decode cX9_putShort 10 = .ok (.sipush 255, 3) := by decide +kernel
theorem dX9_putShort_13 : decode cX9_putShort 13 = .ok (.iand, 1) := by decide +kernel
theorem dX9_putShort_14 : decode cX9_putShort 14 = .ok (.invokevirtual 22, 3) := by decide +kernel
theorem dX9_putShort_17 : decode cX9_putShort 17 = .ok (.return_, 1) := by decide +kernel
def f_X9_putShort (a0 : Nat) (x1 : Int32) (h : AH) : Option (Unit × AH) := kg h a0 10 (bd (f_X9_put a0 (x1 >>> ((8 : Int32) &&& 31)) h) fun _ h_2 =>
  kg h_2 a0 10 (bd (f_X9_put a0 (x1 &&& 255) h_2) fun _ h_4 =>
  some ((), h_4)))
set_option maxRecDepth 20000 in
set_option maxHeartbeats 4000000 in
theorem t_X9_putShort {Ω : Om} (a0 : Nat) (x1 : Int32) (h : AH) (q : Unit × AH) (hf : f_X9_putShort a0 x1 h = some q) : Go Ω M_X9_putShort 0 (lv_args 0 [vR Ω (some a0), .int x1]) [] h none q.2 := by
  unfold f_X9_putShort at hf
  rw [la_R, la_I, la_0]
  refine go_sub (lv' := [(0, vR Ω (some a0)), (1, .int x1)]) [0, 1] rfl ?_
  refine go_aload_n dX9_putShort_0 rfl 0 rfl ?_
  refine go_iload_n dX9_putShort_1 rfl 1 rfl ?_
  refine go_bipush 8 dX9_putShort_2 (by decide) ?_
  refine go_ishr dX9_putShort_4 ?_
  obtain ⟨hk, hf⟩ := kg_some hf
  obtain ⟨z_1, hc, hf⟩ := bd_some hf
  refine go_callV (y2 := M_X9_put) (c2 := 10) dX9_putShort_5 mo_X9_put ⟨Nat.le_of_ble_eq_true rfl, Nat.le_of_ble_eq_true rfl⟩ na_X9_put w438 w439 (by decide) rfl w440 hk [.int (x1 >>> ((8 : Int32) &&& 31))] rfl (n_X9_put (a0) (x1 >>> ((8 : Int32) &&& 31))) rfl (csum (Nat.le_of_ble_eq_true rfl)) (t_X9_put (a0) (x1 >>> ((8 : Int32) &&& 31)) h _ hc) ?_
  obtain ⟨_, h_2⟩ := z_1
  refine go_aload_n dX9_putShort_8 rfl 0 rfl ?_
  refine go_iload_n dX9_putShort_9 rfl 1 rfl ?_
  refine go_sipush 255 dX9_putShort_10 (by decide) ?_
  refine go_iand dX9_putShort_13 ?_
  obtain ⟨hk, hf⟩ := kg_some hf
  obtain ⟨z_3, hc, hf⟩ := bd_some hf
  refine go_callV (y2 := M_X9_put) (c2 := 10) dX9_putShort_14 mo_X9_put ⟨Nat.le_of_ble_eq_true rfl, Nat.le_of_ble_eq_true rfl⟩ na_X9_put w438 w439 (by decide) rfl w440 hk [.int (x1 &&& 255)] rfl (n_X9_put (a0) (x1 &&& 255)) rfl (csum (Nat.le_of_ble_eq_true rfl)) (t_X9_put (a0) (x1 &&& 255) h_2 _ hc) ?_
  obtain ⟨_, h_4⟩ := z_3
  exact go_return dX9_putShort_17 rfl hf

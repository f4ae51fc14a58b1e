/-! printed by wip/whole/gen: functions and their walks -/
-- LetterBroker.shutLine()V
theorem dX11_shutLine_0 : decode cX11_shutLine 0 = .ok (.aload_n 0, 1) := by decide +kernel
theorem dX11_shutLine_1 : decode cX11_shutLine 1 = .ok (.iconst 5, 1) := by decide +kernel
theorem dX11_shutLine_2 : decode cX11_shutLine 2 = .ok (.putfield 39, 3) := by decide +kernel
theorem dX11_shutLine_5 : decode cX11_shutLine 5 = .ok (.aload_n 0, 1) := by decide +kernel
theorem dX11_shutLine_6 : decode cX11_shutLine 6 = .ok (.getfield 10, 3) := by decide +kernel
theorem dX11_shutLine_9 : decode cX11_shutLine 9 = .ok (.invokevirtual 150, 3) := by decide +kernel
theorem dX11_shutLine_12 : decode cX11_shutLine 12 = .ok (.iconst 0, 1) := by decide +kernel
theorem dX11_shutLine_13 : decode cX11_shutLine 13 = .ok (.istore_n 1, 1) := by decide +kernel
theorem dX11_shutLine_14 : decode cX11_shutLine 14 = .ok (.iload_n 1, 1) := by decide +kernel
theorem dX11_shutLine_15 : decode cX11_shutLine 15 = .ok (.iconst 3, 1) := by decide +kernel
theorem dX11_shutLine_16 : decode cX11_shutLine 16 = .ok (.if_icmp .ge 20, 3) := by decide +kernel
theorem dX11_shutLine_19 : decode cX11_shutLine 19 = .ok (.aload_n 0, 1) := by decide +kernel
theorem dX11_shutLine_20 : decode cX11_shutLine 20 = .ok (.aload_n 0, 1) := by decide +kernel
theorem dX11_shutLine_21 : decode cX11_shutLine 21 = .ok (.getfield 32, 3) := by decide +kernel
theorem dX11_shutLine_24 : decode cX11_shutLine 24 = .ok (.iload_n 1, 1) := by decide +kernel
theorem dX11_shutLine_25 : decode cX11_shutLine 25 = .ok (.aaload, 1) := by decide +kernel
theorem dX11_shutLine_26 : decode cX11_shutLine 26 = .ok (.iconst 0, 1) := by decide +kernel
theorem dX11_shutLine_27 : decode cX11_shutLine 27 = .ok (.invokevirtual 146, 3) := by decide +kernel
theorem dX11_shutLine_30 : decode cX11_shutLine 30 = .ok (.iinc 1 1, 3) := by decide +kernel
theorem dX11_shutLine_33 : decode cX11_shutLine 33 = .ok (.goto (-19), 3) := by decide +kernel
theorem dX11_shutLine_36 : decode cX11_shutLine 36 = .ok (.return_, 1) := by decide +kernel
def f_X11_shutLine_14 : Nat → Nat → Int32 → AH → Option (Unit × AH)
  | 0, _, _, _ => none
  | n + 1, a0, x1, h => (if 3 ≤ x1 then
      some ((), h)
    else
      rdR h a0 12 3 fun r_1 =>
      nn r_1 fun a_2 =>
      arC h a_2 x1 fun r_3 =>
      kg h a0 12 (bd (f_X11_leaveChannel a0 r_3 0 h) fun _ h_5 =>
      f_X11_shutLine_14 n a0 (x1 + 1) h_5))
set_option maxRecDepth 20000 in
set_option maxHeartbeats 4000000 in
theorem t_X11_shutLine_14 {Ω : Om} : ∀ (n : Nat) (a0 : Nat) (x1 : Int32) (h : AH) (q : Unit × AH), f_X11_shutLine_14 n a0 x1 h = some q → Go Ω M_X11_shutLine 14 [(0, vR Ω (some a0)), (1, .int x1)] [] h none q.2 := by
  intro n
  induction n with
  | zero => intro a0 x1 h q hf; cases hf
  | succ n ih =>
    intro a0 x1 h q hf
    rw [f_X11_shutLine_14] at hf
    refine go_iload_n dX11_shutLine_14 rfl 1 rfl ?_
    refine go_iconst 3 dX11_shutLine_15 rfl ?_
    refine go_icmp_ge (tgt := 36) dX11_shutLine_16 (by decide) hf (fun hf => ?_) (fun hf => ?_)
    · exact go_return dX11_shutLine_36 rfl hf
    · refine go_aload_n dX11_shutLine_19 rfl 0 rfl ?_
      refine go_aload_n dX11_shutLine_20 rfl 0 rfl ?_
      refine go_getR dX11_shutLine_21 fl_391_0 (fun _ _ => rfl) hf (fun r_1 hf => ?_)
      refine go_iload_n dX11_shutLine_24 rfl 1 rfl ?_
      obtain ⟨a_2, rfl, hga_2⟩ := nn_some hf
      have hf := hga_2
      refine go_caload dX11_shutLine_25 hf (fun r_3 hf => ?_)
      refine go_iconst 0 dX11_shutLine_26 rfl ?_
      obtain ⟨hk, hf⟩ := kg_some hf
      obtain ⟨z_4, hc, hf⟩ := bd_some hf
      refine go_callV (y2 := M_X11_leaveChannel) (c2 := 12) dX11_shutLine_27 mo_X11_leaveChannel ⟨Nat.le_of_ble_eq_true rfl, Nat.le_of_ble_eq_true rfl⟩ na_X11_leaveChannel w666 w668 (by decide) rfl w18 hk [vR Ω r_3, .int 0] rfl (n_X11_leaveChannel (a0) r_3 0) rfl (csum (Nat.le_of_ble_eq_true rfl)) (t_X11_leaveChannel (a0) r_3 0 h _ hc) ?_
      obtain ⟨_, h_5⟩ := z_4
      refine go_iinc (j := 1) (v := x1 + 1) (lv' := [(1, .int (x1 + 1)), (0, vR Ω (some a0))]) dX11_shutLine_30 rfl rfl (by decide) (by first | rfl | simp [catR, catI, catJ]) ?_
      refine go_goto (tgt := 14) dX11_shutLine_33 (by decide) ?_
      refine go_sub (lv' := [(0, vR Ω (some a0)), (1, .int (x1 + 1))]) [1, 0] rfl ?_
      exact ih a0 (x1 + 1) h_5 q hf
def f_X11_shutLine (a0 : Nat) (h : AH) : Option (Unit × AH) := wrI h a0 12 4 5 fun h_1 =>
  rdR h_1 a0 12 0 fun r_2 =>
  nn r_2 fun a_3 =>
  kg h_1 a_3 7 (bd (f_X6_clear a_3 h_1) fun _ h_5 =>
  f_X11_shutLine_14 FU a0 0 h_5)
set_option maxRecDepth 20000 in
set_option maxHeartbeats 4000000 in
theorem t_X11_shutLine {Ω : Om} (a0 : Nat) (h : AH) (q : Unit × AH) (hf : f_X11_shutLine a0 h = some q) : Go Ω M_X11_shutLine 0 (lv_args 0 [vR Ω (some a0)]) [] h none q.2 := by
  unfold f_X11_shutLine at hf
  rw [la_R, la_0]
  refine go_sub (lv' := [(0, vR Ω (some a0))]) [0] rfl ?_
  refine go_aload_n dX11_shutLine_0 rfl 0 rfl ?_
  refine go_iconst 5 dX11_shutLine_1 rfl ?_
  refine go_putI dX11_shutLine_2 fl_392_0 (fun q hq => by cases hq; exact Or.inl rfl) (fun _ _ => rfl) rfl hf (fun h_1 hf => ?_)
  refine go_aload_n dX11_shutLine_5 rfl 0 rfl ?_
  refine go_getR dX11_shutLine_6 fl_388_0 (fun _ _ => rfl) hf (fun r_2 hf => ?_)
  obtain ⟨a_3, rfl, hga_3⟩ := nn_some hf
  have hf := hga_3
  obtain ⟨hk, hf⟩ := kg_some hf
  obtain ⟨z_4, hc, hf⟩ := bd_some hf
  refine go_callV (y2 := M_X6_clear) (c2 := 7) dX11_shutLine_9 mo_X6_clear ⟨Nat.le_of_ble_eq_true rfl, Nat.le_of_ble_eq_true rfl⟩ na_X6_clear w662 w663 (by decide) rfl w664 hk [] rfl (n_X6_clear (a_3)) rfl (csum (Nat.le_of_ble_eq_true rfl)) (t_X6_clear (a_3) h_1 _ hc) ?_
  obtain ⟨_, h_5⟩ := z_4
  refine go_iconst 0 dX11_shutLine_12 rfl ?_
  refine go_istore_n (i := 1) (lv' := [(1, .int 0), (0, vR Ω (some a0))]) dX11_shutLine_13 rfl (by decide) (by first | rfl | simp [catR, catI, catJ]) ?_
  refine go_sub (lv' := [(0, vR Ω (some a0)), (1, .int 0)]) [1, 0] rfl ?_
  exact t_X11_shutLine_14 FU a0 0 h_5 q hf
-- LetterBroker$Inbox.isJustRead()Z
theorem dX6_isJustRead_0 : decode cX6_isJustRead 0 = .ok (.aload_n 0, 1) := by decide +kernel
theorem dX6_isJustRead_1 : decode cX6_isJustRead 1 = .ok (.getfield 31, 3) := by decide +kernel
theorem dX6_isJustRead_4 : decode cX6_isJustRead 4 = .ok (.ifCond .ne 18, 3) := by decide +kernel
theorem dX6_isJustRead_7 : decode cX6_isJustRead 7 = .ok (.aload_n 0, 1) := by decide +kernel
theorem dX6_isJustRead_8 : decode cX6_isJustRead 8 = .ok (.getfield 25, 3) := by decide +kernel
theorem dX6_isJustRead_11 : decode cX6_isJustRead 11 = .ok (.aload_n 0, 1) := by decide +kernel
theorem dX6_isJustRead_12 : decode cX6_isJustRead 12 = .ok (.getfield 28, 3) := by decide +kernel
theorem dX6_isJustRead_15 : decode cX6_isJustRead 15 = .ok (.if_icmp .ne 7, 3) := by decide +kernel
theorem dX6_isJustRead_18 : decode cX6_isJustRead 18 = .ok (.iconst 1, 1) := by decide +kernel
theorem dX6_isJustRead_19 : decode cX6_isJustRead 19 = .ok (.goto 4, 3) := by decide +kernel
theorem dX6_isJustRead_22 : decode cX6_isJustRead 22 = .ok (.iconst 0, 1) := by decide +kernel
theorem dX6_isJustRead_23 : decode cX6_isJustRead 23 = .ok (.ireturn, 1) := by decide +kernel
def f_X6_isJustRead (a0 : Nat) (h : AH) : Option (Int32 × AH) := rdI h a0 7 5 fun x_1 =>
  (if x_1 = 0 then
    rdI h a0 7 3 fun x_2 =>
    rdI h a0 7 4 fun x_3 =>
    (if x_2 = x_3 then
      rz 1 (some (1, h))
    else
      rz 0 (some (0, h)))
  else
    rz 0 (some (0, h)))
set_option maxRecDepth 20000 in
set_option maxHeartbeats 4000000 in
theorem t_X6_isJustRead {Ω : Om} (a0 : Nat) (h : AH) (q : Int32 × AH) (hf : f_X6_isJustRead a0 h = some q) : Go Ω M_X6_isJustRead 0 (lv_args 0 [vR Ω (some a0)]) [] h (some (.int q.1)) q.2 := by
  unfold f_X6_isJustRead at hf
  rw [la_R, la_0]
  refine go_sub (lv' := [(0, vR Ω (some a0))]) [0] rfl ?_
  refine go_aload_n dX6_isJustRead_0 rfl 0 rfl ?_
  refine go_getI dX6_isJustRead_1 fl_162_0 (fun _ _ => rfl) hf (fun x_1 hf => ?_)
  refine go_if_ne (tgt := 22) dX6_isJustRead_4 (by decide) hf (fun hf => ?_) (fun hf => ?_)
  · refine go_iconst 0 dX6_isJustRead_22 rfl ?_
    exact go_zreturn dX6_isJustRead_23 rfl hf
  · refine go_aload_n dX6_isJustRead_7 rfl 0 rfl ?_
    refine go_getI dX6_isJustRead_8 fl_160_0 (fun _ _ => rfl) hf (fun x_2 hf => ?_)
    refine go_aload_n dX6_isJustRead_11 rfl 0 rfl ?_
    refine go_getI dX6_isJustRead_12 fl_161_0 (fun _ _ => rfl) hf (fun x_3 hf => ?_)
    refine go_icmp_ne (tgt := 22) dX6_isJustRead_15 (by decide) hf (fun hf => ?_) (fun hf => ?_)
    · refine go_iconst 0 dX6_isJustRead_22 rfl ?_
      exact go_zreturn dX6_isJustRead_23 rfl hf
    · refine go_iconst 1 dX6_isJustRead_18 rfl ?_
      refine go_goto (tgt := 23) dX6_isJustRead_19 (by decide) ?_
      exact go_zreturn dX6_isJustRead_23 rfl hf
-- LetterBroker.doLineMethod(I)I
theorem dX11_doLineMethod_0 : decode cX11_doLineMethod 0 = .ok (.iload_n 1, 1) := by decide +kernel
theorem dX11_doLineMethod_1 : decode cX11_doLineMethod 1 = .ok (.aload_n 0, 1) := by decide +kernel
theorem dX11_doLineMethod_2 : decode cX11_doLineMethod 2 = .ok (.invokevirtual 129, 3) := by decide +kernel
theorem dX11_doLineMethod_5 : decode cX11_doLineMethod 5 = .ok (.if_icmp .eq 7, 3) := by decide +kernel
theorem dX11_doLineMethod_8 : decode cX11_doLineMethod 8 = .ok (.sipush 503, 3) := by decide +kernel
theorem dX11_doLineMethod_11 : decode cX11_doLineMethod 11 = .ok (.ireturn, 1) := by decide +kernel
theorem dX11_doLineMethod_12 : decode cX11_doLineMethod 12 = .ok (.aload_n 0, 1) := by decide +kernel
theorem dX11_doLineMethod_13 : decode cX11_doLineMethod 13 = .ok (.getfield 10, 3) := by decide +kernel
theorem dX11_doLineMethod_16 : decode cX11_doLineMethod 16 = .ok (.invokevirtual 132, 3) := by decide +kernel
theorem dX11_doLineMethod_19 : decode cX11_doLineMethod 19 = .ok (.ifCond .ne 7, 3) := by decide +kernel
theorem dX11_doLineMethod_22 : decode cX11_doLineMethod 22 = .ok (.sipush 501, 3) := by decide +kernel
theorem dX11_doLineMethod_25 : decode cX11_doLineMethod 25 = .ok (.ireturn, 1) := by decide +kernel
theorem dX11_doLineMethod_26 : decode cX11_doLineMethod 26 = .ok (.iload_n 1, 1) := by decide +kernel
theorem dX11_doLineMethod_27 : decode cX11_doLineMethod 27 = .ok (.lookupswitch 76 #[(2571, 33), (2591, 51), (2600, 58)], 33) := by decide +kernel
theorem dX11_doLineMethod_60 : decode cX11_doLineMethod 60 = .ok (.aload_n 0, 1) := by decide +kernel
theorem dX11_doLineMethod_61 : decode cX11_doLineMethod 61 = .ok (.getfield 19, 3) := by decide +kernel
theorem dX11_doLineMethod_64 : decode cX11_doLineMethod 64 = .ok (.iconst 0, 1) := by decide +kernel
theorem dX11_doLineMethod_65 : decode cX11_doLineMethod 65 = .ok (.sipush 2590, 3) := by decide +kernel
theorem dX11_doLineMethod_68 : decode cX11_doLineMethod 68 = .ok (.invokevirtual 125, 3) := by decide +kernel
theorem dX11_doLineMethod_71 : decode cX11_doLineMethod 71 = .ok (.aload_n 0, 1) := by decide +kernel
theorem dX11_doLineMethod_72 : decode cX11_doLineMethod 72 = .ok (.iconst 2, 1) := by decide +kernel
theorem dX11_doLineMethod_73 : decode cX11_doLineMethod 73 = .ok (.putfield 39, 3) := by decide +kernel
theorem dX11_doLineMethod_76 : decode cX11_doLineMethod 76 = .ok (.iconst 0, 1) := by decide +kernel
theorem dX11_doLineMethod_77 : decode cX11_doLineMethod 77 = .ok (.ireturn, 1) := by decide +kernel
theorem dX11_doLineMethod_78 : decode cX11_doLineMethod 78 = .ok (.aload_n 0, 1) := by decide +kernel
theorem dX11_doLineMethod_79 : decode cX11_doLineMethod 79 = .ok (.iconst 3, 1) := by decide +kernel
theorem dX11_doLineMethod_80 : decode cX11_doLineMethod 80 = .ok (.putfield 39, 3) := by decide +kernel
theorem dX11_doLineMethod_83 : decode cX11_doLineMethod 83 = .ok (.iconst 0, 1) := by decide +kernel
theorem dX11_doLineMethod_84 : decode cX11_doLineMethod 84 = .ok (.ireturn, 1) := by decide +kernel
theorem dX11_doLineMethod_85 : decode cX11_doLineMethod 85 = .ok (.aload_n 0, 1) := by decide +kernel
theorem dX11_doLineMethod_86 : decode cX11_doLineMethod 86 = .ok (.getfield 19, 3) := by decide +kernel
theorem dX11_doLineMethod_89 : decode cX11_doLineMethod 89 = .ok (.iconst 0, 1) := by decide +kernel
theorem dX11_doLineMethod_90 : decode cX11_doLineMethod 90 = .ok (.sipush 2601, 3) := by decide +kernel
theorem dX11_doLineMethod_93 : decode cX11_doLineMethod 93 = .ok (.invokevirtual 125, 3) := by decide +kernel
theorem dX11_doLineMethod_96 : decode cX11_doLineMethod 96 = .ok (.aload_n 0, 1) := by decide +kernel
theorem dX11_doLineMethod_97 : decode cX11_doLineMethod 97 = .ok (.iconst 4, 1) := by decide +kernel
theorem dX11_doLineMethod_98 : decode cX11_doLineMethod 98 = .ok (.putfield 39, 3) := by decide +kernel
theorem dX11_doLineMethod_101 : decode cX11_doLineMethod 101 = .ok (.iconst 0, 1) := by decide +kernel
theorem dX11_doLineMethod_102 : decode cX11_doLineMethod 102 = .ok (.ireturn, 1) := by decide +kernel
theorem dX11_doLineMethod_103 : decode cX11_doLineMethod 103 = .ok (.aload_n 0, 1) := by decide +kernel
theorem dX11_doLineMethod_104 : decode cX11_doLineMethod 104 = .ok (.getfield 19, 3) := by decide +kernel
theorem dX11_doLineMethod_107 : decode cX11_doLineMethod 107 = .ok (.iconst 0, 1) := by decide +kernel
theorem dX11_doLineMethod_108 : decode cX11_doLineMethod 108 = .ok (.sipush 2611, 3) := by decide +kernel
theorem dX11_doLineMethod_111 : decode cX11_doLineMethod 111 = .ok (.invokevirtual 125, 3) := by decide +kernel
theorem dX11_doLineMethod_114 : decode cX11_doLineMethod 114 = .ok (.aload_n 0, 1) := by decide +kernel
theorem dX11_doLineMethod_115 : decode cX11_doLineMethod 115 = .ok (.invokevirtual 135, 3) := by decide +kernel
theorem dX11_doLineMethod_118 : decode cX11_doLineMethod 118 = .ok (.iconst 0, 1) := by decide +kernel
theorem dX11_doLineMethod_119 : decode cX11_doLineMethod 119 = .ok (.ireturn, 1) := by decide +kernel
def f_X11_doLineMethod (a0 : Nat) (x1 : Int32) (h : AH) : Option (Int32 × AH) := kg h a0 12 (bd (f_X11_lineMethodInTurn a0 h) fun x_3 h_2 =>
  (if x1 = x_3 then
    rdR h_2 a0 12 0 fun r_4 =>
    nn r_4 fun a_5 =>
    kg h_2 a_5 7 (bd (f_X6_isJustRead a_5 h_2) fun x_8 h_7 =>
    (if x_8 = 0 then
      some (501, h_7)
    else
      (if x1 = 2571 then
        rdR h_7 a0 12 1 fun r_9 =>
        nn r_9 fun a_10 =>
        kg h_7 a_10 10 (bd (f_X9_tell a_10 0 2590 h_7) fun _ h_12 =>
        wrI h_12 a0 12 4 2 fun h_13 =>
        some (0, h_13))
      else (if x1 = 2591 then
        wrI h_7 a0 12 4 3 fun h_14 =>
        some (0, h_14)
      else (if x1 = 2600 then
        rdR h_7 a0 12 1 fun r_15 =>
        nn r_15 fun a_16 =>
        kg h_7 a_16 10 (bd (f_X9_tell a_16 0 2601 h_7) fun _ h_18 =>
        wrI h_18 a0 12 4 4 fun h_19 =>
        some (0, h_19))
      else rdR h_7 a0 12 1 fun r_20 =>
      nn r_20 fun a_21 =>
      kg h_7 a_21 10 (bd (f_X9_tell a_21 0 2611 h_7) fun _ h_23 =>
      kg h_23 a0 12 (bd (f_X11_shutLine a0 h_23) fun _ h_25 =>
      some (0, h_25))))))))
  else
    some (503, h_2)))
set_option maxRecDepth 20000 in
set_option maxHeartbeats 4000000 in
theorem t_X11_doLineMethod {Ω : Om} (a0 : Nat) (x1 : Int32) (h : AH) (q : Int32 × AH) (hf : f_X11_doLineMethod a0 x1 h = some q) : Go Ω M_X11_doLineMethod 0 (lv_args 0 [vR Ω (some a0), .int x1]) [] h (some (.int q.1)) q.2 := by
  unfold f_X11_doLineMethod at hf
  rw [la_R, la_I, la_0]
  refine go_sub (lv' := [(0, vR Ω (some a0)), (1, .int x1)]) [0, 1] rfl ?_
  refine go_iload_n dX11_doLineMethod_0 rfl 1 rfl ?_
  refine go_aload_n dX11_doLineMethod_1 rfl 0 rfl ?_
  obtain ⟨hk, hf⟩ := kg_some hf
  obtain ⟨z_1, hc, hf⟩ := bd_some hf
  refine go_callV (y2 := M_X11_lineMethodInTurn) (c2 := 12) dX11_doLineMethod_2 mo_X11_lineMethodInTurn ⟨Nat.le_of_ble_eq_true rfl, Nat.le_of_ble_eq_true rfl⟩ na_X11_lineMethodInTurn w654 w656 (by decide) rfl w16 hk [] rfl (n_X11_lineMethodInTurn (a0)) rfl (csum (Nat.le_of_ble_eq_true rfl)) (t_X11_lineMethodInTurn (a0) h _ hc) ?_
  obtain ⟨x_3, h_2⟩ := z_1
  refine go_icmp_eq (tgt := 12) dX11_doLineMethod_5 (by decide) hf (fun hf => ?_) (fun hf => ?_)
  · refine go_aload_n dX11_doLineMethod_12 rfl 0 rfl ?_
    refine go_getR dX11_doLineMethod_13 fl_388_0 (fun _ _ => rfl) hf (fun r_4 hf => ?_)
    obtain ⟨a_5, rfl, hga_5⟩ := nn_some hf
    have hf := hga_5
    obtain ⟨hk, hf⟩ := kg_some hf
    obtain ⟨z_6, hc, hf⟩ := bd_some hf
    refine go_callV (y2 := M_X6_isJustRead) (c2 := 7) dX11_doLineMethod_16 mo_X6_isJustRead ⟨Nat.le_of_ble_eq_true rfl, Nat.le_of_ble_eq_true rfl⟩ na_X6_isJustRead w474 w475 (by decide) rfl w476 hk [] rfl (n_X6_isJustRead (a_5)) rfl (csum (Nat.le_of_ble_eq_true rfl)) (t_X6_isJustRead (a_5) h_2 _ hc) ?_
    obtain ⟨x_8, h_7⟩ := z_6
    refine go_if_ne (tgt := 26) dX11_doLineMethod_19 (by decide) hf (fun hf => ?_) (fun hf => ?_)
    · refine go_iload_n dX11_doLineMethod_26 rfl 1 rfl ?_
      by_cases e0 : x1 = 2571
      · rw [if_pos e0] at hf
        refine go_lsw1 (off := 33) (tgt := 60) dX11_doLineMethod_27 (by decide) (by rw [e0]; decide) (by decide) ?_
        refine go_aload_n dX11_doLineMethod_60 rfl 0 rfl ?_
        refine go_getR dX11_doLineMethod_61 fl_389_0 (fun _ _ => rfl) hf (fun r_9 hf => ?_)
        refine go_iconst 0 dX11_doLineMethod_64 rfl ?_
        refine go_sipush 2590 dX11_doLineMethod_65 (by decide) ?_
        obtain ⟨a_10, rfl, hga_10⟩ := nn_some hf
        have hf := hga_10
        obtain ⟨hk, hf⟩ := kg_some hf
        obtain ⟨z_11, hc, hf⟩ := bd_some hf
        refine go_callV (y2 := M_X9_tell) (c2 := 10) dX11_doLineMethod_68 mo_X9_tell ⟨Nat.le_of_ble_eq_true rfl, Nat.le_of_ble_eq_true rfl⟩ na_X9_tell w430 w431 (by decide) rfl w432 hk [.int 0, .int 2590] rfl (n_X9_tell (a_10) 0 2590) rfl (csum (Nat.le_of_ble_eq_true rfl)) (t_X9_tell (a_10) 0 2590 h_7 _ hc) ?_
        obtain ⟨_, h_12⟩ := z_11
        refine go_aload_n dX11_doLineMethod_71 rfl 0 rfl ?_
        refine go_iconst 2 dX11_doLineMethod_72 rfl ?_
        refine go_putI dX11_doLineMethod_73 fl_392_0 (fun q hq => by cases hq; exact Or.inl rfl) (fun _ _ => rfl) rfl hf (fun h_13 hf => ?_)
        refine go_iconst 0 dX11_doLineMethod_76 rfl ?_
        exact go_ireturn dX11_doLineMethod_77 rfl hf
      rw [if_neg e0] at hf
      by_cases e1 : x1 = 2591
      · rw [if_pos e1] at hf
        refine go_lsw1 (off := 51) (tgt := 78) dX11_doLineMethod_27 (by decide) (by rw [e1]; decide) (by decide) ?_
        refine go_aload_n dX11_doLineMethod_78 rfl 0 rfl ?_
        refine go_iconst 3 dX11_doLineMethod_79 rfl ?_
        refine go_putI dX11_doLineMethod_80 fl_392_0 (fun q hq => by cases hq; exact Or.inl rfl) (fun _ _ => rfl) rfl hf (fun h_14 hf => ?_)
        refine go_iconst 0 dX11_doLineMethod_83 rfl ?_
        exact go_ireturn dX11_doLineMethod_84 rfl hf
      rw [if_neg e1] at hf
      by_cases e2 : x1 = 2600
      · rw [if_pos e2] at hf
        refine go_lsw1 (off := 58) (tgt := 85) dX11_doLineMethod_27 (by decide) (by rw [e2]; decide) (by decide) ?_
        refine go_aload_n dX11_doLineMethod_85 rfl 0 rfl ?_
        refine go_getR dX11_doLineMethod_86 fl_389_0 (fun _ _ => rfl) hf (fun r_15 hf => ?_)
        refine go_iconst 0 dX11_doLineMethod_89 rfl ?_
        refine go_sipush 2601 dX11_doLineMethod_90 (by decide) ?_
        obtain ⟨a_16, rfl, hga_16⟩ := nn_some hf
        have hf := hga_16
        obtain ⟨hk, hf⟩ := kg_some hf
        obtain ⟨z_17, hc, hf⟩ := bd_some hf
        refine go_callV (y2 := M_X9_tell) (c2 := 10) dX11_doLineMethod_93 mo_X9_tell ⟨Nat.le_of_ble_eq_true rfl, Nat.le_of_ble_eq_true rfl⟩ na_X9_tell w430 w431 (by decide) rfl w432 hk [.int 0, .int 2601] rfl (n_X9_tell (a_16) 0 2601) rfl (csum (Nat.le_of_ble_eq_true rfl)) (t_X9_tell (a_16) 0 2601 h_7 _ hc) ?_
        obtain ⟨_, h_18⟩ := z_17
        refine go_aload_n dX11_doLineMethod_96 rfl 0 rfl ?_
        refine go_iconst 4 dX11_doLineMethod_97 rfl ?_
        refine go_putI dX11_doLineMethod_98 fl_392_0 (fun q hq => by cases hq; exact Or.inl rfl) (fun _ _ => rfl) rfl hf (fun h_19 hf => ?_)
        refine go_iconst 0 dX11_doLineMethod_101 rfl ?_
        exact go_ireturn dX11_doLineMethod_102 rfl hf
      rw [if_neg e2] at hf
      refine go_lsw1 (off := 76) (tgt := 103) dX11_doLineMethod_27 (by decide) (lk_c (ti (by decide) e0) (lk_c (ti (by decide) e1) (lk_c (ti (by decide) e2) rfl))) (by decide) ?_
      refine go_aload_n dX11_doLineMethod_103 rfl 0 rfl ?_
      refine go_getR dX11_doLineMethod_104 fl_389_0 (fun _ _ => rfl) hf (fun r_20 hf => ?_)
      refine go_iconst 0 dX11_doLineMethod_107 rfl ?_
      refine go_sipush 2611 dX11_doLineMethod_108 (by decide) ?_
      obtain ⟨a_21, rfl, hga_21⟩ := nn_some hf
      have hf := hga_21
      obtain ⟨hk, hf⟩ := kg_some hf
      obtain ⟨z_22, hc, hf⟩ := bd_some hf
      refine go_callV (y2 := M_X9_tell) (c2 := 10) dX11_doLineMethod_111 mo_X9_tell ⟨Nat.le_of_ble_eq_true rfl, Nat.le_of_ble_eq_true rfl⟩ na_X9_tell w430 w431 (by decide) rfl w432 hk [.int 0, .int 2611] rfl (n_X9_tell (a_21) 0 2611) rfl (csum (Nat.le_of_ble_eq_true rfl)) (t_X9_tell (a_21) 0 2611 h_7 _ hc) ?_
      obtain ⟨_, h_23⟩ := z_22
      refine go_aload_n dX11_doLineMethod_114 rfl 0 rfl ?_
      obtain ⟨hk, hf⟩ := kg_some hf
      obtain ⟨z_24, hc, hf⟩ := bd_some hf
      refine go_callV (y2 := M_X11_shutLine) (c2 := 12) dX11_doLineMethod_115 mo_X11_shutLine ⟨Nat.le_of_ble_eq_true rfl, Nat.le_of_ble_eq_true rfl⟩ na_X11_shutLine w658 w660 (by decide) rfl w17 hk [] rfl (n_X11_shutLine (a0)) rfl (csum (Nat.le_of_ble_eq_true rfl)) (t_X11_shutLine (a0) h_23 _ hc) ?_
      obtain ⟨_, h_25⟩ := z_24
      refine go_iconst 0 dX11_doLineMethod_118 rfl ?_
      exact go_ireturn dX11_doLineMethod_119 rfl hf
    · refine go_sipush 501 dX11_doLineMethod_22 (by decide) ?_
      exact go_ireturn dX11_doLineMethod_25 rfl hf
  · refine go_sipush 503 dX11_doLineMethod_8 (by decide) ?_
    exact go_ireturn dX11_doLineMethod_11 rfl hf
-- LetterBroker.keep(LLetterBroker$Channel;LLetterBroker$Deed;)I
theorem dX11_keep_0 : decode cX11_keep 0 = .ok (.aload_n 1, 1) := by decide +kernel
theorem dX11_keep_1 : decode cX11_keep 1 = .ok (.getfield 94, 3) := by decide +kernel
theorem dX11_keep_4 : decode cX11_keep 4 = .ok (.invokeinterface 87 1, 5) := by decide +kernel
theorem dX11_keep_9 : decode cX11_keep 9 = .ok (.bipush 12, 2) := by decide +kernel
theorem dX11_keep_11 : decode cX11_keep 11 = .ok (.if_icmp .lt 7, 3) := by decide +kernel
theorem dX11_keep_14 : decode cX11_keep 14 = .ok (.sipush 506, 3) := by decide +kernel
theorem dX11_keep_17 : decode cX11_keep 17 = .ok (.ireturn, 1) := by decide +kernel
theorem dX11_keep_18 : decode cX11_keep 18 = .ok (.aload_n 1, 1) := by decide +kernel
theorem dX11_keep_19 : decode cX11_keep 19 = .ok (.getfield 94, 3) := by decide +kernel
theorem dX11_keep_22 : decode cX11_keep 22 = .ok (.aload_n 2, 1) := by decide +kernel
theorem dX11_keep_23 : decode cX11_keep 23 = .ok (.invokeinterface 304 2, 5) := by decide +kernel
theorem dX11_keep_28 : decode cX11_keep 28 = .ok (.pop, 1) := by decide +kernel
theorem dX11_keep_29 : decode cX11_keep 29 = .ok (.iconst 0, 1) := by decide +kernel
theorem dX11_keep_30 : decode cX11_keep 30 = .ok (.ireturn, 1) := by decide +kernel
def f_X11_keep (a0 : Nat) (r1 : Option Nat) (r2 : Option Nat) (h : AH) : Option (Int32 × AH) := nn r1 fun a_1 =>
  rdR h a_1 2 2 fun r_2 =>
  nn r_2 fun a_3 =>
  kg h a_3 0 (bd (f_Jx4a65c_size_8abf5 a_3 h) fun x_6 h_5 =>
  (if x_6 < 12 then
    rdR h_5 a_1 2 2 fun r_7 =>
    nn r_7 fun a_8 =>
    kg h_5 a_8 0 (bd (f_Jx4a65c_add_9ea2d a_8 r2 h_5) fun x_11 h_10 =>
    some (0, h_10))
  else
    some (506, h_5)))
set_option maxRecDepth 20000 in
set_option maxHeartbeats 4000000 in
theorem t_X11_keep {Ω : Om} (a0 : Nat) (r1 : Option Nat) (r2 : Option Nat) (h : AH) (q : Int32 × AH) (hf : f_X11_keep a0 r1 r2 h = some q) : Go Ω M_X11_keep 0 (lv_args 0 [vR Ω (some a0), vR Ω r1, vR Ω r2]) [] h (some (.int q.1)) q.2 := by
  unfold f_X11_keep at hf
  rw [la_R, la_R, la_R, la_0]
  refine go_sub (lv' := [(0, vR Ω (some a0)), (1, vR Ω r1), (2, vR Ω r2)]) [0, 1, 2] rfl ?_
  refine go_aload_n dX11_keep_0 rfl 1 rfl ?_
  obtain ⟨a_1, rfl, hga_1⟩ := nn_some hf
  have hf := hga_1
  refine go_getR dX11_keep_1 fl_354_0 (fun _ _ => rfl) hf (fun r_2 hf => ?_)
  obtain ⟨a_3, rfl, hga_3⟩ := nn_some hf
  have hf := hga_3
  obtain ⟨hk, hf⟩ := kg_some hf
  obtain ⟨z_4, hc, hf⟩ := bd_some hf
  refine go_callF (y2 := M_Jx4a65c_size_8abf5) (x2 := ⟨"java/util/List", "size", "()I"⟩) dX11_keep_4 mo_Jx4a65c_size_8abf5 ⟨Nat.le_of_ble_eq_true rfl, Nat.le_of_ble_eq_true rfl⟩ na_Jx4a65c_size_8abf5 w517 w522 w520 (by decide) (fun U hU => hU.2.2.2.2.1) hk [] rfl (n_Jx4a65c_size_8abf5 (a_3)) rfl (csum (Nat.le_of_ble_eq_true rfl)) (t_Jx4a65c_size_8abf5 (a_3) h _ hc) ?_
  obtain ⟨x_6, h_5⟩ := z_4
  refine go_bipush 12 dX11_keep_9 (by decide) ?_
  refine go_icmp_lt (tgt := 18) dX11_keep_11 (by decide) hf (fun hf => ?_) (fun hf => ?_)
  · refine go_aload_n dX11_keep_18 rfl 1 rfl ?_
    refine go_getR dX11_keep_19 fl_354_0 (fun _ _ => rfl) hf (fun r_7 hf => ?_)
    refine go_aload_n dX11_keep_22 rfl 2 rfl ?_
    obtain ⟨a_8, rfl, hga_8⟩ := nn_some hf
    have hf := hga_8
    obtain ⟨hk, hf⟩ := kg_some hf
    obtain ⟨z_9, hc, hf⟩ := bd_some hf
    refine go_callF (y2 := M_Jx4a65c_add_9ea2d) (x2 := ⟨"java/util/List", "add", "(Ljava/lang/Object;)Z"⟩) dX11_keep_23 mo_Jx4a65c_add_9ea2d ⟨Nat.le_of_ble_eq_true rfl, Nat.le_of_ble_eq_true rfl⟩ na_Jx4a65c_add_9ea2d w526 w256 w254 (by decide) (fun U hU => hU.1) hk [vR Ω r2] rfl (n_Jx4a65c_add_9ea2d (a_8) r2) rfl (csum (Nat.le_of_ble_eq_true rfl)) (t_Jx4a65c_add_9ea2d (a_8) r2 h_5 _ hc) ?_
    obtain ⟨x_11, h_10⟩ := z_9
    refine go_pop dX11_keep_28 rfl ?_
    refine go_iconst 0 dX11_keep_29 rfl ?_
    exact go_ireturn dX11_keep_30 rfl hf
  · refine go_sipush 506 dX11_keep_14 (by decide) ?_
    exact go_ireturn dX11_keep_17 rfl hf
-- LetterBroker$Deed.coversAll()Z
theorem dX3_coversAll_0 : decode cX3_coversAll 0 = .ok (.aload_n 0, 1) := by decide +kernel
theorem dX3_coversAll_1 : decode cX3_coversAll 1 = .ok (.getfield 17, 3) := by decide +kernel
theorem dX3_coversAll_4 : decode cX3_coversAll 4 = .ok (.ifCond .eq 14, 3) := by decide +kernel
theorem dX3_coversAll_7 : decode cX3_coversAll 7 = .ok (.aload_n 0, 1) := by decide +kernel
theorem dX3_coversAll_8 : decode cX3_coversAll 8 = .ok (.getfield 13, 3) := by decide +kernel
theorem dX3_coversAll_11 : decode cX3_coversAll 11 = .ok (.ifCond .ne 7, 3) := by decide +kernel
theorem dX3_coversAll_14 : decode cX3_coversAll 14 = .ok (.iconst 1, 1) := by decide +kernel
theorem dX3_coversAll_15 : decode cX3_coversAll 15 = .ok (.goto 4, 3) := by decide +kernel
theorem dX3_coversAll_18 : decode cX3_coversAll 18 = .ok (.iconst 0, 1) := by decide +kernel
theorem dX3_coversAll_19 : decode cX3_coversAll 19 = .ok (.ireturn, 1) := by decide +kernel
def f_X3_coversAll (a0 : Nat) (h : AH) : Option (Int32 × AH) := rdI h a0 4 2 fun x_1 =>
  (if x_1 = 0 then
    rz 0 (some (0, h))
  else
    rdI h a0 4 1 fun x_2 =>
    (if x_2 = 0 then
      rz 1 (some (1, h))
    else
      rz 0 (some (0, h))))
set_option maxRecDepth 20000 in
set_option maxHeartbeats 4000000 in
theorem t_X3_coversAll {Ω : Om} (a0 : Nat) (h : AH) (q : Int32 × AH) (hf : f_X3_coversAll a0 h = some q) : Go Ω M_X3_coversAll 0 (lv_args 0 [vR Ω (some a0)]) [] h (some (.int q.1)) q.2 := by
  unfold f_X3_coversAll at hf
  rw [la_R, la_0]
  refine go_sub (lv' := [(0, vR Ω (some a0))]) [0] rfl ?_
  refine go_aload_n dX3_coversAll_0 rfl 0 rfl ?_
  refine go_getI dX3_coversAll_1 fl_500_0 (fun _ _ => rfl) hf (fun x_1 hf => ?_)
  refine go_if_eq (tgt := 18) dX3_coversAll_4 (by decide) hf (fun hf => ?_) (fun hf => ?_)
  · refine go_iconst 0 dX3_coversAll_18 rfl ?_
    exact go_zreturn dX3_coversAll_19 rfl hf
  · refine go_aload_n dX3_coversAll_7 rfl 0 rfl ?_
    refine go_getI dX3_coversAll_8 fl_499_0 (fun _ _ => rfl) hf (fun x_2 hf => ?_)
    refine go_if_ne (tgt := 18) dX3_coversAll_11 (by decide) hf (fun hf => ?_) (fun hf => ?_)
    · refine go_iconst 0 dX3_coversAll_18 rfl ?_
      exact go_zreturn dX3_coversAll_19 rfl hf
    · refine go_iconst 1 dX3_coversAll_14 rfl ?_
      refine go_goto (tgt := 19) dX3_coversAll_15 (by decide) ?_
      exact go_zreturn dX3_coversAll_19 rfl hf
-- LetterBroker$Deed.covers(LLetterBroker$Letter;)Z
theorem dX3_covers_0 : decode cX3_covers 0 = .ok (.aload_n 0, 1) := by decide +kernel
theorem dX3_covers_1 : decode cX3_covers 1 = .ok (.invokevirtual 24, 3) := by decide +kernel
theorem dX3_covers_4 : decode cX3_covers 4 = .ok (.ifCond .ne 35, 3) := by decide +kernel
theorem dX3_covers_7 : decode cX3_covers 7 = .ok (.aload_n 0, 1) := by decide +kernel
theorem dX3_covers_8 : decode cX3_covers 8 = .ok (.getfield 17, 3) := by decide +kernel
theorem dX3_covers_11 : decode cX3_covers 11 = .ok (.ifCond .eq 17, 3) := by decide +kernel
theorem dX3_covers_14 : decode cX3_covers 14 = .ok (.aload_n 1, 1) := by decide +kernel
theorem dX3_covers_15 : decode cX3_covers 15 = .ok (.getfield 28, 3) := by decide +kernel
theorem dX3_covers_18 : decode cX3_covers 18 = .ok (.aload_n 0, 1) := by decide +kernel
theorem dX3_covers_19 : decode cX3_covers 19 = .ok (.getfield 13, 3) := by decide +kernel
theorem dX3_covers_22 : decode cX3_covers 22 = .ok (.if_icmp .gt 21, 3) := by decide +kernel
theorem dX3_covers_25 : decode cX3_covers 25 = .ok (.goto 14, 3) := by decide +kernel
theorem dX3_covers_28 : decode cX3_covers 28 = .ok (.aload_n 1, 1) := by decide +kernel
theorem dX3_covers_29 : decode cX3_covers 29 = .ok (.getfield 28, 3) := by decide +kernel
theorem dX3_covers_32 : decode cX3_covers 32 = .ok (.aload_n 0, 1) := by decide +kernel
theorem dX3_covers_33 : decode cX3_covers 33 = .ok (.getfield 13, 3) := by decide +kernel
theorem dX3_covers_36 : decode cX3_covers 36 = .ok (.if_icmp .ne 7, 3) := by decide +kernel
theorem dX3_covers_39 : decode cX3_covers 39 = .ok (.iconst 1, 1) := by decide +kernel
theorem dX3_covers_40 : decode cX3_covers 40 = .ok (.goto 4, 3) := by decide +kernel
theorem dX3_covers_43 : decode cX3_covers 43 = .ok (.iconst 0, 1) := by decide +kernel
theorem dX3_covers_44 : decode cX3_covers 44 = .ok (.ireturn, 1) := by decide +kernel
def f_X3_covers (a0 : Nat) (r1 : Option Nat) (h : AH) : Option (Int32 × AH) := kg h a0 4 (bd (f_X3_coversAll a0 h) fun x_3 h_2 =>
  (if x_3 = 0 then
    rdI h_2 a0 4 2 fun x_4 =>
    (if x_4 = 0 then
      nn r1 fun a_5 =>
      rdI h_2 a_5 8 4 fun x_6 =>
      rdI h_2 a0 4 1 fun x_7 =>
      (if x_6 = x_7 then
        rz 1 (some (1, h_2))
      else
        rz 0 (some (0, h_2)))
    else
      nn r1 fun a_8 =>
      rdI h_2 a_8 8 4 fun x_9 =>
      rdI h_2 a0 4 1 fun x_10 =>
      (if x_10 < x_9 then
        rz 0 (some (0, h_2))
      else
        rz 1 (some (1, h_2))))
  else
    rz 1 (some (1, h_2))))
set_option maxRecDepth 20000 in
set_option maxHeartbeats 4000000 in
theorem t_X3_covers {Ω : Om} (a0 : Nat) (r1 : Option Nat) (h : AH) (q : Int32 × AH) (hf : f_X3_covers a0 r1 h = some q) : Go Ω M_X3_covers 0 (lv_args 0 [vR Ω (some a0), vR Ω r1]) [] h (some (.int q.1)) q.2 := by
  unfold f_X3_covers at hf
  rw [la_R, la_R, la_0]
  refine go_sub (lv' := [(0, vR Ω (some a0)), (1, vR Ω r1)]) [0, 1] rfl ?_
  refine go_aload_n dX3_covers_0 rfl 0 rfl ?_
  obtain ⟨hk, hf⟩ := kg_some hf
  obtain ⟨z_1, hc, hf⟩ := bd_some hf
  refine go_callV (y2 := M_X3_coversAll) (c2 := 4) dX3_covers_1 mo_X3_coversAll ⟨Nat.le_of_ble_eq_true rfl, Nat.le_of_ble_eq_true rfl⟩ na_X3_coversAll w1013 w1002 (by decide) rfl w1003 hk [] rfl (n_X3_coversAll (a0)) rfl (csum (Nat.le_of_ble_eq_true rfl)) (t_X3_coversAll (a0) h _ hc) ?_
  obtain ⟨x_3, h_2⟩ := z_1
  refine go_if_ne (tgt := 39) dX3_covers_4 (by decide) hf (fun hf => ?_) (fun hf => ?_)
  · refine go_iconst 1 dX3_covers_39 rfl ?_
    refine go_goto (tgt := 44) dX3_covers_40 (by decide) ?_
    exact go_zreturn dX3_covers_44 rfl hf
  · refine go_aload_n dX3_covers_7 rfl 0 rfl ?_
    refine go_getI dX3_covers_8 fl_500_0 (fun _ _ => rfl) hf (fun x_4 hf => ?_)
    refine go_if_eq (tgt := 28) dX3_covers_11 (by decide) hf (fun hf => ?_) (fun hf => ?_)
    · refine go_aload_n dX3_covers_28 rfl 1 rfl ?_
      obtain ⟨a_5, rfl, hga_5⟩ := nn_some hf
      have hf := hga_5
      refine go_getI dX3_covers_29 fl_621_0 (fun _ _ => rfl) hf (fun x_6 hf => ?_)
      refine go_aload_n dX3_covers_32 rfl 0 rfl ?_
      refine go_getI dX3_covers_33 fl_499_0 (fun _ _ => rfl) hf (fun x_7 hf => ?_)
      refine go_icmp_ne (tgt := 43) dX3_covers_36 (by decide) hf (fun hf => ?_) (fun hf => ?_)
      · refine go_iconst 0 dX3_covers_43 rfl ?_
        exact go_zreturn dX3_covers_44 rfl hf
      · refine go_iconst 1 dX3_covers_39 rfl ?_
        refine go_goto (tgt := 44) dX3_covers_40 (by decide) ?_
        exact go_zreturn dX3_covers_44 rfl hf
    · refine go_aload_n dX3_covers_14 rfl 1 rfl ?_
      obtain ⟨a_8, rfl, hga_8⟩ := nn_some hf
      have hf := hga_8
      refine go_getI dX3_covers_15 fl_621_0 (fun _ _ => rfl) hf (fun x_9 hf => ?_)
      refine go_aload_n dX3_covers_18 rfl 0 rfl ?_
      refine go_getI dX3_covers_19 fl_499_0 (fun _ _ => rfl) hf (fun x_10 hf => ?_)
      refine go_icmp_gt (tgt := 43) dX3_covers_22 (by decide) hf (fun hf => ?_) (fun hf => ?_)
      · refine go_iconst 0 dX3_covers_43 rfl ?_
        exact go_zreturn dX3_covers_44 rfl hf
      · refine go_goto (tgt := 39) dX3_covers_25 (by decide) ?_
        refine go_iconst 1 dX3_covers_39 rfl ?_
        refine go_goto (tgt := 44) dX3_covers_40 (by decide) ?_
        exact go_zreturn dX3_covers_44 rfl hf
-- LetterBroker$Channel.holdsSomeOf(LLetterBroker$Deed;)Z
theorem dX1_holdsSomeOf_0 : decode cX1_holdsSomeOf 0 = .ok (.iconst 0, 1) := by decide +kernel
theorem dX1_holdsSomeOf_1 : decode cX1_holdsSomeOf 1 = .ok (.istore_n 2, 1) := by decide +kernel
theorem dX1_holdsSomeOf_2 : decode cX1_holdsSomeOf 2 = .ok (.iload_n 2, 1) := by decide +kernel
theorem dX1_holdsSomeOf_3 : decode cX1_holdsSomeOf 3 = .ok (.aload_n 0, 1) := by decide +kernel
theorem dX1_holdsSomeOf_4 : decode cX1_holdsSomeOf 4 = .ok (.getfield 12, 3) := by decide +kernel
theorem dX1_holdsSomeOf_7 : decode cX1_holdsSomeOf 7 = .ok (.invokeinterface 49 1, 5) := by decide +kernel
theorem dX1_holdsSomeOf_12 : decode cX1_holdsSomeOf 12 = .ok (.if_icmp .ge 31, 3) := by decide +kernel
theorem dX1_holdsSomeOf_15 : decode cX1_holdsSomeOf 15 = .ok (.aload_n 1, 1) := by decide +kernel
theorem dX1_holdsSomeOf_16 : decode cX1_holdsSomeOf 16 = .ok (.aload_n 0, 1) := by decide +kernel
theorem dX1_holdsSomeOf_17 : decode cX1_holdsSomeOf 17 = .ok (.getfield 12, 3) := by decide +kernel
theorem dX1_holdsSomeOf_20 : decode cX1_holdsSomeOf 20 = .ok (.iload_n 2, 1) := by decide +kernel
theorem dX1_holdsSomeOf_21 : decode cX1_holdsSomeOf 21 = .ok (.invokeinterface 53 2, 5) := by decide +kernel
theorem dX1_holdsSomeOf_26 : decode cX1_holdsSomeOf 26 = .ok (.checkcast 39, 3) := by decide +kernel
theorem dX1_holdsSomeOf_29 : decode cX1_holdsSomeOf 29 = .ok (.invokevirtual 57, 3) := by decide +kernel
theorem dX1_holdsSomeOf_32 : decode cX1_holdsSomeOf 32 = .ok (.ifCond .eq 5, 3) := by decide +kernel
theorem dX1_holdsSomeOf_35 : decode cX1_holdsSomeOf 35 = .ok (.iconst 1, 1) := by decide +kernel
theorem dX1_holdsSomeOf_36 : decode cX1_holdsSomeOf 36 = .ok (.ireturn, 1) := by decide +kernel
theorem dX1_holdsSomeOf_37 : decode cX1_holdsSomeOf 37 = .ok (.iinc 2 1, 3) := by decide +kernel
theorem dX1_holdsSomeOf_40 : decode cX1_holdsSomeOf 40 = .ok (.goto (-38), 3) := by decide +kernel
theorem dX1_holdsSomeOf_43 : decode cX1_holdsSomeOf 43 = .ok (.iconst 0, 1) := by decide +kernel
theorem dX1_holdsSomeOf_44 : decode cX1_holdsSomeOf 44 = .ok (.ireturn, 1) := by decide +kernel
def f_X1_holdsSomeOf_2 : Nat → Nat → Option Nat → Int32 → AH → Option (Int32 × AH)
  | 0, _, _, _, _ => none
  | n + 1, a0, r1, x2, h => rdR h a0 2 1 fun r_1 =>
    nn r_1 fun a_2 =>
    kg h a_2 0 (bd (f_Jx4a65c_size_8abf5 a_2 h) fun x_5 h_4 =>
    (if x_5 ≤ x2 then
      rz 0 (some (0, h_4))
    else
      rdR h_4 a0 2 1 fun r_6 =>
      nn r_6 fun a_7 =>
      kg h_4 a_7 0 (bd (f_Jx4a65c_get_915e3 a_7 x2 h_4) fun r_10 h_9 =>
      ckc h_9 r_10 8 (
      nn r1 fun a_11 =>
      kg h_9 a_11 4 (bd (f_X3_covers a_11 r_10 h_9) fun x_14 h_13 =>
      (if x_14 = 0 then
        f_X1_holdsSomeOf_2 n a0 (some a_11) (x2 + 1) h_13
      else
        rz 1 (some (1, h_13))))))))
set_option maxRecDepth 20000 in
set_option maxHeartbeats 4000000 in
theorem t_X1_holdsSomeOf_2 {Ω : Om} : ∀ (n : Nat) (a0 : Nat) (r1 : Option Nat) (x2 : Int32) (h : AH) (q : Int32 × AH), f_X1_holdsSomeOf_2 n a0 r1 x2 h = some q → Go Ω M_X1_holdsSomeOf 2 [(0, vR Ω (some a0)), (1, vR Ω r1), (2, .int x2)] [] h (some (.int q.1)) q.2 := by
  intro n
  induction n with
  | zero => intro a0 r1 x2 h q hf; cases hf
  | succ n ih =>
    intro a0 r1 x2 h q hf
    rw [f_X1_holdsSomeOf_2] at hf
    refine go_iload_n dX1_holdsSomeOf_2 rfl 2 rfl ?_
    refine go_aload_n dX1_holdsSomeOf_3 rfl 0 rfl ?_
    refine go_getR dX1_holdsSomeOf_4 fl_350_0 (fun _ _ => rfl) hf (fun r_1 hf => ?_)
    obtain ⟨a_2, rfl, hga_2⟩ := nn_some hf
    have hf := hga_2
    obtain ⟨hk, hf⟩ := kg_some hf
    obtain ⟨z_3, hc, hf⟩ := bd_some hf
    refine go_callF (y2 := M_Jx4a65c_size_8abf5) (x2 := ⟨"java/util/List", "size", "()I"⟩) dX1_holdsSomeOf_7 mo_Jx4a65c_size_8abf5 ⟨Nat.le_of_ble_eq_true rfl, Nat.le_of_ble_eq_true rfl⟩ na_Jx4a65c_size_8abf5 w694 w522 w520 (by decide) (fun U hU => hU.2.2.2.2.1) hk [] rfl (n_Jx4a65c_size_8abf5 (a_2)) rfl (csum (Nat.le_of_ble_eq_true rfl)) (t_Jx4a65c_size_8abf5 (a_2) h _ hc) ?_
    obtain ⟨x_5, h_4⟩ := z_3
    refine go_icmp_ge (tgt := 43) dX1_holdsSomeOf_12 (by decide) hf (fun hf => ?_) (fun hf => ?_)
    · refine go_iconst 0 dX1_holdsSomeOf_43 rfl ?_
      exact go_zreturn dX1_holdsSomeOf_44 rfl hf
    · refine go_aload_n dX1_holdsSomeOf_15 rfl 1 rfl ?_
      refine go_aload_n dX1_holdsSomeOf_16 rfl 0 rfl ?_
      refine go_getR dX1_holdsSomeOf_17 fl_350_0 (fun _ _ => rfl) hf (fun r_6 hf => ?_)
      refine go_iload_n dX1_holdsSomeOf_20 rfl 2 rfl ?_
      obtain ⟨a_7, rfl, hga_7⟩ := nn_some hf
      have hf := hga_7
      obtain ⟨hk, hf⟩ := kg_some hf
      obtain ⟨z_8, hc, hf⟩ := bd_some hf
      refine go_callF (y2 := M_Jx4a65c_get_915e3) (x2 := ⟨"java/util/List", "get", "(I)Ljava/lang/Object;"⟩) dX1_holdsSomeOf_21 mo_Jx4a65c_get_915e3 ⟨Nat.le_of_ble_eq_true rfl, Nat.le_of_ble_eq_true rfl⟩ na_Jx4a65c_get_915e3 w696 w543 w541 (by decide) (fun U hU => hU.2.2.1) hk [.int x2] rfl (n_Jx4a65c_get_915e3 (a_7) x2) rfl (csum (Nat.le_of_ble_eq_true rfl)) (t_Jx4a65c_get_915e3 (a_7) x2 h_4 _ hc) ?_
      obtain ⟨r_10, h_9⟩ := z_8
      refine go_cast (c := 8) dX1_holdsSomeOf_26 (by decide) rfl w697 hf (fun hf => ?_)
      obtain ⟨a_11, rfl, hga_11⟩ := nn_some hf
      have hf := hga_11
      obtain ⟨hk, hf⟩ := kg_some hf
      obtain ⟨z_12, hc, hf⟩ := bd_some hf
      refine go_callV (y2 := M_X3_covers) (c2 := 4) dX1_holdsSomeOf_29 mo_X3_covers ⟨Nat.le_of_ble_eq_true rfl, Nat.le_of_ble_eq_true rfl⟩ na_X3_covers w1009 w1010 (by decide) rfl w1011 hk [vR Ω r_10] rfl (n_X3_covers (a_11) r_10) rfl (csum (Nat.le_of_ble_eq_true rfl)) (t_X3_covers (a_11) r_10 h_9 _ hc) ?_
      obtain ⟨x_14, h_13⟩ := z_12
      refine go_if_eq (tgt := 37) dX1_holdsSomeOf_32 (by decide) hf (fun hf => ?_) (fun hf => ?_)
      · refine go_iinc (j := 2) (v := x2 + 1) (lv' := [(2, .int (x2 + 1)), (0, vR Ω (some a0)), (1, vR Ω (some a_11))]) dX1_holdsSomeOf_37 rfl rfl (by decide) (by first | rfl | simp [catR, catI, catJ]) ?_
        refine go_goto (tgt := 2) dX1_holdsSomeOf_40 (by decide) ?_
        refine go_sub (lv' := [(0, vR Ω (some a0)), (1, vR Ω (some a_11)), (2, .int (x2 + 1))]) [1, 2, 0] rfl ?_
        exact ih a0 (some a_11) (x2 + 1) h_13 q hf
      · refine go_iconst 1 dX1_holdsSomeOf_35 rfl ?_
        exact go_zreturn dX1_holdsSomeOf_36 rfl hf
def f_X1_holdsSomeOf (a0 : Nat) (r1 : Option Nat) (h : AH) : Option (Int32 × AH) := f_X1_holdsSomeOf_2 FU a0 r1 0 h
set_option maxRecDepth 20000 in
set_option maxHeartbeats 4000000 in
theorem t_X1_holdsSomeOf {Ω : Om} (a0 : Nat) (r1 : Option Nat) (h : AH) (q : Int32 × AH) (hf : f_X1_holdsSomeOf a0 r1 h = some q) : Go Ω M_X1_holdsSomeOf 0 (lv_args 0 [vR Ω (some a0), vR Ω r1]) [] h (some (.int q.1)) q.2 := by
  unfold f_X1_holdsSomeOf at hf
  rw [la_R, la_R, la_0]
  refine go_sub (lv' := [(0, vR Ω (some a0)), (1, vR Ω r1)]) [0, 1] rfl ?_
  refine go_iconst 0 dX1_holdsSomeOf_0 rfl ?_
  refine go_istore_n (i := 2) (lv' := [(2, .int 0), (0, vR Ω (some a0)), (1, vR Ω r1)]) dX1_holdsSomeOf_1 rfl (by decide) (by first | rfl | simp [catR, catI, catJ]) ?_
  refine go_sub (lv' := [(0, vR Ω (some a0)), (1, vR Ω r1), (2, .int 0)]) [1, 2, 0] rfl ?_
  exact t_X1_holdsSomeOf_2 FU a0 r1 0 h q hf
-- LetterBroker$Channel.settle(LLetterBroker$Deed;)V
theorem dX1_settle_0 : decode cX1_settle 0 = .ok (.aload_n 0, 1) := by decide +kernel
theorem dX1_settle_1 : decode cX1_settle 1 = .ok (.getfield 12, 3) := by decide +kernel
theorem dX1_settle_4 : decode cX1_settle 4 = .ok (.invokeinterface 49 1, 5) := by decide +kernel
theorem dX1_settle_9 : decode cX1_settle 9 = .ok (.iconst 1, 1) := by decide +kernel
theorem dX1_settle_10 : decode cX1_settle 10 = .ok (.isub, 1) := by decide +kernel
theorem dX1_settle_11 : decode cX1_settle 11 = .ok (.istore_n 2, 1) := by decide +kernel
theorem dX1_settle_12 : decode cX1_settle 12 = .ok (.iload_n 2, 1) := by decide +kernel
theorem dX1_settle_13 : decode cX1_settle 13 = .ok (.ifCond .lt 57, 3) := by decide +kernel
theorem dX1_settle_16 : decode cX1_settle 16 = .ok (.aload_n 0, 1) := by decide +kernel
theorem dX1_settle_17 : decode cX1_settle 17 = .ok (.getfield 12, 3) := by decide +kernel
theorem dX1_settle_20 : decode cX1_settle 20 = .ok (.iload_n 2, 1) := by decide +kernel
theorem dX1_settle_21 : decode cX1_settle 21 = .ok (.invokeinterface 53 2, 5) := by decide +kernel
theorem dX1_settle_26 : decode cX1_settle 26 = .ok (.checkcast 39, 3) := by decide +kernel
theorem dX1_settle_29 : decode cX1_settle 29 = .ok (.astore_n 3, 1) := by decide +kernel
theorem dX1_settle_30 : decode cX1_settle 30 = .ok (.aload_n 1, 1) := by decide +kernel
theorem dX1_settle_31 : decode cX1_settle 31 = .ok (.aload_n 3, 1) := by decide +kernel
theorem dX1_settle_32 : decode cX1_settle 32 = .ok (.invokevirtual 57, 3) := by decide +kernel
theorem dX1_settle_35 : decode cX1_settle 35 = .ok (.ifCond .eq 29, 3) := by decide +kernel
theorem dX1_settle_38 : decode cX1_settle 38 = .ok (.aload_n 0, 1) := by decide +kernel
theorem dX1_settle_39 : decode cX1_settle 39 = .ok (.getfield 12, 3) := by decide +kernel
theorem dX1_settle_42 : decode cX1_settle 42 = .ok (.iload_n 2, 1) := by decide +kernel
theorem dX1_settle_43 : decode cX1_settle 43 = .ok (.invokeinterface 63 2, 5) := by decide +kernel
theorem dX1_settle_48 : decode cX1_settle 48 = .ok (.pop, 1) := by decide +kernel
theorem dX1_settle_49 : decode cX1_settle 49 = .ok (.aload_n 1, 1) := by decide +kernel
theorem dX1_settle_50 : decode cX1_settle 50 = .ok (.getfield 66, 3) := by decide +kernel
theorem dX1_settle_53 : decode cX1_settle 53 = .ok (.ifCond .eq 11, 3) := by decide +kernel
theorem dX1_settle_56 : decode cX1_settle 56 = .ok (.aload_n 3, 1) := by decide +kernel
theorem dX1_settle_57 : decode cX1_settle 57 = .ok (.getfield 69, 3) := by decide +kernel
theorem dX1_settle_60 : decode cX1_settle 60 = .ok (.aload_n 3, 1) := by decide +kernel
theorem dX1_settle_61 : decode cX1_settle 61 = .ok (.invokevirtual 73, 3) := by decide +kernel
theorem dX1_settle_64 : decode cX1_settle 64 = .ok (.iinc 2 (-1), 3) := by decide +kernel
theorem dX1_settle_67 : decode cX1_settle 67 = .ok (.goto (-55), 3) := by decide +kernel
theorem dX1_settle_70 : decode cX1_settle 70 = .ok (.return_, 1) := by decide +kernel
def f_X1_settle_64 (k12 : Nat → Option Nat → Int32 → AH → Option (Unit × AH)) (a0 : Nat) (r1 : Option Nat) (x2 : Int32) (h : AH) : Option (Unit × AH) := k12 a0 r1 (x2 + (-1)) h
set_option maxRecDepth 20000 in
set_option maxHeartbeats 4000000 in
theorem t_X1_settle_64 {Ω : Om} {k12 : Nat → Option Nat → Int32 → AH → Option (Unit × AH)} (c12 : ∀ (a0 : Nat) (r1 : Option Nat) (x2 : Int32) (h : AH) (q : Unit × AH), k12 a0 r1 x2 h = some q → Go Ω M_X1_settle 12 [(0, vR Ω (some a0)), (1, vR Ω r1), (2, .int x2)] [] h none q.2) (a0 : Nat) (r1 : Option Nat) (x2 : Int32) (h : AH) (q : Unit × AH) (hf : f_X1_settle_64 k12 a0 r1 x2 h = some q) : Go Ω M_X1_settle 64 [(0, vR Ω (some a0)), (1, vR Ω r1), (2, .int x2)] [] h none q.2 := by
  unfold f_X1_settle_64 at hf
  refine go_iinc (j := 2) (v := x2 + (-1)) (lv' := [(2, .int (x2 + (-1))), (0, vR Ω (some a0)), (1, vR Ω r1)]) dX1_settle_64 rfl rfl (by decide) (by first | rfl | simp [catR, catI, catJ]) ?_
  refine go_goto (tgt := 12) dX1_settle_67 (by decide) ?_
  refine go_sub (lv' := [(0, vR Ω (some a0)), (1, vR Ω r1), (2, .int (x2 + (-1)))]) [1, 2, 0] rfl ?_
  exact c12 a0 r1 (x2 + (-1)) h q hf
def f_X1_settle_12 : Nat → Nat → Option Nat → Int32 → AH → Option (Unit × AH)
  | 0, _, _, _, _ => none
  | n + 1, a0, r1, x2, h => (if x2 < 0 then
      some ((), h)
    else
      rdR h a0 2 1 fun r_1 =>
      nn r_1 fun a_2 =>
      kg h a_2 0 (bd (f_Jx4a65c_get_915e3 a_2 x2 h) fun r_5 h_4 =>
      ckc h_4 r_5 8 (
      nn r1 fun a_6 =>
      kg h_4 a_6 4 (bd (f_X3_covers a_6 r_5 h_4) fun x_9 h_8 =>
      (if x_9 = 0 then
        f_X1_settle_64 (fun a0 r1 x2 h => f_X1_settle_12 n a0 r1 x2 h) a0 (some a_6) x2 h_8
      else
        rdR h_8 a0 2 1 fun r_10 =>
        nn r_10 fun a_11 =>
        kg h_8 a_11 0 (bd (f_Jx4a65c_remove_915e3 a_11 x2 h_8) fun r_14 h_13 =>
        rdI h_13 a_6 4 3 fun x_15 =>
        (if x_15 = 0 then
          f_X1_settle_64 (fun a0 r1 x2 h => f_X1_settle_12 n a0 r1 x2 h) a0 (some a_6) x2 h_13
        else
          nn r_5 fun a_16 =>
          rdR h_13 a_16 8 1 fun r_17 =>
          nn r_17 fun a_18 =>
          kg h_13 a_18 11 (bd (f_X10_takeBack a_18 (some a_16) h_13) fun _ h_20 =>
          f_X1_settle_64 (fun a0 r1 x2 h => f_X1_settle_12 n a0 r1 x2 h) a0 (some a_6) x2 h_20))))))))
set_option maxRecDepth 20000 in
set_option maxHeartbeats 4000000 in
theorem t_X1_settle_12 {Ω : Om} : ∀ (n : Nat) (a0 : Nat) (r1 : Option Nat) (x2 : Int32) (h : AH) (q : Unit × AH), f_X1_settle_12 n a0 r1 x2 h = some q → Go Ω M_X1_settle 12 [(0, vR Ω (some a0)), (1, vR Ω r1), (2, .int x2)] [] h none q.2 := by
  intro n
  induction n with
  | zero => intro a0 r1 x2 h q hf; cases hf
  | succ n ih =>
    intro a0 r1 x2 h q hf
    rw [f_X1_settle_12] at hf
    refine go_iload_n dX1_settle_12 rfl 2 rfl ?_
    refine go_if_lt (tgt := 70) dX1_settle_13 (by decide) hf (fun hf => ?_) (fun hf => ?_)
    · exact go_return dX1_settle_70 rfl hf
    · refine go_aload_n dX1_settle_16 rfl 0 rfl ?_
      refine go_getR dX1_settle_17 fl_350_0 (fun _ _ => rfl) hf (fun r_1 hf => ?_)
      refine go_iload_n dX1_settle_20 rfl 2 rfl ?_
      obtain ⟨a_2, rfl, hga_2⟩ := nn_some hf
      have hf := hga_2
      obtain ⟨hk, hf⟩ := kg_some hf
      obtain ⟨z_3, hc, hf⟩ := bd_some hf
      refine go_callF (y2 := M_Jx4a65c_get_915e3) (x2 := ⟨"java/util/List", "get", "(I)Ljava/lang/Object;"⟩) dX1_settle_21 mo_Jx4a65c_get_915e3 ⟨Nat.le_of_ble_eq_true rfl, Nat.le_of_ble_eq_true rfl⟩ na_Jx4a65c_get_915e3 w696 w543 w541 (by decide) (fun U hU => hU.2.2.1) hk [.int x2] rfl (n_Jx4a65c_get_915e3 (a_2) x2) rfl (csum (Nat.le_of_ble_eq_true rfl)) (t_Jx4a65c_get_915e3 (a_2) x2 h _ hc) ?_
      obtain ⟨r_5, h_4⟩ := z_3
      refine go_cast (c := 8) dX1_settle_26 (by decide) rfl w697 hf (fun hf => ?_)
      refine go_astore_n (i := 3) (lv' := [(3, vR Ω r_5), (0, vR Ω (some a0)), (1, vR Ω r1), (2, .int x2)]) dX1_settle_29 rfl (by decide) (by first | rfl | simp [catR, catI, catJ]) ?_
      refine go_aload_n dX1_settle_30 rfl 2 rfl ?_
      refine go_aload_n dX1_settle_31 rfl 0 rfl ?_
      obtain ⟨a_6, rfl, hga_6⟩ := nn_some hf
      have hf := hga_6
      obtain ⟨hk, hf⟩ := kg_some hf
      obtain ⟨z_7, hc, hf⟩ := bd_some hf
      refine go_callV (y2 := M_X3_covers) (c2 := 4) dX1_settle_32 mo_X3_covers ⟨Nat.le_of_ble_eq_true rfl, Nat.le_of_ble_eq_true rfl⟩ na_X3_covers w1009 w1010 (by decide) rfl w1011 hk [vR Ω r_5] rfl (n_X3_covers (a_6) r_5) rfl (csum (Nat.le_of_ble_eq_true rfl)) (t_X3_covers (a_6) r_5 h_4 _ hc) ?_
      obtain ⟨x_9, h_8⟩ := z_7
      refine go_if_eq (tgt := 64) dX1_settle_35 (by decide) hf (fun hf => ?_) (fun hf => ?_)
      · refine go_sub (lv' := [(0, vR Ω (some a0)), (1, vR Ω (some a_6)), (2, .int x2)]) [1, 2, 3] rfl ?_
        exact t_X1_settle_64 ih a0 (some a_6) x2 h_8 q hf
      · refine go_aload_n dX1_settle_38 rfl 1 rfl ?_
        refine go_getR dX1_settle_39 fl_350_0 (fun _ _ => rfl) hf (fun r_10 hf => ?_)
        refine go_iload_n dX1_settle_42 rfl 3 rfl ?_
        obtain ⟨a_11, rfl, hga_11⟩ := nn_some hf
        have hf := hga_11
        obtain ⟨hk, hf⟩ := kg_some hf
        obtain ⟨z_12, hc, hf⟩ := bd_some hf
        refine go_callF (y2 := M_Jx4a65c_remove_915e3) (x2 := ⟨"java/util/List", "remove", "(I)Ljava/lang/Object;"⟩) dX1_settle_43 mo_Jx4a65c_remove_915e3 ⟨Nat.le_of_ble_eq_true rfl, Nat.le_of_ble_eq_true rfl⟩ na_Jx4a65c_remove_915e3 w1019 w681 w679 (by decide) (fun U hU => hU.2.2.2.1) hk [.int x2] rfl (n_Jx4a65c_remove_915e3 (a_11) x2) rfl (csum (Nat.le_of_ble_eq_true rfl)) (t_Jx4a65c_remove_915e3 (a_11) x2 h_8 _ hc) ?_
        obtain ⟨r_14, h_13⟩ := z_12
        refine go_pop dX1_settle_48 catR ?_
        refine go_aload_n dX1_settle_49 rfl 2 rfl ?_
        refine go_getI dX1_settle_50 fl_502_0 (fun _ _ => rfl) hf (fun x_15 hf => ?_)
        refine go_if_eq (tgt := 64) dX1_settle_53 (by decide) hf (fun hf => ?_) (fun hf => ?_)
        · refine go_sub (lv' := [(0, vR Ω (some a0)), (1, vR Ω (some a_6)), (2, .int x2)]) [1, 2, 3] rfl ?_
          exact t_X1_settle_64 ih a0 (some a_6) x2 h_13 q hf
        · refine go_aload_n dX1_settle_56 rfl 0 rfl ?_
          obtain ⟨a_16, rfl, hga_16⟩ := nn_some hf
          have hf := hga_16
          refine go_getR dX1_settle_57 fl_614_0 (fun _ _ => rfl) hf (fun r_17 hf => ?_)
          refine go_aload_n dX1_settle_60 rfl 0 rfl ?_
          obtain ⟨a_18, rfl, hga_18⟩ := nn_some hf
          have hf := hga_18
          obtain ⟨hk, hf⟩ := kg_some hf
          obtain ⟨z_19, hc, hf⟩ := bd_some hf
          refine go_callV (y2 := M_X10_takeBack) (c2 := 11) dX1_settle_61 mo_X10_takeBack ⟨Nat.le_of_ble_eq_true rfl, Nat.le_of_ble_eq_true rfl⟩ na_X10_takeBack w698 w699 (by decide) rfl w700 hk [vR Ω (some a_16)] rfl (n_X10_takeBack (a_18) (some a_16)) rfl (csum (Nat.le_of_ble_eq_true rfl)) (t_X10_takeBack (a_18) (some a_16) h_13 _ hc) ?_
          obtain ⟨_, h_20⟩ := z_19
          refine go_sub (lv' := [(0, vR Ω (some a0)), (1, vR Ω (some a_6)), (2, .int x2)]) [1, 2, 3] rfl ?_
          exact t_X1_settle_64 ih a0 (some a_6) x2 h_20 q hf
def f_X1_settle (a0 : Nat) (r1 : Option Nat) (h : AH) : Option (Unit × AH) := rdR h a0 2 1 fun r_1 =>
  nn r_1 fun a_2 =>
  kg h a_2 0 (bd (f_Jx4a65c_size_8abf5 a_2 h) fun x_5 h_4 =>
  lt (x_5 - 1) fun x_6 =>
  f_X1_settle_12 FU a0 r1 x_6 h_4)
set_option maxRecDepth 20000 in
set_option maxHeartbeats 4000000 in
theorem t_X1_settle {Ω : Om} (a0 : Nat) (r1 : Option Nat) (h : AH) (q : Unit × AH) (hf : f_X1_settle a0 r1 h = some q) : Go Ω M_X1_settle 0 (lv_args 0 [vR Ω (some a0), vR Ω r1]) [] h none q.2 := by
  unfold f_X1_settle at hf
  rw [la_R, la_R, la_0]
  refine go_sub (lv' := [(0, vR Ω (some a0)), (1, vR Ω r1)]) [0, 1] rfl ?_
  refine go_aload_n dX1_settle_0 rfl 0 rfl ?_
  refine go_getR dX1_settle_1 fl_350_0 (fun _ _ => rfl) hf (fun r_1 hf => ?_)
  obtain ⟨a_2, rfl, hga_2⟩ := nn_some hf
  have hf := hga_2
  obtain ⟨hk, hf⟩ := kg_some hf
  obtain ⟨z_3, hc, hf⟩ := bd_some hf
  refine go_callF (y2 := M_Jx4a65c_size_8abf5) (x2 := ⟨"java/util/List", "size", "()I"⟩) dX1_settle_4 mo_Jx4a65c_size_8abf5 ⟨Nat.le_of_ble_eq_true rfl, Nat.le_of_ble_eq_true rfl⟩ na_Jx4a65c_size_8abf5 w694 w522 w520 (by decide) (fun U hU => hU.2.2.2.2.1) hk [] rfl (n_Jx4a65c_size_8abf5 (a_2)) rfl (csum (Nat.le_of_ble_eq_true rfl)) (t_Jx4a65c_size_8abf5 (a_2) h _ hc) ?_
  obtain ⟨x_5, h_4⟩ := z_3
  refine go_iconst 1 dX1_settle_9 rfl ?_
  refine go_isub dX1_settle_10 ?_
  refine lt_I hf (fun x_6 hf => ?_)
  refine go_istore_n (i := 2) (lv' := [(2, .int x_6), (0, vR Ω (some a0)), (1, vR Ω r1)]) dX1_settle_11 rfl (by decide) (by first | rfl | simp [catR, catI, catJ]) ?_
  refine go_sub (lv' := [(0, vR Ω (some a0)), (1, vR Ω r1), (2, .int x_6)]) [1, 2, 0] rfl ?_
  exact t_X1_settle_12 FU a0 r1 x_6 h_4 q hf
-- LetterBroker$Deed.<init>(IZZ)V
theorem dX3_init__0 : decode cX3_init_ 0 = .ok (.aload_n 0, 1) := by decide +kernel
theorem dX3_init__1 : decode cX3_init_ 1 = .ok (.invokespecial 1, 3) := by decide +kernel
theorem dX3_init__4 : decode cX3_init_ 4 = .ok (.aload_n 0, 1) := by decide +kernel
theorem dX3_init__5 : decode cX3_init_ 5 = .ok (.aconst_null, 1) := by decide +kernel
theorem dX3_init__6 : decode cX3_init_ 6 = .ok (.putfield 7, 3) := by decide +kernel
theorem dX3_init__9 : decode cX3_init_ 9 = .ok (.aload_n 0, 1) := by decide +kernel
theorem dX3_init__10 : decode cX3_init_ 10 = .ok (.iload_n 1, 1) := by decide +kernel
theorem dX3_init__11 : decode cX3_init_ 11 = .ok (.putfield 13, 3) := by decide +kernel
theorem dX3_init__14 : decode cX3_init_ 14 = .ok (.aload_n 0, 1) := by decide +kernel
theorem dX3_init__15 : decode cX3_init_ 15 = .ok (.iload_n 2, 1) := by decide +kernel
theorem dX3_init__16 : decode cX3_init_ 16 = .ok (.putfield 17, 3) := by decide +kernel
theorem dX3_init__19 : decode cX3_init_ 19 = .ok (.aload_n 0, 1) := by decide +kernel
theorem dX3_init__20 : decode cX3_init_ 20 = .ok (.iload_n 3, 1) := by decide +kernel
theorem dX3_init__21 : decode cX3_init_ 21 = .ok (.putfield 21, 3) := by decide +kernel
theorem dX3_init__24 : decode cX3_init_ 24 = .ok (.return_, 1) := by decide +kernel
def f_X3_init_ (a0 : Nat) (x1 : Int32) (x2 : Int32) (x3 : Int32) (h : AH) : Option (Unit × AH) := wrR h a0 4 0 none fun h_1 =>
  wrI h_1 a0 4 1 x1 fun h_2 =>
  wrZ h_2 a0 4 2 x2 fun h_3 =>
  wrZ h_3 a0 4 3 x3 fun h_4 =>
  some ((), h_4)
set_option maxRecDepth 20000 in
set_option maxHeartbeats 4000000 in
theorem t_X3_init_ {Ω : Om} (a0 : Nat) (x1 : Int32) (x2 : Int32) (x3 : Int32) (h : AH) (q : Unit × AH) (hf : f_X3_init_ a0 x1 x2 x3 h = some q) : Go Ω M_X3_init_ 0 (lv_args 0 [vR Ω (some a0), .int x1, .int x2, .int x3]) [] h none q.2 := by
  unfold f_X3_init_ at hf
  rw [la_R, la_I, la_I, la_I, la_0]
  refine go_sub (lv' := [(0, vR Ω (some a0)), (1, .int x1), (2, .int x2), (3, .int x3)]) [0, 1, 2, 3] rfl ?_
  refine go_aload_n dX3_init__0 rfl 0 rfl ?_
  refine go_objInit dX3_init__1 w496 ⟨by decide, cadd (csum (Nat.le_of_ble_eq_true rfl)) (by decide +kernel)⟩ ?_
  refine go_aload_n dX3_init__4 rfl 0 rfl ?_
  refine go_null dX3_init__5 ?_
  refine go_putR dX3_init__6 fl_497_0 (fun q hq => by cases hq; exact Or.inr ⟨rfl, rfl, rfl⟩) (fun _ _ => rfl) (Or.inl ⟨_, rfl⟩) hf (fun h_1 hf => ?_)
  refine go_aload_n dX3_init__9 rfl 0 rfl ?_
  refine go_iload_n dX3_init__10 rfl 1 rfl ?_
  refine go_putI dX3_init__11 fl_499_0 (fun q hq => by cases hq; exact Or.inr ⟨rfl, rfl, rfl⟩) (fun _ _ => rfl) rfl hf (fun h_2 hf => ?_)
  refine go_aload_n dX3_init__14 rfl 0 rfl ?_
  refine go_iload_n dX3_init__15 rfl 2 rfl ?_
  refine go_putZ dX3_init__16 fl_500_0 (fun q hq => by cases hq; exact Or.inr ⟨rfl, rfl, rfl⟩) (fun _ _ => rfl) rfl hf (fun h_3 hf => ?_)
  refine go_aload_n dX3_init__19 rfl 0 rfl ?_
  refine go_iload_n dX3_init__20 rfl 3 rfl ?_
  refine go_putZ dX3_init__21 fl_501_0 (fun q hq => by cases hq; exact Or.inr ⟨rfl, rfl, rfl⟩) (fun _ _ => rfl) rfl hf (fun h_4 hf => ?_)
  exact go_return dX3_init__24 rfl hf
-- LetterBroker.settle(LLetterBroker$Channel;IZZ)I
theorem dX11_settle_0 : decode cX11_settle 0 = .ok (.aload_n 0, 1) := by decide +kernel
theorem dX11_settle_1 : decode cX11_settle 1 = .ok (.getfield 10, 3) := by decide +kernel
theorem dX11_settle_4 : decode cX11_settle 4 = .ok (.invokevirtual 132, 3) := by decide +kernel
theorem dX11_settle_7 : decode cX11_settle 7 = .ok (.ifCond .ne 7, 3) := by decide +kernel
theorem dX11_settle_10 : decode cX11_settle 10 = .ok (.sipush 501, 3) := by decide +kernel
theorem dX11_settle_13 : decode cX11_settle 13 = .ok (.ireturn, 1) := by decide +kernel
theorem dX11_settle_14 : decode cX11_settle 14 = .ok (.new 376, 3) := by decide +kernel
theorem dX11_settle_17 : decode cX11_settle 17 = .ok (.dup, 1) := by decide +kernel
theorem dX11_settle_18 : decode cX11_settle 18 = .ok (.iload_n 2, 1) := by decide +kernel
theorem dX11_settle_19 : decode cX11_settle 19 = .ok (.iload_n 3, 1) := by decide +kernel
theorem dX11_settle_20 : decode cX11_settle 20 = .ok (.iload 4, 2) := by decide +kernel
theorem dX11_settle_22 : decode cX11_settle 22 = .ok (.invokespecial 467, 3) := by decide +kernel
theorem dX11_settle_25 : decode cX11_settle 25 = .ok (.astore 5, 2) := by decide +kernel
theorem dX11_settle_27 : decode cX11_settle 27 = .ok (.aload 5, 2) := by decide +kernel
theorem dX11_settle_29 : decode cX11_settle 29 = .ok (.invokevirtual 470, 3) := by decide +kernel
theorem dX11_settle_32 : decode cX11_settle 32 = .ok (.ifCond .ne 16, 3) := by decide +kernel
theorem dX11_settle_35 : decode cX11_settle 35 = .ok (.aload_n 1, 1) := by decide +kernel
theorem dX11_settle_36 : decode cX11_settle 36 = .ok (.aload 5, 2) := by decide +kernel
theorem dX11_settle_38 : decode cX11_settle 38 = .ok (.invokevirtual 473, 3) := by decide +kernel
theorem dX11_settle_41 : decode cX11_settle 41 = .ok (.ifCond .ne 7, 3) := by decide +kernel
theorem dX11_settle_44 : decode cX11_settle 44 = .ok (.sipush 406, 3) := by decide +kernel
theorem dX11_settle_47 : decode cX11_settle 47 = .ok (.ireturn, 1) := by decide +kernel
theorem dX11_settle_48 : decode cX11_settle 48 = .ok (.aload_n 1, 1) := by decide +kernel
theorem dX11_settle_49 : decode cX11_settle 49 = .ok (.getfield 373, 3) := by decide +kernel
theorem dX11_settle_52 : decode cX11_settle 52 = .ok (.ifCond .eq 11, 3) := by decide +kernel
theorem dX11_settle_55 : decode cX11_settle 55 = .ok (.aload_n 0, 1) := by decide +kernel
theorem dX11_settle_56 : decode cX11_settle 56 = .ok (.aload_n 1, 1) := by decide +kernel
theorem dX11_settle_57 : decode cX11_settle 57 = .ok (.aload 5, 2) := by decide +kernel
theorem dX11_settle_59 : decode cX11_settle 59 = .ok (.invokevirtual 381, 3) := by decide +kernel
theorem dX11_settle_62 : decode cX11_settle 62 = .ok (.ireturn, 1) := by decide +kernel
theorem dX11_settle_63 : decode cX11_settle 63 = .ok (.aload_n 1, 1) := by decide +kernel
theorem dX11_settle_64 : decode cX11_settle 64 = .ok (.aload 5, 2) := by decide +kernel
theorem dX11_settle_66 : decode cX11_settle 66 = .ok (.invokevirtual 477, 3) := by decide +kernel
theorem dX11_settle_69 : decode cX11_settle 69 = .ok (.iconst 0, 1) := by decide +kernel
theorem dX11_settle_70 : decode cX11_settle 70 = .ok (.ireturn, 1) := by decide +kernel
def f_X11_settle_48 (a0 : Nat) (r1 : Option Nat) (r5 : Option Nat) (h : AH) : Option (Int32 × AH) := nn r1 fun a_1 =>
  rdI h a_1 2 6 fun x_2 =>
  (if x_2 = 0 then
    kg h a_1 2 (bd (f_X1_settle a_1 r5 h) fun _ h_4 =>
    some (0, h_4))
  else
    kg h a0 12 (bd (f_X11_keep a0 (some a_1) r5 h) fun x_7 h_6 =>
    some (x_7, h_6)))
set_option maxRecDepth 20000 in
set_option maxHeartbeats 4000000 in
theorem t_X11_settle_48 {Ω : Om} (a0 : Nat) (r1 : Option Nat) (r5 : Option Nat) (h : AH) (q : Int32 × AH) (hf : f_X11_settle_48 a0 r1 r5 h = some q) : Go Ω M_X11_settle 48 [(0, vR Ω (some a0)), (1, vR Ω r1), (5, vR Ω r5)] [] h (some (.int q.1)) q.2 := by
  unfold f_X11_settle_48 at hf
  refine go_aload_n dX11_settle_48 rfl 1 rfl ?_
  obtain ⟨a_1, rfl, hga_1⟩ := nn_some hf
  have hf := hga_1
  refine go_getI dX11_settle_49 fl_364_0 (fun _ _ => rfl) hf (fun x_2 hf => ?_)
  refine go_if_eq (tgt := 63) dX11_settle_52 (by decide) hf (fun hf => ?_) (fun hf => ?_)
  · refine go_aload_n dX11_settle_63 rfl 1 rfl ?_
    refine go_aload dX11_settle_64 2 rfl ?_
    obtain ⟨hk, hf⟩ := kg_some hf
    obtain ⟨z_3, hc, hf⟩ := bd_some hf
    refine go_callV (y2 := M_X1_settle) (c2 := 2) dX11_settle_66 mo_X1_settle ⟨Nat.le_of_ble_eq_true rfl, Nat.le_of_ble_eq_true rfl⟩ na_X1_settle w1014 w1015 (by decide) rfl w1016 hk [vR Ω r5] rfl (n_X1_settle (a_1) r5) rfl (csum (Nat.le_of_ble_eq_true rfl)) (t_X1_settle (a_1) r5 h _ hc) ?_
    obtain ⟨_, h_4⟩ := z_3
    refine go_iconst 0 dX11_settle_69 rfl ?_
    exact go_ireturn dX11_settle_70 rfl hf
  · refine go_aload_n dX11_settle_55 rfl 0 rfl ?_
    refine go_aload_n dX11_settle_56 rfl 1 rfl ?_
    refine go_aload dX11_settle_57 2 rfl ?_
    obtain ⟨hk, hf⟩ := kg_some hf
    obtain ⟨z_5, hc, hf⟩ := bd_some hf
    refine go_callV (y2 := M_X11_keep) (c2 := 12) dX11_settle_59 mo_X11_keep ⟨Nat.le_of_ble_eq_true rfl, Nat.le_of_ble_eq_true rfl⟩ na_X11_keep w512 w514 (by decide) rfl w9 hk [vR Ω (some a_1), vR Ω r5] rfl (n_X11_keep (a0) (some a_1) r5) rfl (csum (Nat.le_of_ble_eq_true rfl)) (t_X11_keep (a0) (some a_1) r5 h _ hc) ?_
    obtain ⟨x_7, h_6⟩ := z_5
    exact go_ireturn dX11_settle_62 rfl hf
def f_X11_settle (a0 : Nat) (r1 : Option Nat) (x2 : Int32) (x3 : Int32) (x4 : Int32) (h : AH) : Option (Int32 × AH) := rdR h a0 12 0 fun r_1 =>
  nn r_1 fun a_2 =>
  kg h a_2 7 (bd (f_X6_isJustRead a_2 h) fun x_5 h_4 =>
  (if x_5 = 0 then
    some (501, h_4)
  else
    nwO h_4 4 fun a_6 h_7 =>
    bd (f_X3_init_ a_6 x2 x3 x4 h_7) fun _ h_9 =>
    kg h_9 a_6 4 (bd (f_X3_coversAll a_6 h_9) fun x_12 h_11 =>
    (if x_12 = 0 then
      nn r1 fun a_13 =>
      kg h_11 a_13 2 (bd (f_X1_holdsSomeOf a_13 (some a_6) h_11) fun x_16 h_15 =>
      (if x_16 = 0 then
        some (406, h_15)
      else
        f_X11_settle_48 a0 (some a_13) (some a_6) h_15))
    else
      f_X11_settle_48 a0 r1 (some a_6) h_11))))
set_option maxRecDepth 20000 in
set_option maxHeartbeats 4000000 in
theorem t_X11_settle {Ω : Om} (a0 : Nat) (r1 : Option Nat) (x2 : Int32) (x3 : Int32) (x4 : Int32) (h : AH) (q : Int32 × AH) (hf : f_X11_settle a0 r1 x2 x3 x4 h = some q) : Go Ω M_X11_settle 0 (lv_args 0 [vR Ω (some a0), vR Ω r1, .int x2, .int x3, .int x4]) [] h (some (.int q.1)) q.2 := by
  unfold f_X11_settle at hf
  rw [la_R, la_R, la_I, la_I, la_I, la_0]
  refine go_sub (lv' := [(0, vR Ω (some a0)), (1, vR Ω r1), (2, .int x2), (3, .int x3), (4, .int x4)]) [0, 1, 2, 3, 4] rfl ?_
  refine go_aload_n dX11_settle_0 rfl 0 rfl ?_
  refine go_getR dX11_settle_1 fl_388_0 (fun _ _ => rfl) hf (fun r_1 hf => ?_)
  obtain ⟨a_2, rfl, hga_2⟩ := nn_some hf
  have hf := hga_2
  obtain ⟨hk, hf⟩ := kg_some hf
  obtain ⟨z_3, hc, hf⟩ := bd_some hf
  refine go_callV (y2 := M_X6_isJustRead) (c2 := 7) dX11_settle_4 mo_X6_isJustRead ⟨Nat.le_of_ble_eq_true rfl, Nat.le_of_ble_eq_true rfl⟩ na_X6_isJustRead w474 w475 (by decide) rfl w476 hk [] rfl (n_X6_isJustRead (a_2)) rfl (csum (Nat.le_of_ble_eq_true rfl)) (t_X6_isJustRead (a_2) h _ hc) ?_
  obtain ⟨x_5, h_4⟩ := z_3
  refine go_if_ne (tgt := 14) dX11_settle_7 (by decide) hf (fun hf => ?_) (fun hf => ?_)
  · refine go_new (c := 4) dX11_settle_14 (by decide) rfl w491 hf (fun a_6 h_7 hf => ?_)
    refine go_dup dX11_settle_17 catR ?_
    refine go_iload_n dX11_settle_18 rfl 2 rfl ?_
    refine go_iload_n dX11_settle_19 rfl 3 rfl ?_
    refine go_iload dX11_settle_20 4 rfl ?_
    obtain ⟨z_8, hc, hf⟩ := bd_some hf
    refine go_callI (y2 := M_X3_init_) dX11_settle_22 mo_X3_init_ ⟨Nat.le_of_ble_eq_true rfl, Nat.le_of_ble_eq_true rfl⟩ na_X3_init_ w998 w999 rfl rfl [.int x2, .int x3, .int x4] rfl (n_X3_init_ (a_6) x2 x3 x4) rfl (csum (Nat.le_of_ble_eq_true rfl)) (t_X3_init_ (a_6) x2 x3 x4 h_7 _ hc) ?_
    obtain ⟨_, h_9⟩ := z_8
    refine go_astore (i := 5) (lv' := [(5, vR Ω (some a_6)), (0, vR Ω (some a0)), (1, vR Ω r1), (2, .int x2), (3, .int x3), (4, .int x4)]) dX11_settle_25 (by decide) (by first | rfl | simp [catR, catI, catJ]) ?_
    refine go_aload dX11_settle_27 0 rfl ?_
    obtain ⟨hk, hf⟩ := kg_some hf
    obtain ⟨z_10, hc, hf⟩ := bd_some hf
    refine go_callV (y2 := M_X3_coversAll) (c2 := 4) dX11_settle_29 mo_X3_coversAll ⟨Nat.le_of_ble_eq_true rfl, Nat.le_of_ble_eq_true rfl⟩ na_X3_coversAll w1001 w1002 (by decide) rfl w1003 hk [] rfl (n_X3_coversAll (a_6)) rfl (csum (Nat.le_of_ble_eq_true rfl)) (t_X3_coversAll (a_6) h_9 _ hc) ?_
    obtain ⟨x_12, h_11⟩ := z_10
    refine go_if_ne (tgt := 48) dX11_settle_32 (by decide) hf (fun hf => ?_) (fun hf => ?_)
    · refine go_sub (lv' := [(0, vR Ω (some a0)), (1, vR Ω r1), (5, vR Ω (some a_6))]) [1, 2, 0] rfl ?_
      exact t_X11_settle_48 a0 r1 (some a_6) h_11 q hf
    · refine go_aload_n dX11_settle_35 rfl 2 rfl ?_
      refine go_aload dX11_settle_36 0 rfl ?_
      obtain ⟨a_13, rfl, hga_13⟩ := nn_some hf
      have hf := hga_13
      obtain ⟨hk, hf⟩ := kg_some hf
      obtain ⟨z_14, hc, hf⟩ := bd_some hf
      refine go_callV (y2 := M_X1_holdsSomeOf) (c2 := 2) dX11_settle_38 mo_X1_holdsSomeOf ⟨Nat.le_of_ble_eq_true rfl, Nat.le_of_ble_eq_true rfl⟩ na_X1_holdsSomeOf w1005 w1006 (by decide) rfl w1007 hk [vR Ω (some a_6)] rfl (n_X1_holdsSomeOf (a_13) (some a_6)) rfl (csum (Nat.le_of_ble_eq_true rfl)) (t_X1_holdsSomeOf (a_13) (some a_6) h_11 _ hc) ?_
      obtain ⟨x_16, h_15⟩ := z_14
      refine go_if_ne (tgt := 48) dX11_settle_41 (by decide) hf (fun hf => ?_) (fun hf => ?_)
      · refine go_sub (lv' := [(0, vR Ω (some a0)), (1, vR Ω (some a_13)), (5, vR Ω (some a_6))]) [1, 2, 0] rfl ?_
        exact t_X11_settle_48 a0 (some a_13) (some a_6) h_15 q hf
      · refine go_sipush 406 dX11_settle_44 (by decide) ?_
        exact go_ireturn dX11_settle_47 rfl hf
  · refine go_sipush 501 dX11_settle_10 (by decide) ?_
    exact go_ireturn dX11_settle_13 rfl hf
-- LetterBroker$Inbox.readByte()I
theorem dX6_readByte_0 : decode cX6_readByte 0 = .ok (.aload_n 0, 1) := by decide +kernel
theorem dX6_readByte_1 : decode cX6_readByte 1 = .ok (.getfield 25, 3) := by decide +kernel
theorem dX6_readByte_4 : decode cX6_readByte 4 = .ok (.aload_n 0, 1) := by decide +kernel
theorem dX6_readByte_5 : decode cX6_readByte 5 = .ok (.getfield 28, 3) := by decide +kernel
theorem dX6_readByte_8 : decode cX6_readByte 8 = .ok (.if_icmp .lt 10, 3) := by decide +kernel
theorem dX6_readByte_11 : decode cX6_readByte 11 = .ok (.aload_n 0, 1) := by decide +kernel
theorem dX6_readByte_12 : decode cX6_readByte 12 = .ok (.iconst 1, 1) := by decide +kernel
theorem dX6_readByte_13 : decode cX6_readByte 13 = .ok (.putfield 31, 3) := by decide +kernel
theorem dX6_readByte_16 : decode cX6_readByte 16 = .ok (.iconst 0, 1) := by decide +kernel
theorem dX6_readByte_17 : decode cX6_readByte 17 = .ok (.ireturn, 1) := by decide +kernel
theorem dX6_readByte_18 : decode cX6_readByte 18 = .ok (.aload_n 0, 1) := by decide +kernel
theorem dX6_readByte_19 : decode cX6_readByte 19 = .ok (.dup, 1) := by decide +kernel
theorem dX6_readByte_20 : decode cX6_readByte 20 = .ok (.getfield 25, 3) := by decide +kernel
theorem dX6_readByte_23 : decode cX6_readByte 23 = .ok (.iconst 1, 1) := by decide +kernel
theorem dX6_readByte_24 : decode cX6_readByte 24 = .ok (.iadd, 1) := by decide +kernel
theorem dX6_readByte_25 : decode cX6_readByte 25 = .ok (.putfield 25, 3) := by decide +kernel
theorem dX6_readByte_28 : decode cX6_readByte 28 = .ok (.aload_n 0, 1) := by decide +kernel
theorem dX6_readByte_29 : decode cX6_readByte 29 = .ok (.getfield 9, 3) := by decide +kernel
theorem dX6_readByte_32 : decode cX6_readByte 32 = .ok (.aload_n 0, 1) := by decide +kernel
theorem dX6_readByte_33 : decode cX6_readByte 33 = .ok (.getfield 25, 3) := by decide +kernel
theorem dX6_readByte_36 : decode cX6_readByte 36 = .ok (.iconst 1, 1) := by decide +kernel
theorem dX6_readByte_37 : decode cX6_readByte 37 = .ok (.isub, 1) := by decide +kernel
theorem dX6_readByte_38 : decode cX6_readByte 38 = .ok (.iaload, 1) := by decide +kernel
theorem dX6_readByte_39 : decode cX6_readByte 39 = .ok (.ireturn, 1) := by decide +kernel
def f_X6_readByte (a0 : Nat) (h : AH) : Option (Int32 × AH) := rdI h a0 7 3 fun x_1 =>
  rdI h a0 7 4 fun x_2 =>
  (if x_1 < x_2 then
    rdI h a0 7 3 fun x_3 =>
    wrI h a0 7 3 (x_3 + 1) fun h_4 =>
    rdR h_4 a0 7 1 fun r_5 =>
    rdI h_4 a0 7 3 fun x_6 =>
    nn r_5 fun a_7 =>
    arI h_4 a_7 (x_6 - 1) fun x_8 =>
    some (x_8, h_4)
  else
    wrZ h a0 7 5 1 fun h_9 =>
    some (0, h_9))
set_option maxRecDepth 20000 in
set_option maxHeartbeats 4000000 in
theorem t_X6_readByte {Ω : Om} (a0 : Nat) (h : AH) (q : Int32 × AH) (hf : f_X6_readByte a0 h = some q) : Go Ω M_X6_readByte 0 (lv_args 0 [vR Ω (some a0)]) [] h (some (.int q.1)) q.2 := by
  unfold f_X6_readByte at hf
  rw [la_R, la_0]
  refine go_sub (lv' := [(0, vR Ω (some a0))]) [0] rfl ?_
  refine go_aload_n dX6_readByte_0 rfl 0 rfl ?_
  refine go_getI dX6_readByte_1 fl_160_0 (fun _ _ => rfl) hf (fun x_1 hf => ?_)
  refine go_aload_n dX6_readByte_4 rfl 0 rfl ?_
  refine go_getI dX6_readByte_5 fl_161_0 (fun _ _ => rfl) hf (fun x_2 hf => ?_)
  refine go_icmp_lt (tgt := 18) dX6_readByte_8 (by decide) hf (fun hf => ?_) (fun hf => ?_)
  · refine go_aload_n dX6_readByte_18 rfl 0 rfl ?_
    refine go_dup dX6_readByte_19 catR ?_
    refine go_getI dX6_readByte_20 fl_160_0 (fun _ _ => rfl) hf (fun x_3 hf => ?_)
    refine go_iconst 1 dX6_readByte_23 rfl ?_
    refine go_iadd dX6_readByte_24 ?_
    refine go_putI dX6_readByte_25 fl_160_0 (fun q hq => by cases hq; exact Or.inl rfl) (fun _ _ => rfl) rfl hf (fun h_4 hf => ?_)
    refine go_aload_n dX6_readByte_28 rfl 0 rfl ?_
    refine go_getR dX6_readByte_29 fl_158_0 (fun _ _ => rfl) hf (fun r_5 hf => ?_)
    refine go_aload_n dX6_readByte_32 rfl 0 rfl ?_
    refine go_getI dX6_readByte_33 fl_160_0 (fun _ _ => rfl) hf (fun x_6 hf => ?_)
    refine go_iconst 1 dX6_readByte_36 rfl ?_
    refine go_isub dX6_readByte_37 ?_
    obtain ⟨a_7, rfl, hga_7⟩ := nn_some hf
    have hf := hga_7
    refine go_iaload dX6_readByte_38 hf (fun x_8 hf => ?_)
    exact go_ireturn dX6_readByte_39 rfl hf
  · refine go_aload_n dX6_readByte_11 rfl 0 rfl ?_
    refine go_iconst 1 dX6_readByte_12 rfl ?_
    refine go_putZ dX6_readByte_13 fl_162_0 (fun q hq => by cases hq; exact Or.inl rfl) (fun _ _ => rfl) rfl hf (fun h_9 hf => ?_)
    refine go_iconst 0 dX6_readByte_16 rfl ?_
    exact go_ireturn dX6_readByte_17 rfl hf
-- LetterBroker$Inbox.readFlag()Z
theorem dX6_readFlag_0 : decode cX6_readFlag 0 = .ok (.aload_n 0, 1) := by decide +kernel
theorem dX6_readFlag_1 : decode cX6_readFlag 1 = .ok (.invokevirtual 35, 3) := by decide +kernel
theorem dX6_readFlag_4 : decode cX6_readFlag 4 = .ok (.ifCond .eq 7, 3) := by decide +kernel
theorem dX6_readFlag_7 : decode cX6_readFlag 7 = .ok (.iconst 1, 1) := by decide +kernel
theorem dX6_readFlag_8 : decode cX6_readFlag 8 = .ok (.goto 4, 3) := by decide +kernel
theorem dX6_readFlag_11 : decode cX6_readFlag 11 = .ok (.iconst 0, 1) := by decide +kernel
theorem dX6_readFlag_12 : decode cX6_readFlag 12 = .ok (.ireturn, 1) := by decide +kernel
def f_X6_readFlag (a0 : Nat) (h : AH) : Option (Int32 × AH) := kg h a0 7 (bd (f_X6_readByte a0 h) fun x_3 h_2 =>
  (if x_3 = 0 then
    rz 0 (some (0, h_2))
  else
    rz 1 (some (1, h_2))))
set_option maxRecDepth 20000 in
set_option maxHeartbeats 4000000 in
theorem t_X6_readFlag {Ω : Om} (a0 : Nat) (h : AH) (q : Int32 × AH) (hf : f_X6_readFlag a0 h = some q) : Go Ω M_X6_readFlag 0 (lv_args 0 [vR Ω (some a0)]) [] h (some (.int q.1)) q.2 := by
  unfold f_X6_readFlag at hf
  rw [la_R, la_0]
  refine go_sub (lv' := [(0, vR Ω (some a0))]) [0] rfl ?_
  refine go_aload_n dX6_readFlag_0 rfl 0 rfl ?_
  obtain ⟨hk, hf⟩ := kg_some hf
  obtain ⟨z_1, hc, hf⟩ := bd_some hf
  refine go_callV (y2 := M_X6_readByte) (c2 := 7) dX6_readFlag_1 mo_X6_readByte ⟨Nat.le_of_ble_eq_true rfl, Nat.le_of_ble_eq_true rfl⟩ na_X6_readByte w470 w471 (by decide) rfl w472 hk [] rfl (n_X6_readByte (a0)) rfl (csum (Nat.le_of_ble_eq_true rfl)) (t_X6_readByte (a0) h _ hc) ?_
  obtain ⟨x_3, h_2⟩ := z_1
  refine go_if_eq (tgt := 11) dX6_readFlag_4 (by decide) hf (fun hf => ?_) (fun hf => ?_)
  · refine go_iconst 0 dX6_readFlag_11 rfl ?_
    exact go_zreturn dX6_readFlag_12 rfl hf
  · refine go_iconst 1 dX6_readFlag_7 rfl ?_
    refine go_goto (tgt := 12) dX6_readFlag_8 (by decide) ?_
    exact go_zreturn dX6_readFlag_12 rfl hf
-- LetterBroker$Inbox.readShort()I
theorem dX6_readShort_0 : decode cX6_readShort 0 = .ok (.aload_n 0, 1) := by decide +kernel
theorem dX6_readShort_1 : decode cX6_readShort 1 = .ok (.invokevirtual 35, 3) := by decide +kernel
theorem dX6_readShort_4 : decode cX6_readShort 4 = .ok (.istore_n 1, 1) := by decide +kernel
theorem dX6_readShort_5 : decode cX6_readShort 5 = .ok (.iload_n 1, 1) := by decide +kernel
theorem dX6_readShort_6 : decode cX6_readShort 6 = .ok (.bipush 8, 2) := by decide +kernel
theorem dX6_readShort_8 : decode cX6_readShort 8 = .ok (.ishl, 1) := by decide +kernel
theorem dX6_readShort_9 : decode cX6_readShort 9 = .ok (.aload_n 0, 1) := by decide +kernel
theorem dX6_readShort_10 : decode cX6_readShort 10 = .ok (.invokevirtual 35, 3) := by decide +kernel
theorem dX6_readShort_13 : decode cX6_readShort 13 = .ok (.ior, 1) := by decide +kernel
theorem dX6_readShort_14 : decode cX6_readShort 14 = .ok (.ireturn, 1) := by decide +kernel
def f_X6_readShort (a0 : Nat) (h : AH) : Option (Int32 × AH) := kg h a0 7 (bd (f_X6_readByte a0 h) fun x_3 h_2 =>
  kg h_2 a0 7 (bd (f_X6_readByte a0 h_2) fun x_6 h_5 =>
  some (((x_3 <<< ((8 : Int32) &&& 31)) ||| x_6), h_5)))
set_option maxRecDepth 20000 in
set_option maxHeartbeats 4000000 in
theorem t_X6_readShort {Ω : Om} (a0 : Nat) (h : AH) (q : Int32 × AH) (hf : f_X6_readShort a0 h = some q) : Go Ω M_X6_readShort 0 (lv_args 0 [vR Ω (some a0)]) [] h (some (.int q.1)) q.2 := by
  unfold f_X6_readShort at hf
  rw [la_R, la_0]
  refine go_sub (lv' := [(0, vR Ω (some a0))]) [0] rfl ?_
  refine go_aload_n dX6_readShort_0 rfl 0 rfl ?_
  obtain ⟨hk, hf⟩ := kg_some hf
  obtain ⟨z_1, hc, hf⟩ := bd_some hf
  refine go_callV (y2 := M_X6_readByte) (c2 := 7) dX6_readShort_1 mo_X6_readByte ⟨Nat.le_of_ble_eq_true rfl, Nat.le_of_ble_eq_true rfl⟩ na_X6_readByte w470 w471 (by decide) rfl w472 hk [] rfl (n_X6_readByte (a0)) rfl (csum (Nat.le_of_ble_eq_true rfl)) (t_X6_readByte (a0) h _ hc) ?_
  obtain ⟨x_3, h_2⟩ := z_1
  refine go_istore_n (i := 1) (lv' := [(1, .int x_3), (0, vR Ω (some a0))]) dX6_readShort_4 rfl (by decide) (by first | rfl | simp [catR, catI, catJ]) ?_
  refine go_iload_n dX6_readShort_5 rfl 0 rfl ?_
  refine go_bipush 8 dX6_readShort_6 (by decide) ?_
  refine go_ishl dX6_readShort_8 ?_
  refine go_aload_n dX6_readShort_9 rfl 1 rfl ?_
  obtain ⟨hk, hf⟩ := kg_some hf
  obtain ⟨z_4, hc, hf⟩ := bd_some hf
  refine go_callV (y2 := M_X6_readByte) (c2 := 7) dX6_readShort_10 mo_X6_readByte ⟨Nat.le_of_ble_eq_true rfl, Nat.le_of_ble_eq_true rfl⟩ na_X6_readByte w470 w471 (by decide) rfl w472 hk [] rfl (n_X6_readByte (a0)) rfl (csum (Nat.le_of_ble_eq_true rfl)) (t_X6_readByte (a0) h_2 _ hc) ?_
  obtain ⟨x_6, h_5⟩ := z_4
  refine go_ior dX6_readShort_13 ?_
  exact go_ireturn dX6_readShort_14 rfl hf
-- LetterBroker.acknowledge(LLetterBroker$Channel;)I
theorem dX11_acknowledge_0 : decode cX11_acknowledge 0 = .ok (.aload_n 0, 1) := by decide +kernel
theorem dX11_acknowledge_1 : decode cX11_acknowledge 1 = .ok (.getfield 10, 3) := by decide +kernel
theorem dX11_acknowledge_4 : decode cX11_acknowledge 4 = .ok (.invokevirtual 189, 3) := by decide +kernel
theorem dX11_acknowledge_7 : decode cX11_acknowledge 7 = .ok (.istore_n 2, 1) := by decide +kernel
theorem dX11_acknowledge_8 : decode cX11_acknowledge 8 = .ok (.aload_n 0, 1) := by decide +kernel
theorem dX11_acknowledge_9 : decode cX11_acknowledge 9 = .ok (.getfield 10, 3) := by decide +kernel
theorem dX11_acknowledge_12 : decode cX11_acknowledge 12 = .ok (.invokevirtual 287, 3) := by decide +kernel
theorem dX11_acknowledge_15 : decode cX11_acknowledge 15 = .ok (.istore_n 3, 1) := by decide +kernel
theorem dX11_acknowledge_16 : decode cX11_acknowledge 16 = .ok (.aload_n 0, 1) := by decide +kernel
theorem dX11_acknowledge_17 : decode cX11_acknowledge 17 = .ok (.aload_n 1, 1) := by decide +kernel
theorem dX11_acknowledge_18 : decode cX11_acknowledge 18 = .ok (.iload_n 2, 1) := by decide +kernel
theorem dX11_acknowledge_19 : decode cX11_acknowledge 19 = .ok (.iload_n 3, 1) := by decide +kernel
theorem dX11_acknowledge_20 : decode cX11_acknowledge 20 = .ok (.iconst 0, 1) := by decide +kernel
theorem dX11_acknowledge_21 : decode cX11_acknowledge 21 = .ok (.invokevirtual 463, 3) := by decide +kernel
theorem dX11_acknowledge_24 : decode cX11_acknowledge 24 = .ok (.ireturn, 1) := by decide +kernel
def f_X11_acknowledge (a0 : Nat) (r1 : Option Nat) (h : AH) : Option (Int32 × AH) := rdR h a0 12 0 fun r_1 =>
  nn r_1 fun a_2 =>
  kg h a_2 7 (bd (f_X6_readShort a_2 h) fun x_5 h_4 =>
  rdR h_4 a0 12 0 fun r_6 =>
  nn r_6 fun a_7 =>
  kg h_4 a_7 7 (bd (f_X6_readFlag a_7 h_4) fun x_10 h_9 =>
  kg h_9 a0 12 (bd (f_X11_settle a0 r1 x_5 x_10 0 h_9) fun x_13 h_12 =>
  some (x_13, h_12))))
set_option maxRecDepth 20000 in
set_option maxHeartbeats 4000000 in
theorem t_X11_acknowledge {Ω : Om} (a0 : Nat) (r1 : Option Nat) (h : AH) (q : Int32 × AH) (hf : f_X11_acknowledge a0 r1 h = some q) : Go Ω M_X11_acknowledge 0 (lv_args 0 [vR Ω (some a0), vR Ω r1]) [] h (some (.int q.1)) q.2 := by
  unfold f_X11_acknowledge at hf
  rw [la_R, la_R, la_0]
  refine go_sub (lv' := [(0, vR Ω (some a0)), (1, vR Ω r1)]) [0, 1] rfl ?_
  refine go_aload_n dX11_acknowledge_0 rfl 0 rfl ?_
  refine go_getR dX11_acknowledge_1 fl_388_0 (fun _ _ => rfl) hf (fun r_1 hf => ?_)
  obtain ⟨a_2, rfl, hga_2⟩ := nn_some hf
  have hf := hga_2
  obtain ⟨hk, hf⟩ := kg_some hf
  obtain ⟨z_3, hc, hf⟩ := bd_some hf
  refine go_callV (y2 := M_X6_readShort) (c2 := 7) dX11_acknowledge_4 mo_X6_readShort ⟨Nat.le_of_ble_eq_true rfl, Nat.le_of_ble_eq_true rfl⟩ na_X6_readShort w466 w467 (by decide) rfl w468 hk [] rfl (n_X6_readShort (a_2)) rfl (csum (Nat.le_of_ble_eq_true rfl)) (t_X6_readShort (a_2) h _ hc) ?_
  obtain ⟨x_5, h_4⟩ := z_3
  refine go_istore_n (i := 2) (lv' := [(2, .int x_5), (0, vR Ω (some a0)), (1, vR Ω r1)]) dX11_acknowledge_7 rfl (by decide) (by first | rfl | simp [catR, catI, catJ]) ?_
  refine go_aload_n dX11_acknowledge_8 rfl 1 rfl ?_
  refine go_getR dX11_acknowledge_9 fl_388_0 (fun _ _ => rfl) hf (fun r_6 hf => ?_)
  obtain ⟨a_7, rfl, hga_7⟩ := nn_some hf
  have hf := hga_7
  obtain ⟨hk, hf⟩ := kg_some hf
  obtain ⟨z_8, hc, hf⟩ := bd_some hf
  refine go_callV (y2 := M_X6_readFlag) (c2 := 7) dX11_acknowledge_12 mo_X6_readFlag ⟨Nat.le_of_ble_eq_true rfl, Nat.le_of_ble_eq_true rfl⟩ na_X6_readFlag w762 w763 (by decide) rfl w764 hk [] rfl (n_X6_readFlag (a_7)) rfl (csum (Nat.le_of_ble_eq_true rfl)) (t_X6_readFlag (a_7) h_4 _ hc) ?_
  obtain ⟨x_10, h_9⟩ := z_8
  refine go_istore_n (i := 3) (lv' := [(3, .int x_10), (2, .int x_5), (0, vR Ω (some a0)), (1, vR Ω r1)]) dX11_acknowledge_15 rfl (by decide) (by first | rfl | simp [catR, catI, catJ]) ?_
  refine go_aload_n dX11_acknowledge_16 rfl 2 rfl ?_
  refine go_aload_n dX11_acknowledge_17 rfl 3 rfl ?_
  refine go_iload_n dX11_acknowledge_18 rfl 1 rfl ?_
  refine go_iload_n dX11_acknowledge_19 rfl 0 rfl ?_
  refine go_iconst 0 dX11_acknowledge_20 rfl ?_
  obtain ⟨hk, hf⟩ := kg_some hf
  obtain ⟨z_11, hc, hf⟩ := bd_some hf
  refine go_callV (y2 := M_X11_settle) (c2 := 12) dX11_acknowledge_21 mo_X11_settle ⟨Nat.le_of_ble_eq_true rfl, Nat.le_of_ble_eq_true rfl⟩ na_X11_settle w994 w996 (by decide) rfl w37 hk [vR Ω r1, .int x_5, .int x_10, .int 0] rfl (n_X11_settle (a0) r1 x_5 x_10 0) rfl (csum (Nat.le_of_ble_eq_true rfl)) (t_X11_settle (a0) r1 x_5 x_10 0 h_9 _ hc) ?_
  obtain ⟨x_13, h_12⟩ := z_11
  exact go_ireturn dX11_acknowledge_24 rfl hf
-- LetterBroker$Inbox.readName()J
theorem dX6_readName_0 : decode cX6_readName 0 = .ok (.aload_n 0, 1) := by decide +kernel
theorem dX6_readName_1 : decode cX6_readName 1 = .ok (.invokevirtual 35, 3) := by decide +kernel
theorem dX6_readName_4 : decode cX6_readName 4 = .ok (.istore_n 1, 1) := by decide +kernel
theorem dX6_readName_5 : decode cX6_readName 5 = .ok (.iload_n 1, 1) := by decide +kernel
theorem dX6_readName_6 : decode cX6_readName 6 = .ok (.bipush 8, 2) := by decide +kernel
theorem dX6_readName_8 : decode cX6_readName 8 = .ok (.if_icmp .le 8, 3) := by decide +kernel
theorem dX6_readName_11 : decode cX6_readName 11 = .ok (.aload_n 0, 1) := by decide +kernel
theorem dX6_readName_12 : decode cX6_readName 12 = .ok (.iconst 1, 1) := by decide +kernel
theorem dX6_readName_13 : decode cX6_readName 13 = .ok (.putfield 31, 3) := by decide +kernel
theorem dX6_readName_16 : decode cX6_readName 16 = .ok (.lconst 0, 1) := by decide +kernel
theorem dX6_readName_17 : decode cX6_readName 17 = .ok (.lstore_n 2, 1) := by decide +kernel
theorem dX6_readName_18 : decode cX6_readName 18 = .ok (.iconst 0, 1) := by decide +kernel
theorem dX6_readName_19 : decode cX6_readName 19 = .ok (.istore 4, 2) := by decide +kernel
theorem dX6_readName_21 : decode cX6_readName 21 = .ok (.iload 4, 2) := by decide +kernel
theorem dX6_readName_23 : decode cX6_readName 23 = .ok (.iload_n 1, 1) := by decide +kernel
theorem dX6_readName_24 : decode cX6_readName 24 = .ok (.if_icmp .ge 50, 3) := by decide +kernel
theorem dX6_readName_27 : decode cX6_readName 27 = .ok (.aload_n 0, 1) := by decide +kernel
theorem dX6_readName_28 : decode cX6_readName 28 = .ok (.getfield 31, 3) := by decide +kernel
theorem dX6_readName_31 : decode cX6_readName 31 = .ok (.ifCond .ne 43, 3) := by decide +kernel
theorem dX6_readName_34 : decode cX6_readName 34 = .ok (.aload_n 0, 1) := by decide +kernel
theorem dX6_readName_35 : decode cX6_readName 35 = .ok (.invokevirtual 35, 3) := by decide +kernel
theorem dX6_readName_38 : decode cX6_readName 38 = .ok (.istore 5, 2) := by decide +kernel
theorem dX6_readName_40 : decode cX6_readName 40 = .ok (.iload 5, 2) := by decide +kernel
theorem dX6_readName_42 : decode cX6_readName 42 = .ok (.bipush 33, 2) := by decide +kernel
theorem dX6_readName_44 : decode cX6_readName 44 = .ok (.if_icmp .lt 10, 3) := by decide +kernel
theorem dX6_readName_47 : decode cX6_readName 47 = .ok (.iload 5, 2) := by decide +kernel
theorem dX6_readName_49 : decode cX6_readName 49 = .ok (.bipush 126, 2) := by decide +kernel
theorem dX6_readName_51 : decode cX6_readName 51 = .ok (.if_icmp .le 8, 3) := by decide +kernel
theorem dX6_readName_54 : decode cX6_readName 54 = .ok (.aload_n 0, 1) := by decide +kernel
theorem dX6_readName_55 : decode cX6_readName 55 = .ok (.iconst 1, 1) := by decide +kernel
theorem dX6_readName_56 : decode cX6_readName 56 = .ok (.putfield 31, 3) := by decide +kernel
theorem dX6_readName_59 : decode cX6_readName 59 = .ok (.lload_n 2, 1) := by decide +kernel
theorem dX6_readName_60 : decode cX6_readName 60 = .ok (.bipush 8, 2) := by decide +kernel
theorem dX6_readName_62 : decode cX6_readName 62 = .ok (.lshl, 1) := by decide +kernel
theorem dX6_readName_63 : decode cX6_readName 63 = .ok (.iload 5, 2) := by decide +kernel
theorem dX6_readName_65 : decode cX6_readName 65 = .ok (.i2l, 1) := by decide +kernel
theorem dX6_readName_66 : decode cX6_readName 66 = .ok (.lor, 1) := by decide +kernel
theorem dX6_readName_67 : decode cX6_readName 67 = .ok (.lstore_n 2, 1) := by decide +kernel
theorem dX6_readName_68 : decode cX6_readName 68 = .ok (.iinc 4 1, 3) := by decide +kernel
theorem dX6_readName_71 : decode cX6_readName 71 = .ok (.goto (-50), 3) := by decide +kernel
theorem dX6_readName_74 : decode cX6_readName 74 = .ok (.lload_n 2, 1) := by decide +kernel
theorem dX6_readName_75 : decode cX6_readName 75 = .ok (.lreturn, 1) := by decide +kernel
def f_X6_readName_59 (k21 : Nat → Int32 → Int64 → Int32 → AH → Option (Int64 × AH)) (a0 : Nat) (x1 : Int32) (x2 : Int64) (x4 : Int32) (x5 : Int32) (h : AH) : Option (Int64 × AH) := lt ((x2 <<< ((8 : Int32).toInt64 &&& 63)) ||| x5.toInt64) fun x_1 =>
  k21 a0 x1 x_1 (x4 + 1) h
set_option maxRecDepth 20000 in
set_option maxHeartbeats 4000000 in
theorem t_X6_readName_59 {Ω : Om} {k21 : Nat → Int32 → Int64 → Int32 → AH → Option (Int64 × AH)} (c21 : ∀ (a0 : Nat) (x1 : Int32) (x2 : Int64) (x4 : Int32) (h : AH) (q : Int64 × AH), k21 a0 x1 x2 x4 h = some q → Go Ω M_X6_readName 21 [(0, vR Ω (some a0)), (1, .int x1), (2, .long x2), (4, .int x4)] [] h (some (.long q.1)) q.2) (a0 : Nat) (x1 : Int32) (x2 : Int64) (x4 : Int32) (x5 : Int32) (h : AH) (q : Int64 × AH) (hf : f_X6_readName_59 k21 a0 x1 x2 x4 x5 h = some q) : Go Ω M_X6_readName 59 [(0, vR Ω (some a0)), (1, .int x1), (2, .long x2), (4, .int x4), (5, .int x5)] [] h (some (.long q.1)) q.2 := by
  unfold f_X6_readName_59 at hf
  refine go_lload_n dX6_readName_59 rfl 2 rfl ?_
  refine go_bipush 8 dX6_readName_60 (by decide) ?_
  refine go_lshl dX6_readName_62 ?_
  refine go_iload dX6_readName_63 4 rfl ?_
  refine go_i2l dX6_readName_65 ?_
  refine go_lor dX6_readName_66 ?_
  refine lt_J hf (fun x_1 hf => ?_)
  refine go_lstore_n (i := 2) (lv' := [(2, .long x_1), (0, vR Ω (some a0)), (1, .int x1), (4, .int x4), (5, .int x5)]) dX6_readName_67 rfl (by decide) (by first | rfl | simp [catR, catI, catJ]) ?_
  refine go_iinc (j := 3) (v := x4 + 1) (lv' := [(4, .int (x4 + 1)), (2, .long x_1), (0, vR Ω (some a0)), (1, .int x1), (5, .int x5)]) dX6_readName_68 rfl rfl (by decide) (by first | rfl | simp [catR, catI, catJ]) ?_
  refine go_goto (tgt := 21) dX6_readName_71 (by decide) ?_
  refine go_sub (lv' := [(0, vR Ω (some a0)), (1, .int x1), (2, .long x_1), (4, .int (x4 + 1))]) [2, 3, 1, 0] rfl ?_
  exact c21 a0 x1 x_1 (x4 + 1) h q hf
def f_X6_readName_54 (k21 : Nat → Int32 → Int64 → Int32 → AH → Option (Int64 × AH)) (a0 : Nat) (x1 : Int32) (x2 : Int64) (x4 : Int32) (x5 : Int32) (h : AH) : Option (Int64 × AH) := wrZ h a0 7 5 1 fun h_1 =>
  f_X6_readName_59 k21 a0 x1 x2 x4 x5 h_1
set_option maxRecDepth 20000 in
set_option maxHeartbeats 4000000 in
theorem t_X6_readName_54 {Ω : Om} {k21 : Nat → Int32 → Int64 → Int32 → AH → Option (Int64 × AH)} (c21 : ∀ (a0 : Nat) (x1 : Int32) (x2 : Int64) (x4 : Int32) (h : AH) (q : Int64 × AH), k21 a0 x1 x2 x4 h = some q → Go Ω M_X6_readName 21 [(0, vR Ω (some a0)), (1, .int x1), (2, .long x2), (4, .int x4)] [] h (some (.long q.1)) q.2) (a0 : Nat) (x1 : Int32) (x2 : Int64) (x4 : Int32) (x5 : Int32) (h : AH) (q : Int64 × AH) (hf : f_X6_readName_54 k21 a0 x1 x2 x4 x5 h = some q) : Go Ω M_X6_readName 54 [(0, vR Ω (some a0)), (1, .int x1), (2, .long x2), (4, .int x4), (5, .int x5)] [] h (some (.long q.1)) q.2 := by
  unfold f_X6_readName_54 at hf
  refine go_aload_n dX6_readName_54 rfl 0 rfl ?_
  refine go_iconst 1 dX6_readName_55 rfl ?_
  refine go_putZ dX6_readName_56 fl_162_0 (fun q hq => by cases hq; exact Or.inl rfl) (fun _ _ => rfl) rfl hf (fun h_1 hf => ?_)
  refine go_sub (lv' := [(0, vR Ω (some a0)), (1, .int x1), (2, .long x2), (4, .int x4), (5, .int x5)]) [0, 1, 2, 3, 4] rfl ?_
  exact t_X6_readName_59 c21 a0 x1 x2 x4 x5 h_1 q hf
def f_X6_readName_74 (x2 : Int64) (h : AH) : Option (Int64 × AH) := some (x2, h)
set_option maxRecDepth 20000 in
set_option maxHeartbeats 4000000 in
theorem t_X6_readName_74 {Ω : Om} (x2 : Int64) (h : AH) (q : Int64 × AH) (hf : f_X6_readName_74 x2 h = some q) : Go Ω M_X6_readName 74 [(2, .long x2)] [] h (some (.long q.1)) q.2 := by
  unfold f_X6_readName_74 at hf
  refine go_lload_n dX6_readName_74 rfl 0 rfl ?_
  exact go_lreturn dX6_readName_75 rfl hf
def f_X6_readName_21 : Nat → Nat → Int32 → Int64 → Int32 → AH → Option (Int64 × AH)
  | 0, _, _, _, _, _ => none
  | n + 1, a0, x1, x2, x4, h => (if x1 ≤ x4 then
      f_X6_readName_74 x2 h
    else
      rdI h a0 7 5 fun x_1 =>
      (if x_1 = 0 then
        kg h a0 7 (bd (f_X6_readByte a0 h) fun x_4 h_3 =>
        (if x_4 < 33 then
          f_X6_readName_54 (fun a0 x1 x2 x4 h => f_X6_readName_21 n a0 x1 x2 x4 h) a0 x1 x2 x4 x_4 h_3
        else
          (if x_4 ≤ 126 then
            f_X6_readName_59 (fun a0 x1 x2 x4 h => f_X6_readName_21 n a0 x1 x2 x4 h) a0 x1 x2 x4 x_4 h_3
          else
            f_X6_readName_54 (fun a0 x1 x2 x4 h => f_X6_readName_21 n a0 x1 x2 x4 h) a0 x1 x2 x4 x_4 h_3)))
      else
        f_X6_readName_74 x2 h))
set_option maxRecDepth 20000 in
set_option maxHeartbeats 4000000 in
theorem t_X6_readName_21 {Ω : Om} : ∀ (n : Nat) (a0 : Nat) (x1 : Int32) (x2 : Int64) (x4 : Int32) (h : AH) (q : Int64 × AH), f_X6_readName_21 n a0 x1 x2 x4 h = some q → Go Ω M_X6_readName 21 [(0, vR Ω (some a0)), (1, .int x1), (2, .long x2), (4, .int x4)] [] h (some (.long q.1)) q.2 := by
  intro n
  induction n with
  | zero => intro a0 x1 x2 x4 h q hf; cases hf
  | succ n ih =>
    intro a0 x1 x2 x4 h q hf
    rw [f_X6_readName_21] at hf
    refine go_iload dX6_readName_21 3 rfl ?_
    refine go_iload_n dX6_readName_23 rfl 1 rfl ?_
    refine go_icmp_ge (tgt := 74) dX6_readName_24 (by decide) hf (fun hf => ?_) (fun hf => ?_)
    · refine go_sub (lv' := [(2, .long x2)]) [2] rfl ?_
      exact t_X6_readName_74 x2 h q hf
    · refine go_aload_n dX6_readName_27 rfl 0 rfl ?_
      refine go_getI dX6_readName_28 fl_162_0 (fun _ _ => rfl) hf (fun x_1 hf => ?_)
      refine go_if_ne (tgt := 74) dX6_readName_31 (by decide) hf (fun hf => ?_) (fun hf => ?_)
      · refine go_sub (lv' := [(2, .long x2)]) [2] rfl ?_
        exact t_X6_readName_74 x2 h q hf
      · refine go_aload_n dX6_readName_34 rfl 0 rfl ?_
        obtain ⟨hk, hf⟩ := kg_some hf
        obtain ⟨z_2, hc, hf⟩ := bd_some hf
        refine go_callV (y2 := M_X6_readByte) (c2 := 7) dX6_readName_35 mo_X6_readByte ⟨Nat.le_of_ble_eq_true rfl, Nat.le_of_ble_eq_true rfl⟩ na_X6_readByte w470 w471 (by decide) rfl w472 hk [] rfl (n_X6_readByte (a0)) rfl (csum (Nat.le_of_ble_eq_true rfl)) (t_X6_readByte (a0) h _ hc) ?_
        obtain ⟨x_4, h_3⟩ := z_2
        refine go_istore (i := 5) (lv' := [(5, .int x_4), (0, vR Ω (some a0)), (1, .int x1), (2, .long x2), (4, .int x4)]) dX6_readName_38 (by decide) (by first | rfl | simp [catR, catI, catJ]) ?_
        refine go_iload dX6_readName_40 0 rfl ?_
        refine go_bipush 33 dX6_readName_42 (by decide) ?_
        refine go_icmp_lt (tgt := 54) dX6_readName_44 (by decide) hf (fun hf => ?_) (fun hf => ?_)
        · refine go_sub (lv' := [(0, vR Ω (some a0)), (1, .int x1), (2, .long x2), (4, .int x4), (5, .int x_4)]) [1, 2, 3, 4, 0] rfl ?_
          exact t_X6_readName_54 ih a0 x1 x2 x4 x_4 h_3 q hf
        · refine go_iload dX6_readName_47 0 rfl ?_
          refine go_bipush 126 dX6_readName_49 (by decide) ?_
          refine go_icmp_le (tgt := 59) dX6_readName_51 (by decide) hf (fun hf => ?_) (fun hf => ?_)
          · refine go_sub (lv' := [(0, vR Ω (some a0)), (1, .int x1), (2, .long x2), (4, .int x4), (5, .int x_4)]) [1, 2, 3, 4, 0] rfl ?_
            exact t_X6_readName_59 ih a0 x1 x2 x4 x_4 h_3 q hf
          · refine go_sub (lv' := [(0, vR Ω (some a0)), (1, .int x1), (2, .long x2), (4, .int x4), (5, .int x_4)]) [1, 2, 3, 4, 0] rfl ?_
            exact t_X6_readName_54 ih a0 x1 x2 x4 x_4 h_3 q hf
def f_X6_readName_16 (a0 : Nat) (x1 : Int32) (h : AH) : Option (Int64 × AH) := f_X6_readName_21 FU a0 x1 0 0 h
set_option maxRecDepth 20000 in
set_option maxHeartbeats 4000000 in
theorem t_X6_readName_16 {Ω : Om} (a0 : Nat) (x1 : Int32) (h : AH) (q : Int64 × AH) (hf : f_X6_readName_16 a0 x1 h = some q) : Go Ω M_X6_readName 16 [(0, vR Ω (some a0)), (1, .int x1)] [] h (some (.long q.1)) q.2 := by
  unfold f_X6_readName_16 at hf
  refine go_lconst 0 dX6_readName_16 rfl ?_
  refine go_lstore_n (i := 2) (lv' := [(2, .long 0), (0, vR Ω (some a0)), (1, .int x1)]) dX6_readName_17 rfl (by decide) (by first | rfl | simp [catR, catI, catJ]) ?_
  refine go_iconst 0 dX6_readName_18 rfl ?_
  refine go_istore (i := 4) (lv' := [(4, .int 0), (2, .long 0), (0, vR Ω (some a0)), (1, .int x1)]) dX6_readName_19 (by decide) (by first | rfl | simp [catR, catI, catJ]) ?_
  refine go_sub (lv' := [(0, vR Ω (some a0)), (1, .int x1), (2, .long 0), (4, .int 0)]) [2, 3, 1, 0] rfl ?_
  exact t_X6_readName_21 FU a0 x1 0 0 h q hf
def f_X6_readName (a0 : Nat) (h : AH) : Option (Int64 × AH) := kg h a0 7 (bd (f_X6_readByte a0 h) fun x_3 h_2 =>
  (if x_3 ≤ 8 then
    f_X6_readName_16 a0 x_3 h_2
  else
    wrZ h_2 a0 7 5 1 fun h_4 =>
    f_X6_readName_16 a0 x_3 h_4))
set_option maxRecDepth 20000 in
set_option maxHeartbeats 4000000 in
theorem t_X6_readName {Ω : Om} (a0 : Nat) (h : AH) (q : Int64 × AH) (hf : f_X6_readName a0 h = some q) : Go Ω M_X6_readName 0 (lv_args 0 [vR Ω (some a0)]) [] h (some (.long q.1)) q.2 := by
  unfold f_X6_readName at hf
  rw [la_R, la_0]
  refine go_sub (lv' := [(0, vR Ω (some a0))]) [0] rfl ?_
  refine go_aload_n dX6_readName_0 rfl 0 rfl ?_
  obtain ⟨hk, hf⟩ := kg_some hf
  obtain ⟨z_1, hc, hf⟩ := bd_some hf
  refine go_callV (y2 := M_X6_readByte) (c2 := 7) dX6_readName_1 mo_X6_readByte ⟨Nat.le_of_ble_eq_true rfl, Nat.le_of_ble_eq_true rfl⟩ na_X6_readByte w470 w471 (by decide) rfl w472 hk [] rfl (n_X6_readByte (a0)) rfl (csum (Nat.le_of_ble_eq_true rfl)) (t_X6_readByte (a0) h _ hc) ?_
  obtain ⟨x_3, h_2⟩ := z_1
  refine go_istore_n (i := 1) (lv' := [(1, .int x_3), (0, vR Ω (some a0))]) dX6_readName_4 rfl (by decide) (by first | rfl | simp [catR, catI, catJ]) ?_
  refine go_iload_n dX6_readName_5 rfl 0 rfl ?_
  refine go_bipush 8 dX6_readName_6 (by decide) ?_
  refine go_icmp_le (tgt := 16) dX6_readName_8 (by decide) hf (fun hf => ?_) (fun hf => ?_)
  · refine go_sub (lv' := [(0, vR Ω (some a0)), (1, .int x_3)]) [1, 0] rfl ?_
    exact t_X6_readName_16 a0 x_3 h_2 q hf
  · refine go_aload_n dX6_readName_11 rfl 1 rfl ?_
    refine go_iconst 1 dX6_readName_12 rfl ?_
    refine go_putZ dX6_readName_13 fl_162_0 (fun q hq => by cases hq; exact Or.inl rfl) (fun _ _ => rfl) rfl hf (fun h_4 hf => ?_)
    refine go_sub (lv' := [(0, vR Ω (some a0)), (1, .int x_3)]) [1, 0] rfl ?_
    exact t_X6_readName_16 a0 x_3 h_4 q hf
-- LetterBroker$Office.consumerAt(LLetterBroker$Channel;J)I
theorem dX8_consumerAt_0 : decode cX8_consumerAt 0 = .ok (.iconst 0, 1) := by decide +kernel
theorem dX8_consumerAt_1 : decode cX8_consumerAt 1 = .ok (.istore 4, 2) := by decide +kernel
theorem dX8_consumerAt_3 : decode cX8_consumerAt 3 = .ok (.iload 4, 2) := by decide +kernel
theorem dX8_consumerAt_5 : decode cX8_consumerAt 5 = .ok (.aload_n 0, 1) := by decide +kernel
theorem dX8_consumerAt_6 : decode cX8_consumerAt 6 = .ok (.getfield 24, 3) := by decide +kernel
theorem dX8_consumerAt_9 : decode cX8_consumerAt 9 = .ok (.invokeinterface 38 1, 5) := by decide +kernel
theorem dX8_consumerAt_14 : decode cX8_consumerAt 14 = .ok (.if_icmp .ge 55, 3) := by decide +kernel
theorem dX8_consumerAt_17 : decode cX8_consumerAt 17 = .ok (.aload_n 0, 1) := by decide +kernel
theorem dX8_consumerAt_18 : decode cX8_consumerAt 18 = .ok (.getfield 24, 3) := by decide +kernel
theorem dX8_consumerAt_21 : decode cX8_consumerAt 21 = .ok (.iload 4, 2) := by decide +kernel
theorem dX8_consumerAt_23 : decode cX8_consumerAt 23 = .ok (.invokeinterface 42 2, 5) := by decide +kernel
theorem dX8_consumerAt_28 : decode cX8_consumerAt 28 = .ok (.checkcast 66, 3) := by decide +kernel
theorem dX8_consumerAt_31 : decode cX8_consumerAt 31 = .ok (.getfield 68, 3) := by decide +kernel
theorem dX8_consumerAt_34 : decode cX8_consumerAt 34 = .ok (.aload_n 1, 1) := by decide +kernel
theorem dX8_consumerAt_35 : decode cX8_consumerAt 35 = .ok (.if_acmp .ne 28, 3) := by decide +kernel
theorem dX8_consumerAt_38 : decode cX8_consumerAt 38 = .ok (.aload_n 0, 1) := by decide +kernel
theorem dX8_consumerAt_39 : decode cX8_consumerAt 39 = .ok (.getfield 24, 3) := by decide +kernel
theorem dX8_consumerAt_42 : decode cX8_consumerAt 42 = .ok (.iload 4, 2) := by decide +kernel
theorem dX8_consumerAt_44 : decode cX8_consumerAt 44 = .ok (.invokeinterface 42 2, 5) := by decide +kernel
theorem dX8_consumerAt_49 : decode cX8_consumerAt 49 = .ok (.checkcast 66, 3) := by decide +kernel
theorem dX8_consumerAt_52 : decode cX8_consumerAt 52 = .ok (.getfield 72, 3) := by decide +kernel
theorem dX8_consumerAt_55 : decode cX8_consumerAt 55 = .ok (.lload_n 2, 1) := by decide +kernel
theorem dX8_consumerAt_56 : decode cX8_consumerAt 56 = .ok (.lcmp, 1) := by decide +kernel
theorem dX8_consumerAt_57 : decode cX8_consumerAt 57 = .ok (.ifCond .ne 6, 3) := by decide +kernel
theorem dX8_consumerAt_60 : decode cX8_consumerAt 60 = .ok (.iload 4, 2) := by decide +kernel
theorem dX8_consumerAt_62 : decode cX8_consumerAt 62 = .ok (.ireturn, 1) := by decide +kernel
theorem dX8_consumerAt_63 : decode cX8_consumerAt 63 = .ok (.iinc 4 1, 3) := by decide +kernel
theorem dX8_consumerAt_66 : decode cX8_consumerAt 66 = .ok (.goto (-63), 3) := by decide +kernel
theorem dX8_consumerAt_69 : decode cX8_consumerAt 69 = .ok (.iconst (-1), 1) := by decide +kernel
theorem dX8_consumerAt_70 : decode cX8_consumerAt 70 = .ok (.ireturn, 1) := by decide +kernel
def f_X8_consumerAt_63 (k3 : Nat → Option Nat → Int64 → Int32 → AH → Option (Int32 × AH)) (a0 : Nat) (r1 : Option Nat) (x2 : Int64) (x4 : Int32) (h : AH) : Option (Int32 × AH) := k3 a0 r1 x2 (x4 + 1) h
set_option maxRecDepth 20000 in
set_option maxHeartbeats 4000000 in
theorem t_X8_consumerAt_63 {Ω : Om} {k3 : Nat → Option Nat → Int64 → Int32 → AH → Option (Int32 × AH)} (c3 : ∀ (a0 : Nat) (r1 : Option Nat) (x2 : Int64) (x4 : Int32) (h : AH) (q : Int32 × AH), k3 a0 r1 x2 x4 h = some q → Go Ω M_X8_consumerAt 3 [(0, vR Ω (some a0)), (1, vR Ω r1), (2, .long x2), (4, .int x4)] [] h (some (.int q.1)) q.2) (a0 : Nat) (r1 : Option Nat) (x2 : Int64) (x4 : Int32) (h : AH) (q : Int32 × AH) (hf : f_X8_consumerAt_63 k3 a0 r1 x2 x4 h = some q) : Go Ω M_X8_consumerAt 63 [(0, vR Ω (some a0)), (1, vR Ω r1), (2, .long x2), (4, .int x4)] [] h (some (.int q.1)) q.2 := by
  unfold f_X8_consumerAt_63 at hf
  refine go_iinc (j := 3) (v := x4 + 1) (lv' := [(4, .int (x4 + 1)), (0, vR Ω (some a0)), (1, vR Ω r1), (2, .long x2)]) dX8_consumerAt_63 rfl rfl (by decide) (by first | rfl | simp [catR, catI, catJ]) ?_
  refine go_goto (tgt := 3) dX8_consumerAt_66 (by decide) ?_
  refine go_sub (lv' := [(0, vR Ω (some a0)), (1, vR Ω r1), (2, .long x2), (4, .int (x4 + 1))]) [1, 2, 3, 0] rfl ?_
  exact c3 a0 r1 x2 (x4 + 1) h q hf
def f_X8_consumerAt_3 : Nat → Nat → Option Nat → Int64 → Int32 → AH → Option (Int32 × AH)
  | 0, _, _, _, _, _ => none
  | n + 1, a0, r1, x2, x4, h => rdR h a0 9 3 fun r_1 =>
    nn r_1 fun a_2 =>
    kg h a_2 0 (bd (f_Jx4a65c_size_8abf5 a_2 h) fun x_5 h_4 =>
    (if x_5 ≤ x4 then
      some (((-1)), h_4)
    else
      rdR h_4 a0 9 3 fun r_6 =>
      nn r_6 fun a_7 =>
      kg h_4 a_7 0 (bd (f_Jx4a65c_get_915e3 a_7 x4 h_4) fun r_10 h_9 =>
      ckc h_9 r_10 3 (
      nn r_10 fun a_11 =>
      rdR h_9 a_11 3 1 fun r_12 =>
      aq r_12 r1
        (rdR h_9 a0 9 3 fun r_13 =>
        nn r_13 fun a_14 =>
        kg h_9 a_14 0 (bd (f_Jx4a65c_get_915e3 a_14 x4 h_9) fun r_17 h_16 =>
        ckc h_16 r_17 3 (
        nn r_17 fun a_18 =>
        rdJ h_16 a_18 3 2 fun x_19 =>
        (if (lg_cmp x_19 x2) = 0 then
          some (x4, h_16)
        else
          f_X8_consumerAt_63 (fun a0 r1 x2 x4 h => f_X8_consumerAt_3 n a0 r1 x2 x4 h) a0 r1 x2 x4 h_16))))
        (f_X8_consumerAt_63 (fun a0 r1 x2 x4 h => f_X8_consumerAt_3 n a0 r1 x2 x4 h) a0 r1 x2 x4 h_9)))))
set_option maxRecDepth 20000 in
set_option maxHeartbeats 4000000 in
theorem t_X8_consumerAt_3 {Ω : Om} : ∀ (n : Nat) (a0 : Nat) (r1 : Option Nat) (x2 : Int64) (x4 : Int32) (h : AH) (q : Int32 × AH), f_X8_consumerAt_3 n a0 r1 x2 x4 h = some q → Go Ω M_X8_consumerAt 3 [(0, vR Ω (some a0)), (1, vR Ω r1), (2, .long x2), (4, .int x4)] [] h (some (.int q.1)) q.2 := by
  intro n
  induction n with
  | zero => intro a0 r1 x2 x4 h q hf; cases hf
  | succ n ih =>
    intro a0 r1 x2 x4 h q hf
    rw [f_X8_consumerAt_3] at hf
    refine go_iload dX8_consumerAt_3 3 rfl ?_
    refine go_aload_n dX8_consumerAt_5 rfl 0 rfl ?_
    refine go_getR dX8_consumerAt_6 fl_322_0 (fun _ _ => rfl) hf (fun r_1 hf => ?_)
    obtain ⟨a_2, rfl, hga_2⟩ := nn_some hf
    have hf := hga_2
    obtain ⟨hk, hf⟩ := kg_some hf
    obtain ⟨z_3, hc, hf⟩ := bd_some hf
    refine go_callF (y2 := M_Jx4a65c_size_8abf5) (x2 := ⟨"java/util/List", "size", "()I"⟩) dX8_consumerAt_9 mo_Jx4a65c_size_8abf5 ⟨Nat.le_of_ble_eq_true rfl, Nat.le_of_ble_eq_true rfl⟩ na_Jx4a65c_size_8abf5 w536 w522 w520 (by decide) (fun U hU => hU.2.2.2.2.1) hk [] rfl (n_Jx4a65c_size_8abf5 (a_2)) rfl (csum (Nat.le_of_ble_eq_true rfl)) (t_Jx4a65c_size_8abf5 (a_2) h _ hc) ?_
    obtain ⟨x_5, h_4⟩ := z_3
    refine go_icmp_ge (tgt := 69) dX8_consumerAt_14 (by decide) hf (fun hf => ?_) (fun hf => ?_)
    · refine go_iconst (-1) dX8_consumerAt_69 rfl ?_
      exact go_ireturn dX8_consumerAt_70 rfl hf
    · refine go_aload_n dX8_consumerAt_17 rfl 0 rfl ?_
      refine go_getR dX8_consumerAt_18 fl_322_0 (fun _ _ => rfl) hf (fun r_6 hf => ?_)
      refine go_iload dX8_consumerAt_21 3 rfl ?_
      obtain ⟨a_7, rfl, hga_7⟩ := nn_some hf
      have hf := hga_7
      obtain ⟨hk, hf⟩ := kg_some hf
      obtain ⟨z_8, hc, hf⟩ := bd_some hf
      refine go_callF (y2 := M_Jx4a65c_get_915e3) (x2 := ⟨"java/util/List", "get", "(I)Ljava/lang/Object;"⟩) dX8_consumerAt_23 mo_Jx4a65c_get_915e3 ⟨Nat.le_of_ble_eq_true rfl, Nat.le_of_ble_eq_true rfl⟩ na_Jx4a65c_get_915e3 w538 w543 w541 (by decide) (fun U hU => hU.2.2.1) hk [.int x4] rfl (n_Jx4a65c_get_915e3 (a_7) x4) rfl (csum (Nat.le_of_ble_eq_true rfl)) (t_Jx4a65c_get_915e3 (a_7) x4 h_4 _ hc) ?_
      obtain ⟨r_10, h_9⟩ := z_8
      refine go_cast (c := 3) dX8_consumerAt_28 (by decide) rfl w674 hf (fun hf => ?_)
      obtain ⟨a_11, rfl, hga_11⟩ := nn_some hf
      have hf := hga_11
      refine go_getR dX8_consumerAt_31 fl_903_0 (fun _ _ => rfl) hf (fun r_12 hf => ?_)
      refine go_aload_n dX8_consumerAt_34 rfl 1 rfl ?_
      refine go_acmp_ne (tgt := 63) dX8_consumerAt_35 (by decide) hf (fun hf => ?_) (fun hf => ?_)
      · refine go_sub (lv' := [(0, vR Ω (some a0)), (1, vR Ω r1), (2, .long x2), (4, .int x4)]) [0, 1, 2, 3] rfl ?_
        exact t_X8_consumerAt_63 ih a0 r1 x2 x4 h_9 q hf
      · refine go_aload_n dX8_consumerAt_38 rfl 0 rfl ?_
        refine go_getR dX8_consumerAt_39 fl_322_0 (fun _ _ => rfl) hf (fun r_13 hf => ?_)
        refine go_iload dX8_consumerAt_42 3 rfl ?_
        obtain ⟨a_14, rfl, hga_14⟩ := nn_some hf
        have hf := hga_14
        obtain ⟨hk, hf⟩ := kg_some hf
        obtain ⟨z_15, hc, hf⟩ := bd_some hf
        refine go_callF (y2 := M_Jx4a65c_get_915e3) (x2 := ⟨"java/util/List", "get", "(I)Ljava/lang/Object;"⟩) dX8_consumerAt_44 mo_Jx4a65c_get_915e3 ⟨Nat.le_of_ble_eq_true rfl, Nat.le_of_ble_eq_true rfl⟩ na_Jx4a65c_get_915e3 w538 w543 w541 (by decide) (fun U hU => hU.2.2.1) hk [.int x4] rfl (n_Jx4a65c_get_915e3 (a_14) x4) rfl (csum (Nat.le_of_ble_eq_true rfl)) (t_Jx4a65c_get_915e3 (a_14) x4 h_9 _ hc) ?_
        obtain ⟨r_17, h_16⟩ := z_15
        refine go_cast (c := 3) dX8_consumerAt_49 (by decide) rfl w674 hf (fun hf => ?_)
        obtain ⟨a_18, rfl, hga_18⟩ := nn_some hf
        have hf := hga_18
        refine go_getJ dX8_consumerAt_52 fl_906_0 (fun _ _ => rfl) hf (fun x_19 hf => ?_)
        refine go_lload_n dX8_consumerAt_55 rfl 2 rfl ?_
        refine go_lcmp dX8_consumerAt_56 ?_
        refine go_if_ne (tgt := 63) dX8_consumerAt_57 (by decide) hf (fun hf => ?_) (fun hf => ?_)
        · refine go_sub (lv' := [(0, vR Ω (some a0)), (1, vR Ω r1), (2, .long x2), (4, .int x4)]) [0, 1, 2, 3] rfl ?_
          exact t_X8_consumerAt_63 ih a0 r1 x2 x4 h_16 q hf
        · refine go_iload dX8_consumerAt_60 3 rfl ?_
          exact go_ireturn dX8_consumerAt_62 rfl hf
def f_X8_consumerAt (a0 : Nat) (r1 : Option Nat) (x2 : Int64) (h : AH) : Option (Int32 × AH) := f_X8_consumerAt_3 FU a0 r1 x2 0 h
set_option maxRecDepth 20000 in
set_option maxHeartbeats 4000000 in
theorem t_X8_consumerAt {Ω : Om} (a0 : Nat) (r1 : Option Nat) (x2 : Int64) (h : AH) (q : Int32 × AH) (hf : f_X8_consumerAt a0 r1 x2 h = some q) : Go Ω M_X8_consumerAt 0 (lv_args 0 [vR Ω (some a0), vR Ω r1, .long x2]) [] h (some (.int q.1)) q.2 := by
  unfold f_X8_consumerAt at hf
  rw [la_R, la_R, la_J, la_0]
  refine go_sub (lv' := [(0, vR Ω (some a0)), (1, vR Ω r1), (2, .long x2)]) [0, 1, 2] rfl ?_
  refine go_iconst 0 dX8_consumerAt_0 rfl ?_
  refine go_istore (i := 4) (lv' := [(4, .int 0), (0, vR Ω (some a0)), (1, vR Ω r1), (2, .long x2)]) dX8_consumerAt_1 (by decide) (by first | rfl | simp [catR, catI, catJ]) ?_
  refine go_sub (lv' := [(0, vR Ω (some a0)), (1, vR Ω r1), (2, .long x2), (4, .int 0)]) [1, 2, 3, 0] rfl ?_
  exact t_X8_consumerAt_3 FU a0 r1 x2 0 h q hf
-- LetterBroker.cancel(LLetterBroker$Channel;)I
theorem dX11_cancel_0 : decode cX11_cancel 0 = .ok (.aload_n 0, 1) := by decide +kernel
theorem dX11_cancel_1 : decode cX11_cancel 1 = .ok (.getfield 10, 3) := by decide +kernel
theorem dX11_cancel_4 : decode cX11_cancel 4 = .ok (.invokevirtual 283, 3) := by decide +kernel
theorem dX11_cancel_7 : decode cX11_cancel 7 = .ok (.lstore_n 2, 1) := by decide +kernel
theorem dX11_cancel_8 : decode cX11_cancel 8 = .ok (.aload_n 0, 1) := by decide +kernel
theorem dX11_cancel_9 : decode cX11_cancel 9 = .ok (.getfield 10, 3) := by decide +kernel
theorem dX11_cancel_12 : decode cX11_cancel 12 = .ok (.invokevirtual 132, 3) := by decide +kernel
theorem dX11_cancel_15 : decode cX11_cancel 15 = .ok (.ifCond .ne 7, 3) := by decide +kernel
theorem dX11_cancel_18 : decode cX11_cancel 18 = .ok (.sipush 501, 3) := by decide +kernel
theorem dX11_cancel_21 : decode cX11_cancel 21 = .ok (.ireturn, 1) := by decide +kernel
theorem dX11_cancel_22 : decode cX11_cancel 22 = .ok (.aload_n 0, 1) := by decide +kernel
theorem dX11_cancel_23 : decode cX11_cancel 23 = .ok (.getfield 26, 3) := by decide +kernel
theorem dX11_cancel_26 : decode cX11_cancel 26 = .ok (.aload_n 1, 1) := by decide +kernel
theorem dX11_cancel_27 : decode cX11_cancel 27 = .ok (.lload_n 2, 1) := by decide +kernel
theorem dX11_cancel_28 : decode cX11_cancel 28 = .ok (.invokevirtual 347, 3) := by decide +kernel
theorem dX11_cancel_31 : decode cX11_cancel 31 = .ok (.istore 4, 2) := by decide +kernel
theorem dX11_cancel_33 : decode cX11_cancel 33 = .ok (.iload 4, 2) := by decide +kernel
theorem dX11_cancel_35 : decode cX11_cancel 35 = .ok (.ifCond .lt 18, 3) := by decide +kernel
theorem dX11_cancel_38 : decode cX11_cancel 38 = .ok (.aload_n 0, 1) := by decide +kernel
theorem dX11_cancel_39 : decode cX11_cancel 39 = .ok (.getfield 26, 3) := by decide +kernel
theorem dX11_cancel_42 : decode cX11_cancel 42 = .ok (.getfield 351, 3) := by decide +kernel
theorem dX11_cancel_45 : decode cX11_cancel 45 = .ok (.iload 4, 2) := by decide +kernel
theorem dX11_cancel_47 : decode cX11_cancel 47 = .ok (.invokeinterface 336 2, 5) := by decide +kernel
theorem dX11_cancel_52 : decode cX11_cancel 52 = .ok (.pop, 1) := by decide +kernel
theorem dX11_cancel_53 : decode cX11_cancel 53 = .ok (.aload_n 0, 1) := by decide +kernel
theorem dX11_cancel_54 : decode cX11_cancel 54 = .ok (.getfield 19, 3) := by decide +kernel
theorem dX11_cancel_57 : decode cX11_cancel 57 = .ok (.aload_n 1, 1) := by decide +kernel
theorem dX11_cancel_58 : decode cX11_cancel 58 = .ok (.getfield 145, 3) := by decide +kernel
theorem dX11_cancel_61 : decode cX11_cancel 61 = .ok (.sipush 15391, 3) := by decide +kernel
theorem dX11_cancel_64 : decode cX11_cancel 64 = .ok (.invokevirtual 272, 3) := by decide +kernel
theorem dX11_cancel_67 : decode cX11_cancel 67 = .ok (.aload_n 0, 1) := by decide +kernel
theorem dX11_cancel_68 : decode cX11_cancel 68 = .ok (.getfield 19, 3) := by decide +kernel
theorem dX11_cancel_71 : decode cX11_cancel 71 = .ok (.lload_n 2, 1) := by decide +kernel
theorem dX11_cancel_72 : decode cX11_cancel 72 = .ok (.invokevirtual 322, 3) := by decide +kernel
theorem dX11_cancel_75 : decode cX11_cancel 75 = .ok (.aload_n 0, 1) := by decide +kernel
theorem dX11_cancel_76 : decode cX11_cancel 76 = .ok (.getfield 19, 3) := by decide +kernel
theorem dX11_cancel_79 : decode cX11_cancel 79 = .ok (.invokevirtual 277, 3) := by decide +kernel
theorem dX11_cancel_82 : decode cX11_cancel 82 = .ok (.iconst 0, 1) := by decide +kernel
theorem dX11_cancel_83 : decode cX11_cancel 83 = .ok (.ireturn, 1) := by decide +kernel
def f_X11_cancel_53 (a0 : Nat) (r1 : Option Nat) (x2 : Int64) (h : AH) : Option (Int32 × AH) := rdR h a0 12 1 fun r_1 =>
  nn r1 fun a_2 =>
  rdI h a_2 2 0 fun x_3 =>
  nn r_1 fun a_4 =>
  kg h a_4 10 (bd (f_X9_begin a_4 x_3 15391 h) fun _ h_6 =>
  rdR h_6 a0 12 1 fun r_7 =>
  nn r_7 fun a_8 =>
  kg h_6 a_8 10 (bd (f_X9_putName a_8 x2 h_6) fun _ h_10 =>
  rdR h_10 a0 12 1 fun r_11 =>
  nn r_11 fun a_12 =>
  kg h_10 a_12 10 (bd (f_X9_end a_12 h_10) fun _ h_14 =>
  some (0, h_14))))
set_option maxRecDepth 20000 in
set_option maxHeartbeats 4000000 in
theorem t_X11_cancel_53 {Ω : Om} (a0 : Nat) (r1 : Option Nat) (x2 : Int64) (h : AH) (q : Int32 × AH) (hf : f_X11_cancel_53 a0 r1 x2 h = some q) : Go Ω M_X11_cancel 53 [(0, vR Ω (some a0)), (1, vR Ω r1), (2, .long x2)] [] h (some (.int q.1)) q.2 := by
  unfold f_X11_cancel_53 at hf
  refine go_aload_n dX11_cancel_53 rfl 0 rfl ?_
  refine go_getR dX11_cancel_54 fl_389_0 (fun _ _ => rfl) hf (fun r_1 hf => ?_)
  refine go_aload_n dX11_cancel_57 rfl 1 rfl ?_
  obtain ⟨a_2, rfl, hga_2⟩ := nn_some hf
  have hf := hga_2
  refine go_getI dX11_cancel_58 fl_349_0 (fun _ _ => rfl) hf (fun x_3 hf => ?_)
  refine go_sipush 15391 dX11_cancel_61 (by decide) ?_
  obtain ⟨a_4, rfl, hga_4⟩ := nn_some hf
  have hf := hga_4
  obtain ⟨hk, hf⟩ := kg_some hf
  obtain ⟨z_5, hc, hf⟩ := bd_some hf
  refine go_callV (y2 := M_X9_begin) (c2 := 10) dX11_cancel_64 mo_X9_begin ⟨Nat.le_of_ble_eq_true rfl, Nat.le_of_ble_eq_true rfl⟩ na_X9_begin w586 w435 (by decide) rfl w436 hk [.int x_3, .int 15391] rfl (n_X9_begin (a_4) x_3 15391) rfl (csum (Nat.le_of_ble_eq_true rfl)) (t_X9_begin (a_4) x_3 15391 h _ hc) ?_
  obtain ⟨_, h_6⟩ := z_5
  refine go_aload_n dX11_cancel_67 rfl 0 rfl ?_
  refine go_getR dX11_cancel_68 fl_389_0 (fun _ _ => rfl) hf (fun r_7 hf => ?_)
  refine go_lload_n dX11_cancel_71 rfl 2 rfl ?_
  obtain ⟨a_8, rfl, hga_8⟩ := nn_some hf
  have hf := hga_8
  obtain ⟨hk, hf⟩ := kg_some hf
  obtain ⟨z_9, hc, hf⟩ := bd_some hf
  refine go_callV (y2 := M_X9_putName) (c2 := 10) dX11_cancel_72 mo_X9_putName ⟨Nat.le_of_ble_eq_true rfl, Nat.le_of_ble_eq_true rfl⟩ na_X9_putName w591 w592 (by decide) rfl w593 hk [.long x2] rfl (n_X9_putName (a_8) x2) rfl (csum (Nat.le_of_ble_eq_true rfl)) (t_X9_putName (a_8) x2 h_6 _ hc) ?_
  obtain ⟨_, h_10⟩ := z_9
  refine go_aload_n dX11_cancel_75 rfl 0 rfl ?_
  refine go_getR dX11_cancel_76 fl_389_0 (fun _ _ => rfl) hf (fun r_11 hf => ?_)
  obtain ⟨a_12, rfl, hga_12⟩ := nn_some hf
  have hf := hga_12
  obtain ⟨hk, hf⟩ := kg_some hf
  obtain ⟨z_13, hc, hf⟩ := bd_some hf
  refine go_callV (y2 := M_X9_end) (c2 := 10) dX11_cancel_79 mo_X9_end ⟨Nat.le_of_ble_eq_true rfl, Nat.le_of_ble_eq_true rfl⟩ na_X9_end w595 w443 (by decide) rfl w444 hk [] rfl (n_X9_end (a_12)) rfl (csum (Nat.le_of_ble_eq_true rfl)) (t_X9_end (a_12) h_10 _ hc) ?_
  obtain ⟨_, h_14⟩ := z_13
  refine go_iconst 0 dX11_cancel_82 rfl ?_
  exact go_ireturn dX11_cancel_83 rfl hf
def f_X11_cancel (a0 : Nat) (r1 : Option Nat) (h : AH) : Option (Int32 × AH) := rdR h a0 12 0 fun r_1 =>
  nn r_1 fun a_2 =>
  kg h a_2 7 (bd (f_X6_readName a_2 h) fun x_5 h_4 =>
  rdR h_4 a0 12 0 fun r_6 =>
  nn r_6 fun a_7 =>
  kg h_4 a_7 7 (bd (f_X6_isJustRead a_7 h_4) fun x_10 h_9 =>
  (if x_10 = 0 then
    some (501, h_9)
  else
    rdR h_9 a0 12 2 fun r_11 =>
    nn r_11 fun a_12 =>
    kg h_9 a_12 9 (bd (f_X8_consumerAt a_12 r1 x_5 h_9) fun x_15 h_14 =>
    (if x_15 < 0 then
      f_X11_cancel_53 a0 r1 x_5 h_14
    else
      rdR h_14 a0 12 2 fun r_16 =>
      nn r_16 fun a_17 =>
      rdR h_14 a_17 9 3 fun r_18 =>
      nn r_18 fun a_19 =>
      kg h_14 a_19 0 (bd (f_Jx4a65c_remove_915e3 a_19 x_15 h_14) fun r_22 h_21 =>
      f_X11_cancel_53 a0 r1 x_5 h_21))))))
set_option maxRecDepth 20000 in
set_option maxHeartbeats 4000000 in
theorem t_X11_cancel {Ω : Om} (a0 : Nat) (r1 : Option Nat) (h : AH) (q : Int32 × AH) (hf : f_X11_cancel a0 r1 h = some q) : Go Ω M_X11_cancel 0 (lv_args 0 [vR Ω (some a0), vR Ω r1]) [] h (some (.int q.1)) q.2 := by
  unfold f_X11_cancel at hf
  rw [la_R, la_R, la_0]
  refine go_sub (lv' := [(0, vR Ω (some a0)), (1, vR Ω r1)]) [0, 1] rfl ?_
  refine go_aload_n dX11_cancel_0 rfl 0 rfl ?_
  refine go_getR dX11_cancel_1 fl_388_0 (fun _ _ => rfl) hf (fun r_1 hf => ?_)
  obtain ⟨a_2, rfl, hga_2⟩ := nn_some hf
  have hf := hga_2
  obtain ⟨hk, hf⟩ := kg_some hf
  obtain ⟨z_3, hc, hf⟩ := bd_some hf
  refine go_callV (y2 := M_X6_readName) (c2 := 7) dX11_cancel_4 mo_X6_readName ⟨Nat.le_of_ble_eq_true rfl, Nat.le_of_ble_eq_true rfl⟩ na_X6_readName w758 w759 (by decide) rfl w760 hk [] rfl (n_X6_readName (a_2)) rfl (csum (Nat.le_of_ble_eq_true rfl)) (t_X6_readName (a_2) h _ hc) ?_
  obtain ⟨x_5, h_4⟩ := z_3
  refine go_lstore_n (i := 2) (lv' := [(2, .long x_5), (0, vR Ω (some a0)), (1, vR Ω r1)]) dX11_cancel_7 rfl (by decide) (by first | rfl | simp [catR, catI, catJ]) ?_
  refine go_aload_n dX11_cancel_8 rfl 1 rfl ?_
  refine go_getR dX11_cancel_9 fl_388_0 (fun _ _ => rfl) hf (fun r_6 hf => ?_)
  obtain ⟨a_7, rfl, hga_7⟩ := nn_some hf
  have hf := hga_7
  obtain ⟨hk, hf⟩ := kg_some hf
  obtain ⟨z_8, hc, hf⟩ := bd_some hf
  refine go_callV (y2 := M_X6_isJustRead) (c2 := 7) dX11_cancel_12 mo_X6_isJustRead ⟨Nat.le_of_ble_eq_true rfl, Nat.le_of_ble_eq_true rfl⟩ na_X6_isJustRead w474 w475 (by decide) rfl w476 hk [] rfl (n_X6_isJustRead (a_7)) rfl (csum (Nat.le_of_ble_eq_true rfl)) (t_X6_isJustRead (a_7) h_4 _ hc) ?_
  obtain ⟨x_10, h_9⟩ := z_8
  refine go_if_ne (tgt := 22) dX11_cancel_15 (by decide) hf (fun hf => ?_) (fun hf => ?_)
  · refine go_aload_n dX11_cancel_22 rfl 1 rfl ?_
    refine go_getR dX11_cancel_23 fl_390_0 (fun _ _ => rfl) hf (fun r_11 hf => ?_)
    refine go_aload_n dX11_cancel_26 rfl 2 rfl ?_
    refine go_lload_n dX11_cancel_27 rfl 0 rfl ?_
    obtain ⟨a_12, rfl, hga_12⟩ := nn_some hf
    have hf := hga_12
    obtain ⟨hk, hf⟩ := kg_some hf
    obtain ⟨z_13, hc, hf⟩ := bd_some hf
    refine go_callV (y2 := M_X8_consumerAt) (c2 := 9) dX11_cancel_28 mo_X8_consumerAt ⟨Nat.le_of_ble_eq_true rfl, Nat.le_of_ble_eq_true rfl⟩ na_X8_consumerAt w887 w888 (by decide) rfl w889 hk [vR Ω r1, .long x_5] rfl (n_X8_consumerAt (a_12) r1 x_5) rfl (csum (Nat.le_of_ble_eq_true rfl)) (t_X8_consumerAt (a_12) r1 x_5 h_9 _ hc) ?_
    obtain ⟨x_15, h_14⟩ := z_13
    refine go_istore (i := 4) (lv' := [(4, .int x_15), (2, .long x_5), (0, vR Ω (some a0)), (1, vR Ω r1)]) dX11_cancel_31 (by decide) (by first | rfl | simp [catR, catI, catJ]) ?_
    refine go_iload dX11_cancel_33 0 rfl ?_
    refine go_if_lt (tgt := 53) dX11_cancel_35 (by decide) hf (fun hf => ?_) (fun hf => ?_)
    · refine go_sub (lv' := [(0, vR Ω (some a0)), (1, vR Ω r1), (2, .long x_5)]) [2, 3, 1] rfl ?_
      exact t_X11_cancel_53 a0 r1 x_5 h_14 q hf
    · refine go_aload_n dX11_cancel_38 rfl 2 rfl ?_
      refine go_getR dX11_cancel_39 fl_390_0 (fun _ _ => rfl) hf (fun r_16 hf => ?_)
      obtain ⟨a_17, rfl, hga_17⟩ := nn_some hf
      have hf := hga_17
      refine go_getR dX11_cancel_42 fl_323_0 (fun _ _ => rfl) hf (fun r_18 hf => ?_)
      refine go_iload dX11_cancel_45 0 rfl ?_
      obtain ⟨a_19, rfl, hga_19⟩ := nn_some hf
      have hf := hga_19
      obtain ⟨hk, hf⟩ := kg_some hf
      obtain ⟨z_20, hc, hf⟩ := bd_some hf
      refine go_callF (y2 := M_Jx4a65c_remove_915e3) (x2 := ⟨"java/util/List", "remove", "(I)Ljava/lang/Object;"⟩) dX11_cancel_47 mo_Jx4a65c_remove_915e3 ⟨Nat.le_of_ble_eq_true rfl, Nat.le_of_ble_eq_true rfl⟩ na_Jx4a65c_remove_915e3 w827 w681 w679 (by decide) (fun U hU => hU.2.2.2.1) hk [.int x_15] rfl (n_Jx4a65c_remove_915e3 (a_19) x_15) rfl (csum (Nat.le_of_ble_eq_true rfl)) (t_Jx4a65c_remove_915e3 (a_19) x_15 h_14 _ hc) ?_
      obtain ⟨r_22, h_21⟩ := z_20
      refine go_pop dX11_cancel_52 catR ?_
      refine go_sub (lv' := [(0, vR Ω (some a0)), (1, vR Ω r1), (2, .long x_5)]) [2, 3, 1] rfl ?_
      exact t_X11_cancel_53 a0 r1 x_5 h_21 q hf
  · refine go_sipush 501 dX11_cancel_18 (by decide) ?_
    exact go_ireturn dX11_cancel_21 rfl hf

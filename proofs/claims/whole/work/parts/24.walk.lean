/-! printed by wip/whole/gen: functions and their walks -/
-- LetterBrokerModel.send(JI)I
theorem dX12_send_0 : decode cX12_send 0 = .ok (.aload_n 0, 1) := by decide +kernel
theorem dX12_send_1 : decode cX12_send 1 = .ok (.getfield 207, 3) := by decide +kernel
theorem dX12_send_4 : decode cX12_send 4 = .ok (.iconst 5, 1) := by decide +kernel
theorem dX12_send_5 : decode cX12_send 5 = .ok (.if_icmp .eq 26, 3) := by decide +kernel
theorem dX12_send_8 : decode cX12_send 8 = .ok (.iload_n 3, 1) := by decide +kernel
theorem dX12_send_9 : decode cX12_send 9 = .ok (.iconst 1, 1) := by decide +kernel
theorem dX12_send_10 : decode cX12_send 10 = .ok (.if_icmp .lt 21, 3) := by decide +kernel
theorem dX12_send_13 : decode cX12_send 13 = .ok (.iload_n 3, 1) := by decide +kernel
theorem dX12_send_14 : decode cX12_send 14 = .ok (.bipush 8, 2) := by decide +kernel
theorem dX12_send_16 : decode cX12_send 16 = .ok (.if_icmp .gt 15, 3) := by decide +kernel
theorem dX12_send_19 : decode cX12_send 19 = .ok (.aload_n 0, 1) := by decide +kernel
theorem dX12_send_20 : decode cX12_send 20 = .ok (.getfield 210, 3) := by decide +kernel
theorem dX12_send_23 : decode cX12_send 23 = .ok (.iload_n 3, 1) := by decide +kernel
theorem dX12_send_24 : decode cX12_send 24 = .ok (.iadd, 1) := by decide +kernel
theorem dX12_send_25 : decode cX12_send 25 = .ok (.sipush 300, 3) := by decide +kernel
theorem dX12_send_28 : decode cX12_send 28 = .ok (.if_icmp .le 5, 3) := by decide +kernel
theorem dX12_send_31 : decode cX12_send 31 = .ok (.iconst (-1), 1) := by decide +kernel
theorem dX12_send_32 : decode cX12_send 32 = .ok (.ireturn, 1) := by decide +kernel
theorem dX12_send_33 : decode cX12_send 33 = .ok (.iload_n 3, 1) := by decide +kernel
theorem dX12_send_34 : decode cX12_send 34 = .ok (.iconst 1, 1) := by decide +kernel
theorem dX12_send_35 : decode cX12_send 35 = .ok (.isub, 1) := by decide +kernel
theorem dX12_send_36 : decode cX12_send 36 = .ok (.istore 4, 2) := by decide +kernel
theorem dX12_send_38 : decode cX12_send 38 = .ok (.iload 4, 2) := by decide +kernel
theorem dX12_send_40 : decode cX12_send 40 = .ok (.ifCond .lt 40, 3) := by decide +kernel
theorem dX12_send_43 : decode cX12_send 43 = .ok (.aload_n 0, 1) := by decide +kernel
theorem dX12_send_44 : decode cX12_send 44 = .ok (.getfield 7, 3) := by decide +kernel
theorem dX12_send_47 : decode cX12_send 47 = .ok (.aload_n 0, 1) := by decide +kernel
theorem dX12_send_48 : decode cX12_send 48 = .ok (.getfield 210, 3) := by decide +kernel
theorem dX12_send_51 : decode cX12_send 51 = .ok (.lload_n 1, 1) := by decide +kernel
theorem dX12_send_52 : decode cX12_send 52 = .ok (.bipush 8, 2) := by decide +kernel
theorem dX12_send_54 : decode cX12_send 54 = .ok (.iload 4, 2) := by decide +kernel
theorem dX12_send_56 : decode cX12_send 56 = .ok (.imul, 1) := by decide +kernel
theorem dX12_send_57 : decode cX12_send 57 = .ok (.lshr, 1) := by decide +kernel
theorem dX12_send_58 : decode cX12_send 58 = .ok (.ldc2_w 225, 3) := by decide +kernel
theorem dX12_send_61 : decode cX12_send 61 = .ok (.land, 1) := by decide +kernel
theorem dX12_send_62 : decode cX12_send 62 = .ok (.l2i, 1) := by decide +kernel
theorem dX12_send_63 : decode cX12_send 63 = .ok (.iastore, 1) := by decide +kernel
theorem dX12_send_64 : decode cX12_send 64 = .ok (.aload_n 0, 1) := by decide +kernel
theorem dX12_send_65 : decode cX12_send 65 = .ok (.dup, 1) := by decide +kernel
theorem dX12_send_66 : decode cX12_send 66 = .ok (.getfield 210, 3) := by decide +kernel
theorem dX12_send_69 : decode cX12_send 69 = .ok (.iconst 1, 1) := by decide +kernel
theorem dX12_send_70 : decode cX12_send 70 = .ok (.iadd, 1) := by decide +kernel
theorem dX12_send_71 : decode cX12_send 71 = .ok (.putfield 210, 3) := by decide +kernel
theorem dX12_send_74 : decode cX12_send 74 = .ok (.iinc 4 (-1), 3) := by decide +kernel
theorem dX12_send_77 : decode cX12_send 77 = .ok (.goto (-39), 3) := by decide +kernel
theorem dX12_send_80 : decode cX12_send 80 = .ok (.aload_n 0, 1) := by decide +kernel
theorem dX12_send_81 : decode cX12_send 81 = .ok (.getfield 210, 3) := by decide +kernel
theorem dX12_send_84 : decode cX12_send 84 = .ok (.ireturn, 1) := by decide +kernel
def f_X12_send_80 (a0 : Nat) (h : AH) : Option (Int32 × AH) := rdI h a0 13 2 fun x_1 =>
  some (x_1, h)
set_option maxRecDepth 20000 in
set_option maxHeartbeats 4000000 in
theorem t_X12_send_80 {Ω : Om} (a0 : Nat) (h : AH) (q : Int32 × AH) (hf : f_X12_send_80 a0 h = some q) : Go Ω M_X12_send 80 [(0, vR Ω (some a0))] [] h (some (.int q.1)) q.2 := by
  unfold f_X12_send_80 at hf
  refine go_aload_n dX12_send_80 rfl 0 rfl ?_
  refine go_getI dX12_send_81 fl_1121_0 (fun _ _ => rfl) hf (fun x_1 hf => ?_)
  exact go_ireturn dX12_send_84 rfl hf
def f_X12_send_38 : Nat → Nat → Int64 → Int32 → AH → Option (Int32 × AH)
  | 0, _, _, _, _ => none
  | n + 1, a0, x1, x4, h => (if x4 < 0 then
      f_X12_send_80 a0 h
    else
      rdR h a0 13 1 fun r_1 =>
      rdI h a0 13 2 fun x_2 =>
      nn r_1 fun a_3 =>
      asI h a_3 x_2 (((x1 >>> ((8 * x4).toInt64 &&& 63)) &&& 255).toInt32) fun h_4 =>
      rdI h_4 a0 13 2 fun x_5 =>
      wrI h_4 a0 13 2 (x_5 + 1) fun h_6 =>
      f_X12_send_38 n a0 x1 (x4 + (-1)) h_6)
set_option maxRecDepth 20000 in
set_option maxHeartbeats 4000000 in
theorem t_X12_send_38 {Ω : Om} : ∀ (n : Nat) (a0 : Nat) (x1 : Int64) (x4 : Int32) (h : AH) (q : Int32 × AH), f_X12_send_38 n a0 x1 x4 h = some q → Go Ω M_X12_send 38 [(0, vR Ω (some a0)), (1, .long x1), (4, .int x4)] [] h (some (.int q.1)) q.2 := by
  intro n
  induction n with
  | zero => intro a0 x1 x4 h q hf; cases hf
  | succ n ih =>
    intro a0 x1 x4 h q hf
    rw [f_X12_send_38] at hf
    refine go_iload dX12_send_38 2 rfl ?_
    refine go_if_lt (tgt := 80) dX12_send_40 (by decide) hf (fun hf => ?_) (fun hf => ?_)
    · refine go_sub (lv' := [(0, vR Ω (some a0))]) [0] rfl ?_
      exact t_X12_send_80 a0 h q hf
    · refine go_aload_n dX12_send_43 rfl 0 rfl ?_
      refine go_getR dX12_send_44 fl_1120_0 (fun _ _ => rfl) hf (fun r_1 hf => ?_)
      refine go_aload_n dX12_send_47 rfl 0 rfl ?_
      refine go_getI dX12_send_48 fl_1121_0 (fun _ _ => rfl) hf (fun x_2 hf => ?_)
      refine go_lload_n dX12_send_51 rfl 1 rfl ?_
      refine go_bipush 8 dX12_send_52 (by decide) ?_
      refine go_iload dX12_send_54 2 rfl ?_
      refine go_imul dX12_send_56 ?_
      refine go_lshr dX12_send_57 ?_
      refine go_ldc2 255 dX12_send_58 w1311 ?_
      refine go_land dX12_send_61 ?_
      refine go_l2i dX12_send_62 ?_
      obtain ⟨a_3, rfl, hga_3⟩ := nn_some hf
      have hf := hga_3
      refine go_iastore dX12_send_63 hf (fun h_4 hf => ?_)
      refine go_aload_n dX12_send_64 rfl 0 rfl ?_
      refine go_dup dX12_send_65 catR ?_
      refine go_getI dX12_send_66 fl_1121_0 (fun _ _ => rfl) hf (fun x_5 hf => ?_)
      refine go_iconst 1 dX12_send_69 rfl ?_
      refine go_iadd dX12_send_70 ?_
      refine go_putI dX12_send_71 fl_1121_0 (fun q hq => by cases hq; exact Or.inl rfl) (fun _ _ => rfl) rfl hf (fun h_6 hf => ?_)
      refine go_iinc (j := 2) (v := x4 + (-1)) (lv' := [(4, .int (x4 + (-1))), (0, vR Ω (some a0)), (1, .long x1)]) dX12_send_74 rfl rfl (by decide) (by first | rfl | simp [catR, catI, catJ]) ?_
      refine go_goto (tgt := 38) dX12_send_77 (by decide) ?_
      refine go_sub (lv' := [(0, vR Ω (some a0)), (1, .long x1), (4, .int (x4 + (-1)))]) [1, 2, 0] rfl ?_
      exact ih a0 x1 (x4 + (-1)) h_6 q hf
def f_X12_send (a0 : Nat) (x1 : Int64) (x3 : Int32) (h : AH) : Option (Int32 × AH) := rdI h a0 13 0 fun x_1 =>
  (if x_1 = 5 then
    some (((-1)), h)
  else
    (if x3 < 1 then
      some (((-1)), h)
    else
      (if 8 < x3 then
        some (((-1)), h)
      else
        rdI h a0 13 2 fun x_2 =>
        (if (x_2 + x3) ≤ 300 then
          lt (x3 - 1) fun x_3 =>
          f_X12_send_38 FU a0 x1 x_3 h
        else
          some (((-1)), h)))))
set_option maxRecDepth 20000 in
set_option maxHeartbeats 4000000 in
theorem t_X12_send {Ω : Om} (a0 : Nat) (x1 : Int64) (x3 : Int32) (h : AH) (q : Int32 × AH) (hf : f_X12_send a0 x1 x3 h = some q) : Go Ω M_X12_send 0 (lv_args 0 [vR Ω (some a0), .long x1, .int x3]) [] h (some (.int q.1)) q.2 := by
  unfold f_X12_send at hf
  rw [la_R, la_J, la_I, la_0]
  refine go_sub (lv' := [(0, vR Ω (some a0)), (1, .long x1), (3, .int x3)]) [0, 1, 2] rfl ?_
  refine go_aload_n dX12_send_0 rfl 0 rfl ?_
  refine go_getI dX12_send_1 fl_1119_0 (fun _ _ => rfl) hf (fun x_1 hf => ?_)
  refine go_iconst 5 dX12_send_4 rfl ?_
  refine go_icmp_eq (tgt := 31) dX12_send_5 (by decide) hf (fun hf => ?_) (fun hf => ?_)
  · refine go_iconst (-1) dX12_send_31 rfl ?_
    exact go_ireturn dX12_send_32 rfl hf
  · refine go_iload_n dX12_send_8 rfl 2 rfl ?_
    refine go_iconst 1 dX12_send_9 rfl ?_
    refine go_icmp_lt (tgt := 31) dX12_send_10 (by decide) hf (fun hf => ?_) (fun hf => ?_)
    · refine go_iconst (-1) dX12_send_31 rfl ?_
      exact go_ireturn dX12_send_32 rfl hf
    · refine go_iload_n dX12_send_13 rfl 2 rfl ?_
      refine go_bipush 8 dX12_send_14 (by decide) ?_
      refine go_icmp_gt (tgt := 31) dX12_send_16 (by decide) hf (fun hf => ?_) (fun hf => ?_)
      · refine go_iconst (-1) dX12_send_31 rfl ?_
        exact go_ireturn dX12_send_32 rfl hf
      · refine go_aload_n dX12_send_19 rfl 0 rfl ?_
        refine go_getI dX12_send_20 fl_1121_0 (fun _ _ => rfl) hf (fun x_2 hf => ?_)
        refine go_iload_n dX12_send_23 rfl 2 rfl ?_
        refine go_iadd dX12_send_24 ?_
        refine go_sipush 300 dX12_send_25 (by decide) ?_
        refine go_icmp_le (tgt := 33) dX12_send_28 (by decide) hf (fun hf => ?_) (fun hf => ?_)
        · refine go_iload_n dX12_send_33 rfl 2 rfl ?_
          refine go_iconst 1 dX12_send_34 rfl ?_
          refine go_isub dX12_send_35 ?_
          refine lt_I hf (fun x_3 hf => ?_)
          refine go_istore (i := 4) (lv' := [(4, .int x_3), (0, vR Ω (some a0)), (1, .long x1), (3, .int x3)]) dX12_send_36 (by decide) (by first | rfl | simp [catR, catI, catJ]) ?_
          refine go_sub (lv' := [(0, vR Ω (some a0)), (1, .long x1), (4, .int x_3)]) [1, 2, 0] rfl ?_
          exact t_X12_send_38 FU a0 x1 x_3 h q hf
        · refine go_iconst (-1) dX12_send_31 rfl ?_
          exact go_ireturn dX12_send_32 rfl hf
-- LetterBrokerModel.put(I)V
theorem dX12_put_0 : decode cX12_put 0 = .ok (.aload_n 0, 1) := by decide +kernel
theorem dX12_put_1 : decode cX12_put 1 = .ok (.getfield 13, 3) := by decide +kernel
theorem dX12_put_4 : decode cX12_put 4 = .ok (.aload_n 0, 1) := by decide +kernel
theorem dX12_put_5 : decode cX12_put 5 = .ok (.getfield 154, 3) := by decide +kernel
theorem dX12_put_8 : decode cX12_put 8 = .ok (.iload_n 1, 1) := by decide +kernel
theorem dX12_put_9 : decode cX12_put 9 = .ok (.sipush 255, 3) := by decide +kernel
theorem dX12_put_12 : decode cX12_put 12 = .ok (.iand, 1) := by decide +kernel
theorem dX12_put_13 : decode cX12_put 13 = .ok (.iastore, 1) := by decide +kernel
theorem dX12_put_14 : decode cX12_put 14 = .ok (.aload_n 0, 1) := by decide +kernel
theorem dX12_put_15 : decode cX12_put 15 = .ok (.dup, 1) := by decide +kernel
theorem dX12_put_16 : decode cX12_put 16 = .ok (.getfield 154, 3) := by decide +kernel
theorem dX12_put_19 : decode cX12_put 19 = .ok (.iconst 1, 1) := by decide +kernel
theorem dX12_put_20 : decode cX12_put 20 = .ok (.iadd, 1) := by decide +kernel
theorem dX12_put_21 : decode cX12_put 21 = .ok (.putfield 154, 3) := by decide +kernel
theorem dX12_put_24 : decode cX12_put 24 = .ok (.return_, 1) := by decide +kernel
def f_X12_put (a0 : Nat) (x1 : Int32) (h : AH) : Option (Unit × AH) := rdR h a0 13 3 fun r_1 =>
  rdI h a0 13 4 fun x_2 =>
  nn r_1 fun a_3 =>
  asI h a_3 x_2 (x1 &&& 255) fun h_4 =>
  rdI h_4 a0 13 4 fun x_5 =>
  wrI h_4 a0 13 4 (x_5 + 1) fun h_6 =>
  some ((), h_6)
set_option maxRecDepth 20000 in
set_option maxHeartbeats 4000000 in
theorem t_X12_put {Ω : Om} (a0 : Nat) (x1 : Int32) (h : AH) (q : Unit × AH) (hf : f_X12_put a0 x1 h = some q) : Go Ω M_X12_put 0 (lv_args 0 [vR Ω (some a0), .int x1]) [] h none q.2 := by
  unfold f_X12_put at hf
  rw [la_R, la_I, la_0]
  refine go_sub (lv' := [(0, vR Ω (some a0)), (1, .int x1)]) [0, 1] rfl ?_
  refine go_aload_n dX12_put_0 rfl 0 rfl ?_
  refine go_getR dX12_put_1 fl_1122_0 (fun _ _ => rfl) hf (fun r_1 hf => ?_)
  refine go_aload_n dX12_put_4 rfl 0 rfl ?_
  refine go_getI dX12_put_5 fl_1123_0 (fun _ _ => rfl) hf (fun x_2 hf => ?_)
  refine go_iload_n dX12_put_8 rfl 1 rfl ?_
  refine go_sipush 255 dX12_put_9 (by decide) ?_
  refine go_iand dX12_put_12 ?_
  obtain ⟨a_3, rfl, hga_3⟩ := nn_some hf
  have hf := hga_3
  refine go_iastore dX12_put_13 hf (fun h_4 hf => ?_)
  refine go_aload_n dX12_put_14 rfl 0 rfl ?_
  refine go_dup dX12_put_15 catR ?_
  refine go_getI dX12_put_16 fl_1123_0 (fun _ _ => rfl) hf (fun x_5 hf => ?_)
  refine go_iconst 1 dX12_put_19 rfl ?_
  refine go_iadd dX12_put_20 ?_
  refine go_putI dX12_put_21 fl_1123_0 (fun q hq => by cases hq; exact Or.inl rfl) (fun _ _ => rfl) rfl hf (fun h_6 hf => ?_)
  exact go_return dX12_put_24 rfl hf
-- LetterBrokerModel.finish()V
theorem dX12_finish_0 : decode cX12_finish 0 = .ok (.aload_n 0, 1) := by decide +kernel
theorem dX12_finish_1 : decode cX12_finish 1 = .ok (.getfield 13, 3) := by decide +kernel
theorem dX12_finish_4 : decode cX12_finish 4 = .ok (.aload_n 0, 1) := by decide +kernel
theorem dX12_finish_5 : decode cX12_finish 5 = .ok (.getfield 161, 3) := by decide +kernel
theorem dX12_finish_8 : decode cX12_finish 8 = .ok (.aload_n 0, 1) := by decide +kernel
theorem dX12_finish_9 : decode cX12_finish 9 = .ok (.getfield 154, 3) := by decide +kernel
theorem dX12_finish_12 : decode cX12_finish 12 = .ok (.aload_n 0, 1) := by decide +kernel
theorem dX12_finish_13 : decode cX12_finish 13 = .ok (.getfield 161, 3) := by decide +kernel
theorem dX12_finish_16 : decode cX12_finish 16 = .ok (.isub, 1) := by decide +kernel
theorem dX12_finish_17 : decode cX12_finish 17 = .ok (.iconst 1, 1) := by decide +kernel
theorem dX12_finish_18 : decode cX12_finish 18 = .ok (.isub, 1) := by decide +kernel
theorem dX12_finish_19 : decode cX12_finish 19 = .ok (.iastore, 1) := by decide +kernel
theorem dX12_finish_20 : decode cX12_finish 20 = .ok (.aload_n 0, 1) := by decide +kernel
theorem dX12_finish_21 : decode cX12_finish 21 = .ok (.sipush 206, 3) := by decide +kernel
theorem dX12_finish_24 : decode cX12_finish 24 = .ok (.invokevirtual 157, 3) := by decide +kernel
theorem dX12_finish_27 : decode cX12_finish 27 = .ok (.return_, 1) := by decide +kernel
def f_X12_finish (a0 : Nat) (h : AH) : Option (Unit × AH) := rdR h a0 13 3 fun r_1 =>
  rdI h a0 13 61 fun x_2 =>
  rdI h a0 13 4 fun x_3 =>
  rdI h a0 13 61 fun x_4 =>
  nn r_1 fun a_5 =>
  asI h a_5 x_2 ((x_3 - x_4) - 1) fun h_6 =>
  kg h_6 a0 13 (bd (f_X12_put a0 206 h_6) fun _ h_8 =>
  some ((), h_8))
set_option maxRecDepth 20000 in
set_option maxHeartbeats 4000000 in
theorem t_X12_finish {Ω : Om} (a0 : Nat) (h : AH) (q : Unit × AH) (hf : f_X12_finish a0 h = some q) : Go Ω M_X12_finish 0 (lv_args 0 [vR Ω (some a0)]) [] h none q.2 := by
  unfold f_X12_finish at hf
  rw [la_R, la_0]
  refine go_sub (lv' := [(0, vR Ω (some a0))]) [0] rfl ?_
  refine go_aload_n dX12_finish_0 rfl 0 rfl ?_
  refine go_getR dX12_finish_1 fl_1122_0 (fun _ _ => rfl) hf (fun r_1 hf => ?_)
  refine go_aload_n dX12_finish_4 rfl 0 rfl ?_
  refine go_getI dX12_finish_5 fl_1180_0 (fun _ _ => rfl) hf (fun x_2 hf => ?_)
  refine go_aload_n dX12_finish_8 rfl 0 rfl ?_
  refine go_getI dX12_finish_9 fl_1123_0 (fun _ _ => rfl) hf (fun x_3 hf => ?_)
  refine go_aload_n dX12_finish_12 rfl 0 rfl ?_
  refine go_getI dX12_finish_13 fl_1180_0 (fun _ _ => rfl) hf (fun x_4 hf => ?_)
  refine go_isub dX12_finish_16 ?_
  refine go_iconst 1 dX12_finish_17 rfl ?_
  refine go_isub dX12_finish_18 ?_
  obtain ⟨a_5, rfl, hga_5⟩ := nn_some hf
  have hf := hga_5
  refine go_iastore dX12_finish_19 hf (fun h_6 hf => ?_)
  refine go_aload_n dX12_finish_20 rfl 0 rfl ?_
  refine go_sipush 206 dX12_finish_21 (by decide) ?_
  obtain ⟨hk, hf⟩ := kg_some hf
  obtain ⟨z_7, hc, hf⟩ := bd_some hf
  refine go_callV (y2 := M_X12_put) (c2 := 13) dX12_finish_24 mo_X12_put ⟨Nat.le_of_ble_eq_true rfl, Nat.le_of_ble_eq_true rfl⟩ na_X12_put w1333 w1335 (by decide) rfl w52 hk [.int 206] rfl (n_X12_put (a0) 206) rfl (csum (Nat.le_of_ble_eq_true rfl)) (t_X12_put (a0) 206 h_6 _ hc) ?_
  obtain ⟨_, h_8⟩ := z_7
  exact go_return dX12_finish_27 rfl hf
-- LetterBrokerModel.begin(II)V
theorem dX12_begin_0 : decode cX12_begin 0 = .ok (.aload_n 0, 1) := by decide +kernel
theorem dX12_begin_1 : decode cX12_begin 1 = .ok (.iload_n 1, 1) := by decide +kernel
theorem dX12_begin_2 : decode cX12_begin 2 = .ok (.invokevirtual 157, 3) := by decide +kernel
theorem dX12_begin_5 : decode cX12_begin 5 = .ok (.aload_n 0, 1) := by decide +kernel
theorem dX12_begin_6 : decode cX12_begin 6 = .ok (.iload_n 2, 1) := by decide +kernel
theorem dX12_begin_7 : decode cX12_begin 7 = .ok (.invokevirtual 157, 3) := by decide +kernel
theorem dX12_begin_10 : decode cX12_begin 10 = .ok (.aload_n 0, 1) := by decide +kernel
theorem dX12_begin_11 : decode cX12_begin 11 = .ok (.aload_n 0, 1) := by decide +kernel
theorem dX12_begin_12 : decode cX12_begin 12 = .ok (.getfield 154, 3) := by decide +kernel
theorem dX12_begin_15 : decode cX12_begin 15 = .ok (.putfield 161, 3) := by decide +kernel
theorem dX12_begin_18 : decode cX12_begin 18 = .ok (.aload_n 0, 1) := by decide +kernel
theorem dX12_begin_19 : decode cX12_begin 19 = .ok (.iconst 0, 1) := by decide +kernel
theorem dX12_begin_20 : decode cX12_begin 20 = .ok (.invokevirtual 157, 3) := by decide +kernel
theorem dX12_begin_23 : decode cX12_begin 23 = .ok (.return_, 1) := by decide +kernel
def f_X12_begin (a0 : Nat) (x1 : Int32) (x2 : Int32) (h : AH) : Option (Unit × AH) := kg h a0 13 (bd (f_X12_put a0 x1 h) fun _ h_2 =>
  kg h_2 a0 13 (bd (f_X12_put a0 x2 h_2) fun _ h_4 =>
  rdI h_4 a0 13 4 fun x_5 =>
  wrI h_4 a0 13 61 x_5 fun h_6 =>
  kg h_6 a0 13 (bd (f_X12_put a0 0 h_6) fun _ h_8 =>
  some ((), h_8))))
set_option maxRecDepth 20000 in
set_option maxHeartbeats 4000000 in
theorem t_X12_begin {Ω : Om} (a0 : Nat) (x1 : Int32) (x2 : Int32) (h : AH) (q : Unit × AH) (hf : f_X12_begin a0 x1 x2 h = some q) : Go Ω M_X12_begin 0 (lv_args 0 [vR Ω (some a0), .int x1, .int x2]) [] h none q.2 := by
  unfold f_X12_begin at hf
  rw [la_R, la_I, la_I, la_0]
  refine go_sub (lv' := [(0, vR Ω (some a0)), (1, .int x1), (2, .int x2)]) [0, 1, 2] rfl ?_
  refine go_aload_n dX12_begin_0 rfl 0 rfl ?_
  refine go_iload_n dX12_begin_1 rfl 1 rfl ?_
  obtain ⟨hk, hf⟩ := kg_some hf
  obtain ⟨z_1, hc, hf⟩ := bd_some hf
  refine go_callV (y2 := M_X12_put) (c2 := 13) dX12_begin_2 mo_X12_put ⟨Nat.le_of_ble_eq_true rfl, Nat.le_of_ble_eq_true rfl⟩ na_X12_put w1333 w1335 (by decide) rfl w52 hk [.int x1] rfl (n_X12_put (a0) x1) rfl (csum (Nat.le_of_ble_eq_true rfl)) (t_X12_put (a0) x1 h _ hc) ?_
  obtain ⟨_, h_2⟩ := z_1
  refine go_aload_n dX12_begin_5 rfl 0 rfl ?_
  refine go_iload_n dX12_begin_6 rfl 2 rfl ?_
  obtain ⟨hk, hf⟩ := kg_some hf
  obtain ⟨z_3, hc, hf⟩ := bd_some hf
  refine go_callV (y2 := M_X12_put) (c2 := 13) dX12_begin_7 mo_X12_put ⟨Nat.le_of_ble_eq_true rfl, Nat.le_of_ble_eq_true rfl⟩ na_X12_put w1333 w1335 (by decide) rfl w52 hk [.int x2] rfl (n_X12_put (a0) x2) rfl (csum (Nat.le_of_ble_eq_true rfl)) (t_X12_put (a0) x2 h_2 _ hc) ?_
  obtain ⟨_, h_4⟩ := z_3
  refine go_aload_n dX12_begin_10 rfl 0 rfl ?_
  refine go_aload_n dX12_begin_11 rfl 0 rfl ?_
  refine go_getI dX12_begin_12 fl_1123_0 (fun _ _ => rfl) hf (fun x_5 hf => ?_)
  refine go_putI dX12_begin_15 fl_1180_0 (fun q hq => by cases hq; exact Or.inl rfl) (fun _ _ => rfl) rfl hf (fun h_6 hf => ?_)
  refine go_aload_n dX12_begin_18 rfl 0 rfl ?_
  refine go_iconst 0 dX12_begin_19 rfl ?_
  obtain ⟨hk, hf⟩ := kg_some hf
  obtain ⟨z_7, hc, hf⟩ := bd_some hf
  refine go_callV (y2 := M_X12_put) (c2 := 13) dX12_begin_20 mo_X12_put ⟨Nat.le_of_ble_eq_true rfl, Nat.le_of_ble_eq_true rfl⟩ na_X12_put w1333 w1335 (by decide) rfl w52 hk [.int 0] rfl (n_X12_put (a0) 0) rfl (csum (Nat.le_of_ble_eq_true rfl)) (t_X12_put (a0) 0 h_6 _ hc) ?_
  obtain ⟨_, h_8⟩ := z_7
  exact go_return dX12_begin_23 rfl hf
-- LetterBrokerModel.method(III)V
theorem dX12_method_0 : decode cX12_method 0 = .ok (.aload_n 0, 1) := by decide +kernel
theorem dX12_method_1 : decode cX12_method 1 = .ok (.iconst 1, 1) := by decide +kernel
theorem dX12_method_2 : decode cX12_method 2 = .ok (.iload_n 1, 1) := by decide +kernel
theorem dX12_method_3 : decode cX12_method 3 = .ok (.invokevirtual 164, 3) := by decide +kernel
theorem dX12_method_6 : decode cX12_method 6 = .ok (.aload_n 0, 1) := by decide +kernel
theorem dX12_method_7 : decode cX12_method 7 = .ok (.iload_n 2, 1) := by decide +kernel
theorem dX12_method_8 : decode cX12_method 8 = .ok (.invokevirtual 157, 3) := by decide +kernel
theorem dX12_method_11 : decode cX12_method 11 = .ok (.aload_n 0, 1) := by decide +kernel
theorem dX12_method_12 : decode cX12_method 12 = .ok (.iload_n 3, 1) := by decide +kernel
theorem dX12_method_13 : decode cX12_method 13 = .ok (.invokevirtual 157, 3) := by decide +kernel
theorem dX12_method_16 : decode cX12_method 16 = .ok (.return_, 1) := by decide +kernel
def f_X12_method (a0 : Nat) (x1 : Int32) (x2 : Int32) (x3 : Int32) (h : AH) : Option (Unit × AH) := kg h a0 13 (bd (f_X12_begin a0 1 x1 h) fun _ h_2 =>
  kg h_2 a0 13 (bd (f_X12_put a0 x2 h_2) fun _ h_4 =>
  kg h_4 a0 13 (bd (f_X12_put a0 x3 h_4) fun _ h_6 =>
  some ((), h_6))))
set_option maxRecDepth 20000 in
set_option maxHeartbeats 4000000 in
theorem t_X12_method {Ω : Om} (a0 : Nat) (x1 : Int32) (x2 : Int32) (x3 : Int32) (h : AH) (q : Unit × AH) (hf : f_X12_method a0 x1 x2 x3 h = some q) : Go Ω M_X12_method 0 (lv_args 0 [vR Ω (some a0), .int x1, .int x2, .int x3]) [] h none q.2 := by
  unfold f_X12_method at hf
  rw [la_R, la_I, la_I, la_I, la_0]
  refine go_sub (lv' := [(0, vR Ω (some a0)), (1, .int x1), (2, .int x2), (3, .int x3)]) [0, 1, 2, 3] rfl ?_
  refine go_aload_n dX12_method_0 rfl 0 rfl ?_
  refine go_iconst 1 dX12_method_1 rfl ?_
  refine go_iload_n dX12_method_2 rfl 1 rfl ?_
  obtain ⟨hk, hf⟩ := kg_some hf
  obtain ⟨z_1, hc, hf⟩ := bd_some hf
  refine go_callV (y2 := M_X12_begin) (c2 := 13) dX12_method_3 mo_X12_begin ⟨Nat.le_of_ble_eq_true rfl, Nat.le_of_ble_eq_true rfl⟩ na_X12_begin w1329 w1331 (by decide) rfl w51 hk [.int 1, .int x1] rfl (n_X12_begin (a0) 1 x1) rfl (csum (Nat.le_of_ble_eq_true rfl)) (t_X12_begin (a0) 1 x1 h _ hc) ?_
  obtain ⟨_, h_2⟩ := z_1
  refine go_aload_n dX12_method_6 rfl 0 rfl ?_
  refine go_iload_n dX12_method_7 rfl 2 rfl ?_
  obtain ⟨hk, hf⟩ := kg_some hf
  obtain ⟨z_3, hc, hf⟩ := bd_some hf
  refine go_callV (y2 := M_X12_put) (c2 := 13) dX12_method_8 mo_X12_put ⟨Nat.le_of_ble_eq_true rfl, Nat.le_of_ble_eq_true rfl⟩ na_X12_put w1333 w1335 (by decide) rfl w52 hk [.int x2] rfl (n_X12_put (a0) x2) rfl (csum (Nat.le_of_ble_eq_true rfl)) (t_X12_put (a0) x2 h_2 _ hc) ?_
  obtain ⟨_, h_4⟩ := z_3
  refine go_aload_n dX12_method_11 rfl 0 rfl ?_
  refine go_iload_n dX12_method_12 rfl 3 rfl ?_
  obtain ⟨hk, hf⟩ := kg_some hf
  obtain ⟨z_5, hc, hf⟩ := bd_some hf
  refine go_callV (y2 := M_X12_put) (c2 := 13) dX12_method_13 mo_X12_put ⟨Nat.le_of_ble_eq_true rfl, Nat.le_of_ble_eq_true rfl⟩ na_X12_put w1333 w1335 (by decide) rfl w52 hk [.int x3] rfl (n_X12_put (a0) x3) rfl (csum (Nat.le_of_ble_eq_true rfl)) (t_X12_put (a0) x3 h_4 _ hc) ?_
  obtain ⟨_, h_6⟩ := z_5
  exact go_return dX12_method_16 rfl hf
-- LetterBrokerModel.canTake(I)Z
theorem dX12_canTake_0 : decode cX12_canTake 0 = .ok (.aload_n 0, 1) := by decide +kernel
theorem dX12_canTake_1 : decode cX12_canTake 1 = .ok (.getfield 48, 3) := by decide +kernel
theorem dX12_canTake_4 : decode cX12_canTake 4 = .ok (.iload_n 1, 1) := by decide +kernel
theorem dX12_canTake_5 : decode cX12_canTake 5 = .ok (.iaload, 1) := by decide +kernel
theorem dX12_canTake_6 : decode cX12_canTake 6 = .ok (.istore_n 2, 1) := by decide +kernel
theorem dX12_canTake_7 : decode cX12_canTake 7 = .ok (.aload_n 0, 1) := by decide +kernel
theorem dX12_canTake_8 : decode cX12_canTake 8 = .ok (.getfield 94, 3) := by decide +kernel
theorem dX12_canTake_11 : decode cX12_canTake 11 = .ok (.iload_n 2, 1) := by decide +kernel
theorem dX12_canTake_12 : decode cX12_canTake 12 = .ok (.baload, 1) := by decide +kernel
theorem dX12_canTake_13 : decode cX12_canTake 13 = .ok (.ifCond .eq 39, 3) := by decide +kernel
theorem dX12_canTake_16 : decode cX12_canTake 16 = .ok (.aload_n 0, 1) := by decide +kernel
theorem dX12_canTake_17 : decode cX12_canTake 17 = .ok (.getfield 57, 3) := by decide +kernel
theorem dX12_canTake_20 : decode cX12_canTake 20 = .ok (.iload_n 1, 1) := by decide +kernel
theorem dX12_canTake_21 : decode cX12_canTake 21 = .ok (.baload, 1) := by decide +kernel
theorem dX12_canTake_22 : decode cX12_canTake 22 = .ok (.ifCond .ne 26, 3) := by decide +kernel
theorem dX12_canTake_25 : decode cX12_canTake 25 = .ok (.aload_n 0, 1) := by decide +kernel
theorem dX12_canTake_26 : decode cX12_canTake 26 = .ok (.getfield 91, 3) := by decide +kernel
theorem dX12_canTake_29 : decode cX12_canTake 29 = .ok (.iload_n 2, 1) := by decide +kernel
theorem dX12_canTake_30 : decode cX12_canTake 30 = .ok (.iaload, 1) := by decide +kernel
theorem dX12_canTake_31 : decode cX12_canTake 31 = .ok (.ifCond .eq 17, 3) := by decide +kernel
theorem dX12_canTake_34 : decode cX12_canTake 34 = .ok (.aload_n 0, 1) := by decide +kernel
theorem dX12_canTake_35 : decode cX12_canTake 35 = .ok (.iload_n 2, 1) := by decide +kernel
theorem dX12_canTake_36 : decode cX12_canTake 36 = .ok (.invokevirtual 281, 3) := by decide +kernel
theorem dX12_canTake_39 : decode cX12_canTake 39 = .ok (.aload_n 0, 1) := by decide +kernel
theorem dX12_canTake_40 : decode cX12_canTake 40 = .ok (.getfield 91, 3) := by decide +kernel
theorem dX12_canTake_43 : decode cX12_canTake 43 = .ok (.iload_n 2, 1) := by decide +kernel
theorem dX12_canTake_44 : decode cX12_canTake 44 = .ok (.iaload, 1) := by decide +kernel
theorem dX12_canTake_45 : decode cX12_canTake 45 = .ok (.if_icmp .ge 7, 3) := by decide +kernel
theorem dX12_canTake_48 : decode cX12_canTake 48 = .ok (.iconst 1, 1) := by decide +kernel
theorem dX12_canTake_49 : decode cX12_canTake 49 = .ok (.goto 4, 3) := by decide +kernel
theorem dX12_canTake_52 : decode cX12_canTake 52 = .ok (.iconst 0, 1) := by decide +kernel
theorem dX12_canTake_53 : decode cX12_canTake 53 = .ok (.ireturn, 1) := by decide +kernel
def f_X12_canTake (a0 : Nat) (x1 : Int32) (h : AH) : Option (Int32 × AH) := rdR h a0 13 20 fun r_1 =>
  nn r_1 fun a_2 =>
  arI h a_2 x1 fun x_3 =>
  rdR h a0 13 37 fun r_4 =>
  nn r_4 fun a_5 =>
  arZ h a_5 x_3 fun x_6 =>
  (if x_6 = 0 then
    rz 0 (some (0, h))
  else
    rdR h a0 13 23 fun r_7 =>
    nn r_7 fun a_8 =>
    arZ h a_8 x1 fun x_9 =>
    (if x_9 = 0 then
      rdR h a0 13 36 fun r_10 =>
      nn r_10 fun a_11 =>
      arI h a_11 x_3 fun x_12 =>
      (if x_12 = 0 then
        rz 1 (some (1, h))
      else
        kg h a0 13 (bd (f_X12_held a0 x_3 h) fun x_15 h_14 =>
        rdR h_14 a0 13 36 fun r_16 =>
        nn r_16 fun a_17 =>
        arI h_14 a_17 x_3 fun x_18 =>
        (if x_18 ≤ x_15 then
          rz 0 (some (0, h_14))
        else
          rz 1 (some (1, h_14)))))
    else
      rz 1 (some (1, h))))
set_option maxRecDepth 20000 in
set_option maxHeartbeats 4000000 in
theorem t_X12_canTake {Ω : Om} (a0 : Nat) (x1 : Int32) (h : AH) (q : Int32 × AH) (hf : f_X12_canTake a0 x1 h = some q) : Go Ω M_X12_canTake 0 (lv_args 0 [vR Ω (some a0), .int x1]) [] h (some (.int q.1)) q.2 := by
  unfold f_X12_canTake at hf
  rw [la_R, la_I, la_0]
  refine go_sub (lv' := [(0, vR Ω (some a0)), (1, .int x1)]) [0, 1] rfl ?_
  refine go_aload_n dX12_canTake_0 rfl 0 rfl ?_
  refine go_getR dX12_canTake_1 fl_1139_0 (fun _ _ => rfl) hf (fun r_1 hf => ?_)
  refine go_iload_n dX12_canTake_4 rfl 1 rfl ?_
  obtain ⟨a_2, rfl, hga_2⟩ := nn_some hf
  have hf := hga_2
  refine go_iaload dX12_canTake_5 hf (fun x_3 hf => ?_)
  refine go_istore_n (i := 2) (lv' := [(2, .int x_3), (0, vR Ω (some a0)), (1, .int x1)]) dX12_canTake_6 rfl (by decide) (by first | rfl | simp [catR, catI, catJ]) ?_
  refine go_aload_n dX12_canTake_7 rfl 1 rfl ?_
  refine go_getR dX12_canTake_8 fl_1156_0 (fun _ _ => rfl) hf (fun r_4 hf => ?_)
  refine go_iload_n dX12_canTake_11 rfl 0 rfl ?_
  obtain ⟨a_5, rfl, hga_5⟩ := nn_some hf
  have hf := hga_5
  refine go_zaload dX12_canTake_12 hf (fun x_6 hf => ?_)
  refine go_if_eq (tgt := 52) dX12_canTake_13 (by decide) hf (fun hf => ?_) (fun hf => ?_)
  · refine go_iconst 0 dX12_canTake_52 rfl ?_
    exact go_zreturn dX12_canTake_53 rfl hf
  · refine go_aload_n dX12_canTake_16 rfl 1 rfl ?_
    refine go_getR dX12_canTake_17 fl_1142_0 (fun _ _ => rfl) hf (fun r_7 hf => ?_)
    refine go_iload_n dX12_canTake_20 rfl 2 rfl ?_
    obtain ⟨a_8, rfl, hga_8⟩ := nn_some hf
    have hf := hga_8
    refine go_zaload dX12_canTake_21 hf (fun x_9 hf => ?_)
    refine go_if_ne (tgt := 48) dX12_canTake_22 (by decide) hf (fun hf => ?_) (fun hf => ?_)
    · refine go_iconst 1 dX12_canTake_48 rfl ?_
      refine go_goto (tgt := 53) dX12_canTake_49 (by decide) ?_
      exact go_zreturn dX12_canTake_53 rfl hf
    · refine go_aload_n dX12_canTake_25 rfl 1 rfl ?_
      refine go_getR dX12_canTake_26 fl_1155_0 (fun _ _ => rfl) hf (fun r_10 hf => ?_)
      refine go_iload_n dX12_canTake_29 rfl 0 rfl ?_
      obtain ⟨a_11, rfl, hga_11⟩ := nn_some hf
      have hf := hga_11
      refine go_iaload dX12_canTake_30 hf (fun x_12 hf => ?_)
      refine go_if_eq (tgt := 48) dX12_canTake_31 (by decide) hf (fun hf => ?_) (fun hf => ?_)
      · refine go_iconst 1 dX12_canTake_48 rfl ?_
        refine go_goto (tgt := 53) dX12_canTake_49 (by decide) ?_
        exact go_zreturn dX12_canTake_53 rfl hf
      · refine go_aload_n dX12_canTake_34 rfl 1 rfl ?_
        refine go_iload_n dX12_canTake_35 rfl 0 rfl ?_
        obtain ⟨hk, hf⟩ := kg_some hf
        obtain ⟨z_13, hc, hf⟩ := bd_some hf
        refine go_callV (y2 := M_X12_held) (c2 := 13) dX12_canTake_36 mo_X12_held ⟨Nat.le_of_ble_eq_true rfl, Nat.le_of_ble_eq_true rfl⟩ na_X12_held w1605 w1607 (by decide) rfl w117 hk [.int x_3] rfl (n_X12_held (a0) x_3) rfl (csum (Nat.le_of_ble_eq_true rfl)) (t_X12_held (a0) x_3 h _ hc) ?_
        obtain ⟨x_15, h_14⟩ := z_13
        refine go_aload_n dX12_canTake_39 rfl 1 rfl ?_
        refine go_getR dX12_canTake_40 fl_1155_0 (fun _ _ => rfl) hf (fun r_16 hf => ?_)
        refine go_iload_n dX12_canTake_43 rfl 0 rfl ?_
        obtain ⟨a_17, rfl, hga_17⟩ := nn_some hf
        have hf := hga_17
        refine go_iaload dX12_canTake_44 hf (fun x_18 hf => ?_)
        refine go_icmp_ge (tgt := 52) dX12_canTake_45 (by decide) hf (fun hf => ?_) (fun hf => ?_)
        · refine go_iconst 0 dX12_canTake_52 rfl ?_
          exact go_zreturn dX12_canTake_53 rfl hf
        · refine go_iconst 1 dX12_canTake_48 rfl ?_
          refine go_goto (tgt := 53) dX12_canTake_49 (by decide) ?_
          exact go_zreturn dX12_canTake_53 rfl hf
-- LetterBrokerModel.nextConsumer(I)I
theorem dX12_nextConsumer_0 : decode cX12_nextConsumer 0 = .ok (.iconst (-1), 1) := by decide +kernel
theorem dX12_nextConsumer_1 : decode cX12_nextConsumer 1 = .ok (.istore_n 2, 1) := by decide +kernel
theorem dX12_nextConsumer_2 : decode cX12_nextConsumer 2 = .ok (.aload_n 0, 1) := by decide +kernel
theorem dX12_nextConsumer_3 : decode cX12_nextConsumer 3 = .ok (.getfield 198, 3) := by decide +kernel
theorem dX12_nextConsumer_6 : decode cX12_nextConsumer 6 = .ok (.iconst 1, 1) := by decide +kernel
theorem dX12_nextConsumer_7 : decode cX12_nextConsumer 7 = .ok (.isub, 1) := by decide +kernel
theorem dX12_nextConsumer_8 : decode cX12_nextConsumer 8 = .ok (.istore_n 3, 1) := by decide +kernel
theorem dX12_nextConsumer_9 : decode cX12_nextConsumer 9 = .ok (.iload_n 3, 1) := by decide +kernel
theorem dX12_nextConsumer_10 : decode cX12_nextConsumer 10 = .ok (.ifCond .lt 38, 3) := by decide +kernel
theorem dX12_nextConsumer_13 : decode cX12_nextConsumer 13 = .ok (.aload_n 0, 1) := by decide +kernel
theorem dX12_nextConsumer_14 : decode cX12_nextConsumer 14 = .ok (.getfield 54, 3) := by decide +kernel
theorem dX12_nextConsumer_17 : decode cX12_nextConsumer 17 = .ok (.iload_n 3, 1) := by decide +kernel
theorem dX12_nextConsumer_18 : decode cX12_nextConsumer 18 = .ok (.iaload, 1) := by decide +kernel
theorem dX12_nextConsumer_19 : decode cX12_nextConsumer 19 = .ok (.aload_n 0, 1) := by decide +kernel
theorem dX12_nextConsumer_20 : decode cX12_nextConsumer 20 = .ok (.getfield 30, 3) := by decide +kernel
theorem dX12_nextConsumer_23 : decode cX12_nextConsumer 23 = .ok (.iload_n 1, 1) := by decide +kernel
theorem dX12_nextConsumer_24 : decode cX12_nextConsumer 24 = .ok (.iaload, 1) := by decide +kernel
theorem dX12_nextConsumer_25 : decode cX12_nextConsumer 25 = .ok (.if_icmp .ne 15, 3) := by decide +kernel
theorem dX12_nextConsumer_28 : decode cX12_nextConsumer 28 = .ok (.aload_n 0, 1) := by decide +kernel
theorem dX12_nextConsumer_29 : decode cX12_nextConsumer 29 = .ok (.iload_n 3, 1) := by decide +kernel
theorem dX12_nextConsumer_30 : decode cX12_nextConsumer 30 = .ok (.invokevirtual 285, 3) := by decide +kernel
theorem dX12_nextConsumer_33 : decode cX12_nextConsumer 33 = .ok (.ifCond .eq 7, 3) := by decide +kernel
theorem dX12_nextConsumer_36 : decode cX12_nextConsumer 36 = .ok (.iload_n 3, 1) := by decide +kernel
theorem dX12_nextConsumer_37 : decode cX12_nextConsumer 37 = .ok (.goto 4, 3) := by decide +kernel
theorem dX12_nextConsumer_40 : decode cX12_nextConsumer 40 = .ok (.iload_n 2, 1) := by decide +kernel
theorem dX12_nextConsumer_41 : decode cX12_nextConsumer 41 = .ok (.istore_n 2, 1) := by decide +kernel
theorem dX12_nextConsumer_42 : decode cX12_nextConsumer 42 = .ok (.iinc 3 (-1), 3) := by decide +kernel
theorem dX12_nextConsumer_45 : decode cX12_nextConsumer 45 = .ok (.goto (-36), 3) := by decide +kernel
theorem dX12_nextConsumer_48 : decode cX12_nextConsumer 48 = .ok (.iconst 0, 1) := by decide +kernel
theorem dX12_nextConsumer_49 : decode cX12_nextConsumer 49 = .ok (.istore_n 3, 1) := by decide +kernel
theorem dX12_nextConsumer_50 : decode cX12_nextConsumer 50 = .ok (.iload_n 3, 1) := by decide +kernel
theorem dX12_nextConsumer_51 : decode cX12_nextConsumer 51 = .ok (.aload_n 0, 1) := by decide +kernel
theorem dX12_nextConsumer_52 : decode cX12_nextConsumer 52 = .ok (.getfield 198, 3) := by decide +kernel
theorem dX12_nextConsumer_55 : decode cX12_nextConsumer 55 = .ok (.if_icmp .ge 49, 3) := by decide +kernel
theorem dX12_nextConsumer_58 : decode cX12_nextConsumer 58 = .ok (.aload_n 0, 1) := by decide +kernel
theorem dX12_nextConsumer_59 : decode cX12_nextConsumer 59 = .ok (.getfield 54, 3) := by decide +kernel
theorem dX12_nextConsumer_62 : decode cX12_nextConsumer 62 = .ok (.iload_n 3, 1) := by decide +kernel
theorem dX12_nextConsumer_63 : decode cX12_nextConsumer 63 = .ok (.iaload, 1) := by decide +kernel
theorem dX12_nextConsumer_64 : decode cX12_nextConsumer 64 = .ok (.aload_n 0, 1) := by decide +kernel
theorem dX12_nextConsumer_65 : decode cX12_nextConsumer 65 = .ok (.getfield 30, 3) := by decide +kernel
theorem dX12_nextConsumer_68 : decode cX12_nextConsumer 68 = .ok (.iload_n 1, 1) := by decide +kernel
theorem dX12_nextConsumer_69 : decode cX12_nextConsumer 69 = .ok (.iaload, 1) := by decide +kernel
theorem dX12_nextConsumer_70 : decode cX12_nextConsumer 70 = .ok (.if_icmp .ne 28, 3) := by decide +kernel
theorem dX12_nextConsumer_73 : decode cX12_nextConsumer 73 = .ok (.aload_n 0, 1) := by decide +kernel
theorem dX12_nextConsumer_74 : decode cX12_nextConsumer 74 = .ok (.iload_n 3, 1) := by decide +kernel
theorem dX12_nextConsumer_75 : decode cX12_nextConsumer 75 = .ok (.invokevirtual 285, 3) := by decide +kernel
theorem dX12_nextConsumer_78 : decode cX12_nextConsumer 78 = .ok (.ifCond .eq 20, 3) := by decide +kernel
theorem dX12_nextConsumer_81 : decode cX12_nextConsumer 81 = .ok (.aload_n 0, 1) := by decide +kernel
theorem dX12_nextConsumer_82 : decode cX12_nextConsumer 82 = .ok (.getfield 45, 3) := by decide +kernel
theorem dX12_nextConsumer_85 : decode cX12_nextConsumer 85 = .ok (.iload_n 3, 1) := by decide +kernel
theorem dX12_nextConsumer_86 : decode cX12_nextConsumer 86 = .ok (.iaload, 1) := by decide +kernel
theorem dX12_nextConsumer_87 : decode cX12_nextConsumer 87 = .ok (.aload_n 0, 1) := by decide +kernel
theorem dX12_nextConsumer_88 : decode cX12_nextConsumer 88 = .ok (.getfield 33, 3) := by decide +kernel
theorem dX12_nextConsumer_91 : decode cX12_nextConsumer 91 = .ok (.iload_n 1, 1) := by decide +kernel
theorem dX12_nextConsumer_92 : decode cX12_nextConsumer 92 = .ok (.iaload, 1) := by decide +kernel
theorem dX12_nextConsumer_93 : decode cX12_nextConsumer 93 = .ok (.if_icmp .le 5, 3) := by decide +kernel
theorem dX12_nextConsumer_96 : decode cX12_nextConsumer 96 = .ok (.iload_n 3, 1) := by decide +kernel
theorem dX12_nextConsumer_97 : decode cX12_nextConsumer 97 = .ok (.ireturn, 1) := by decide +kernel
theorem dX12_nextConsumer_98 : decode cX12_nextConsumer 98 = .ok (.iinc 3 1, 3) := by decide +kernel
theorem dX12_nextConsumer_101 : decode cX12_nextConsumer 101 = .ok (.goto (-51), 3) := by decide +kernel
theorem dX12_nextConsumer_104 : decode cX12_nextConsumer 104 = .ok (.iload_n 2, 1) := by decide +kernel
theorem dX12_nextConsumer_105 : decode cX12_nextConsumer 105 = .ok (.ireturn, 1) := by decide +kernel
def f_X12_nextConsumer_41 (k9 : Nat → Int32 → Int32 → Int32 → AH → Option (Int32 × AH)) (a0 : Nat) (x1 : Int32) (x3 : Int32) (s0 : Int32) (h : AH) : Option (Int32 × AH) := k9 a0 x1 s0 (x3 + (-1)) h
set_option maxRecDepth 20000 in
set_option maxHeartbeats 4000000 in
theorem t_X12_nextConsumer_41 {Ω : Om} {k9 : Nat → Int32 → Int32 → Int32 → AH → Option (Int32 × AH)} (c9 : ∀ (a0 : Nat) (x1 : Int32) (x2 : Int32) (x3 : Int32) (h : AH) (q : Int32 × AH), k9 a0 x1 x2 x3 h = some q → Go Ω M_X12_nextConsumer 9 [(0, vR Ω (some a0)), (1, .int x1), (2, .int x2), (3, .int x3)] [] h (some (.int q.1)) q.2) (a0 : Nat) (x1 : Int32) (x3 : Int32) (s0 : Int32) (h : AH) (q : Int32 × AH) (hf : f_X12_nextConsumer_41 k9 a0 x1 x3 s0 h = some q) : Go Ω M_X12_nextConsumer 41 [(0, vR Ω (some a0)), (1, .int x1), (3, .int x3)] [.int s0] h (some (.int q.1)) q.2 := by
  unfold f_X12_nextConsumer_41 at hf
  refine go_istore_n (i := 2) (lv' := [(2, .int s0), (0, vR Ω (some a0)), (1, .int x1), (3, .int x3)]) dX12_nextConsumer_41 rfl (by decide) (by first | rfl | simp [catR, catI, catJ]) ?_
  refine go_iinc (j := 3) (v := x3 + (-1)) (lv' := [(3, .int (x3 + (-1))), (2, .int s0), (0, vR Ω (some a0)), (1, .int x1)]) dX12_nextConsumer_42 rfl rfl (by decide) (by first | rfl | simp [catR, catI, catJ]) ?_
  refine go_goto (tgt := 9) dX12_nextConsumer_45 (by decide) ?_
  refine go_sub (lv' := [(0, vR Ω (some a0)), (1, .int x1), (2, .int s0), (3, .int (x3 + (-1)))]) [2, 3, 1, 0] rfl ?_
  exact c9 a0 x1 s0 (x3 + (-1)) h q hf
def f_X12_nextConsumer_98 (k50 : Nat → Int32 → Int32 → Int32 → AH → Option (Int32 × AH)) (a0 : Nat) (x1 : Int32) (x2 : Int32) (x3 : Int32) (h : AH) : Option (Int32 × AH) := k50 a0 x1 x2 (x3 + 1) h
set_option maxRecDepth 20000 in
set_option maxHeartbeats 4000000 in
theorem t_X12_nextConsumer_98 {Ω : Om} {k50 : Nat → Int32 → Int32 → Int32 → AH → Option (Int32 × AH)} (c50 : ∀ (a0 : Nat) (x1 : Int32) (x2 : Int32) (x3 : Int32) (h : AH) (q : Int32 × AH), k50 a0 x1 x2 x3 h = some q → Go Ω M_X12_nextConsumer 50 [(0, vR Ω (some a0)), (1, .int x1), (2, .int x2), (3, .int x3)] [] h (some (.int q.1)) q.2) (a0 : Nat) (x1 : Int32) (x2 : Int32) (x3 : Int32) (h : AH) (q : Int32 × AH) (hf : f_X12_nextConsumer_98 k50 a0 x1 x2 x3 h = some q) : Go Ω M_X12_nextConsumer 98 [(0, vR Ω (some a0)), (1, .int x1), (2, .int x2), (3, .int x3)] [] h (some (.int q.1)) q.2 := by
  unfold f_X12_nextConsumer_98 at hf
  refine go_iinc (j := 3) (v := x3 + 1) (lv' := [(3, .int (x3 + 1)), (0, vR Ω (some a0)), (1, .int x1), (2, .int x2)]) dX12_nextConsumer_98 rfl rfl (by decide) (by first | rfl | simp [catR, catI, catJ]) ?_
  refine go_goto (tgt := 50) dX12_nextConsumer_101 (by decide) ?_
  refine go_sub (lv' := [(0, vR Ω (some a0)), (1, .int x1), (2, .int x2), (3, .int (x3 + 1))]) [1, 2, 3, 0] rfl ?_
  exact c50 a0 x1 x2 (x3 + 1) h q hf
def f_X12_nextConsumer_50 : Nat → Nat → Int32 → Int32 → Int32 → AH → Option (Int32 × AH)
  | 0, _, _, _, _, _ => none
  | n + 1, a0, x1, x2, x3, h => rdI h a0 13 17 fun x_1 =>
    (if x_1 ≤ x3 then
      some (x2, h)
    else
      rdR h a0 13 22 fun r_2 =>
      nn r_2 fun a_3 =>
      arI h a_3 x3 fun x_4 =>
      rdR h a0 13 11 fun r_5 =>
      nn r_5 fun a_6 =>
      arI h a_6 x1 fun x_7 =>
      (if x_4 = x_7 then
        kg h a0 13 (bd (f_X12_canTake a0 x3 h) fun x_10 h_9 =>
        (if x_10 = 0 then
          f_X12_nextConsumer_98 (fun a0 x1 x2 x3 h => f_X12_nextConsumer_50 n a0 x1 x2 x3 h) a0 x1 x2 x3 h_9
        else
          rdR h_9 a0 13 19 fun r_11 =>
          nn r_11 fun a_12 =>
          arI h_9 a_12 x3 fun x_13 =>
          rdR h_9 a0 13 12 fun r_14 =>
          nn r_14 fun a_15 =>
          arI h_9 a_15 x1 fun x_16 =>
          (if x_13 ≤ x_16 then
            f_X12_nextConsumer_98 (fun a0 x1 x2 x3 h => f_X12_nextConsumer_50 n a0 x1 x2 x3 h) a0 x1 x2 x3 h_9
          else
            some (x3, h_9))))
      else
        f_X12_nextConsumer_98 (fun a0 x1 x2 x3 h => f_X12_nextConsumer_50 n a0 x1 x2 x3 h) a0 x1 x2 x3 h))
set_option maxRecDepth 20000 in
set_option maxHeartbeats 4000000 in
theorem t_X12_nextConsumer_50 {Ω : Om} : ∀ (n : Nat) (a0 : Nat) (x1 : Int32) (x2 : Int32) (x3 : Int32) (h : AH) (q : Int32 × AH), f_X12_nextConsumer_50 n a0 x1 x2 x3 h = some q → Go Ω M_X12_nextConsumer 50 [(0, vR Ω (some a0)), (1, .int x1), (2, .int x2), (3, .int x3)] [] h (some (.int q.1)) q.2 := by
  intro n
  induction n with
  | zero => intro a0 x1 x2 x3 h q hf; cases hf
  | succ n ih =>
    intro a0 x1 x2 x3 h q hf
    rw [f_X12_nextConsumer_50] at hf
    refine go_iload_n dX12_nextConsumer_50 rfl 3 rfl ?_
    refine go_aload_n dX12_nextConsumer_51 rfl 0 rfl ?_
    refine go_getI dX12_nextConsumer_52 fl_1136_0 (fun _ _ => rfl) hf (fun x_1 hf => ?_)
    refine go_icmp_ge (tgt := 104) dX12_nextConsumer_55 (by decide) hf (fun hf => ?_) (fun hf => ?_)
    · refine go_iload_n dX12_nextConsumer_104 rfl 2 rfl ?_
      exact go_ireturn dX12_nextConsumer_105 rfl hf
    · refine go_aload_n dX12_nextConsumer_58 rfl 0 rfl ?_
      refine go_getR dX12_nextConsumer_59 fl_1141_0 (fun _ _ => rfl) hf (fun r_2 hf => ?_)
      refine go_iload_n dX12_nextConsumer_62 rfl 3 rfl ?_
      obtain ⟨a_3, rfl, hga_3⟩ := nn_some hf
      have hf := hga_3
      refine go_iaload dX12_nextConsumer_63 hf (fun x_4 hf => ?_)
      refine go_aload_n dX12_nextConsumer_64 rfl 0 rfl ?_
      refine go_getR dX12_nextConsumer_65 fl_1130_0 (fun _ _ => rfl) hf (fun r_5 hf => ?_)
      refine go_iload_n dX12_nextConsumer_68 rfl 1 rfl ?_
      obtain ⟨a_6, rfl, hga_6⟩ := nn_some hf
      have hf := hga_6
      refine go_iaload dX12_nextConsumer_69 hf (fun x_7 hf => ?_)
      refine go_icmp_ne (tgt := 98) dX12_nextConsumer_70 (by decide) hf (fun hf => ?_) (fun hf => ?_)
      · refine go_sub (lv' := [(0, vR Ω (some a0)), (1, .int x1), (2, .int x2), (3, .int x3)]) [0, 1, 2, 3] rfl ?_
        exact t_X12_nextConsumer_98 ih a0 x1 x2 x3 h q hf
      · refine go_aload_n dX12_nextConsumer_73 rfl 0 rfl ?_
        refine go_iload_n dX12_nextConsumer_74 rfl 3 rfl ?_
        obtain ⟨hk, hf⟩ := kg_some hf
        obtain ⟨z_8, hc, hf⟩ := bd_some hf
        refine go_callV (y2 := M_X12_canTake) (c2 := 13) dX12_nextConsumer_75 mo_X12_canTake ⟨Nat.le_of_ble_eq_true rfl, Nat.le_of_ble_eq_true rfl⟩ na_X12_canTake w1601 w1603 (by decide) rfl w116 hk [.int x3] rfl (n_X12_canTake (a0) x3) rfl (csum (Nat.le_of_ble_eq_true rfl)) (t_X12_canTake (a0) x3 h _ hc) ?_
        obtain ⟨x_10, h_9⟩ := z_8
        refine go_if_eq (tgt := 98) dX12_nextConsumer_78 (by decide) hf (fun hf => ?_) (fun hf => ?_)
        · refine go_sub (lv' := [(0, vR Ω (some a0)), (1, .int x1), (2, .int x2), (3, .int x3)]) [0, 1, 2, 3] rfl ?_
          exact t_X12_nextConsumer_98 ih a0 x1 x2 x3 h_9 q hf
        · refine go_aload_n dX12_nextConsumer_81 rfl 0 rfl ?_
          refine go_getR dX12_nextConsumer_82 fl_1138_0 (fun _ _ => rfl) hf (fun r_11 hf => ?_)
          refine go_iload_n dX12_nextConsumer_85 rfl 3 rfl ?_
          obtain ⟨a_12, rfl, hga_12⟩ := nn_some hf
          have hf := hga_12
          refine go_iaload dX12_nextConsumer_86 hf (fun x_13 hf => ?_)
          refine go_aload_n dX12_nextConsumer_87 rfl 0 rfl ?_
          refine go_getR dX12_nextConsumer_88 fl_1131_0 (fun _ _ => rfl) hf (fun r_14 hf => ?_)
          refine go_iload_n dX12_nextConsumer_91 rfl 1 rfl ?_
          obtain ⟨a_15, rfl, hga_15⟩ := nn_some hf
          have hf := hga_15
          refine go_iaload dX12_nextConsumer_92 hf (fun x_16 hf => ?_)
          refine go_icmp_le (tgt := 98) dX12_nextConsumer_93 (by decide) hf (fun hf => ?_) (fun hf => ?_)
          · refine go_sub (lv' := [(0, vR Ω (some a0)), (1, .int x1), (2, .int x2), (3, .int x3)]) [0, 1, 2, 3] rfl ?_
            exact t_X12_nextConsumer_98 ih a0 x1 x2 x3 h_9 q hf
          · refine go_iload_n dX12_nextConsumer_96 rfl 3 rfl ?_
            exact go_ireturn dX12_nextConsumer_97 rfl hf
def f_X12_nextConsumer_9 : Nat → Nat → Int32 → Int32 → Int32 → AH → Option (Int32 × AH)
  | 0, _, _, _, _, _ => none
  | n + 1, a0, x1, x2, x3, h => (if x3 < 0 then
      f_X12_nextConsumer_50 FU a0 x1 x2 0 h
    else
      rdR h a0 13 22 fun r_1 =>
      nn r_1 fun a_2 =>
      arI h a_2 x3 fun x_3 =>
      rdR h a0 13 11 fun r_4 =>
      nn r_4 fun a_5 =>
      arI h a_5 x1 fun x_6 =>
      (if x_3 = x_6 then
        kg h a0 13 (bd (f_X12_canTake a0 x3 h) fun x_9 h_8 =>
        (if x_9 = 0 then
          f_X12_nextConsumer_41 (fun a0 x1 x2 x3 h => f_X12_nextConsumer_9 n a0 x1 x2 x3 h) a0 x1 x3 x2 h_8
        else
          f_X12_nextConsumer_41 (fun a0 x1 x2 x3 h => f_X12_nextConsumer_9 n a0 x1 x2 x3 h) a0 x1 x3 x3 h_8))
      else
        f_X12_nextConsumer_41 (fun a0 x1 x2 x3 h => f_X12_nextConsumer_9 n a0 x1 x2 x3 h) a0 x1 x3 x2 h))
set_option maxRecDepth 20000 in
set_option maxHeartbeats 4000000 in
theorem t_X12_nextConsumer_9 {Ω : Om} : ∀ (n : Nat) (a0 : Nat) (x1 : Int32) (x2 : Int32) (x3 : Int32) (h : AH) (q : Int32 × AH), f_X12_nextConsumer_9 n a0 x1 x2 x3 h = some q → Go Ω M_X12_nextConsumer 9 [(0, vR Ω (some a0)), (1, .int x1), (2, .int x2), (3, .int x3)] [] h (some (.int q.1)) q.2 := by
  intro n
  induction n with
  | zero => intro a0 x1 x2 x3 h q hf; cases hf
  | succ n ih =>
    intro a0 x1 x2 x3 h q hf
    rw [f_X12_nextConsumer_9] at hf
    refine go_iload_n dX12_nextConsumer_9 rfl 3 rfl ?_
    refine go_if_lt (tgt := 48) dX12_nextConsumer_10 (by decide) hf (fun hf => ?_) (fun hf => ?_)
    · refine go_iconst 0 dX12_nextConsumer_48 rfl ?_
      refine go_istore_n (i := 3) (lv' := [(3, .int 0), (0, vR Ω (some a0)), (1, .int x1), (2, .int x2)]) dX12_nextConsumer_49 rfl (by decide) (by first | rfl | simp [catR, catI, catJ]) ?_
      refine go_sub (lv' := [(0, vR Ω (some a0)), (1, .int x1), (2, .int x2), (3, .int 0)]) [1, 2, 3, 0] rfl ?_
      exact t_X12_nextConsumer_50 FU a0 x1 x2 0 h q hf
    · refine go_aload_n dX12_nextConsumer_13 rfl 0 rfl ?_
      refine go_getR dX12_nextConsumer_14 fl_1141_0 (fun _ _ => rfl) hf (fun r_1 hf => ?_)
      refine go_iload_n dX12_nextConsumer_17 rfl 3 rfl ?_
      obtain ⟨a_2, rfl, hga_2⟩ := nn_some hf
      have hf := hga_2
      refine go_iaload dX12_nextConsumer_18 hf (fun x_3 hf => ?_)
      refine go_aload_n dX12_nextConsumer_19 rfl 0 rfl ?_
      refine go_getR dX12_nextConsumer_20 fl_1130_0 (fun _ _ => rfl) hf (fun r_4 hf => ?_)
      refine go_iload_n dX12_nextConsumer_23 rfl 1 rfl ?_
      obtain ⟨a_5, rfl, hga_5⟩ := nn_some hf
      have hf := hga_5
      refine go_iaload dX12_nextConsumer_24 hf (fun x_6 hf => ?_)
      refine go_icmp_ne (tgt := 40) dX12_nextConsumer_25 (by decide) hf (fun hf => ?_) (fun hf => ?_)
      · refine go_iload_n dX12_nextConsumer_40 rfl 2 rfl ?_
        refine go_sub (lv' := [(0, vR Ω (some a0)), (1, .int x1), (3, .int x3)]) [0, 1, 3] rfl ?_
        exact t_X12_nextConsumer_41 ih a0 x1 x3 x2 h q hf
      · refine go_aload_n dX12_nextConsumer_28 rfl 0 rfl ?_
        refine go_iload_n dX12_nextConsumer_29 rfl 3 rfl ?_
        obtain ⟨hk, hf⟩ := kg_some hf
        obtain ⟨z_7, hc, hf⟩ := bd_some hf
        refine go_callV (y2 := M_X12_canTake) (c2 := 13) dX12_nextConsumer_30 mo_X12_canTake ⟨Nat.le_of_ble_eq_true rfl, Nat.le_of_ble_eq_true rfl⟩ na_X12_canTake w1601 w1603 (by decide) rfl w116 hk [.int x3] rfl (n_X12_canTake (a0) x3) rfl (csum (Nat.le_of_ble_eq_true rfl)) (t_X12_canTake (a0) x3 h _ hc) ?_
        obtain ⟨x_9, h_8⟩ := z_7
        refine go_if_eq (tgt := 40) dX12_nextConsumer_33 (by decide) hf (fun hf => ?_) (fun hf => ?_)
        · refine go_iload_n dX12_nextConsumer_40 rfl 2 rfl ?_
          refine go_sub (lv' := [(0, vR Ω (some a0)), (1, .int x1), (3, .int x3)]) [0, 1, 3] rfl ?_
          exact t_X12_nextConsumer_41 ih a0 x1 x3 x2 h_8 q hf
        · refine go_iload_n dX12_nextConsumer_36 rfl 3 rfl ?_
          refine go_goto (tgt := 41) dX12_nextConsumer_37 (by decide) ?_
          refine go_sub (lv' := [(0, vR Ω (some a0)), (1, .int x1), (3, .int x3)]) [0, 1, 3] rfl ?_
          exact t_X12_nextConsumer_41 ih a0 x1 x3 x3 h_8 q hf
def f_X12_nextConsumer (a0 : Nat) (x1 : Int32) (h : AH) : Option (Int32 × AH) := rdI h a0 13 17 fun x_1 =>
  lt (x_1 - 1) fun x_2 =>
  f_X12_nextConsumer_9 FU a0 x1 ((-1)) x_2 h
set_option maxRecDepth 20000 in
set_option maxHeartbeats 4000000 in
theorem t_X12_nextConsumer {Ω : Om} (a0 : Nat) (x1 : Int32) (h : AH) (q : Int32 × AH) (hf : f_X12_nextConsumer a0 x1 h = some q) : Go Ω M_X12_nextConsumer 0 (lv_args 0 [vR Ω (some a0), .int x1]) [] h (some (.int q.1)) q.2 := by
  unfold f_X12_nextConsumer at hf
  rw [la_R, la_I, la_0]
  refine go_sub (lv' := [(0, vR Ω (some a0)), (1, .int x1)]) [0, 1] rfl ?_
  refine go_iconst (-1) dX12_nextConsumer_0 rfl ?_
  refine go_istore_n (i := 2) (lv' := [(2, .int ((-1))), (0, vR Ω (some a0)), (1, .int x1)]) dX12_nextConsumer_1 rfl (by decide) (by first | rfl | simp [catR, catI, catJ]) ?_
  refine go_aload_n dX12_nextConsumer_2 rfl 1 rfl ?_
  refine go_getI dX12_nextConsumer_3 fl_1136_0 (fun _ _ => rfl) hf (fun x_1 hf => ?_)
  refine go_iconst 1 dX12_nextConsumer_6 rfl ?_
  refine go_isub dX12_nextConsumer_7 ?_
  refine lt_I hf (fun x_2 hf => ?_)
  refine go_istore_n (i := 3) (lv' := [(3, .int x_2), (2, .int ((-1))), (0, vR Ω (some a0)), (1, .int x1)]) dX12_nextConsumer_8 rfl (by decide) (by first | rfl | simp [catR, catI, catJ]) ?_
  refine go_sub (lv' := [(0, vR Ω (some a0)), (1, .int x1), (2, .int ((-1))), (3, .int x_2)]) [2, 3, 1, 0] rfl ?_
  exact t_X12_nextConsumer_9 FU a0 x1 ((-1)) x_2 h q hf
-- LetterBrokerModel.putLetter(IIJ)V
theorem dX12_putLetter_0 : decode cX12_putLetter 0 = .ok (.aload_n 0, 1) := by decide +kernel
theorem dX12_putLetter_1 : decode cX12_putLetter 1 = .ok (.iconst 2, 1) := by decide +kernel
theorem dX12_putLetter_2 : decode cX12_putLetter 2 = .ok (.iload_n 1, 1) := by decide +kernel
theorem dX12_putLetter_3 : decode cX12_putLetter 3 = .ok (.invokevirtual 164, 3) := by decide +kernel
theorem dX12_putLetter_6 : decode cX12_putLetter 6 = .ok (.aload_n 0, 1) := by decide +kernel
theorem dX12_putLetter_7 : decode cX12_putLetter 7 = .ok (.iload_n 2, 1) := by decide +kernel
theorem dX12_putLetter_8 : decode cX12_putLetter 8 = .ok (.invokevirtual 157, 3) := by decide +kernel
theorem dX12_putLetter_11 : decode cX12_putLetter 11 = .ok (.aload_n 0, 1) := by decide +kernel
theorem dX12_putLetter_12 : decode cX12_putLetter 12 = .ok (.invokevirtual 172, 3) := by decide +kernel
theorem dX12_putLetter_15 : decode cX12_putLetter 15 = .ok (.iload_n 2, 1) := by decide +kernel
theorem dX12_putLetter_16 : decode cX12_putLetter 16 = .ok (.ifCond .le 41, 3) := by decide +kernel
theorem dX12_putLetter_19 : decode cX12_putLetter 19 = .ok (.aload_n 0, 1) := by decide +kernel
theorem dX12_putLetter_20 : decode cX12_putLetter 20 = .ok (.iconst 3, 1) := by decide +kernel
theorem dX12_putLetter_21 : decode cX12_putLetter 21 = .ok (.iload_n 1, 1) := by decide +kernel
theorem dX12_putLetter_22 : decode cX12_putLetter 22 = .ok (.invokevirtual 164, 3) := by decide +kernel
theorem dX12_putLetter_25 : decode cX12_putLetter 25 = .ok (.iload_n 2, 1) := by decide +kernel
theorem dX12_putLetter_26 : decode cX12_putLetter 26 = .ok (.iconst 1, 1) := by decide +kernel
theorem dX12_putLetter_27 : decode cX12_putLetter 27 = .ok (.isub, 1) := by decide +kernel
theorem dX12_putLetter_28 : decode cX12_putLetter 28 = .ok (.istore 5, 2) := by decide +kernel
theorem dX12_putLetter_30 : decode cX12_putLetter 30 = .ok (.iload 5, 2) := by decide +kernel
theorem dX12_putLetter_32 : decode cX12_putLetter 32 = .ok (.ifCond .lt 21, 3) := by decide +kernel
theorem dX12_putLetter_35 : decode cX12_putLetter 35 = .ok (.aload_n 0, 1) := by decide +kernel
theorem dX12_putLetter_36 : decode cX12_putLetter 36 = .ok (.lload_n 3, 1) := by decide +kernel
theorem dX12_putLetter_37 : decode cX12_putLetter 37 = .ok (.bipush 8, 2) := by decide +kernel
theorem dX12_putLetter_39 : decode cX12_putLetter 39 = .ok (.iload 5, 2) := by decide +kernel
theorem dX12_putLetter_41 : decode cX12_putLetter 41 = .ok (.imul, 1) := by decide +kernel
theorem dX12_putLetter_42 : decode cX12_putLetter 42 = .ok (.lshr, 1) := by decide +kernel
theorem dX12_putLetter_43 : decode cX12_putLetter 43 = .ok (.l2i, 1) := by decide +kernel
theorem dX12_putLetter_44 : decode cX12_putLetter 44 = .ok (.invokevirtual 157, 3) := by decide +kernel
theorem dX12_putLetter_47 : decode cX12_putLetter 47 = .ok (.iinc 5 (-1), 3) := by decide +kernel
theorem dX12_putLetter_50 : decode cX12_putLetter 50 = .ok (.goto (-20), 3) := by decide +kernel
theorem dX12_putLetter_53 : decode cX12_putLetter 53 = .ok (.aload_n 0, 1) := by decide +kernel
theorem dX12_putLetter_54 : decode cX12_putLetter 54 = .ok (.invokevirtual 172, 3) := by decide +kernel
theorem dX12_putLetter_57 : decode cX12_putLetter 57 = .ok (.return_, 1) := by decide +kernel
def f_X12_putLetter_53 (a0 : Nat) (h : AH) : Option (Unit × AH) := kg h a0 13 (bd (f_X12_finish a0 h) fun _ h_2 =>
  some ((), h_2))
set_option maxRecDepth 20000 in
set_option maxHeartbeats 4000000 in
theorem t_X12_putLetter_53 {Ω : Om} (a0 : Nat) (h : AH) (q : Unit × AH) (hf : f_X12_putLetter_53 a0 h = some q) : Go Ω M_X12_putLetter 53 [(0, vR Ω (some a0))] [] h none q.2 := by
  unfold f_X12_putLetter_53 at hf
  refine go_aload_n dX12_putLetter_53 rfl 0 rfl ?_
  obtain ⟨hk, hf⟩ := kg_some hf
  obtain ⟨z_1, hc, hf⟩ := bd_some hf
  refine go_callV (y2 := M_X12_finish) (c2 := 13) dX12_putLetter_54 mo_X12_finish ⟨Nat.le_of_ble_eq_true rfl, Nat.le_of_ble_eq_true rfl⟩ na_X12_finish w1341 w1343 (by decide) rfl w54 hk [] rfl (n_X12_finish (a0)) rfl (csum (Nat.le_of_ble_eq_true rfl)) (t_X12_finish (a0) h _ hc) ?_
  obtain ⟨_, h_2⟩ := z_1
  exact go_return dX12_putLetter_57 rfl hf
def f_X12_putLetter_30 : Nat → Nat → Int64 → Int32 → AH → Option (Unit × AH)
  | 0, _, _, _, _ => none
  | n + 1, a0, x3, x5, h => (if x5 < 0 then
      f_X12_putLetter_53 a0 h
    else
      kg h a0 13 (bd (f_X12_put a0 ((x3 >>> ((8 * x5).toInt64 &&& 63)).toInt32) h) fun _ h_2 =>
      f_X12_putLetter_30 n a0 x3 (x5 + (-1)) h_2))
set_option maxRecDepth 20000 in
set_option maxHeartbeats 4000000 in
theorem t_X12_putLetter_30 {Ω : Om} : ∀ (n : Nat) (a0 : Nat) (x3 : Int64) (x5 : Int32) (h : AH) (q : Unit × AH), f_X12_putLetter_30 n a0 x3 x5 h = some q → Go Ω M_X12_putLetter 30 [(0, vR Ω (some a0)), (3, .long x3), (5, .int x5)] [] h none q.2 := by
  intro n
  induction n with
  | zero => intro a0 x3 x5 h q hf; cases hf
  | succ n ih =>
    intro a0 x3 x5 h q hf
    rw [f_X12_putLetter_30] at hf
    refine go_iload dX12_putLetter_30 2 rfl ?_
    refine go_if_lt (tgt := 53) dX12_putLetter_32 (by decide) hf (fun hf => ?_) (fun hf => ?_)
    · refine go_sub (lv' := [(0, vR Ω (some a0))]) [0] rfl ?_
      exact t_X12_putLetter_53 a0 h q hf
    · refine go_aload_n dX12_putLetter_35 rfl 0 rfl ?_
      refine go_lload_n dX12_putLetter_36 rfl 1 rfl ?_
      refine go_bipush 8 dX12_putLetter_37 (by decide) ?_
      refine go_iload dX12_putLetter_39 2 rfl ?_
      refine go_imul dX12_putLetter_41 ?_
      refine go_lshr dX12_putLetter_42 ?_
      refine go_l2i dX12_putLetter_43 ?_
      obtain ⟨hk, hf⟩ := kg_some hf
      obtain ⟨z_1, hc, hf⟩ := bd_some hf
      refine go_callV (y2 := M_X12_put) (c2 := 13) dX12_putLetter_44 mo_X12_put ⟨Nat.le_of_ble_eq_true rfl, Nat.le_of_ble_eq_true rfl⟩ na_X12_put w1333 w1335 (by decide) rfl w52 hk [.int ((x3 >>> ((8 * x5).toInt64 &&& 63)).toInt32)] rfl (n_X12_put (a0) ((x3 >>> ((8 * x5).toInt64 &&& 63)).toInt32)) rfl (csum (Nat.le_of_ble_eq_true rfl)) (t_X12_put (a0) ((x3 >>> ((8 * x5).toInt64 &&& 63)).toInt32) h _ hc) ?_
      obtain ⟨_, h_2⟩ := z_1
      refine go_iinc (j := 2) (v := x5 + (-1)) (lv' := [(5, .int (x5 + (-1))), (0, vR Ω (some a0)), (3, .long x3)]) dX12_putLetter_47 rfl rfl (by decide) (by first | rfl | simp [catR, catI, catJ]) ?_
      refine go_goto (tgt := 30) dX12_putLetter_50 (by decide) ?_
      refine go_sub (lv' := [(0, vR Ω (some a0)), (3, .long x3), (5, .int (x5 + (-1)))]) [1, 2, 0] rfl ?_
      exact ih a0 x3 (x5 + (-1)) h_2 q hf
def f_X12_putLetter (a0 : Nat) (x1 : Int32) (x2 : Int32) (x3 : Int64) (h : AH) : Option (Unit × AH) := kg h a0 13 (bd (f_X12_begin a0 2 x1 h) fun _ h_2 =>
  kg h_2 a0 13 (bd (f_X12_put a0 x2 h_2) fun _ h_4 =>
  kg h_4 a0 13 (bd (f_X12_finish a0 h_4) fun _ h_6 =>
  (if x2 ≤ 0 then
    some ((), h_6)
  else
    kg h_6 a0 13 (bd (f_X12_begin a0 3 x1 h_6) fun _ h_8 =>
    lt (x2 - 1) fun x_9 =>
    f_X12_putLetter_30 FU a0 x3 x_9 h_8)))))
set_option maxRecDepth 20000 in
set_option maxHeartbeats 4000000 in
theorem t_X12_putLetter {Ω : Om} (a0 : Nat) (x1 : Int32) (x2 : Int32) (x3 : Int64) (h : AH) (q : Unit × AH) (hf : f_X12_putLetter a0 x1 x2 x3 h = some q) : Go Ω M_X12_putLetter 0 (lv_args 0 [vR Ω (some a0), .int x1, .int x2, .long x3]) [] h none q.2 := by
  unfold f_X12_putLetter at hf
  rw [la_R, la_I, la_I, la_J, la_0]
  refine go_sub (lv' := [(0, vR Ω (some a0)), (1, .int x1), (2, .int x2), (3, .long x3)]) [0, 1, 2, 3] rfl ?_
  refine go_aload_n dX12_putLetter_0 rfl 0 rfl ?_
  refine go_iconst 2 dX12_putLetter_1 rfl ?_
  refine go_iload_n dX12_putLetter_2 rfl 1 rfl ?_
  obtain ⟨hk, hf⟩ := kg_some hf
  obtain ⟨z_1, hc, hf⟩ := bd_some hf
  refine go_callV (y2 := M_X12_begin) (c2 := 13) dX12_putLetter_3 mo_X12_begin ⟨Nat.le_of_ble_eq_true rfl, Nat.le_of_ble_eq_true rfl⟩ na_X12_begin w1329 w1331 (by decide) rfl w51 hk [.int 2, .int x1] rfl (n_X12_begin (a0) 2 x1) rfl (csum (Nat.le_of_ble_eq_true rfl)) (t_X12_begin (a0) 2 x1 h _ hc) ?_
  obtain ⟨_, h_2⟩ := z_1
  refine go_aload_n dX12_putLetter_6 rfl 0 rfl ?_
  refine go_iload_n dX12_putLetter_7 rfl 2 rfl ?_
  obtain ⟨hk, hf⟩ := kg_some hf
  obtain ⟨z_3, hc, hf⟩ := bd_some hf
  refine go_callV (y2 := M_X12_put) (c2 := 13) dX12_putLetter_8 mo_X12_put ⟨Nat.le_of_ble_eq_true rfl, Nat.le_of_ble_eq_true rfl⟩ na_X12_put w1333 w1335 (by decide) rfl w52 hk [.int x2] rfl (n_X12_put (a0) x2) rfl (csum (Nat.le_of_ble_eq_true rfl)) (t_X12_put (a0) x2 h_2 _ hc) ?_
  obtain ⟨_, h_4⟩ := z_3
  refine go_aload_n dX12_putLetter_11 rfl 0 rfl ?_
  obtain ⟨hk, hf⟩ := kg_some hf
  obtain ⟨z_5, hc, hf⟩ := bd_some hf
  refine go_callV (y2 := M_X12_finish) (c2 := 13) dX12_putLetter_12 mo_X12_finish ⟨Nat.le_of_ble_eq_true rfl, Nat.le_of_ble_eq_true rfl⟩ na_X12_finish w1341 w1343 (by decide) rfl w54 hk [] rfl (n_X12_finish (a0)) rfl (csum (Nat.le_of_ble_eq_true rfl)) (t_X12_finish (a0) h_4 _ hc) ?_
  obtain ⟨_, h_6⟩ := z_5
  refine go_iload_n dX12_putLetter_15 rfl 2 rfl ?_
  refine go_if_le (tgt := 57) dX12_putLetter_16 (by decide) hf (fun hf => ?_) (fun hf => ?_)
  · exact go_return dX12_putLetter_57 rfl hf
  · refine go_aload_n dX12_putLetter_19 rfl 0 rfl ?_
    refine go_iconst 3 dX12_putLetter_20 rfl ?_
    refine go_iload_n dX12_putLetter_21 rfl 1 rfl ?_
    obtain ⟨hk, hf⟩ := kg_some hf
    obtain ⟨z_7, hc, hf⟩ := bd_some hf
    refine go_callV (y2 := M_X12_begin) (c2 := 13) dX12_putLetter_22 mo_X12_begin ⟨Nat.le_of_ble_eq_true rfl, Nat.le_of_ble_eq_true rfl⟩ na_X12_begin w1329 w1331 (by decide) rfl w51 hk [.int 3, .int x1] rfl (n_X12_begin (a0) 3 x1) rfl (csum (Nat.le_of_ble_eq_true rfl)) (t_X12_begin (a0) 3 x1 h_6 _ hc) ?_
    obtain ⟨_, h_8⟩ := z_7
    refine go_iload_n dX12_putLetter_25 rfl 2 rfl ?_
    refine go_iconst 1 dX12_putLetter_26 rfl ?_
    refine go_isub dX12_putLetter_27 ?_
    refine lt_I hf (fun x_9 hf => ?_)
    refine go_istore (i := 5) (lv' := [(5, .int x_9), (0, vR Ω (some a0)), (1, .int x1), (2, .int x2), (3, .long x3)]) dX12_putLetter_28 (by decide) (by first | rfl | simp [catR, catI, catJ]) ?_
    refine go_sub (lv' := [(0, vR Ω (some a0)), (3, .long x3), (5, .int x_9)]) [1, 4, 0] rfl ?_
    exact t_X12_putLetter_30 FU a0 x3 x_9 h_8 q hf
-- LetterBrokerModel.length(J)I
theorem dX12_length_0 : decode cX12_length 0 = .ok (.iconst 0, 1) := by decide +kernel
theorem dX12_length_1 : decode cX12_length 1 = .ok (.istore_n 2, 1) := by decide +kernel
theorem dX12_length_2 : decode cX12_length 2 = .ok (.lload_n 0, 1) := by decide +kernel
theorem dX12_length_3 : decode cX12_length 3 = .ok (.lstore_n 3, 1) := by decide +kernel
theorem dX12_length_4 : decode cX12_length 4 = .ok (.lload_n 3, 1) := by decide +kernel
theorem dX12_length_5 : decode cX12_length 5 = .ok (.lconst 0, 1) := by decide +kernel
theorem dX12_length_6 : decode cX12_length 6 = .ok (.lcmp, 1) := by decide +kernel
theorem dX12_length_7 : decode cX12_length 7 = .ok (.ifCond .le 14, 3) := by decide +kernel
theorem dX12_length_10 : decode cX12_length 10 = .ok (.iinc 2 1, 3) := by decide +kernel
theorem dX12_length_13 : decode cX12_length 13 = .ok (.lload_n 3, 1) := by decide +kernel
theorem dX12_length_14 : decode cX12_length 14 = .ok (.bipush 8, 2) := by decide +kernel
theorem dX12_length_16 : decode cX12_length 16 = .ok (.lshr, 1) := by decide +kernel
theorem dX12_length_17 : decode cX12_length 17 = .ok (.lstore_n 3, 1) := by decide +kernel
theorem dX12_length_18 : decode cX12_length 18 = .ok (.goto (-14), 3) := by decide +kernel
theorem dX12_length_21 : decode cX12_length 21 = .ok (.iload_n 2, 1) := by decide +kernel
theorem dX12_length_22 : decode cX12_length 22 = .ok (.ireturn, 1) := by decide +kernel
def f_X12_length_4 : Nat → Int32 → Int64 → AH → Option (Int32 × AH)
  | 0, _, _, _ => none
  | n + 1, x2, x3, h => (if (lg_cmp x3 0) ≤ 0 then
      some (x2, h)
    else
      lt (x3 >>> ((8 : Int32).toInt64 &&& 63)) fun x_1 =>
      f_X12_length_4 n (x2 + 1) x_1 h)
set_option maxRecDepth 20000 in
set_option maxHeartbeats 4000000 in
theorem t_X12_length_4 {Ω : Om} : ∀ (n : Nat) (x2 : Int32) (x3 : Int64) (h : AH) (q : Int32 × AH), f_X12_length_4 n x2 x3 h = some q → Go Ω M_X12_length 4 [(2, .int x2), (3, .long x3)] [] h (some (.int q.1)) q.2 := by
  intro n
  induction n with
  | zero => intro x2 x3 h q hf; cases hf
  | succ n ih =>
    intro x2 x3 h q hf
    rw [f_X12_length_4] at hf
    refine go_lload_n dX12_length_4 rfl 1 rfl ?_
    refine go_lconst 0 dX12_length_5 rfl ?_
    refine go_lcmp dX12_length_6 ?_
    refine go_if_le (tgt := 21) dX12_length_7 (by decide) hf (fun hf => ?_) (fun hf => ?_)
    · refine go_iload_n dX12_length_21 rfl 0 rfl ?_
      exact go_ireturn dX12_length_22 rfl hf
    · refine go_iinc (j := 0) (v := x2 + 1) (lv' := [(2, .int (x2 + 1)), (3, .long x3)]) dX12_length_10 rfl rfl (by decide) (by first | rfl | simp [catR, catI, catJ]) ?_
      refine go_lload_n dX12_length_13 rfl 1 rfl ?_
      refine go_bipush 8 dX12_length_14 (by decide) ?_
      refine go_lshr dX12_length_16 ?_
      refine lt_J hf (fun x_1 hf => ?_)
      refine go_lstore_n (i := 3) (lv' := [(3, .long x_1), (2, .int (x2 + 1))]) dX12_length_17 rfl (by decide) (by first | rfl | simp [catR, catI, catJ]) ?_
      refine go_goto (tgt := 4) dX12_length_18 (by decide) ?_
      refine go_sub (lv' := [(2, .int (x2 + 1)), (3, .long x_1)]) [1, 0] rfl ?_
      exact ih (x2 + 1) x_1 h q hf
def f_X12_length (x0 : Int64) (h : AH) : Option (Int32 × AH) := f_X12_length_4 FU 0 x0 h
set_option maxRecDepth 20000 in
set_option maxHeartbeats 4000000 in
theorem t_X12_length {Ω : Om} (x0 : Int64) (h : AH) (q : Int32 × AH) (hf : f_X12_length x0 h = some q) : Go Ω M_X12_length 0 (lv_args 0 [.long x0]) [] h (some (.int q.1)) q.2 := by
  unfold f_X12_length at hf
  rw [la_J, la_0]
  refine go_sub (lv' := [(0, .long x0)]) [0] rfl ?_
  refine go_iconst 0 dX12_length_0 rfl ?_
  refine go_istore_n (i := 2) (lv' := [(2, .int 0), (0, .long x0)]) dX12_length_1 rfl (by decide) (by first | rfl | simp [catR, catI, catJ]) ?_
  refine go_lload_n dX12_length_2 rfl 1 rfl ?_
  refine go_lstore_n (i := 3) (lv' := [(3, .long x0), (2, .int 0), (0, .long x0)]) dX12_length_3 rfl (by decide) (by first | rfl | simp [catR, catI, catJ]) ?_
  refine go_sub (lv' := [(2, .int 0), (3, .long x0)]) [1, 0] rfl ?_
  exact t_X12_length_4 FU 0 x0 h q hf
-- LetterBrokerModel.putName(J)V
theorem dX12_putName_0 : decode cX12_putName 0 = .ok (.lload_n 1, 1) := by decide +kernel
theorem dX12_putName_1 : decode cX12_putName 1 = .ok (.invokestatic 175, 3) := by decide +kernel
theorem dX12_putName_4 : decode cX12_putName 4 = .ok (.istore_n 3, 1) := by decide +kernel
theorem dX12_putName_5 : decode cX12_putName 5 = .ok (.aload_n 0, 1) := by decide +kernel
theorem dX12_putName_6 : decode cX12_putName 6 = .ok (.iload_n 3, 1) := by decide +kernel
theorem dX12_putName_7 : decode cX12_putName 7 = .ok (.invokevirtual 157, 3) := by decide +kernel
theorem dX12_putName_10 : decode cX12_putName 10 = .ok (.iload_n 3, 1) := by decide +kernel
theorem dX12_putName_11 : decode cX12_putName 11 = .ok (.iconst 1, 1) := by decide +kernel
theorem dX12_putName_12 : decode cX12_putName 12 = .ok (.isub, 1) := by decide +kernel
theorem dX12_putName_13 : decode cX12_putName 13 = .ok (.istore 4, 2) := by decide +kernel
theorem dX12_putName_15 : decode cX12_putName 15 = .ok (.iload 4, 2) := by decide +kernel
theorem dX12_putName_17 : decode cX12_putName 17 = .ok (.ifCond .lt 21, 3) := by decide +kernel
theorem dX12_putName_20 : decode cX12_putName 20 = .ok (.aload_n 0, 1) := by decide +kernel
theorem dX12_putName_21 : decode cX12_putName 21 = .ok (.lload_n 1, 1) := by decide +kernel
theorem dX12_putName_22 : decode cX12_putName 22 = .ok (.bipush 8, 2) := by decide +kernel
theorem dX12_putName_24 : decode cX12_putName 24 = .ok (.iload 4, 2) := by decide +kernel
theorem dX12_putName_26 : decode cX12_putName 26 = .ok (.imul, 1) := by decide +kernel
theorem dX12_putName_27 : decode cX12_putName 27 = .ok (.lshr, 1) := by decide +kernel
theorem dX12_putName_28 : decode cX12_putName 28 = .ok (.l2i, 1) := by decide +kernel
theorem dX12_putName_29 : decode cX12_putName 29 = .ok (.invokevirtual 157, 3) := by decide +kernel
theorem dX12_putName_32 : decode cX12_putName 32 = .ok (.iinc 4 (-1), 3) := by decide +kernel
theorem dX12_putName_35 : decode cX12_putName 35 = .ok (.goto (-20), 3) := by decide +kernel
theorem dX12_putName_38 : decode cX12_putName 38 = .ok (.return_, 1) := by decide +kernel
def f_X12_putName_15 : Nat → Nat → Int64 → Int32 → AH → Option (Unit × AH)
  | 0, _, _, _, _ => none
  | n + 1, a0, x1, x4, h => (if x4 < 0 then
      some ((), h)
    else
      kg h a0 13 (bd (f_X12_put a0 ((x1 >>> ((8 * x4).toInt64 &&& 63)).toInt32) h) fun _ h_2 =>
      f_X12_putName_15 n a0 x1 (x4 + (-1)) h_2))
set_option maxRecDepth 20000 in
set_option maxHeartbeats 4000000 in
theorem t_X12_putName_15 {Ω : Om} : ∀ (n : Nat) (a0 : Nat) (x1 : Int64) (x4 : Int32) (h : AH) (q : Unit × AH), f_X12_putName_15 n a0 x1 x4 h = some q → Go Ω M_X12_putName 15 [(0, vR Ω (some a0)), (1, .long x1), (4, .int x4)] [] h none q.2 := by
  intro n
  induction n with
  | zero => intro a0 x1 x4 h q hf; cases hf
  | succ n ih =>
    intro a0 x1 x4 h q hf
    rw [f_X12_putName_15] at hf
    refine go_iload dX12_putName_15 2 rfl ?_
    refine go_if_lt (tgt := 38) dX12_putName_17 (by decide) hf (fun hf => ?_) (fun hf => ?_)
    · exact go_return dX12_putName_38 rfl hf
    · refine go_aload_n dX12_putName_20 rfl 0 rfl ?_
      refine go_lload_n dX12_putName_21 rfl 1 rfl ?_
      refine go_bipush 8 dX12_putName_22 (by decide) ?_
      refine go_iload dX12_putName_24 2 rfl ?_
      refine go_imul dX12_putName_26 ?_
      refine go_lshr dX12_putName_27 ?_
      refine go_l2i dX12_putName_28 ?_
      obtain ⟨hk, hf⟩ := kg_some hf
      obtain ⟨z_1, hc, hf⟩ := bd_some hf
      refine go_callV (y2 := M_X12_put) (c2 := 13) dX12_putName_29 mo_X12_put ⟨Nat.le_of_ble_eq_true rfl, Nat.le_of_ble_eq_true rfl⟩ na_X12_put w1333 w1335 (by decide) rfl w52 hk [.int ((x1 >>> ((8 * x4).toInt64 &&& 63)).toInt32)] rfl (n_X12_put (a0) ((x1 >>> ((8 * x4).toInt64 &&& 63)).toInt32)) rfl (csum (Nat.le_of_ble_eq_true rfl)) (t_X12_put (a0) ((x1 >>> ((8 * x4).toInt64 &&& 63)).toInt32) h _ hc) ?_
      obtain ⟨_, h_2⟩ := z_1
      refine go_iinc (j := 2) (v := x4 + (-1)) (lv' := [(4, .int (x4 + (-1))), (0, vR Ω (some a0)), (1, .long x1)]) dX12_putName_32 rfl rfl (by decide) (by first | rfl | simp [catR, catI, catJ]) ?_
      refine go_goto (tgt := 15) dX12_putName_35 (by decide) ?_
      refine go_sub (lv' := [(0, vR Ω (some a0)), (1, .long x1), (4, .int (x4 + (-1)))]) [1, 2, 0] rfl ?_
      exact ih a0 x1 (x4 + (-1)) h_2 q hf
def f_X12_putName (a0 : Nat) (x1 : Int64) (h : AH) : Option (Unit × AH) := bd (f_X12_length x1 h) fun x_3 h_2 =>
  kg h_2 a0 13 (bd (f_X12_put a0 x_3 h_2) fun _ h_5 =>
  lt (x_3 - 1) fun x_6 =>
  f_X12_putName_15 FU a0 x1 x_6 h_5)
set_option maxRecDepth 20000 in
set_option maxHeartbeats 4000000 in
theorem t_X12_putName {Ω : Om} (a0 : Nat) (x1 : Int64) (h : AH) (q : Unit × AH) (hf : f_X12_putName a0 x1 h = some q) : Go Ω M_X12_putName 0 (lv_args 0 [vR Ω (some a0), .long x1]) [] h none q.2 := by
  unfold f_X12_putName at hf
  rw [la_R, la_J, la_0]
  refine go_sub (lv' := [(0, vR Ω (some a0)), (1, .long x1)]) [0, 1] rfl ?_
  refine go_lload_n dX12_putName_0 rfl 1 rfl ?_
  obtain ⟨z_1, hc, hf⟩ := bd_some hf
  refine go_callS (y2 := M_X12_length) dX12_putName_1 mo_X12_length ⟨Nat.le_of_ble_eq_true rfl, Nat.le_of_ble_eq_true rfl⟩ na_X12_length w1464 w1465 [.long x1] rfl (n_X12_length x1) rfl (csum (Nat.le_of_ble_eq_true rfl)) (t_X12_length x1 h _ hc) ?_
  obtain ⟨x_3, h_2⟩ := z_1
  refine go_istore_n (i := 3) (lv' := [(3, .int x_3), (0, vR Ω (some a0)), (1, .long x1)]) dX12_putName_4 rfl (by decide) (by first | rfl | simp [catR, catI, catJ]) ?_
  refine go_aload_n dX12_putName_5 rfl 1 rfl ?_
  refine go_iload_n dX12_putName_6 rfl 0 rfl ?_
  obtain ⟨hk, hf⟩ := kg_some hf
  obtain ⟨z_4, hc, hf⟩ := bd_some hf
  refine go_callV (y2 := M_X12_put) (c2 := 13) dX12_putName_7 mo_X12_put ⟨Nat.le_of_ble_eq_true rfl, Nat.le_of_ble_eq_true rfl⟩ na_X12_put w1333 w1335 (by decide) rfl w52 hk [.int x_3] rfl (n_X12_put (a0) x_3) rfl (csum (Nat.le_of_ble_eq_true rfl)) (t_X12_put (a0) x_3 h_2 _ hc) ?_
  obtain ⟨_, h_5⟩ := z_4
  refine go_iload_n dX12_putName_10 rfl 0 rfl ?_
  refine go_iconst 1 dX12_putName_11 rfl ?_
  refine go_isub dX12_putName_12 ?_
  refine lt_I hf (fun x_6 hf => ?_)
  refine go_istore (i := 4) (lv' := [(4, .int x_6), (3, .int x_3), (0, vR Ω (some a0)), (1, .long x1)]) dX12_putName_13 (by decide) (by first | rfl | simp [catR, catI, catJ]) ?_
  refine go_sub (lv' := [(0, vR Ω (some a0)), (1, .long x1), (4, .int x_6)]) [2, 3, 0] rfl ?_
  exact t_X12_putName_15 FU a0 x1 x_6 h_5 q hf
-- LetterBrokerModel.moveLetter(II)V
theorem dX12_moveLetter_0 : decode cX12_moveLetter 0 = .ok (.aload_n 0, 1) := by decide +kernel
theorem dX12_moveLetter_1 : decode cX12_moveLetter 1 = .ok (.getfield 61, 3) := by decide +kernel
theorem dX12_moveLetter_4 : decode cX12_moveLetter 4 = .ok (.iload_n 1, 1) := by decide +kernel
theorem dX12_moveLetter_5 : decode cX12_moveLetter 5 = .ok (.aload_n 0, 1) := by decide +kernel
theorem dX12_moveLetter_6 : decode cX12_moveLetter 6 = .ok (.getfield 61, 3) := by decide +kernel
theorem dX12_moveLetter_9 : decode cX12_moveLetter 9 = .ok (.iload_n 2, 1) := by decide +kernel
theorem dX12_moveLetter_10 : decode cX12_moveLetter 10 = .ok (.iaload, 1) := by decide +kernel
theorem dX12_moveLetter_11 : decode cX12_moveLetter 11 = .ok (.iastore, 1) := by decide +kernel
theorem dX12_moveLetter_12 : decode cX12_moveLetter 12 = .ok (.aload_n 0, 1) := by decide +kernel
theorem dX12_moveLetter_13 : decode cX12_moveLetter 13 = .ok (.getfield 64, 3) := by decide +kernel
theorem dX12_moveLetter_16 : decode cX12_moveLetter 16 = .ok (.iload_n 1, 1) := by decide +kernel
theorem dX12_moveLetter_17 : decode cX12_moveLetter 17 = .ok (.aload_n 0, 1) := by decide +kernel
theorem dX12_moveLetter_18 : decode cX12_moveLetter 18 = .ok (.getfield 64, 3) := by decide +kernel
theorem dX12_moveLetter_21 : decode cX12_moveLetter 21 = .ok (.iload_n 2, 1) := by decide +kernel
theorem dX12_moveLetter_22 : decode cX12_moveLetter 22 = .ok (.iaload, 1) := by decide +kernel
theorem dX12_moveLetter_23 : decode cX12_moveLetter 23 = .ok (.iastore, 1) := by decide +kernel
theorem dX12_moveLetter_24 : decode cX12_moveLetter 24 = .ok (.aload_n 0, 1) := by decide +kernel
theorem dX12_moveLetter_25 : decode cX12_moveLetter 25 = .ok (.getfield 67, 3) := by decide +kernel
theorem dX12_moveLetter_28 : decode cX12_moveLetter 28 = .ok (.iload_n 1, 1) := by decide +kernel
theorem dX12_moveLetter_29 : decode cX12_moveLetter 29 = .ok (.aload_n 0, 1) := by decide +kernel
theorem dX12_moveLetter_30 : decode cX12_moveLetter 30 = .ok (.getfield 67, 3) := by decide +kernel
theorem dX12_moveLetter_33 : decode cX12_moveLetter 33 = .ok (.iload_n 2, 1) := by decide +kernel
theorem dX12_moveLetter_34 : decode cX12_moveLetter 34 = .ok (.iaload, 1) := by decide +kernel
theorem dX12_moveLetter_35 : decode cX12_moveLetter 35 = .ok (.iastore, 1) := by decide +kernel
theorem dX12_moveLetter_36 : decode cX12_moveLetter 36 = .ok (.aload_n 0, 1) := by decide +kernel
theorem dX12_moveLetter_37 : decode cX12_moveLetter 37 = .ok (.getfield 70, 3) := by decide +kernel
theorem dX12_moveLetter_40 : decode cX12_moveLetter 40 = .ok (.iload_n 1, 1) := by decide +kernel
theorem dX12_moveLetter_41 : decode cX12_moveLetter 41 = .ok (.aload_n 0, 1) := by decide +kernel
theorem dX12_moveLetter_42 : decode cX12_moveLetter 42 = .ok (.getfield 70, 3) := by decide +kernel
theorem dX12_moveLetter_45 : decode cX12_moveLetter 45 = .ok (.iload_n 2, 1) := by decide +kernel
theorem dX12_moveLetter_46 : decode cX12_moveLetter 46 = .ok (.iaload, 1) := by decide +kernel
theorem dX12_moveLetter_47 : decode cX12_moveLetter 47 = .ok (.iastore, 1) := by decide +kernel
theorem dX12_moveLetter_48 : decode cX12_moveLetter 48 = .ok (.aload_n 0, 1) := by decide +kernel
theorem dX12_moveLetter_49 : decode cX12_moveLetter 49 = .ok (.getfield 73, 3) := by decide +kernel
theorem dX12_moveLetter_52 : decode cX12_moveLetter 52 = .ok (.iload_n 1, 1) := by decide +kernel
theorem dX12_moveLetter_53 : decode cX12_moveLetter 53 = .ok (.aload_n 0, 1) := by decide +kernel
theorem dX12_moveLetter_54 : decode cX12_moveLetter 54 = .ok (.getfield 73, 3) := by decide +kernel
theorem dX12_moveLetter_57 : decode cX12_moveLetter 57 = .ok (.iload_n 2, 1) := by decide +kernel
theorem dX12_moveLetter_58 : decode cX12_moveLetter 58 = .ok (.baload, 1) := by decide +kernel
theorem dX12_moveLetter_59 : decode cX12_moveLetter 59 = .ok (.bastore, 1) := by decide +kernel
theorem dX12_moveLetter_60 : decode cX12_moveLetter 60 = .ok (.aload_n 0, 1) := by decide +kernel
theorem dX12_moveLetter_61 : decode cX12_moveLetter 61 = .ok (.getfield 76, 3) := by decide +kernel
theorem dX12_moveLetter_64 : decode cX12_moveLetter 64 = .ok (.iload_n 1, 1) := by decide +kernel
theorem dX12_moveLetter_65 : decode cX12_moveLetter 65 = .ok (.aload_n 0, 1) := by decide +kernel
theorem dX12_moveLetter_66 : decode cX12_moveLetter 66 = .ok (.getfield 76, 3) := by decide +kernel
theorem dX12_moveLetter_69 : decode cX12_moveLetter 69 = .ok (.iload_n 2, 1) := by decide +kernel
theorem dX12_moveLetter_70 : decode cX12_moveLetter 70 = .ok (.laload, 1) := by decide +kernel
theorem dX12_moveLetter_71 : decode cX12_moveLetter 71 = .ok (.lastore, 1) := by decide +kernel
theorem dX12_moveLetter_72 : decode cX12_moveLetter 72 = .ok (.aload_n 0, 1) := by decide +kernel
theorem dX12_moveLetter_73 : decode cX12_moveLetter 73 = .ok (.getfield 79, 3) := by decide +kernel
theorem dX12_moveLetter_76 : decode cX12_moveLetter 76 = .ok (.iload_n 1, 1) := by decide +kernel
theorem dX12_moveLetter_77 : decode cX12_moveLetter 77 = .ok (.aload_n 0, 1) := by decide +kernel
theorem dX12_moveLetter_78 : decode cX12_moveLetter 78 = .ok (.getfield 79, 3) := by decide +kernel
theorem dX12_moveLetter_81 : decode cX12_moveLetter 81 = .ok (.iload_n 2, 1) := by decide +kernel
theorem dX12_moveLetter_82 : decode cX12_moveLetter 82 = .ok (.laload, 1) := by decide +kernel
theorem dX12_moveLetter_83 : decode cX12_moveLetter 83 = .ok (.lastore, 1) := by decide +kernel
theorem dX12_moveLetter_84 : decode cX12_moveLetter 84 = .ok (.aload_n 0, 1) := by decide +kernel
theorem dX12_moveLetter_85 : decode cX12_moveLetter 85 = .ok (.getfield 82, 3) := by decide +kernel
theorem dX12_moveLetter_88 : decode cX12_moveLetter 88 = .ok (.iload_n 1, 1) := by decide +kernel
theorem dX12_moveLetter_89 : decode cX12_moveLetter 89 = .ok (.aload_n 0, 1) := by decide +kernel
theorem dX12_moveLetter_90 : decode cX12_moveLetter 90 = .ok (.getfield 82, 3) := by decide +kernel
theorem dX12_moveLetter_93 : decode cX12_moveLetter 93 = .ok (.iload_n 2, 1) := by decide +kernel
theorem dX12_moveLetter_94 : decode cX12_moveLetter 94 = .ok (.iaload, 1) := by decide +kernel
theorem dX12_moveLetter_95 : decode cX12_moveLetter 95 = .ok (.iastore, 1) := by decide +kernel
theorem dX12_moveLetter_96 : decode cX12_moveLetter 96 = .ok (.aload_n 0, 1) := by decide +kernel
theorem dX12_moveLetter_97 : decode cX12_moveLetter 97 = .ok (.getfield 85, 3) := by decide +kernel
theorem dX12_moveLetter_100 : decode cX12_moveLetter 100 = .ok (.iload_n 1, 1) := by decide +kernel
theorem dX12_moveLetter_101 : decode cX12_moveLetter 101 = .ok (.aload_n 0, 1) := by decide +kernel
theorem dX12_moveLetter_102 : decode cX12_moveLetter 102 = .ok (.getfield 85, 3) := by decide +kernel
theorem dX12_moveLetter_105 : decode cX12_moveLetter 105 = .ok (.iload_n 2, 1) := by decide +kernel
theorem dX12_moveLetter_106 : decode cX12_moveLetter 106 = .ok (.laload, 1) := by decide +kernel
theorem dX12_moveLetter_107 : decode cX12_moveLetter 107 = .ok (.lastore, 1) := by decide +kernel
theorem dX12_moveLetter_108 : decode cX12_moveLetter 108 = .ok (.return_, 1) := by decide +kernel
def f_X12_moveLetter (a0 : Nat) (x1 : Int32) (x2 : Int32) (h : AH) : Option (Unit × AH) := rdR h a0 13 26 fun r_1 =>
  rdR h a0 13 26 fun r_2 =>
  nn r_2 fun a_3 =>
  arI h a_3 x2 fun x_4 =>
  nn r_1 fun a_5 =>
  asI h a_5 x1 x_4 fun h_6 =>
  rdR h_6 a0 13 27 fun r_7 =>
  rdR h_6 a0 13 27 fun r_8 =>
  nn r_8 fun a_9 =>
  arI h_6 a_9 x2 fun x_10 =>
  nn r_7 fun a_11 =>
  asI h_6 a_11 x1 x_10 fun h_12 =>
  rdR h_12 a0 13 28 fun r_13 =>
  rdR h_12 a0 13 28 fun r_14 =>
  nn r_14 fun a_15 =>
  arI h_12 a_15 x2 fun x_16 =>
  nn r_13 fun a_17 =>
  asI h_12 a_17 x1 x_16 fun h_18 =>
  rdR h_18 a0 13 29 fun r_19 =>
  rdR h_18 a0 13 29 fun r_20 =>
  nn r_20 fun a_21 =>
  arI h_18 a_21 x2 fun x_22 =>
  nn r_19 fun a_23 =>
  asI h_18 a_23 x1 x_22 fun h_24 =>
  rdR h_24 a0 13 30 fun r_25 =>
  rdR h_24 a0 13 30 fun r_26 =>
  nn r_26 fun a_27 =>
  arZ h_24 a_27 x2 fun x_28 =>
  nn r_25 fun a_29 =>
  asZ h_24 a_29 x1 x_28 fun h_30 =>
  rdR h_30 a0 13 31 fun r_31 =>
  rdR h_30 a0 13 31 fun r_32 =>
  nn r_32 fun a_33 =>
  arJ h_30 a_33 x2 fun x_34 =>
  nn r_31 fun a_35 =>
  asJ h_30 a_35 x1 x_34 fun h_36 =>
  rdR h_36 a0 13 32 fun r_37 =>
  rdR h_36 a0 13 32 fun r_38 =>
  nn r_38 fun a_39 =>
  arJ h_36 a_39 x2 fun x_40 =>
  nn r_37 fun a_41 =>
  asJ h_36 a_41 x1 x_40 fun h_42 =>
  rdR h_42 a0 13 33 fun r_43 =>
  rdR h_42 a0 13 33 fun r_44 =>
  nn r_44 fun a_45 =>
  arI h_42 a_45 x2 fun x_46 =>
  nn r_43 fun a_47 =>
  asI h_42 a_47 x1 x_46 fun h_48 =>
  rdR h_48 a0 13 34 fun r_49 =>
  rdR h_48 a0 13 34 fun r_50 =>
  nn r_50 fun a_51 =>
  arJ h_48 a_51 x2 fun x_52 =>
  nn r_49 fun a_53 =>
  asJ h_48 a_53 x1 x_52 fun h_54 =>
  some ((), h_54)
set_option maxRecDepth 20000 in
set_option maxHeartbeats 4000000 in
theorem t_X12_moveLetter {Ω : Om} (a0 : Nat) (x1 : Int32) (x2 : Int32) (h : AH) (q : Unit × AH) (hf : f_X12_moveLetter a0 x1 x2 h = some q) : Go Ω M_X12_moveLetter 0 (lv_args 0 [vR Ω (some a0), .int x1, .int x2]) [] h none q.2 := by
  unfold f_X12_moveLetter at hf
  rw [la_R, la_I, la_I, la_0]
  refine go_sub (lv' := [(0, vR Ω (some a0)), (1, .int x1), (2, .int x2)]) [0, 1, 2] rfl ?_
  refine go_aload_n dX12_moveLetter_0 rfl 0 rfl ?_
  refine go_getR dX12_moveLetter_1 fl_1145_0 (fun _ _ => rfl) hf (fun r_1 hf => ?_)
  refine go_iload_n dX12_moveLetter_4 rfl 1 rfl ?_
  refine go_aload_n dX12_moveLetter_5 rfl 0 rfl ?_
  refine go_getR dX12_moveLetter_6 fl_1145_0 (fun _ _ => rfl) hf (fun r_2 hf => ?_)
  refine go_iload_n dX12_moveLetter_9 rfl 2 rfl ?_
  obtain ⟨a_3, rfl, hga_3⟩ := nn_some hf
  have hf := hga_3
  refine go_iaload dX12_moveLetter_10 hf (fun x_4 hf => ?_)
  obtain ⟨a_5, rfl, hga_5⟩ := nn_some hf
  have hf := hga_5
  refine go_iastore dX12_moveLetter_11 hf (fun h_6 hf => ?_)
  refine go_aload_n dX12_moveLetter_12 rfl 0 rfl ?_
  refine go_getR dX12_moveLetter_13 fl_1146_0 (fun _ _ => rfl) hf (fun r_7 hf => ?_)
  refine go_iload_n dX12_moveLetter_16 rfl 1 rfl ?_
  refine go_aload_n dX12_moveLetter_17 rfl 0 rfl ?_
  refine go_getR dX12_moveLetter_18 fl_1146_0 (fun _ _ => rfl) hf (fun r_8 hf => ?_)
  refine go_iload_n dX12_moveLetter_21 rfl 2 rfl ?_
  obtain ⟨a_9, rfl, hga_9⟩ := nn_some hf
  have hf := hga_9
  refine go_iaload dX12_moveLetter_22 hf (fun x_10 hf => ?_)
  obtain ⟨a_11, rfl, hga_11⟩ := nn_some hf
  have hf := hga_11
  refine go_iastore dX12_moveLetter_23 hf (fun h_12 hf => ?_)
  refine go_aload_n dX12_moveLetter_24 rfl 0 rfl ?_
  refine go_getR dX12_moveLetter_25 fl_1147_0 (fun _ _ => rfl) hf (fun r_13 hf => ?_)
  refine go_iload_n dX12_moveLetter_28 rfl 1 rfl ?_
  refine go_aload_n dX12_moveLetter_29 rfl 0 rfl ?_
  refine go_getR dX12_moveLetter_30 fl_1147_0 (fun _ _ => rfl) hf (fun r_14 hf => ?_)
  refine go_iload_n dX12_moveLetter_33 rfl 2 rfl ?_
  obtain ⟨a_15, rfl, hga_15⟩ := nn_some hf
  have hf := hga_15
  refine go_iaload dX12_moveLetter_34 hf (fun x_16 hf => ?_)
  obtain ⟨a_17, rfl, hga_17⟩ := nn_some hf
  have hf := hga_17
  refine go_iastore dX12_moveLetter_35 hf (fun h_18 hf => ?_)
  refine go_aload_n dX12_moveLetter_36 rfl 0 rfl ?_
  refine go_getR dX12_moveLetter_37 fl_1148_0 (fun _ _ => rfl) hf (fun r_19 hf => ?_)
  refine go_iload_n dX12_moveLetter_40 rfl 1 rfl ?_
  refine go_aload_n dX12_moveLetter_41 rfl 0 rfl ?_
  refine go_getR dX12_moveLetter_42 fl_1148_0 (fun _ _ => rfl) hf (fun r_20 hf => ?_)
  refine go_iload_n dX12_moveLetter_45 rfl 2 rfl ?_
  obtain ⟨a_21, rfl, hga_21⟩ := nn_some hf
  have hf := hga_21
  refine go_iaload dX12_moveLetter_46 hf (fun x_22 hf => ?_)
  obtain ⟨a_23, rfl, hga_23⟩ := nn_some hf
  have hf := hga_23
  refine go_iastore dX12_moveLetter_47 hf (fun h_24 hf => ?_)
  refine go_aload_n dX12_moveLetter_48 rfl 0 rfl ?_
  refine go_getR dX12_moveLetter_49 fl_1149_0 (fun _ _ => rfl) hf (fun r_25 hf => ?_)
  refine go_iload_n dX12_moveLetter_52 rfl 1 rfl ?_
  refine go_aload_n dX12_moveLetter_53 rfl 0 rfl ?_
  refine go_getR dX12_moveLetter_54 fl_1149_0 (fun _ _ => rfl) hf (fun r_26 hf => ?_)
  refine go_iload_n dX12_moveLetter_57 rfl 2 rfl ?_
  obtain ⟨a_27, rfl, hga_27⟩ := nn_some hf
  have hf := hga_27
  refine go_zaload dX12_moveLetter_58 hf (fun x_28 hf => ?_)
  obtain ⟨a_29, rfl, hga_29⟩ := nn_some hf
  have hf := hga_29
  refine go_zastore dX12_moveLetter_59 hf (fun h_30 hf => ?_)
  refine go_aload_n dX12_moveLetter_60 rfl 0 rfl ?_
  refine go_getR dX12_moveLetter_61 fl_1150_0 (fun _ _ => rfl) hf (fun r_31 hf => ?_)
  refine go_iload_n dX12_moveLetter_64 rfl 1 rfl ?_
  refine go_aload_n dX12_moveLetter_65 rfl 0 rfl ?_
  refine go_getR dX12_moveLetter_66 fl_1150_0 (fun _ _ => rfl) hf (fun r_32 hf => ?_)
  refine go_iload_n dX12_moveLetter_69 rfl 2 rfl ?_
  obtain ⟨a_33, rfl, hga_33⟩ := nn_some hf
  have hf := hga_33
  refine go_laload dX12_moveLetter_70 hf (fun x_34 hf => ?_)
  obtain ⟨a_35, rfl, hga_35⟩ := nn_some hf
  have hf := hga_35
  refine go_lastore dX12_moveLetter_71 hf (fun h_36 hf => ?_)
  refine go_aload_n dX12_moveLetter_72 rfl 0 rfl ?_
  refine go_getR dX12_moveLetter_73 fl_1151_0 (fun _ _ => rfl) hf (fun r_37 hf => ?_)
  refine go_iload_n dX12_moveLetter_76 rfl 1 rfl ?_
  refine go_aload_n dX12_moveLetter_77 rfl 0 rfl ?_
  refine go_getR dX12_moveLetter_78 fl_1151_0 (fun _ _ => rfl) hf (fun r_38 hf => ?_)
  refine go_iload_n dX12_moveLetter_81 rfl 2 rfl ?_
  obtain ⟨a_39, rfl, hga_39⟩ := nn_some hf
  have hf := hga_39
  refine go_laload dX12_moveLetter_82 hf (fun x_40 hf => ?_)
  obtain ⟨a_41, rfl, hga_41⟩ := nn_some hf
  have hf := hga_41
  refine go_lastore dX12_moveLetter_83 hf (fun h_42 hf => ?_)
  refine go_aload_n dX12_moveLetter_84 rfl 0 rfl ?_
  refine go_getR dX12_moveLetter_85 fl_1152_0 (fun _ _ => rfl) hf (fun r_43 hf => ?_)
  refine go_iload_n dX12_moveLetter_88 rfl 1 rfl ?_
  refine go_aload_n dX12_moveLetter_89 rfl 0 rfl ?_
  refine go_getR dX12_moveLetter_90 fl_1152_0 (fun _ _ => rfl) hf (fun r_44 hf => ?_)
  refine go_iload_n dX12_moveLetter_93 rfl 2 rfl ?_
  obtain ⟨a_45, rfl, hga_45⟩ := nn_some hf
  have hf := hga_45
  refine go_iaload dX12_moveLetter_94 hf (fun x_46 hf => ?_)
  obtain ⟨a_47, rfl, hga_47⟩ := nn_some hf
  have hf := hga_47
  refine go_iastore dX12_moveLetter_95 hf (fun h_48 hf => ?_)
  refine go_aload_n dX12_moveLetter_96 rfl 0 rfl ?_
  refine go_getR dX12_moveLetter_97 fl_1153_0 (fun _ _ => rfl) hf (fun r_49 hf => ?_)
  refine go_iload_n dX12_moveLetter_100 rfl 1 rfl ?_
  refine go_aload_n dX12_moveLetter_101 rfl 0 rfl ?_
  refine go_getR dX12_moveLetter_102 fl_1153_0 (fun _ _ => rfl) hf (fun r_50 hf => ?_)
  refine go_iload_n dX12_moveLetter_105 rfl 2 rfl ?_
  obtain ⟨a_51, rfl, hga_51⟩ := nn_some hf
  have hf := hga_51
  refine go_laload dX12_moveLetter_106 hf (fun x_52 hf => ?_)
  obtain ⟨a_53, rfl, hga_53⟩ := nn_some hf
  have hf := hga_53
  refine go_lastore dX12_moveLetter_107 hf (fun h_54 hf => ?_)
  exact go_return dX12_moveLetter_108 rfl hf
-- LetterBrokerModel.removeLetter(I)V
theorem dX12_removeLetter_0 : decode cX12_removeLetter 0 = .ok (.aload_n 0, 1) := by decide +kernel
theorem dX12_removeLetter_1 : decode cX12_removeLetter 1 = .ok (.dup, 1) := by decide +kernel
theorem dX12_removeLetter_2 : decode cX12_removeLetter 2 = .ok (.getfield 179, 3) := by decide +kernel
theorem dX12_removeLetter_5 : decode cX12_removeLetter 5 = .ok (.iconst 1, 1) := by decide +kernel
theorem dX12_removeLetter_6 : decode cX12_removeLetter 6 = .ok (.isub, 1) := by decide +kernel
theorem dX12_removeLetter_7 : decode cX12_removeLetter 7 = .ok (.putfield 179, 3) := by decide +kernel
theorem dX12_removeLetter_10 : decode cX12_removeLetter 10 = .ok (.iload_n 1, 1) := by decide +kernel
theorem dX12_removeLetter_11 : decode cX12_removeLetter 11 = .ok (.istore_n 2, 1) := by decide +kernel
theorem dX12_removeLetter_12 : decode cX12_removeLetter 12 = .ok (.iload_n 2, 1) := by decide +kernel
theorem dX12_removeLetter_13 : decode cX12_removeLetter 13 = .ok (.aload_n 0, 1) := by decide +kernel
theorem dX12_removeLetter_14 : decode cX12_removeLetter 14 = .ok (.getfield 179, 3) := by decide +kernel
theorem dX12_removeLetter_17 : decode cX12_removeLetter 17 = .ok (.if_icmp .ge 17, 3) := by decide +kernel
theorem dX12_removeLetter_20 : decode cX12_removeLetter 20 = .ok (.aload_n 0, 1) := by decide +kernel
theorem dX12_removeLetter_21 : decode cX12_removeLetter 21 = .ok (.iload_n 2, 1) := by decide +kernel
theorem dX12_removeLetter_22 : decode cX12_removeLetter 22 = .ok (.iload_n 2, 1) := by decide +kernel
theorem dX12_removeLetter_23 : decode cX12_removeLetter 23 = .ok (.iconst 1, 1) := by decide +kernel
theorem dX12_removeLetter_24 : decode cX12_removeLetter 24 = .ok (.iadd, 1) := by decide +kernel
theorem dX12_removeLetter_25 : decode cX12_removeLetter 25 = .ok (.invokevirtual 182, 3) := by decide +kernel
theorem dX12_removeLetter_28 : decode cX12_removeLetter 28 = .ok (.iinc 2 1, 3) := by decide +kernel
theorem dX12_removeLetter_31 : decode cX12_removeLetter 31 = .ok (.goto (-19), 3) := by decide +kernel
theorem dX12_removeLetter_34 : decode cX12_removeLetter 34 = .ok (.return_, 1) := by decide +kernel
def f_X12_removeLetter_12 : Nat → Nat → Int32 → AH → Option (Unit × AH)
  | 0, _, _, _ => none
  | n + 1, a0, x2, h => rdI h a0 13 24 fun x_1 =>
    (if x_1 ≤ x2 then
      some ((), h)
    else
      kg h a0 13 (bd (f_X12_moveLetter a0 x2 (x2 + 1) h) fun _ h_3 =>
      f_X12_removeLetter_12 n a0 (x2 + 1) h_3))
set_option maxRecDepth 20000 in
set_option maxHeartbeats 4000000 in
theorem t_X12_removeLetter_12 {Ω : Om} : ∀ (n : Nat) (a0 : Nat) (x2 : Int32) (h : AH) (q : Unit × AH), f_X12_removeLetter_12 n a0 x2 h = some q → Go Ω M_X12_removeLetter 12 [(0, vR Ω (some a0)), (2, .int x2)] [] h none q.2 := by
  intro n
  induction n with
  | zero => intro a0 x2 h q hf; cases hf
  | succ n ih =>
    intro a0 x2 h q hf
    rw [f_X12_removeLetter_12] at hf
    refine go_iload_n dX12_removeLetter_12 rfl 1 rfl ?_
    refine go_aload_n dX12_removeLetter_13 rfl 0 rfl ?_
    refine go_getI dX12_removeLetter_14 fl_1143_0 (fun _ _ => rfl) hf (fun x_1 hf => ?_)
    refine go_icmp_ge (tgt := 34) dX12_removeLetter_17 (by decide) hf (fun hf => ?_) (fun hf => ?_)
    · exact go_return dX12_removeLetter_34 rfl hf
    · refine go_aload_n dX12_removeLetter_20 rfl 0 rfl ?_
      refine go_iload_n dX12_removeLetter_21 rfl 1 rfl ?_
      refine go_iload_n dX12_removeLetter_22 rfl 1 rfl ?_
      refine go_iconst 1 dX12_removeLetter_23 rfl ?_
      refine go_iadd dX12_removeLetter_24 ?_
      obtain ⟨hk, hf⟩ := kg_some hf
      obtain ⟨z_2, hc, hf⟩ := bd_some hf
      refine go_callV (y2 := M_X12_moveLetter) (c2 := 13) dX12_removeLetter_25 mo_X12_moveLetter ⟨Nat.le_of_ble_eq_true rfl, Nat.le_of_ble_eq_true rfl⟩ na_X12_moveLetter w1373 w1375 (by decide) rfl w62 hk [.int x2, .int (x2 + 1)] rfl (n_X12_moveLetter (a0) x2 (x2 + 1)) rfl (csum (Nat.le_of_ble_eq_true rfl)) (t_X12_moveLetter (a0) x2 (x2 + 1) h _ hc) ?_
      obtain ⟨_, h_3⟩ := z_2
      refine go_iinc (j := 1) (v := x2 + 1) (lv' := [(2, .int (x2 + 1)), (0, vR Ω (some a0))]) dX12_removeLetter_28 rfl rfl (by decide) (by first | rfl | simp [catR, catI, catJ]) ?_
      refine go_goto (tgt := 12) dX12_removeLetter_31 (by decide) ?_
      refine go_sub (lv' := [(0, vR Ω (some a0)), (2, .int (x2 + 1))]) [1, 0] rfl ?_
      exact ih a0 (x2 + 1) h_3 q hf
def f_X12_removeLetter (a0 : Nat) (x1 : Int32) (h : AH) : Option (Unit × AH) := rdI h a0 13 24 fun x_1 =>
  wrI h a0 13 24 (x_1 - 1) fun h_2 =>
  f_X12_removeLetter_12 FU a0 x1 h_2
set_option maxRecDepth 20000 in
set_option maxHeartbeats 4000000 in
theorem t_X12_removeLetter {Ω : Om} (a0 : Nat) (x1 : Int32) (h : AH) (q : Unit × AH) (hf : f_X12_removeLetter a0 x1 h = some q) : Go Ω M_X12_removeLetter 0 (lv_args 0 [vR Ω (some a0), .int x1]) [] h none q.2 := by
  unfold f_X12_removeLetter at hf
  rw [la_R, la_I, la_0]
  refine go_sub (lv' := [(0, vR Ω (some a0)), (1, .int x1)]) [0, 1] rfl ?_
  refine go_aload_n dX12_removeLetter_0 rfl 0 rfl ?_
  refine go_dup dX12_removeLetter_1 catR ?_
  refine go_getI dX12_removeLetter_2 fl_1143_0 (fun _ _ => rfl) hf (fun x_1 hf => ?_)
  refine go_iconst 1 dX12_removeLetter_5 rfl ?_
  refine go_isub dX12_removeLetter_6 ?_
  refine go_putI dX12_removeLetter_7 fl_1143_0 (fun q hq => by cases hq; exact Or.inl rfl) (fun _ _ => rfl) rfl hf (fun h_2 hf => ?_)
  refine go_iload_n dX12_removeLetter_10 rfl 1 rfl ?_
  refine go_istore_n (i := 2) (lv' := [(2, .int x1), (0, vR Ω (some a0)), (1, .int x1)]) dX12_removeLetter_11 rfl (by decide) (by first | rfl | simp [catR, catI, catJ]) ?_
  refine go_sub (lv' := [(0, vR Ω (some a0)), (2, .int x1)]) [1, 0] rfl ?_
  exact t_X12_removeLetter_12 FU a0 x1 h_2 q hf
-- LetterBrokerModel.take(IIZ)V
theorem dX12_take_0 : decode cX12_take 0 = .ok (.iload_n 3, 1) := by decide +kernel
theorem dX12_take_1 : decode cX12_take 1 = .ok (.ifCond .eq 11, 3) := by decide +kernel
theorem dX12_take_4 : decode cX12_take 4 = .ok (.aload_n 0, 1) := by decide +kernel
theorem dX12_take_5 : decode cX12_take 5 = .ok (.iload_n 1, 1) := by decide +kernel
theorem dX12_take_6 : decode cX12_take 6 = .ok (.invokevirtual 192, 3) := by decide +kernel
theorem dX12_take_9 : decode cX12_take 9 = .ok (.goto 22, 3) := by decide +kernel
theorem dX12_take_12 : decode cX12_take 12 = .ok (.aload_n 0, 1) := by decide +kernel
theorem dX12_take_13 : decode cX12_take 13 = .ok (.getfield 67, 3) := by decide +kernel
theorem dX12_take_16 : decode cX12_take 16 = .ok (.iload_n 1, 1) := by decide +kernel
theorem dX12_take_17 : decode cX12_take 17 = .ok (.iload_n 2, 1) := by decide +kernel
theorem dX12_take_18 : decode cX12_take 18 = .ok (.iastore, 1) := by decide +kernel
theorem dX12_take_19 : decode cX12_take 19 = .ok (.aload_n 0, 1) := by decide +kernel
theorem dX12_take_20 : decode cX12_take 20 = .ok (.getfield 70, 3) := by decide +kernel
theorem dX12_take_23 : decode cX12_take 23 = .ok (.iload_n 1, 1) := by decide +kernel
theorem dX12_take_24 : decode cX12_take 24 = .ok (.aload_n 0, 1) := by decide +kernel
theorem dX12_take_25 : decode cX12_take 25 = .ok (.getfield 97, 3) := by decide +kernel
theorem dX12_take_28 : decode cX12_take 28 = .ok (.iload_n 2, 1) := by decide +kernel
theorem dX12_take_29 : decode cX12_take 29 = .ok (.iaload, 1) := by decide +kernel
theorem dX12_take_30 : decode cX12_take 30 = .ok (.iastore, 1) := by decide +kernel
theorem dX12_take_31 : decode cX12_take 31 = .ok (.return_, 1) := by decide +kernel
def f_X12_take (a0 : Nat) (x1 : Int32) (x2 : Int32) (x3 : Int32) (h : AH) : Option (Unit × AH) := (if x3 = 0 then
    rdR h a0 13 28 fun r_1 =>
    nn r_1 fun a_2 =>
    asI h a_2 x1 x2 fun h_3 =>
    rdR h_3 a0 13 29 fun r_4 =>
    rdR h_3 a0 13 38 fun r_5 =>
    nn r_5 fun a_6 =>
    arI h_3 a_6 x2 fun x_7 =>
    nn r_4 fun a_8 =>
    asI h_3 a_8 x1 x_7 fun h_9 =>
    some ((), h_9)
  else
    kg h a0 13 (bd (f_X12_removeLetter a0 x1 h) fun _ h_11 =>
    some ((), h_11)))
set_option maxRecDepth 20000 in
set_option maxHeartbeats 4000000 in
theorem t_X12_take {Ω : Om} (a0 : Nat) (x1 : Int32) (x2 : Int32) (x3 : Int32) (h : AH) (q : Unit × AH) (hf : f_X12_take a0 x1 x2 x3 h = some q) : Go Ω M_X12_take 0 (lv_args 0 [vR Ω (some a0), .int x1, .int x2, .int x3]) [] h none q.2 := by
  unfold f_X12_take at hf
  rw [la_R, la_I, la_I, la_I, la_0]
  refine go_sub (lv' := [(0, vR Ω (some a0)), (1, .int x1), (2, .int x2), (3, .int x3)]) [0, 1, 2, 3] rfl ?_
  refine go_iload_n dX12_take_0 rfl 3 rfl ?_
  refine go_if_eq (tgt := 12) dX12_take_1 (by decide) hf (fun hf => ?_) (fun hf => ?_)
  · refine go_aload_n dX12_take_12 rfl 0 rfl ?_
    refine go_getR dX12_take_13 fl_1147_0 (fun _ _ => rfl) hf (fun r_1 hf => ?_)
    refine go_iload_n dX12_take_16 rfl 1 rfl ?_
    refine go_iload_n dX12_take_17 rfl 2 rfl ?_
    obtain ⟨a_2, rfl, hga_2⟩ := nn_some hf
    have hf := hga_2
    refine go_iastore dX12_take_18 hf (fun h_3 hf => ?_)
    refine go_aload_n dX12_take_19 rfl 0 rfl ?_
    refine go_getR dX12_take_20 fl_1148_0 (fun _ _ => rfl) hf (fun r_4 hf => ?_)
    refine go_iload_n dX12_take_23 rfl 1 rfl ?_
    refine go_aload_n dX12_take_24 rfl 0 rfl ?_
    refine go_getR dX12_take_25 fl_1157_0 (fun _ _ => rfl) hf (fun r_5 hf => ?_)
    refine go_iload_n dX12_take_28 rfl 2 rfl ?_
    obtain ⟨a_6, rfl, hga_6⟩ := nn_some hf
    have hf := hga_6
    refine go_iaload dX12_take_29 hf (fun x_7 hf => ?_)
    obtain ⟨a_8, rfl, hga_8⟩ := nn_some hf
    have hf := hga_8
    refine go_iastore dX12_take_30 hf (fun h_9 hf => ?_)
    exact go_return dX12_take_31 rfl hf
  · refine go_aload_n dX12_take_4 rfl 0 rfl ?_
    refine go_iload_n dX12_take_5 rfl 1 rfl ?_
    obtain ⟨hk, hf⟩ := kg_some hf
    obtain ⟨z_10, hc, hf⟩ := bd_some hf
    refine go_callV (y2 := M_X12_removeLetter) (c2 := 13) dX12_take_6 mo_X12_removeLetter ⟨Nat.le_of_ble_eq_true rfl, Nat.le_of_ble_eq_true rfl⟩ na_X12_removeLetter w1369 w1371 (by decide) rfl w61 hk [.int x1] rfl (n_X12_removeLetter (a0) x1) rfl (csum (Nat.le_of_ble_eq_true rfl)) (t_X12_removeLetter (a0) x1 h _ hc) ?_
    obtain ⟨_, h_11⟩ := z_10
    refine go_goto (tgt := 31) dX12_take_9 (by decide) ?_
    exact go_return dX12_take_31 rfl hf
-- LetterBrokerModel.putShort(I)V
theorem dX12_putShort_0 : decode cX12_putShort 0 = .ok (.aload_n 0, 1) := by decide +kernel
theorem dX12_putShort_1 : decode cX12_putShort 1 = .ok (.iload_n 1, 1) := by decide +kernel
theorem dX12_putShort_2 : decode cX12_putShort 2 = .ok (.bipush 8, 2) := by decide +kernel
theorem dX12_putShort_4 : decode cX12_putShort 4 = .ok (.ishr, 1) := by decide +kernel
theorem dX12_putShort_5 : decode cX12_putShort 5 = .ok (.invokevirtual 157, 3) := by decide +kernel
theorem dX12_putShort_8 : decode cX12_putShort 8 = .ok (.aload_n 0, 1) := by decide +kernel
theorem dX12_putShort_9 : decode cX12_putShort 9 = .ok (.iload_n 1, 1) := by decide +kernel
theorem dX12_putShort_10 : decode cX12_putShort 10 = .ok (.invokevirtual 157, 3) := by decide +kernel
theorem dX12_putShort_13 : decode cX12_putShort 13 = .ok (.return_, 1) := by decide +kernel
def f_X12_putShort (a0 : Nat) (x1 : Int32) (h : AH) : Option (Unit × AH) := kg h a0 13 (bd (f_X12_put a0 (x1 >>> ((8 : Int32) &&& 31)) h) fun _ h_2 =>
  kg h_2 a0 13 (bd (f_X12_put a0 x1 h_2) fun _ h_4 =>
  some ((), h_4)))
set_option maxRecDepth 20000 in
set_option maxHeartbeats 4000000 in
theorem t_X12_putShort {Ω : Om} (a0 : Nat) (x1 : Int32) (h : AH) (q : Unit × AH) (hf : f_X12_putShort a0 x1 h = some q) : Go Ω M_X12_putShort 0 (lv_args 0 [vR Ω (some a0), .int x1]) [] h none q.2 := by
  unfold f_X12_putShort at hf
  rw [la_R, la_I, la_0]
  refine go_sub (lv' := [(0, vR Ω (some a0)), (1, .int x1)]) [0, 1] rfl ?_
  refine go_aload_n dX12_putShort_0 rfl 0 rfl ?_
  refine go_iload_n dX12_putShort_1 rfl 1 rfl ?_
  refine go_bipush 8 dX12_putShort_2 (by decide) ?_
  refine go_ishr dX12_putShort_4 ?_
  obtain ⟨hk, hf⟩ := kg_some hf
  obtain ⟨z_1, hc, hf⟩ := bd_some hf
  refine go_callV (y2 := M_X12_put) (c2 := 13) dX12_putShort_5 mo_X12_put ⟨Nat.le_of_ble_eq_true rfl, Nat.le_of_ble_eq_true rfl⟩ na_X12_put w1333 w1335 (by decide) rfl w52 hk [.int (x1 >>> ((8 : Int32) &&& 31))] rfl (n_X12_put (a0) (x1 >>> ((8 : Int32) &&& 31))) rfl (csum (Nat.le_of_ble_eq_true rfl)) (t_X12_put (a0) (x1 >>> ((8 : Int32) &&& 31)) h _ hc) ?_
  obtain ⟨_, h_2⟩ := z_1
  refine go_aload_n dX12_putShort_8 rfl 0 rfl ?_
  refine go_iload_n dX12_putShort_9 rfl 1 rfl ?_
  obtain ⟨hk, hf⟩ := kg_some hf
  obtain ⟨z_3, hc, hf⟩ := bd_some hf
  refine go_callV (y2 := M_X12_put) (c2 := 13) dX12_putShort_10 mo_X12_put ⟨Nat.le_of_ble_eq_true rfl, Nat.le_of_ble_eq_true rfl⟩ na_X12_put w1333 w1335 (by decide) rfl w52 hk [.int x1] rfl (n_X12_put (a0) x1) rfl (csum (Nat.le_of_ble_eq_true rfl)) (t_X12_put (a0) x1 h_2 _ hc) ?_
  obtain ⟨_, h_4⟩ := z_3
  exact go_return dX12_putShort_13 rfl hf

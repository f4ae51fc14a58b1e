/-! printed by wip/whole/gen: functions and their walks -/
-- LetterBrokerModel.nextTruth()Z
theorem dX12_nextTruth_0 : decode cX12_nextTruth 0 = .ok (.aload_n 0, 1) := by decide +kernel
theorem dX12_nextTruth_1 : decode cX12_nextTruth 1 = .ok (.invokevirtual 311, 3) := by decide +kernel
theorem dX12_nextTruth_4 : decode cX12_nextTruth 4 = .ok (.ifCond .eq 7, 3) := by decide +kernel
theorem dX12_nextTruth_7 : decode cX12_nextTruth 7 = .ok (.iconst 1, 1) := by decide +kernel
theorem dX12_nextTruth_8 : decode cX12_nextTruth 8 = .ok (.goto 4, 3) := by decide +kernel
theorem dX12_nextTruth_11 : decode cX12_nextTruth 11 = .ok (.iconst 0, 1) := by decide +kernel
theorem dX12_nextTruth_12 : decode cX12_nextTruth 12 = .ok (.ireturn, 1) := by decide +kernel
def f_X12_nextTruth (a0 : Nat) (h : AH) : Option (Int32 × AH) := kg h a0 13 (bd (f_X12_next a0 h) fun x_3 h_2 =>
  (if x_3 = 0 then
    rz 0 (some (0, h_2))
  else
    rz 1 (some (1, h_2))))
set_option maxRecDepth 20000 in
set_option maxHeartbeats 4000000 in
theorem t_X12_nextTruth {Ω : Om} (a0 : Nat) (h : AH) (q : Int32 × AH) (hf : f_X12_nextTruth a0 h = some q) : Go Ω M_X12_nextTruth 0 (lv_args 0 [vR Ω (some a0)]) [] h (some (.int q.1)) q.2 := by
  unfold f_X12_nextTruth at hf
  rw [la_R, la_0]
  refine go_sub (lv' := [(0, vR Ω (some a0))]) [0] rfl ?_
  refine go_aload_n dX12_nextTruth_0 rfl 0 rfl ?_
  obtain ⟨hk, hf⟩ := kg_some hf
  obtain ⟨z_1, hc, hf⟩ := bd_some hf
  refine go_callV (y2 := M_X12_next) (c2 := 13) dX12_nextTruth_1 mo_X12_next ⟨Nat.le_of_ble_eq_true rfl, Nat.le_of_ble_eq_true rfl⟩ na_X12_next w1397 w1399 (by decide) rfl w68 hk [] rfl (n_X12_next (a0)) rfl (csum (Nat.le_of_ble_eq_true rfl)) (t_X12_next (a0) h _ hc) ?_
  obtain ⟨x_3, h_2⟩ := z_1
  refine go_if_eq (tgt := 11) dX12_nextTruth_4 (by decide) hf (fun hf => ?_) (fun hf => ?_)
  · refine go_iconst 0 dX12_nextTruth_11 rfl ?_
    exact go_zreturn dX12_nextTruth_12 rfl hf
  · refine go_iconst 1 dX12_nextTruth_7 rfl ?_
    refine go_goto (tgt := 12) dX12_nextTruth_8 (by decide) ?_
    exact go_zreturn dX12_nextTruth_12 rfl hf
-- LetterBrokerModel.removeBinding(I)V
theorem dX12_removeBinding_0 : decode cX12_removeBinding 0 = .ok (.aload_n 0, 1) := by decide +kernel
theorem dX12_removeBinding_1 : decode cX12_removeBinding 1 = .ok (.dup, 1) := by decide +kernel
theorem dX12_removeBinding_2 : decode cX12_removeBinding 2 = .ok (.getfield 222, 3) := by decide +kernel
theorem dX12_removeBinding_5 : decode cX12_removeBinding 5 = .ok (.iconst 1, 1) := by decide +kernel
theorem dX12_removeBinding_6 : decode cX12_removeBinding 6 = .ok (.isub, 1) := by decide +kernel
theorem dX12_removeBinding_7 : decode cX12_removeBinding 7 = .ok (.putfield 222, 3) := by decide +kernel
theorem dX12_removeBinding_10 : decode cX12_removeBinding 10 = .ok (.iload_n 1, 1) := by decide +kernel
theorem dX12_removeBinding_11 : decode cX12_removeBinding 11 = .ok (.istore_n 2, 1) := by decide +kernel
theorem dX12_removeBinding_12 : decode cX12_removeBinding 12 = .ok (.iload_n 2, 1) := by decide +kernel
theorem dX12_removeBinding_13 : decode cX12_removeBinding 13 = .ok (.aload_n 0, 1) := by decide +kernel
theorem dX12_removeBinding_14 : decode cX12_removeBinding 14 = .ok (.getfield 222, 3) := by decide +kernel
theorem dX12_removeBinding_17 : decode cX12_removeBinding 17 = .ok (.if_icmp .ge 51, 3) := by decide +kernel
theorem dX12_removeBinding_20 : decode cX12_removeBinding 20 = .ok (.aload_n 0, 1) := by decide +kernel
theorem dX12_removeBinding_21 : decode cX12_removeBinding 21 = .ok (.getfield 36, 3) := by decide +kernel
theorem dX12_removeBinding_24 : decode cX12_removeBinding 24 = .ok (.iload_n 2, 1) := by decide +kernel
theorem dX12_removeBinding_25 : decode cX12_removeBinding 25 = .ok (.aload_n 0, 1) := by decide +kernel
theorem dX12_removeBinding_26 : decode cX12_removeBinding 26 = .ok (.getfield 36, 3) := by decide +kernel
theorem dX12_removeBinding_29 : decode cX12_removeBinding 29 = .ok (.iload_n 2, 1) := by decide +kernel
theorem dX12_removeBinding_30 : decode cX12_removeBinding 30 = .ok (.iconst 1, 1) := by decide +kernel
theorem dX12_removeBinding_31 : decode cX12_removeBinding 31 = .ok (.iadd, 1) := by decide +kernel
theorem dX12_removeBinding_32 : decode cX12_removeBinding 32 = .ok (.laload, 1) := by decide +kernel
theorem dX12_removeBinding_33 : decode cX12_removeBinding 33 = .ok (.lastore, 1) := by decide +kernel
theorem dX12_removeBinding_34 : decode cX12_removeBinding 34 = .ok (.aload_n 0, 1) := by decide +kernel
theorem dX12_removeBinding_35 : decode cX12_removeBinding 35 = .ok (.getfield 39, 3) := by decide +kernel
theorem dX12_removeBinding_38 : decode cX12_removeBinding 38 = .ok (.iload_n 2, 1) := by decide +kernel
theorem dX12_removeBinding_39 : decode cX12_removeBinding 39 = .ok (.aload_n 0, 1) := by decide +kernel
theorem dX12_removeBinding_40 : decode cX12_removeBinding 40 = .ok (.getfield 39, 3) := by decide +kernel
theorem dX12_removeBinding_43 : decode cX12_removeBinding 43 = .ok (.iload_n 2, 1) := by decide +kernel
theorem dX12_removeBinding_44 : decode cX12_removeBinding 44 = .ok (.iconst 1, 1) := by decide +kernel
theorem dX12_removeBinding_45 : decode cX12_removeBinding 45 = .ok (.iadd, 1) := by decide +kernel
theorem dX12_removeBinding_46 : decode cX12_removeBinding 46 = .ok (.laload, 1) := by decide +kernel
theorem dX12_removeBinding_47 : decode cX12_removeBinding 47 = .ok (.lastore, 1) := by decide +kernel
theorem dX12_removeBinding_48 : decode cX12_removeBinding 48 = .ok (.aload_n 0, 1) := by decide +kernel
theorem dX12_removeBinding_49 : decode cX12_removeBinding 49 = .ok (.getfield 42, 3) := by decide +kernel
theorem dX12_removeBinding_52 : decode cX12_removeBinding 52 = .ok (.iload_n 2, 1) := by decide +kernel
theorem dX12_removeBinding_53 : decode cX12_removeBinding 53 = .ok (.aload_n 0, 1) := by decide +kernel
theorem dX12_removeBinding_54 : decode cX12_removeBinding 54 = .ok (.getfield 42, 3) := by decide +kernel
theorem dX12_removeBinding_57 : decode cX12_removeBinding 57 = .ok (.iload_n 2, 1) := by decide +kernel
theorem dX12_removeBinding_58 : decode cX12_removeBinding 58 = .ok (.iconst 1, 1) := by decide +kernel
theorem dX12_removeBinding_59 : decode cX12_removeBinding 59 = .ok (.iadd, 1) := by decide +kernel
theorem dX12_removeBinding_60 : decode cX12_removeBinding 60 = .ok (.laload, 1) := by decide +kernel
theorem dX12_removeBinding_61 : decode cX12_removeBinding 61 = .ok (.lastore, 1) := by decide +kernel
theorem dX12_removeBinding_62 : decode cX12_removeBinding 62 = .ok (.iinc 2 1, 3) := by decide +kernel
theorem dX12_removeBinding_65 : decode cX12_removeBinding 65 = .ok (.goto (-53), 3) := by decide +kernel
theorem dX12_removeBinding_68 : decode cX12_removeBinding 68 = .ok (.return_, 1) := by decide +kernel
def f_X12_removeBinding_12 : Nat → Nat → Int32 → AH → Option (Unit × AH)
  | 0, _, _, _ => none
  | n + 1, a0, x2, h => rdI h a0 13 13 fun x_1 =>
    (if x_1 ≤ x2 then
      some ((), h)
    else
      rdR h a0 13 14 fun r_2 =>
      rdR h a0 13 14 fun r_3 =>
      nn r_3 fun a_4 =>
      arJ h a_4 (x2 + 1) fun x_5 =>
      nn r_2 fun a_6 =>
      asJ h a_6 x2 x_5 fun h_7 =>
      rdR h_7 a0 13 15 fun r_8 =>
      rdR h_7 a0 13 15 fun r_9 =>
      nn r_9 fun a_10 =>
      arJ h_7 a_10 (x2 + 1) fun x_11 =>
      nn r_8 fun a_12 =>
      asJ h_7 a_12 x2 x_11 fun h_13 =>
      rdR h_13 a0 13 16 fun r_14 =>
      rdR h_13 a0 13 16 fun r_15 =>
      nn r_15 fun a_16 =>
      arJ h_13 a_16 (x2 + 1) fun x_17 =>
      nn r_14 fun a_18 =>
      asJ h_13 a_18 x2 x_17 fun h_19 =>
      f_X12_removeBinding_12 n a0 (x2 + 1) h_19)
set_option maxRecDepth 20000 in
set_option maxHeartbeats 4000000 in
theorem t_X12_removeBinding_12 {Ω : Om} : ∀ (n : Nat) (a0 : Nat) (x2 : Int32) (h : AH) (q : Unit × AH), f_X12_removeBinding_12 n a0 x2 h = some q → Go Ω M_X12_removeBinding 12 [(0, vR Ω (some a0)), (2, .int x2)] [] h none q.2 := by
  intro n
  induction n with
  | zero => intro a0 x2 h q hf; cases hf
  | succ n ih =>
    intro a0 x2 h q hf
    rw [f_X12_removeBinding_12] at hf
    refine go_iload_n dX12_removeBinding_12 rfl 1 rfl ?_
    refine go_aload_n dX12_removeBinding_13 rfl 0 rfl ?_
    refine go_getI dX12_removeBinding_14 fl_1132_0 (fun _ _ => rfl) hf (fun x_1 hf => ?_)
    refine go_icmp_ge (tgt := 68) dX12_removeBinding_17 (by decide) hf (fun hf => ?_) (fun hf => ?_)
    · exact go_return dX12_removeBinding_68 rfl hf
    · refine go_aload_n dX12_removeBinding_20 rfl 0 rfl ?_
      refine go_getR dX12_removeBinding_21 fl_1133_0 (fun _ _ => rfl) hf (fun r_2 hf => ?_)
      refine go_iload_n dX12_removeBinding_24 rfl 1 rfl ?_
      refine go_aload_n dX12_removeBinding_25 rfl 0 rfl ?_
      refine go_getR dX12_removeBinding_26 fl_1133_0 (fun _ _ => rfl) hf (fun r_3 hf => ?_)
      refine go_iload_n dX12_removeBinding_29 rfl 1 rfl ?_
      refine go_iconst 1 dX12_removeBinding_30 rfl ?_
      refine go_iadd dX12_removeBinding_31 ?_
      obtain ⟨a_4, rfl, hga_4⟩ := nn_some hf
      have hf := hga_4
      refine go_laload dX12_removeBinding_32 hf (fun x_5 hf => ?_)
      obtain ⟨a_6, rfl, hga_6⟩ := nn_some hf
      have hf := hga_6
      refine go_lastore dX12_removeBinding_33 hf (fun h_7 hf => ?_)
      refine go_aload_n dX12_removeBinding_34 rfl 0 rfl ?_
      refine go_getR dX12_removeBinding_35 fl_1134_0 (fun _ _ => rfl) hf (fun r_8 hf => ?_)
      refine go_iload_n dX12_removeBinding_38 rfl 1 rfl ?_
      refine go_aload_n dX12_removeBinding_39 rfl 0 rfl ?_
      refine go_getR dX12_removeBinding_40 fl_1134_0 (fun _ _ => rfl) hf (fun r_9 hf => ?_)
      refine go_iload_n dX12_removeBinding_43 rfl 1 rfl ?_
      refine go_iconst 1 dX12_removeBinding_44 rfl ?_
      refine go_iadd dX12_removeBinding_45 ?_
      obtain ⟨a_10, rfl, hga_10⟩ := nn_some hf
      have hf := hga_10
      refine go_laload dX12_removeBinding_46 hf (fun x_11 hf => ?_)
      obtain ⟨a_12, rfl, hga_12⟩ := nn_some hf
      have hf := hga_12
      refine go_lastore dX12_removeBinding_47 hf (fun h_13 hf => ?_)
      refine go_aload_n dX12_removeBinding_48 rfl 0 rfl ?_
      refine go_getR dX12_removeBinding_49 fl_1135_0 (fun _ _ => rfl) hf (fun r_14 hf => ?_)
      refine go_iload_n dX12_removeBinding_52 rfl 1 rfl ?_
      refine go_aload_n dX12_removeBinding_53 rfl 0 rfl ?_
      refine go_getR dX12_removeBinding_54 fl_1135_0 (fun _ _ => rfl) hf (fun r_15 hf => ?_)
      refine go_iload_n dX12_removeBinding_57 rfl 1 rfl ?_
      refine go_iconst 1 dX12_removeBinding_58 rfl ?_
      refine go_iadd dX12_removeBinding_59 ?_
      obtain ⟨a_16, rfl, hga_16⟩ := nn_some hf
      have hf := hga_16
      refine go_laload dX12_removeBinding_60 hf (fun x_17 hf => ?_)
      obtain ⟨a_18, rfl, hga_18⟩ := nn_some hf
      have hf := hga_18
      refine go_lastore dX12_removeBinding_61 hf (fun h_19 hf => ?_)
      refine go_iinc (j := 1) (v := x2 + 1) (lv' := [(2, .int (x2 + 1)), (0, vR Ω (some a0))]) dX12_removeBinding_62 rfl rfl (by decide) (by first | rfl | simp [catR, catI, catJ]) ?_
      refine go_goto (tgt := 12) dX12_removeBinding_65 (by decide) ?_
      refine go_sub (lv' := [(0, vR Ω (some a0)), (2, .int (x2 + 1))]) [1, 0] rfl ?_
      exact ih a0 (x2 + 1) h_19 q hf
def f_X12_removeBinding (a0 : Nat) (x1 : Int32) (h : AH) : Option (Unit × AH) := rdI h a0 13 13 fun x_1 =>
  wrI h a0 13 13 (x_1 - 1) fun h_2 =>
  f_X12_removeBinding_12 FU a0 x1 h_2
set_option maxRecDepth 20000 in
set_option maxHeartbeats 4000000 in
theorem t_X12_removeBinding {Ω : Om} (a0 : Nat) (x1 : Int32) (h : AH) (q : Unit × AH) (hf : f_X12_removeBinding a0 x1 h = some q) : Go Ω M_X12_removeBinding 0 (lv_args 0 [vR Ω (some a0), .int x1]) [] h none q.2 := by
  unfold f_X12_removeBinding at hf
  rw [la_R, la_I, la_0]
  refine go_sub (lv' := [(0, vR Ω (some a0)), (1, .int x1)]) [0, 1] rfl ?_
  refine go_aload_n dX12_removeBinding_0 rfl 0 rfl ?_
  refine go_dup dX12_removeBinding_1 catR ?_
  refine go_getI dX12_removeBinding_2 fl_1132_0 (fun _ _ => rfl) hf (fun x_1 hf => ?_)
  refine go_iconst 1 dX12_removeBinding_5 rfl ?_
  refine go_isub dX12_removeBinding_6 ?_
  refine go_putI dX12_removeBinding_7 fl_1132_0 (fun q hq => by cases hq; exact Or.inl rfl) (fun _ _ => rfl) rfl hf (fun h_2 hf => ?_)
  refine go_iload_n dX12_removeBinding_10 rfl 1 rfl ?_
  refine go_istore_n (i := 2) (lv' := [(2, .int x1), (0, vR Ω (some a0)), (1, .int x1)]) dX12_removeBinding_11 rfl (by decide) (by first | rfl | simp [catR, catI, catJ]) ?_
  refine go_sub (lv' := [(0, vR Ω (some a0)), (2, .int x1)]) [1, 0] rfl ?_
  exact t_X12_removeBinding_12 FU a0 x1 h_2 q hf
-- LetterBrokerModel.removeExchange(I)V
theorem dX12_removeExchange_0 : decode cX12_removeExchange 0 = .ok (.aload_n 0, 1) := by decide +kernel
theorem dX12_removeExchange_1 : decode cX12_removeExchange 1 = .ok (.getfield 222, 3) := by decide +kernel
theorem dX12_removeExchange_4 : decode cX12_removeExchange 4 = .ok (.iconst 1, 1) := by decide +kernel
theorem dX12_removeExchange_5 : decode cX12_removeExchange 5 = .ok (.isub, 1) := by decide +kernel
theorem dX12_removeExchange_6 : decode cX12_removeExchange 6 = .ok (.istore_n 2, 1) := by decide +kernel
theorem dX12_removeExchange_7 : decode cX12_removeExchange 7 = .ok (.iload_n 2, 1) := by decide +kernel
theorem dX12_removeExchange_8 : decode cX12_removeExchange 8 = .ok (.ifCond .lt 30, 3) := by decide +kernel
theorem dX12_removeExchange_11 : decode cX12_removeExchange 11 = .ok (.aload_n 0, 1) := by decide +kernel
theorem dX12_removeExchange_12 : decode cX12_removeExchange 12 = .ok (.getfield 39, 3) := by decide +kernel
theorem dX12_removeExchange_15 : decode cX12_removeExchange 15 = .ok (.iload_n 2, 1) := by decide +kernel
theorem dX12_removeExchange_16 : decode cX12_removeExchange 16 = .ok (.laload, 1) := by decide +kernel
theorem dX12_removeExchange_17 : decode cX12_removeExchange 17 = .ok (.aload_n 0, 1) := by decide +kernel
theorem dX12_removeExchange_18 : decode cX12_removeExchange 18 = .ok (.getfield 20, 3) := by decide +kernel
theorem dX12_removeExchange_21 : decode cX12_removeExchange 21 = .ok (.iload_n 1, 1) := by decide +kernel
theorem dX12_removeExchange_22 : decode cX12_removeExchange 22 = .ok (.laload, 1) := by decide +kernel
theorem dX12_removeExchange_23 : decode cX12_removeExchange 23 = .ok (.lcmp, 1) := by decide +kernel
theorem dX12_removeExchange_24 : decode cX12_removeExchange 24 = .ok (.ifCond .ne 8, 3) := by decide +kernel
theorem dX12_removeExchange_27 : decode cX12_removeExchange 27 = .ok (.aload_n 0, 1) := by decide +kernel
theorem dX12_removeExchange_28 : decode cX12_removeExchange 28 = .ok (.iload_n 2, 1) := by decide +kernel
theorem dX12_removeExchange_29 : decode cX12_removeExchange 29 = .ok (.invokevirtual 339, 3) := by decide +kernel
theorem dX12_removeExchange_32 : decode cX12_removeExchange 32 = .ok (.iinc 2 (-1), 3) := by decide +kernel
theorem dX12_removeExchange_35 : decode cX12_removeExchange 35 = .ok (.goto (-28), 3) := by decide +kernel
theorem dX12_removeExchange_38 : decode cX12_removeExchange 38 = .ok (.aload_n 0, 1) := by decide +kernel
theorem dX12_removeExchange_39 : decode cX12_removeExchange 39 = .ok (.dup, 1) := by decide +kernel
theorem dX12_removeExchange_40 : decode cX12_removeExchange 40 = .ok (.getfield 16, 3) := by decide +kernel
theorem dX12_removeExchange_43 : decode cX12_removeExchange 43 = .ok (.iconst 1, 1) := by decide +kernel
theorem dX12_removeExchange_44 : decode cX12_removeExchange 44 = .ok (.isub, 1) := by decide +kernel
theorem dX12_removeExchange_45 : decode cX12_removeExchange 45 = .ok (.putfield 16, 3) := by decide +kernel
theorem dX12_removeExchange_48 : decode cX12_removeExchange 48 = .ok (.iload_n 1, 1) := by decide +kernel
theorem dX12_removeExchange_49 : decode cX12_removeExchange 49 = .ok (.istore_n 2, 1) := by decide +kernel
theorem dX12_removeExchange_50 : decode cX12_removeExchange 50 = .ok (.iload_n 2, 1) := by decide +kernel
theorem dX12_removeExchange_51 : decode cX12_removeExchange 51 = .ok (.aload_n 0, 1) := by decide +kernel
theorem dX12_removeExchange_52 : decode cX12_removeExchange 52 = .ok (.getfield 16, 3) := by decide +kernel
theorem dX12_removeExchange_55 : decode cX12_removeExchange 55 = .ok (.if_icmp .ge 37, 3) := by decide +kernel
theorem dX12_removeExchange_58 : decode cX12_removeExchange 58 = .ok (.aload_n 0, 1) := by decide +kernel
theorem dX12_removeExchange_59 : decode cX12_removeExchange 59 = .ok (.getfield 20, 3) := by decide +kernel
theorem dX12_removeExchange_62 : decode cX12_removeExchange 62 = .ok (.iload_n 2, 1) := by decide +kernel
theorem dX12_removeExchange_63 : decode cX12_removeExchange 63 = .ok (.aload_n 0, 1) := by decide +kernel
theorem dX12_removeExchange_64 : decode cX12_removeExchange 64 = .ok (.getfield 20, 3) := by decide +kernel
theorem dX12_removeExchange_67 : decode cX12_removeExchange 67 = .ok (.iload_n 2, 1) := by decide +kernel
theorem dX12_removeExchange_68 : decode cX12_removeExchange 68 = .ok (.iconst 1, 1) := by decide +kernel
theorem dX12_removeExchange_69 : decode cX12_removeExchange 69 = .ok (.iadd, 1) := by decide +kernel
theorem dX12_removeExchange_70 : decode cX12_removeExchange 70 = .ok (.laload, 1) := by decide +kernel
theorem dX12_removeExchange_71 : decode cX12_removeExchange 71 = .ok (.lastore, 1) := by decide +kernel
theorem dX12_removeExchange_72 : decode cX12_removeExchange 72 = .ok (.aload_n 0, 1) := by decide +kernel
theorem dX12_removeExchange_73 : decode cX12_removeExchange 73 = .ok (.getfield 24, 3) := by decide +kernel
theorem dX12_removeExchange_76 : decode cX12_removeExchange 76 = .ok (.iload_n 2, 1) := by decide +kernel
theorem dX12_removeExchange_77 : decode cX12_removeExchange 77 = .ok (.aload_n 0, 1) := by decide +kernel
theorem dX12_removeExchange_78 : decode cX12_removeExchange 78 = .ok (.getfield 24, 3) := by decide +kernel
theorem dX12_removeExchange_81 : decode cX12_removeExchange 81 = .ok (.iload_n 2, 1) := by decide +kernel
theorem dX12_removeExchange_82 : decode cX12_removeExchange 82 = .ok (.iconst 1, 1) := by decide +kernel
theorem dX12_removeExchange_83 : decode cX12_removeExchange 83 = .ok (.iadd, 1) := by decide +kernel
theorem dX12_removeExchange_84 : decode cX12_removeExchange 84 = .ok (.iaload, 1) := by decide +kernel
theorem dX12_removeExchange_85 : decode cX12_removeExchange 85 = .ok (.iastore, 1) := by decide +kernel
theorem dX12_removeExchange_86 : decode cX12_removeExchange 86 = .ok (.iinc 2 1, 3) := by decide +kernel
theorem dX12_removeExchange_89 : decode cX12_removeExchange 89 = .ok (.goto (-39), 3) := by decide +kernel
theorem dX12_removeExchange_92 : decode cX12_removeExchange 92 = .ok (.return_, 1) := by decide +kernel
def f_X12_removeExchange_32 (k7 : Nat → Int32 → Int32 → AH → Option (Unit × AH)) (a0 : Nat) (x1 : Int32) (x2 : Int32) (h : AH) : Option (Unit × AH) := k7 a0 x1 (x2 + (-1)) h
set_option maxRecDepth 20000 in
set_option maxHeartbeats 4000000 in
theorem t_X12_removeExchange_32 {Ω : Om} {k7 : Nat → Int32 → Int32 → AH → Option (Unit × AH)} (c7 : ∀ (a0 : Nat) (x1 : Int32) (x2 : Int32) (h : AH) (q : Unit × AH), k7 a0 x1 x2 h = some q → Go Ω M_X12_removeExchange 7 [(0, vR Ω (some a0)), (1, .int x1), (2, .int x2)] [] h none q.2) (a0 : Nat) (x1 : Int32) (x2 : Int32) (h : AH) (q : Unit × AH) (hf : f_X12_removeExchange_32 k7 a0 x1 x2 h = some q) : Go Ω M_X12_removeExchange 32 [(0, vR Ω (some a0)), (1, .int x1), (2, .int x2)] [] h none q.2 := by
  unfold f_X12_removeExchange_32 at hf
  refine go_iinc (j := 2) (v := x2 + (-1)) (lv' := [(2, .int (x2 + (-1))), (0, vR Ω (some a0)), (1, .int x1)]) dX12_removeExchange_32 rfl rfl (by decide) (by first | rfl | simp [catR, catI, catJ]) ?_
  refine go_goto (tgt := 7) dX12_removeExchange_35 (by decide) ?_
  refine go_sub (lv' := [(0, vR Ω (some a0)), (1, .int x1), (2, .int (x2 + (-1)))]) [1, 2, 0] rfl ?_
  exact c7 a0 x1 (x2 + (-1)) h q hf
def f_X12_removeExchange_50 : Nat → Nat → Int32 → AH → Option (Unit × AH)
  | 0, _, _, _ => none
  | n + 1, a0, x2, h => rdI h a0 13 5 fun x_1 =>
    (if x_1 ≤ x2 then
      some ((), h)
    else
      rdR h a0 13 6 fun r_2 =>
      rdR h a0 13 6 fun r_3 =>
      nn r_3 fun a_4 =>
      arJ h a_4 (x2 + 1) fun x_5 =>
      nn r_2 fun a_6 =>
      asJ h a_6 x2 x_5 fun h_7 =>
      rdR h_7 a0 13 7 fun r_8 =>
      rdR h_7 a0 13 7 fun r_9 =>
      nn r_9 fun a_10 =>
      arI h_7 a_10 (x2 + 1) fun x_11 =>
      nn r_8 fun a_12 =>
      asI h_7 a_12 x2 x_11 fun h_13 =>
      f_X12_removeExchange_50 n a0 (x2 + 1) h_13)
set_option maxRecDepth 20000 in
set_option maxHeartbeats 4000000 in
theorem t_X12_removeExchange_50 {Ω : Om} : ∀ (n : Nat) (a0 : Nat) (x2 : Int32) (h : AH) (q : Unit × AH), f_X12_removeExchange_50 n a0 x2 h = some q → Go Ω M_X12_removeExchange 50 [(0, vR Ω (some a0)), (2, .int x2)] [] h none q.2 := by
  intro n
  induction n with
  | zero => intro a0 x2 h q hf; cases hf
  | succ n ih =>
    intro a0 x2 h q hf
    rw [f_X12_removeExchange_50] at hf
    refine go_iload_n dX12_removeExchange_50 rfl 1 rfl ?_
    refine go_aload_n dX12_removeExchange_51 rfl 0 rfl ?_
    refine go_getI dX12_removeExchange_52 fl_1124_0 (fun _ _ => rfl) hf (fun x_1 hf => ?_)
    refine go_icmp_ge (tgt := 92) dX12_removeExchange_55 (by decide) hf (fun hf => ?_) (fun hf => ?_)
    · exact go_return dX12_removeExchange_92 rfl hf
    · refine go_aload_n dX12_removeExchange_58 rfl 0 rfl ?_
      refine go_getR dX12_removeExchange_59 fl_1125_0 (fun _ _ => rfl) hf (fun r_2 hf => ?_)
      refine go_iload_n dX12_removeExchange_62 rfl 1 rfl ?_
      refine go_aload_n dX12_removeExchange_63 rfl 0 rfl ?_
      refine go_getR dX12_removeExchange_64 fl_1125_0 (fun _ _ => rfl) hf (fun r_3 hf => ?_)
      refine go_iload_n dX12_removeExchange_67 rfl 1 rfl ?_
      refine go_iconst 1 dX12_removeExchange_68 rfl ?_
      refine go_iadd dX12_removeExchange_69 ?_
      obtain ⟨a_4, rfl, hga_4⟩ := nn_some hf
      have hf := hga_4
      refine go_laload dX12_removeExchange_70 hf (fun x_5 hf => ?_)
      obtain ⟨a_6, rfl, hga_6⟩ := nn_some hf
      have hf := hga_6
      refine go_lastore dX12_removeExchange_71 hf (fun h_7 hf => ?_)
      refine go_aload_n dX12_removeExchange_72 rfl 0 rfl ?_
      refine go_getR dX12_removeExchange_73 fl_1126_0 (fun _ _ => rfl) hf (fun r_8 hf => ?_)
      refine go_iload_n dX12_removeExchange_76 rfl 1 rfl ?_
      refine go_aload_n dX12_removeExchange_77 rfl 0 rfl ?_
      refine go_getR dX12_removeExchange_78 fl_1126_0 (fun _ _ => rfl) hf (fun r_9 hf => ?_)
      refine go_iload_n dX12_removeExchange_81 rfl 1 rfl ?_
      refine go_iconst 1 dX12_removeExchange_82 rfl ?_
      refine go_iadd dX12_removeExchange_83 ?_
      obtain ⟨a_10, rfl, hga_10⟩ := nn_some hf
      have hf := hga_10
      refine go_iaload dX12_removeExchange_84 hf (fun x_11 hf => ?_)
      obtain ⟨a_12, rfl, hga_12⟩ := nn_some hf
      have hf := hga_12
      refine go_iastore dX12_removeExchange_85 hf (fun h_13 hf => ?_)
      refine go_iinc (j := 1) (v := x2 + 1) (lv' := [(2, .int (x2 + 1)), (0, vR Ω (some a0))]) dX12_removeExchange_86 rfl rfl (by decide) (by first | rfl | simp [catR, catI, catJ]) ?_
      refine go_goto (tgt := 50) dX12_removeExchange_89 (by decide) ?_
      refine go_sub (lv' := [(0, vR Ω (some a0)), (2, .int (x2 + 1))]) [1, 0] rfl ?_
      exact ih a0 (x2 + 1) h_13 q hf
def f_X12_removeExchange_38 (a0 : Nat) (x1 : Int32) (h : AH) : Option (Unit × AH) := rdI h a0 13 5 fun x_1 =>
  wrI h a0 13 5 (x_1 - 1) fun h_2 =>
  f_X12_removeExchange_50 FU a0 x1 h_2
set_option maxRecDepth 20000 in
set_option maxHeartbeats 4000000 in
theorem t_X12_removeExchange_38 {Ω : Om} (a0 : Nat) (x1 : Int32) (h : AH) (q : Unit × AH) (hf : f_X12_removeExchange_38 a0 x1 h = some q) : Go Ω M_X12_removeExchange 38 [(0, vR Ω (some a0)), (1, .int x1)] [] h none q.2 := by
  unfold f_X12_removeExchange_38 at hf
  refine go_aload_n dX12_removeExchange_38 rfl 0 rfl ?_
  refine go_dup dX12_removeExchange_39 catR ?_
  refine go_getI dX12_removeExchange_40 fl_1124_0 (fun _ _ => rfl) hf (fun x_1 hf => ?_)
  refine go_iconst 1 dX12_removeExchange_43 rfl ?_
  refine go_isub dX12_removeExchange_44 ?_
  refine go_putI dX12_removeExchange_45 fl_1124_0 (fun q hq => by cases hq; exact Or.inl rfl) (fun _ _ => rfl) rfl hf (fun h_2 hf => ?_)
  refine go_iload_n dX12_removeExchange_48 rfl 1 rfl ?_
  refine go_istore_n (i := 2) (lv' := [(2, .int x1), (0, vR Ω (some a0)), (1, .int x1)]) dX12_removeExchange_49 rfl (by decide) (by first | rfl | simp [catR, catI, catJ]) ?_
  refine go_sub (lv' := [(0, vR Ω (some a0)), (2, .int x1)]) [1, 0] rfl ?_
  exact t_X12_removeExchange_50 FU a0 x1 h_2 q hf
def f_X12_removeExchange_7 : Nat → Nat → Int32 → Int32 → AH → Option (Unit × AH)
  | 0, _, _, _, _ => none
  | n + 1, a0, x1, x2, h => (if x2 < 0 then
      f_X12_removeExchange_38 a0 x1 h
    else
      rdR h a0 13 15 fun r_1 =>
      nn r_1 fun a_2 =>
      arJ h a_2 x2 fun x_3 =>
      rdR h a0 13 6 fun r_4 =>
      nn r_4 fun a_5 =>
      arJ h a_5 x1 fun x_6 =>
      (if (lg_cmp x_3 x_6) = 0 then
        kg h a0 13 (bd (f_X12_removeBinding a0 x2 h) fun _ h_8 =>
        f_X12_removeExchange_32 (fun a0 x1 x2 h => f_X12_removeExchange_7 n a0 x1 x2 h) a0 x1 x2 h_8)
      else
        f_X12_removeExchange_32 (fun a0 x1 x2 h => f_X12_removeExchange_7 n a0 x1 x2 h) a0 x1 x2 h))
set_option maxRecDepth 20000 in
set_option maxHeartbeats 4000000 in
theorem t_X12_removeExchange_7 {Ω : Om} : ∀ (n : Nat) (a0 : Nat) (x1 : Int32) (x2 : Int32) (h : AH) (q : Unit × AH), f_X12_removeExchange_7 n a0 x1 x2 h = some q → Go Ω M_X12_removeExchange 7 [(0, vR Ω (some a0)), (1, .int x1), (2, .int x2)] [] h none q.2 := by
  intro n
  induction n with
  | zero => intro a0 x1 x2 h q hf; cases hf
  | succ n ih =>
    intro a0 x1 x2 h q hf
    rw [f_X12_removeExchange_7] at hf
    refine go_iload_n dX12_removeExchange_7 rfl 2 rfl ?_
    refine go_if_lt (tgt := 38) dX12_removeExchange_8 (by decide) hf (fun hf => ?_) (fun hf => ?_)
    · refine go_sub (lv' := [(0, vR Ω (some a0)), (1, .int x1)]) [0, 1] rfl ?_
      exact t_X12_removeExchange_38 a0 x1 h q hf
    · refine go_aload_n dX12_removeExchange_11 rfl 0 rfl ?_
      refine go_getR dX12_removeExchange_12 fl_1134_0 (fun _ _ => rfl) hf (fun r_1 hf => ?_)
      refine go_iload_n dX12_removeExchange_15 rfl 2 rfl ?_
      obtain ⟨a_2, rfl, hga_2⟩ := nn_some hf
      have hf := hga_2
      refine go_laload dX12_removeExchange_16 hf (fun x_3 hf => ?_)
      refine go_aload_n dX12_removeExchange_17 rfl 0 rfl ?_
      refine go_getR dX12_removeExchange_18 fl_1125_0 (fun _ _ => rfl) hf (fun r_4 hf => ?_)
      refine go_iload_n dX12_removeExchange_21 rfl 1 rfl ?_
      obtain ⟨a_5, rfl, hga_5⟩ := nn_some hf
      have hf := hga_5
      refine go_laload dX12_removeExchange_22 hf (fun x_6 hf => ?_)
      refine go_lcmp dX12_removeExchange_23 ?_
      refine go_if_ne (tgt := 32) dX12_removeExchange_24 (by decide) hf (fun hf => ?_) (fun hf => ?_)
      · refine go_sub (lv' := [(0, vR Ω (some a0)), (1, .int x1), (2, .int x2)]) [0, 1, 2] rfl ?_
        exact t_X12_removeExchange_32 ih a0 x1 x2 h q hf
      · refine go_aload_n dX12_removeExchange_27 rfl 0 rfl ?_
        refine go_iload_n dX12_removeExchange_28 rfl 2 rfl ?_
        obtain ⟨hk, hf⟩ := kg_some hf
        obtain ⟨z_7, hc, hf⟩ := bd_some hf
        refine go_callV (y2 := M_X12_removeBinding) (c2 := 13) dX12_removeExchange_29 mo_X12_removeBinding ⟨Nat.le_of_ble_eq_true rfl, Nat.le_of_ble_eq_true rfl⟩ na_X12_removeBinding w1444 w1446 (by decide) rfl w79 hk [.int x2] rfl (n_X12_removeBinding (a0) x2) rfl (csum (Nat.le_of_ble_eq_true rfl)) (t_X12_removeBinding (a0) x2 h _ hc) ?_
        obtain ⟨_, h_8⟩ := z_7
        refine go_sub (lv' := [(0, vR Ω (some a0)), (1, .int x1), (2, .int x2)]) [0, 1, 2] rfl ?_
        exact t_X12_removeExchange_32 ih a0 x1 x2 h_8 q hf
def f_X12_removeExchange (a0 : Nat) (x1 : Int32) (h : AH) : Option (Unit × AH) := rdI h a0 13 13 fun x_1 =>
  lt (x_1 - 1) fun x_2 =>
  f_X12_removeExchange_7 FU a0 x1 x_2 h
set_option maxRecDepth 20000 in
set_option maxHeartbeats 4000000 in
theorem t_X12_removeExchange {Ω : Om} (a0 : Nat) (x1 : Int32) (h : AH) (q : Unit × AH) (hf : f_X12_removeExchange a0 x1 h = some q) : Go Ω M_X12_removeExchange 0 (lv_args 0 [vR Ω (some a0), .int x1]) [] h none q.2 := by
  unfold f_X12_removeExchange at hf
  rw [la_R, la_I, la_0]
  refine go_sub (lv' := [(0, vR Ω (some a0)), (1, .int x1)]) [0, 1] rfl ?_
  refine go_aload_n dX12_removeExchange_0 rfl 0 rfl ?_
  refine go_getI dX12_removeExchange_1 fl_1132_0 (fun _ _ => rfl) hf (fun x_1 hf => ?_)
  refine go_iconst 1 dX12_removeExchange_4 rfl ?_
  refine go_isub dX12_removeExchange_5 ?_
  refine lt_I hf (fun x_2 hf => ?_)
  refine go_istore_n (i := 2) (lv' := [(2, .int x_2), (0, vR Ω (some a0)), (1, .int x1)]) dX12_removeExchange_6 rfl (by decide) (by first | rfl | simp [catR, catI, catJ]) ?_
  refine go_sub (lv' := [(0, vR Ω (some a0)), (1, .int x1), (2, .int x_2)]) [1, 2, 0] rfl ?_
  exact t_X12_removeExchange_7 FU a0 x1 x_2 h q hf
-- LetterBrokerModel.exchangeMethod(I)V
theorem dX12_exchangeMethod_0 : decode cX12_exchangeMethod 0 = .ok (.aload_n 0, 1) := by decide +kernel
theorem dX12_exchangeMethod_1 : decode cX12_exchangeMethod 1 = .ok (.getfield 318, 3) := by decide +kernel
theorem dX12_exchangeMethod_4 : decode cX12_exchangeMethod 4 = .ok (.istore_n 2, 1) := by decide +kernel
theorem dX12_exchangeMethod_5 : decode cX12_exchangeMethod 5 = .ok (.aload_n 0, 1) := by decide +kernel
theorem dX12_exchangeMethod_6 : decode cX12_exchangeMethod 6 = .ok (.invokevirtual 321, 3) := by decide +kernel
theorem dX12_exchangeMethod_9 : decode cX12_exchangeMethod 9 = .ok (.lstore_n 3, 1) := by decide +kernel
theorem dX12_exchangeMethod_10 : decode cX12_exchangeMethod 10 = .ok (.iload_n 1, 1) := by decide +kernel
theorem dX12_exchangeMethod_11 : decode cX12_exchangeMethod 11 = .ok (.bipush 10, 2) := by decide +kernel
theorem dX12_exchangeMethod_13 : decode cX12_exchangeMethod 13 = .ok (.if_icmp .ne 10, 3) := by decide +kernel
theorem dX12_exchangeMethod_16 : decode cX12_exchangeMethod 16 = .ok (.aload_n 0, 1) := by decide +kernel
theorem dX12_exchangeMethod_17 : decode cX12_exchangeMethod 17 = .ok (.invokevirtual 311, 3) := by decide +kernel
theorem dX12_exchangeMethod_20 : decode cX12_exchangeMethod 20 = .ok (.goto 4, 3) := by decide +kernel
theorem dX12_exchangeMethod_23 : decode cX12_exchangeMethod 23 = .ok (.iconst 0, 1) := by decide +kernel
theorem dX12_exchangeMethod_24 : decode cX12_exchangeMethod 24 = .ok (.istore 5, 2) := by decide +kernel
theorem dX12_exchangeMethod_26 : decode cX12_exchangeMethod 26 = .ok (.aload_n 0, 1) := by decide +kernel
theorem dX12_exchangeMethod_27 : decode cX12_exchangeMethod 27 = .ok (.aload_n 0, 1) := by decide +kernel
theorem dX12_exchangeMethod_28 : decode cX12_exchangeMethod 28 = .ok (.getfield 307, 3) := by decide +kernel
theorem dX12_exchangeMethod_31 : decode cX12_exchangeMethod 31 = .ok (.ifCond .ne 9, 3) := by decide +kernel
theorem dX12_exchangeMethod_34 : decode cX12_exchangeMethod 34 = .ok (.iload 5, 2) := by decide +kernel
theorem dX12_exchangeMethod_36 : decode cX12_exchangeMethod 36 = .ok (.iconst 2, 1) := by decide +kernel
theorem dX12_exchangeMethod_37 : decode cX12_exchangeMethod 37 = .ok (.if_icmp .le 7, 3) := by decide +kernel
theorem dX12_exchangeMethod_40 : decode cX12_exchangeMethod 40 = .ok (.iconst 1, 1) := by decide +kernel
theorem dX12_exchangeMethod_41 : decode cX12_exchangeMethod 41 = .ok (.goto 4, 3) := by decide +kernel
theorem dX12_exchangeMethod_44 : decode cX12_exchangeMethod 44 = .ok (.iconst 0, 1) := by decide +kernel
theorem dX12_exchangeMethod_45 : decode cX12_exchangeMethod 45 = .ok (.putfield 307, 3) := by decide +kernel
theorem dX12_exchangeMethod_48 : decode cX12_exchangeMethod 48 = .ok (.aload_n 0, 1) := by decide +kernel
theorem dX12_exchangeMethod_49 : decode cX12_exchangeMethod 49 = .ok (.invokevirtual 325, 3) := by decide +kernel
theorem dX12_exchangeMethod_52 : decode cX12_exchangeMethod 52 = .ok (.istore 6, 2) := by decide +kernel
theorem dX12_exchangeMethod_54 : decode cX12_exchangeMethod 54 = .ok (.aload_n 0, 1) := by decide +kernel
theorem dX12_exchangeMethod_55 : decode cX12_exchangeMethod 55 = .ok (.invokevirtual 329, 3) := by decide +kernel
theorem dX12_exchangeMethod_58 : decode cX12_exchangeMethod 58 = .ok (.ifCond .ne 4, 3) := by decide +kernel
theorem dX12_exchangeMethod_61 : decode cX12_exchangeMethod 61 = .ok (.return_, 1) := by decide +kernel
theorem dX12_exchangeMethod_62 : decode cX12_exchangeMethod 62 = .ok (.aload_n 0, 1) := by decide +kernel
theorem dX12_exchangeMethod_63 : decode cX12_exchangeMethod 63 = .ok (.lload_n 3, 1) := by decide +kernel
theorem dX12_exchangeMethod_64 : decode cX12_exchangeMethod 64 = .ok (.invokevirtual 245, 3) := by decide +kernel
theorem dX12_exchangeMethod_67 : decode cX12_exchangeMethod 67 = .ok (.istore 7, 2) := by decide +kernel
theorem dX12_exchangeMethod_69 : decode cX12_exchangeMethod 69 = .ok (.iload_n 1, 1) := by decide +kernel
theorem dX12_exchangeMethod_70 : decode cX12_exchangeMethod 70 = .ok (.bipush 10, 2) := by decide +kernel
theorem dX12_exchangeMethod_72 : decode cX12_exchangeMethod 72 = .ok (.if_icmp .ne 140, 3) := by decide +kernel
theorem dX12_exchangeMethod_75 : decode cX12_exchangeMethod 75 = .ok (.iload 6, 2) := by decide +kernel
theorem dX12_exchangeMethod_77 : decode cX12_exchangeMethod 77 = .ok (.ifCond .eq 19, 3) := by decide +kernel
theorem dX12_exchangeMethod_80 : decode cX12_exchangeMethod 80 = .ok (.iload 7, 2) := by decide +kernel
theorem dX12_exchangeMethod_82 : decode cX12_exchangeMethod 82 = .ok (.ifCond .ge 14, 3) := by decide +kernel
theorem dX12_exchangeMethod_85 : decode cX12_exchangeMethod 85 = .ok (.aload_n 0, 1) := by decide +kernel
theorem dX12_exchangeMethod_86 : decode cX12_exchangeMethod 86 = .ok (.iload_n 2, 1) := by decide +kernel
theorem dX12_exchangeMethod_87 : decode cX12_exchangeMethod 87 = .ok (.sipush 404, 3) := by decide +kernel
theorem dX12_exchangeMethod_90 : decode cX12_exchangeMethod 90 = .ok (.invokevirtual 252, 3) := by decide +kernel
theorem dX12_exchangeMethod_93 : decode cX12_exchangeMethod 93 = .ok (.goto 118, 3) := by decide +kernel
theorem dX12_exchangeMethod_96 : decode cX12_exchangeMethod 96 = .ok (.lload_n 3, 1) := by decide +kernel
theorem dX12_exchangeMethod_97 : decode cX12_exchangeMethod 97 = .ok (.lconst 0, 1) := by decide +kernel
theorem dX12_exchangeMethod_98 : decode cX12_exchangeMethod 98 = .ok (.lcmp, 1) := by decide +kernel
theorem dX12_exchangeMethod_99 : decode cX12_exchangeMethod 99 = .ok (.ifCond .ne 14, 3) := by decide +kernel
theorem dX12_exchangeMethod_102 : decode cX12_exchangeMethod 102 = .ok (.aload_n 0, 1) := by decide +kernel
theorem dX12_exchangeMethod_103 : decode cX12_exchangeMethod 103 = .ok (.iload_n 2, 1) := by decide +kernel
theorem dX12_exchangeMethod_104 : decode cX12_exchangeMethod 104 = .ok (.sipush 403, 3) := by decide +kernel
theorem dX12_exchangeMethod_107 : decode cX12_exchangeMethod 107 = .ok (.invokevirtual 252, 3) := by decide +kernel
theorem dX12_exchangeMethod_110 : decode cX12_exchangeMethod 110 = .ok (.goto 101, 3) := by decide +kernel
theorem dX12_exchangeMethod_113 : decode cX12_exchangeMethod 113 = .ok (.iload 7, 2) := by decide +kernel
theorem dX12_exchangeMethod_115 : decode cX12_exchangeMethod 115 = .ok (.ifCond .lt 26, 3) := by decide +kernel
theorem dX12_exchangeMethod_118 : decode cX12_exchangeMethod 118 = .ok (.aload_n 0, 1) := by decide +kernel
theorem dX12_exchangeMethod_119 : decode cX12_exchangeMethod 119 = .ok (.getfield 24, 3) := by decide +kernel
theorem dX12_exchangeMethod_122 : decode cX12_exchangeMethod 122 = .ok (.iload 7, 2) := by decide +kernel
theorem dX12_exchangeMethod_124 : decode cX12_exchangeMethod 124 = .ok (.iaload, 1) := by decide +kernel
theorem dX12_exchangeMethod_125 : decode cX12_exchangeMethod 125 = .ok (.iload 5, 2) := by decide +kernel
theorem dX12_exchangeMethod_127 : decode cX12_exchangeMethod 127 = .ok (.if_icmp .eq 14, 3) := by decide +kernel
theorem dX12_exchangeMethod_130 : decode cX12_exchangeMethod 130 = .ok (.aload_n 0, 1) := by decide +kernel
theorem dX12_exchangeMethod_131 : decode cX12_exchangeMethod 131 = .ok (.iload_n 2, 1) := by decide +kernel
theorem dX12_exchangeMethod_132 : decode cX12_exchangeMethod 132 = .ok (.sipush 406, 3) := by decide +kernel
theorem dX12_exchangeMethod_135 : decode cX12_exchangeMethod 135 = .ok (.invokevirtual 252, 3) := by decide +kernel
theorem dX12_exchangeMethod_138 : decode cX12_exchangeMethod 138 = .ok (.goto 73, 3) := by decide +kernel
theorem dX12_exchangeMethod_141 : decode cX12_exchangeMethod 141 = .ok (.iload 7, 2) := by decide +kernel
theorem dX12_exchangeMethod_143 : decode cX12_exchangeMethod 143 = .ok (.ifCond .ge 23, 3) := by decide +kernel
theorem dX12_exchangeMethod_146 : decode cX12_exchangeMethod 146 = .ok (.aload_n 0, 1) := by decide +kernel
theorem dX12_exchangeMethod_147 : decode cX12_exchangeMethod 147 = .ok (.getfield 16, 3) := by decide +kernel
theorem dX12_exchangeMethod_150 : decode cX12_exchangeMethod 150 = .ok (.bipush 6, 2) := by decide +kernel
theorem dX12_exchangeMethod_152 : decode cX12_exchangeMethod 152 = .ok (.if_icmp .ne 14, 3) := by decide +kernel
theorem dX12_exchangeMethod_155 : decode cX12_exchangeMethod 155 = .ok (.aload_n 0, 1) := by decide +kernel
theorem dX12_exchangeMethod_156 : decode cX12_exchangeMethod 156 = .ok (.iload_n 2, 1) := by decide +kernel
theorem dX12_exchangeMethod_157 : decode cX12_exchangeMethod 157 = .ok (.sipush 506, 3) := by decide +kernel
theorem dX12_exchangeMethod_160 : decode cX12_exchangeMethod 160 = .ok (.invokevirtual 252, 3) := by decide +kernel
theorem dX12_exchangeMethod_163 : decode cX12_exchangeMethod 163 = .ok (.goto 48, 3) := by decide +kernel
theorem dX12_exchangeMethod_166 : decode cX12_exchangeMethod 166 = .ok (.iload 7, 2) := by decide +kernel
theorem dX12_exchangeMethod_168 : decode cX12_exchangeMethod 168 = .ok (.ifCond .ge 34, 3) := by decide +kernel
theorem dX12_exchangeMethod_171 : decode cX12_exchangeMethod 171 = .ok (.aload_n 0, 1) := by decide +kernel
theorem dX12_exchangeMethod_172 : decode cX12_exchangeMethod 172 = .ok (.getfield 20, 3) := by decide +kernel
theorem dX12_exchangeMethod_175 : decode cX12_exchangeMethod 175 = .ok (.aload_n 0, 1) := by decide +kernel
theorem dX12_exchangeMethod_176 : decode cX12_exchangeMethod 176 = .ok (.getfield 16, 3) := by decide +kernel
theorem dX12_exchangeMethod_179 : decode cX12_exchangeMethod 179 = .ok (.lload_n 3, 1) := by decide +kernel
theorem dX12_exchangeMethod_180 : decode cX12_exchangeMethod 180 = .ok (.lastore, 1) := by decide +kernel
theorem dX12_exchangeMethod_181 : decode cX12_exchangeMethod 181 = .ok (.aload_n 0, 1) := by decide +kernel
theorem dX12_exchangeMethod_182 : decode cX12_exchangeMethod 182 = .ok (.getfield 24, 3) := by decide +kernel
theorem dX12_exchangeMethod_185 : decode cX12_exchangeMethod 185 = .ok (.aload_n 0, 1) := by decide +kernel
theorem dX12_exchangeMethod_186 : decode cX12_exchangeMethod 186 = .ok (.getfield 16, 3) := by decide +kernel
theorem dX12_exchangeMethod_189 : decode cX12_exchangeMethod 189 = .ok (.iload 5, 2) := by decide +kernel
theorem dX12_exchangeMethod_191 : decode cX12_exchangeMethod 191 = .ok (.iastore, 1) := by decide +kernel
theorem dX12_exchangeMethod_192 : decode cX12_exchangeMethod 192 = .ok (.aload_n 0, 1) := by decide +kernel
theorem dX12_exchangeMethod_193 : decode cX12_exchangeMethod 193 = .ok (.dup, 1) := by decide +kernel
theorem dX12_exchangeMethod_194 : decode cX12_exchangeMethod 194 = .ok (.getfield 16, 3) := by decide +kernel
theorem dX12_exchangeMethod_197 : decode cX12_exchangeMethod 197 = .ok (.iconst 1, 1) := by decide +kernel
theorem dX12_exchangeMethod_198 : decode cX12_exchangeMethod 198 = .ok (.iadd, 1) := by decide +kernel
theorem dX12_exchangeMethod_199 : decode cX12_exchangeMethod 199 = .ok (.putfield 16, 3) := by decide +kernel
theorem dX12_exchangeMethod_202 : decode cX12_exchangeMethod 202 = .ok (.aload_n 0, 1) := by decide +kernel
theorem dX12_exchangeMethod_203 : decode cX12_exchangeMethod 203 = .ok (.iload_n 2, 1) := by decide +kernel
theorem dX12_exchangeMethod_204 : decode cX12_exchangeMethod 204 = .ok (.bipush 40, 2) := by decide +kernel
theorem dX12_exchangeMethod_206 : decode cX12_exchangeMethod 206 = .ok (.bipush 11, 2) := by decide +kernel
theorem dX12_exchangeMethod_208 : decode cX12_exchangeMethod 208 = .ok (.invokevirtual 278, 3) := by decide +kernel
theorem dX12_exchangeMethod_211 : decode cX12_exchangeMethod 211 = .ok (.return_, 1) := by decide +kernel
theorem dX12_exchangeMethod_212 : decode cX12_exchangeMethod 212 = .ok (.iload 7, 2) := by decide +kernel
theorem dX12_exchangeMethod_214 : decode cX12_exchangeMethod 214 = .ok (.ifCond .ge 14, 3) := by decide +kernel
theorem dX12_exchangeMethod_217 : decode cX12_exchangeMethod 217 = .ok (.aload_n 0, 1) := by decide +kernel
theorem dX12_exchangeMethod_218 : decode cX12_exchangeMethod 218 = .ok (.iload_n 2, 1) := by decide +kernel
theorem dX12_exchangeMethod_219 : decode cX12_exchangeMethod 219 = .ok (.sipush 404, 3) := by decide +kernel
theorem dX12_exchangeMethod_222 : decode cX12_exchangeMethod 222 = .ok (.invokevirtual 252, 3) := by decide +kernel
theorem dX12_exchangeMethod_225 : decode cX12_exchangeMethod 225 = .ok (.goto 59, 3) := by decide +kernel
theorem dX12_exchangeMethod_228 : decode cX12_exchangeMethod 228 = .ok (.lload_n 3, 1) := by decide +kernel
theorem dX12_exchangeMethod_229 : decode cX12_exchangeMethod 229 = .ok (.lconst 0, 1) := by decide +kernel
theorem dX12_exchangeMethod_230 : decode cX12_exchangeMethod 230 = .ok (.lcmp, 1) := by decide +kernel
theorem dX12_exchangeMethod_231 : decode cX12_exchangeMethod 231 = .ok (.ifCond .ne 14, 3) := by decide +kernel
theorem dX12_exchangeMethod_234 : decode cX12_exchangeMethod 234 = .ok (.aload_n 0, 1) := by decide +kernel
theorem dX12_exchangeMethod_235 : decode cX12_exchangeMethod 235 = .ok (.iload_n 2, 1) := by decide +kernel
theorem dX12_exchangeMethod_236 : decode cX12_exchangeMethod 236 = .ok (.sipush 403, 3) := by decide +kernel
theorem dX12_exchangeMethod_239 : decode cX12_exchangeMethod 239 = .ok (.invokevirtual 252, 3) := by decide +kernel
theorem dX12_exchangeMethod_242 : decode cX12_exchangeMethod 242 = .ok (.goto 42, 3) := by decide +kernel
theorem dX12_exchangeMethod_245 : decode cX12_exchangeMethod 245 = .ok (.iload 6, 2) := by decide +kernel
theorem dX12_exchangeMethod_247 : decode cX12_exchangeMethod 247 = .ok (.ifCond .eq 22, 3) := by decide +kernel
theorem dX12_exchangeMethod_250 : decode cX12_exchangeMethod 250 = .ok (.aload_n 0, 1) := by decide +kernel
theorem dX12_exchangeMethod_251 : decode cX12_exchangeMethod 251 = .ok (.lload_n 3, 1) := by decide +kernel
theorem dX12_exchangeMethod_252 : decode cX12_exchangeMethod 252 = .ok (.invokevirtual 332, 3) := by decide +kernel
theorem dX12_exchangeMethod_255 : decode cX12_exchangeMethod 255 = .ok (.ifCond .eq 14, 3) := by decide +kernel
theorem dX12_exchangeMethod_258 : decode cX12_exchangeMethod 258 = .ok (.aload_n 0, 1) := by decide +kernel
theorem dX12_exchangeMethod_259 : decode cX12_exchangeMethod 259 = .ok (.iload_n 2, 1) := by decide +kernel
theorem dX12_exchangeMethod_260 : decode cX12_exchangeMethod 260 = .ok (.sipush 406, 3) := by decide +kernel
theorem dX12_exchangeMethod_263 : decode cX12_exchangeMethod 263 = .ok (.invokevirtual 252, 3) := by decide +kernel
theorem dX12_exchangeMethod_266 : decode cX12_exchangeMethod 266 = .ok (.goto 18, 3) := by decide +kernel
theorem dX12_exchangeMethod_269 : decode cX12_exchangeMethod 269 = .ok (.aload_n 0, 1) := by decide +kernel
theorem dX12_exchangeMethod_270 : decode cX12_exchangeMethod 270 = .ok (.iload 7, 2) := by decide +kernel
theorem dX12_exchangeMethod_272 : decode cX12_exchangeMethod 272 = .ok (.invokevirtual 336, 3) := by decide +kernel
theorem dX12_exchangeMethod_275 : decode cX12_exchangeMethod 275 = .ok (.aload_n 0, 1) := by decide +kernel
theorem dX12_exchangeMethod_276 : decode cX12_exchangeMethod 276 = .ok (.iload_n 2, 1) := by decide +kernel
theorem dX12_exchangeMethod_277 : decode cX12_exchangeMethod 277 = .ok (.bipush 40, 2) := by decide +kernel
theorem dX12_exchangeMethod_279 : decode cX12_exchangeMethod 279 = .ok (.bipush 21, 2) := by decide +kernel
theorem dX12_exchangeMethod_281 : decode cX12_exchangeMethod 281 = .ok (.invokevirtual 278, 3) := by decide +kernel
theorem dX12_exchangeMethod_284 : decode cX12_exchangeMethod 284 = .ok (.return_, 1) := by decide +kernel
def f_X12_exchangeMethod_202 (a0 : Nat) (x2 : Int32) (h : AH) : Option (Unit × AH) := kg h a0 13 (bd (f_X12_say a0 x2 40 11 h) fun _ h_2 =>
  some ((), h_2))
set_option maxRecDepth 20000 in
set_option maxHeartbeats 4000000 in
theorem t_X12_exchangeMethod_202 {Ω : Om} (a0 : Nat) (x2 : Int32) (h : AH) (q : Unit × AH) (hf : f_X12_exchangeMethod_202 a0 x2 h = some q) : Go Ω M_X12_exchangeMethod 202 [(0, vR Ω (some a0)), (2, .int x2)] [] h none q.2 := by
  unfold f_X12_exchangeMethod_202 at hf
  refine go_aload_n dX12_exchangeMethod_202 rfl 0 rfl ?_
  refine go_iload_n dX12_exchangeMethod_203 rfl 1 rfl ?_
  refine go_bipush 40 dX12_exchangeMethod_204 (by decide) ?_
  refine go_bipush 11 dX12_exchangeMethod_206 (by decide) ?_
  obtain ⟨hk, hf⟩ := kg_some hf
  obtain ⟨z_1, hc, hf⟩ := bd_some hf
  refine go_callV (y2 := M_X12_say) (c2 := 13) dX12_exchangeMethod_208 mo_X12_say ⟨Nat.le_of_ble_eq_true rfl, Nat.le_of_ble_eq_true rfl⟩ na_X12_say w1381 w1383 (by decide) rfl w64 hk [.int x2, .int 40, .int 11] rfl (n_X12_say (a0) x2 40 11) rfl (csum (Nat.le_of_ble_eq_true rfl)) (t_X12_say (a0) x2 40 11 h _ hc) ?_
  obtain ⟨_, h_2⟩ := z_1
  exact go_return dX12_exchangeMethod_211 rfl hf
def f_X12_exchangeMethod_166 (a0 : Nat) (x2 : Int32) (x3 : Int64) (x5 : Int32) (x7 : Int32) (h : AH) : Option (Unit × AH) := (if 0 ≤ x7 then
    f_X12_exchangeMethod_202 a0 x2 h
  else
    rdR h a0 13 6 fun r_1 =>
    rdI h a0 13 5 fun x_2 =>
    nn r_1 fun a_3 =>
    asJ h a_3 x_2 x3 fun h_4 =>
    rdR h_4 a0 13 7 fun r_5 =>
    rdI h_4 a0 13 5 fun x_6 =>
    nn r_5 fun a_7 =>
    asI h_4 a_7 x_6 x5 fun h_8 =>
    rdI h_8 a0 13 5 fun x_9 =>
    wrI h_8 a0 13 5 (x_9 + 1) fun h_10 =>
    f_X12_exchangeMethod_202 a0 x2 h_10)
set_option maxRecDepth 20000 in
set_option maxHeartbeats 4000000 in
theorem t_X12_exchangeMethod_166 {Ω : Om} (a0 : Nat) (x2 : Int32) (x3 : Int64) (x5 : Int32) (x7 : Int32) (h : AH) (q : Unit × AH) (hf : f_X12_exchangeMethod_166 a0 x2 x3 x5 x7 h = some q) : Go Ω M_X12_exchangeMethod 166 [(0, vR Ω (some a0)), (2, .int x2), (3, .long x3), (5, .int x5), (7, .int x7)] [] h none q.2 := by
  unfold f_X12_exchangeMethod_166 at hf
  refine go_iload dX12_exchangeMethod_166 4 rfl ?_
  refine go_if_ge (tgt := 202) dX12_exchangeMethod_168 (by decide) hf (fun hf => ?_) (fun hf => ?_)
  · refine go_sub (lv' := [(0, vR Ω (some a0)), (2, .int x2)]) [0, 1] rfl ?_
    exact t_X12_exchangeMethod_202 a0 x2 h q hf
  · refine go_aload_n dX12_exchangeMethod_171 rfl 0 rfl ?_
    refine go_getR dX12_exchangeMethod_172 fl_1125_0 (fun _ _ => rfl) hf (fun r_1 hf => ?_)
    refine go_aload_n dX12_exchangeMethod_175 rfl 0 rfl ?_
    refine go_getI dX12_exchangeMethod_176 fl_1124_0 (fun _ _ => rfl) hf (fun x_2 hf => ?_)
    refine go_lload_n dX12_exchangeMethod_179 rfl 2 rfl ?_
    obtain ⟨a_3, rfl, hga_3⟩ := nn_some hf
    have hf := hga_3
    refine go_lastore dX12_exchangeMethod_180 hf (fun h_4 hf => ?_)
    refine go_aload_n dX12_exchangeMethod_181 rfl 0 rfl ?_
    refine go_getR dX12_exchangeMethod_182 fl_1126_0 (fun _ _ => rfl) hf (fun r_5 hf => ?_)
    refine go_aload_n dX12_exchangeMethod_185 rfl 0 rfl ?_
    refine go_getI dX12_exchangeMethod_186 fl_1124_0 (fun _ _ => rfl) hf (fun x_6 hf => ?_)
    refine go_iload dX12_exchangeMethod_189 3 rfl ?_
    obtain ⟨a_7, rfl, hga_7⟩ := nn_some hf
    have hf := hga_7
    refine go_iastore dX12_exchangeMethod_191 hf (fun h_8 hf => ?_)
    refine go_aload_n dX12_exchangeMethod_192 rfl 0 rfl ?_
    refine go_dup dX12_exchangeMethod_193 catR ?_
    refine go_getI dX12_exchangeMethod_194 fl_1124_0 (fun _ _ => rfl) hf (fun x_9 hf => ?_)
    refine go_iconst 1 dX12_exchangeMethod_197 rfl ?_
    refine go_iadd dX12_exchangeMethod_198 ?_
    refine go_putI dX12_exchangeMethod_199 fl_1124_0 (fun q hq => by cases hq; exact Or.inl rfl) (fun _ _ => rfl) rfl hf (fun h_10 hf => ?_)
    refine go_sub (lv' := [(0, vR Ω (some a0)), (2, .int x2)]) [0, 1] rfl ?_
    exact t_X12_exchangeMethod_202 a0 x2 h_10 q hf
def f_X12_exchangeMethod_141 (a0 : Nat) (x2 : Int32) (x3 : Int64) (x5 : Int32) (x7 : Int32) (h : AH) : Option (Unit × AH) := (if 0 ≤ x7 then
    f_X12_exchangeMethod_166 a0 x2 x3 x5 x7 h
  else
    rdI h a0 13 5 fun x_1 =>
    (if x_1 = 6 then
      kg h a0 13 (bd (f_X12_soft a0 x2 506 h) fun _ h_3 =>
      some ((), h_3))
    else
      f_X12_exchangeMethod_166 a0 x2 x3 x5 x7 h))
set_option maxRecDepth 20000 in
set_option maxHeartbeats 4000000 in
theorem t_X12_exchangeMethod_141 {Ω : Om} (a0 : Nat) (x2 : Int32) (x3 : Int64) (x5 : Int32) (x7 : Int32) (h : AH) (q : Unit × AH) (hf : f_X12_exchangeMethod_141 a0 x2 x3 x5 x7 h = some q) : Go Ω M_X12_exchangeMethod 141 [(0, vR Ω (some a0)), (2, .int x2), (3, .long x3), (5, .int x5), (7, .int x7)] [] h none q.2 := by
  unfold f_X12_exchangeMethod_141 at hf
  refine go_iload dX12_exchangeMethod_141 4 rfl ?_
  refine go_if_ge (tgt := 166) dX12_exchangeMethod_143 (by decide) hf (fun hf => ?_) (fun hf => ?_)
  · refine go_sub (lv' := [(0, vR Ω (some a0)), (2, .int x2), (3, .long x3), (5, .int x5), (7, .int x7)]) [0, 1, 2, 3, 4] rfl ?_
    exact t_X12_exchangeMethod_166 a0 x2 x3 x5 x7 h q hf
  · refine go_aload_n dX12_exchangeMethod_146 rfl 0 rfl ?_
    refine go_getI dX12_exchangeMethod_147 fl_1124_0 (fun _ _ => rfl) hf (fun x_1 hf => ?_)
    refine go_bipush 6 dX12_exchangeMethod_150 (by decide) ?_
    refine go_icmp_ne (tgt := 166) dX12_exchangeMethod_152 (by decide) hf (fun hf => ?_) (fun hf => ?_)
    · refine go_sub (lv' := [(0, vR Ω (some a0)), (2, .int x2), (3, .long x3), (5, .int x5), (7, .int x7)]) [0, 1, 2, 3, 4] rfl ?_
      exact t_X12_exchangeMethod_166 a0 x2 x3 x5 x7 h q hf
    · refine go_aload_n dX12_exchangeMethod_155 rfl 0 rfl ?_
      refine go_iload_n dX12_exchangeMethod_156 rfl 1 rfl ?_
      refine go_sipush 506 dX12_exchangeMethod_157 (by decide) ?_
      obtain ⟨hk, hf⟩ := kg_some hf
      obtain ⟨z_2, hc, hf⟩ := bd_some hf
      refine go_callV (y2 := M_X12_soft) (c2 := 13) dX12_exchangeMethod_160 mo_X12_soft ⟨Nat.le_of_ble_eq_true rfl, Nat.le_of_ble_eq_true rfl⟩ na_X12_soft w1432 w1434 (by decide) rfl w76 hk [.int x2, .int 506] rfl (n_X12_soft (a0) x2 506) rfl (csum (Nat.le_of_ble_eq_true rfl)) (t_X12_soft (a0) x2 506 h _ hc) ?_
      obtain ⟨_, h_3⟩ := z_2
      refine go_goto (tgt := 211) dX12_exchangeMethod_163 (by decide) ?_
      exact go_return dX12_exchangeMethod_211 rfl hf
def f_X12_exchangeMethod_96 (a0 : Nat) (x2 : Int32) (x3 : Int64) (x5 : Int32) (x7 : Int32) (h : AH) : Option (Unit × AH) := (if (lg_cmp x3 0) = 0 then
    kg h a0 13 (bd (f_X12_soft a0 x2 403 h) fun _ h_7 =>
    some ((), h_7))
  else
    (if x7 < 0 then
      f_X12_exchangeMethod_141 a0 x2 x3 x5 x7 h
    else
      rdR h a0 13 7 fun r_1 =>
      nn r_1 fun a_2 =>
      arI h a_2 x7 fun x_3 =>
      (if x_3 = x5 then
        f_X12_exchangeMethod_141 a0 x2 x3 x5 x7 h
      else
        kg h a0 13 (bd (f_X12_soft a0 x2 406 h) fun _ h_5 =>
        some ((), h_5)))))
set_option maxRecDepth 20000 in
set_option maxHeartbeats 4000000 in
theorem t_X12_exchangeMethod_96 {Ω : Om} (a0 : Nat) (x2 : Int32) (x3 : Int64) (x5 : Int32) (x7 : Int32) (h : AH) (q : Unit × AH) (hf : f_X12_exchangeMethod_96 a0 x2 x3 x5 x7 h = some q) : Go Ω M_X12_exchangeMethod 96 [(0, vR Ω (some a0)), (2, .int x2), (3, .long x3), (5, .int x5), (7, .int x7)] [] h none q.2 := by
  unfold f_X12_exchangeMethod_96 at hf
  refine go_lload_n dX12_exchangeMethod_96 rfl 2 rfl ?_
  refine go_lconst 0 dX12_exchangeMethod_97 rfl ?_
  refine go_lcmp dX12_exchangeMethod_98 ?_
  refine go_if_ne (tgt := 113) dX12_exchangeMethod_99 (by decide) hf (fun hf => ?_) (fun hf => ?_)
  · refine go_iload dX12_exchangeMethod_113 4 rfl ?_
    refine go_if_lt (tgt := 141) dX12_exchangeMethod_115 (by decide) hf (fun hf => ?_) (fun hf => ?_)
    · refine go_sub (lv' := [(0, vR Ω (some a0)), (2, .int x2), (3, .long x3), (5, .int x5), (7, .int x7)]) [0, 1, 2, 3, 4] rfl ?_
      exact t_X12_exchangeMethod_141 a0 x2 x3 x5 x7 h q hf
    · refine go_aload_n dX12_exchangeMethod_118 rfl 0 rfl ?_
      refine go_getR dX12_exchangeMethod_119 fl_1126_0 (fun _ _ => rfl) hf (fun r_1 hf => ?_)
      refine go_iload dX12_exchangeMethod_122 4 rfl ?_
      obtain ⟨a_2, rfl, hga_2⟩ := nn_some hf
      have hf := hga_2
      refine go_iaload dX12_exchangeMethod_124 hf (fun x_3 hf => ?_)
      refine go_iload dX12_exchangeMethod_125 3 rfl ?_
      refine go_icmp_eq (tgt := 141) dX12_exchangeMethod_127 (by decide) hf (fun hf => ?_) (fun hf => ?_)
      · refine go_sub (lv' := [(0, vR Ω (some a0)), (2, .int x2), (3, .long x3), (5, .int x5), (7, .int x7)]) [0, 1, 2, 3, 4] rfl ?_
        exact t_X12_exchangeMethod_141 a0 x2 x3 x5 x7 h q hf
      · refine go_aload_n dX12_exchangeMethod_130 rfl 0 rfl ?_
        refine go_iload_n dX12_exchangeMethod_131 rfl 1 rfl ?_
        refine go_sipush 406 dX12_exchangeMethod_132 (by decide) ?_
        obtain ⟨hk, hf⟩ := kg_some hf
        obtain ⟨z_4, hc, hf⟩ := bd_some hf
        refine go_callV (y2 := M_X12_soft) (c2 := 13) dX12_exchangeMethod_135 mo_X12_soft ⟨Nat.le_of_ble_eq_true rfl, Nat.le_of_ble_eq_true rfl⟩ na_X12_soft w1432 w1434 (by decide) rfl w76 hk [.int x2, .int 406] rfl (n_X12_soft (a0) x2 406) rfl (csum (Nat.le_of_ble_eq_true rfl)) (t_X12_soft (a0) x2 406 h _ hc) ?_
        obtain ⟨_, h_5⟩ := z_4
        refine go_goto (tgt := 211) dX12_exchangeMethod_138 (by decide) ?_
        exact go_return dX12_exchangeMethod_211 rfl hf
  · refine go_aload_n dX12_exchangeMethod_102 rfl 0 rfl ?_
    refine go_iload_n dX12_exchangeMethod_103 rfl 1 rfl ?_
    refine go_sipush 403 dX12_exchangeMethod_104 (by decide) ?_
    obtain ⟨hk, hf⟩ := kg_some hf
    obtain ⟨z_6, hc, hf⟩ := bd_some hf
    refine go_callV (y2 := M_X12_soft) (c2 := 13) dX12_exchangeMethod_107 mo_X12_soft ⟨Nat.le_of_ble_eq_true rfl, Nat.le_of_ble_eq_true rfl⟩ na_X12_soft w1432 w1434 (by decide) rfl w76 hk [.int x2, .int 403] rfl (n_X12_soft (a0) x2 403) rfl (csum (Nat.le_of_ble_eq_true rfl)) (t_X12_soft (a0) x2 403 h _ hc) ?_
    obtain ⟨_, h_7⟩ := z_6
    refine go_goto (tgt := 211) dX12_exchangeMethod_110 (by decide) ?_
    exact go_return dX12_exchangeMethod_211 rfl hf
def f_X12_exchangeMethod_269 (a0 : Nat) (x2 : Int32) (x7 : Int32) (h : AH) : Option (Unit × AH) := kg h a0 13 (bd (f_X12_removeExchange a0 x7 h) fun _ h_2 =>
  kg h_2 a0 13 (bd (f_X12_say a0 x2 40 21 h_2) fun _ h_4 =>
  some ((), h_4)))
set_option maxRecDepth 20000 in
set_option maxHeartbeats 4000000 in
theorem t_X12_exchangeMethod_269 {Ω : Om} (a0 : Nat) (x2 : Int32) (x7 : Int32) (h : AH) (q : Unit × AH) (hf : f_X12_exchangeMethod_269 a0 x2 x7 h = some q) : Go Ω M_X12_exchangeMethod 269 [(0, vR Ω (some a0)), (2, .int x2), (7, .int x7)] [] h none q.2 := by
  unfold f_X12_exchangeMethod_269 at hf
  refine go_aload_n dX12_exchangeMethod_269 rfl 0 rfl ?_
  refine go_iload dX12_exchangeMethod_270 2 rfl ?_
  obtain ⟨hk, hf⟩ := kg_some hf
  obtain ⟨z_1, hc, hf⟩ := bd_some hf
  refine go_callV (y2 := M_X12_removeExchange) (c2 := 13) dX12_exchangeMethod_272 mo_X12_removeExchange ⟨Nat.le_of_ble_eq_true rfl, Nat.le_of_ble_eq_true rfl⟩ na_X12_removeExchange w1440 w1442 (by decide) rfl w78 hk [.int x7] rfl (n_X12_removeExchange (a0) x7) rfl (csum (Nat.le_of_ble_eq_true rfl)) (t_X12_removeExchange (a0) x7 h _ hc) ?_
  obtain ⟨_, h_2⟩ := z_1
  refine go_aload_n dX12_exchangeMethod_275 rfl 0 rfl ?_
  refine go_iload_n dX12_exchangeMethod_276 rfl 1 rfl ?_
  refine go_bipush 40 dX12_exchangeMethod_277 (by decide) ?_
  refine go_bipush 21 dX12_exchangeMethod_279 (by decide) ?_
  obtain ⟨hk, hf⟩ := kg_some hf
  obtain ⟨z_3, hc, hf⟩ := bd_some hf
  refine go_callV (y2 := M_X12_say) (c2 := 13) dX12_exchangeMethod_281 mo_X12_say ⟨Nat.le_of_ble_eq_true rfl, Nat.le_of_ble_eq_true rfl⟩ na_X12_say w1381 w1383 (by decide) rfl w64 hk [.int x2, .int 40, .int 21] rfl (n_X12_say (a0) x2 40 21) rfl (csum (Nat.le_of_ble_eq_true rfl)) (t_X12_say (a0) x2 40 21 h_2 _ hc) ?_
  obtain ⟨_, h_4⟩ := z_3
  exact go_return dX12_exchangeMethod_284 rfl hf
def f_X12_exchangeMethod_45 (a0 : Nat) (x1 : Int32) (x2 : Int32) (x3 : Int64) (x5 : Int32) (s0 : Int32) (s1 : Option Nat) (h : AH) : Option (Unit × AH) := nn s1 fun a_1 =>
  wrZ h a_1 13 57 s0 fun h_2 =>
  kg h_2 a0 13 (bd (f_X12_nextTruth a0 h_2) fun x_5 h_4 =>
  kg h_4 a0 13 (bd (f_X12_isJust a0 h_4) fun x_8 h_7 =>
  (if x_8 = 0 then
    some ((), h_7)
  else
    kg h_7 a0 13 (bd (f_X12_exchangeOf a0 x3 h_7) fun x_11 h_10 =>
    (if x1 = 10 then
      (if x_5 = 0 then
        f_X12_exchangeMethod_96 a0 x2 x3 x5 x_11 h_10
      else
        (if 0 ≤ x_11 then
          f_X12_exchangeMethod_96 a0 x2 x3 x5 x_11 h_10
        else
          kg h_10 a0 13 (bd (f_X12_soft a0 x2 404 h_10) fun _ h_22 =>
          some ((), h_22))))
    else
      (if 0 ≤ x_11 then
        (if (lg_cmp x3 0) = 0 then
          kg h_10 a0 13 (bd (f_X12_soft a0 x2 403 h_10) fun _ h_18 =>
          some ((), h_18))
        else
          (if x_5 = 0 then
            f_X12_exchangeMethod_269 a0 x2 x_11 h_10
          else
            kg h_10 a0 13 (bd (f_X12_hasBindings a0 x3 h_10) fun x_14 h_13 =>
            (if x_14 = 0 then
              f_X12_exchangeMethod_269 a0 x2 x_11 h_13
            else
              kg h_13 a0 13 (bd (f_X12_soft a0 x2 406 h_13) fun _ h_16 =>
              some ((), h_16))))))
      else
        kg h_10 a0 13 (bd (f_X12_soft a0 x2 404 h_10) fun _ h_20 =>
        some ((), h_20))))))))
set_option maxRecDepth 20000 in
set_option maxHeartbeats 4000000 in
theorem t_X12_exchangeMethod_45 {Ω : Om} (a0 : Nat) (x1 : Int32) (x2 : Int32) (x3 : Int64) (x5 : Int32) (s0 : Int32) (s1 : Option Nat) (h : AH) (q : Unit × AH) (hf : f_X12_exchangeMethod_45 a0 x1 x2 x3 x5 s0 s1 h = some q) : Go Ω M_X12_exchangeMethod 45 [(0, vR Ω (some a0)), (1, .int x1), (2, .int x2), (3, .long x3), (5, .int x5)] [.int s0, vR Ω s1] h none q.2 := by
  unfold f_X12_exchangeMethod_45 at hf
  obtain ⟨a_1, rfl, hga_1⟩ := nn_some hf
  have hf := hga_1
  refine go_putZ dX12_exchangeMethod_45 fl_1176_0 (fun q hq => by cases hq; exact Or.inl rfl) (fun _ _ => rfl) rfl hf (fun h_2 hf => ?_)
  refine go_aload_n dX12_exchangeMethod_48 rfl 0 rfl ?_
  obtain ⟨hk, hf⟩ := kg_some hf
  obtain ⟨z_3, hc, hf⟩ := bd_some hf
  refine go_callV (y2 := M_X12_nextTruth) (c2 := 13) dX12_exchangeMethod_49 mo_X12_nextTruth ⟨Nat.le_of_ble_eq_true rfl, Nat.le_of_ble_eq_true rfl⟩ na_X12_nextTruth w1424 w1426 (by decide) rfl w74 hk [] rfl (n_X12_nextTruth (a0)) rfl (csum (Nat.le_of_ble_eq_true rfl)) (t_X12_nextTruth (a0) h_2 _ hc) ?_
  obtain ⟨x_5, h_4⟩ := z_3
  refine go_istore (i := 6) (lv' := [(6, .int x_5), (0, vR Ω (some a0)), (1, .int x1), (2, .int x2), (3, .long x3), (5, .int x5)]) dX12_exchangeMethod_52 (by decide) (by first | rfl | simp [catR, catI, catJ]) ?_
  refine go_aload_n dX12_exchangeMethod_54 rfl 1 rfl ?_
  obtain ⟨hk, hf⟩ := kg_some hf
  obtain ⟨z_6, hc, hf⟩ := bd_some hf
  refine go_callV (y2 := M_X12_isJust) (c2 := 13) dX12_exchangeMethod_55 mo_X12_isJust ⟨Nat.le_of_ble_eq_true rfl, Nat.le_of_ble_eq_true rfl⟩ na_X12_isJust w1405 w1407 (by decide) rfl w70 hk [] rfl (n_X12_isJust (a0)) rfl (csum (Nat.le_of_ble_eq_true rfl)) (t_X12_isJust (a0) h_4 _ hc) ?_
  obtain ⟨x_8, h_7⟩ := z_6
  refine go_if_ne (tgt := 62) dX12_exchangeMethod_58 (by decide) hf (fun hf => ?_) (fun hf => ?_)
  · refine go_aload_n dX12_exchangeMethod_62 rfl 1 rfl ?_
    refine go_lload_n dX12_exchangeMethod_63 rfl 4 rfl ?_
    obtain ⟨hk, hf⟩ := kg_some hf
    obtain ⟨z_9, hc, hf⟩ := bd_some hf
    refine go_callV (y2 := M_X12_exchangeOf) (c2 := 13) dX12_exchangeMethod_64 mo_X12_exchangeOf ⟨Nat.le_of_ble_eq_true rfl, Nat.le_of_ble_eq_true rfl⟩ na_X12_exchangeOf w1428 w1430 (by decide) rfl w75 hk [.long x3] rfl (n_X12_exchangeOf (a0) x3) rfl (csum (Nat.le_of_ble_eq_true rfl)) (t_X12_exchangeOf (a0) x3 h_7 _ hc) ?_
    obtain ⟨x_11, h_10⟩ := z_9
    refine go_istore (i := 7) (lv' := [(7, .int x_11), (6, .int x_5), (0, vR Ω (some a0)), (1, .int x1), (2, .int x2), (3, .long x3), (5, .int x5)]) dX12_exchangeMethod_67 (by decide) (by first | rfl | simp [catR, catI, catJ]) ?_
    refine go_iload_n dX12_exchangeMethod_69 rfl 3 rfl ?_
    refine go_bipush 10 dX12_exchangeMethod_70 (by decide) ?_
    refine go_icmp_ne (tgt := 212) dX12_exchangeMethod_72 (by decide) hf (fun hf => ?_) (fun hf => ?_)
    · refine go_iload dX12_exchangeMethod_212 0 rfl ?_
      refine go_if_ge (tgt := 228) dX12_exchangeMethod_214 (by decide) hf (fun hf => ?_) (fun hf => ?_)
      · refine go_lload_n dX12_exchangeMethod_228 rfl 5 rfl ?_
        refine go_lconst 0 dX12_exchangeMethod_229 rfl ?_
        refine go_lcmp dX12_exchangeMethod_230 ?_
        refine go_if_ne (tgt := 245) dX12_exchangeMethod_231 (by decide) hf (fun hf => ?_) (fun hf => ?_)
        · refine go_iload dX12_exchangeMethod_245 1 rfl ?_
          refine go_if_eq (tgt := 269) dX12_exchangeMethod_247 (by decide) hf (fun hf => ?_) (fun hf => ?_)
          · refine go_sub (lv' := [(0, vR Ω (some a0)), (2, .int x2), (7, .int x_11)]) [2, 4, 0] rfl ?_
            exact t_X12_exchangeMethod_269 a0 x2 x_11 h_10 q hf
          · refine go_aload_n dX12_exchangeMethod_250 rfl 2 rfl ?_
            refine go_lload_n dX12_exchangeMethod_251 rfl 5 rfl ?_
            obtain ⟨hk, hf⟩ := kg_some hf
            obtain ⟨z_12, hc, hf⟩ := bd_some hf
            refine go_callV (y2 := M_X12_hasBindings) (c2 := 13) dX12_exchangeMethod_252 mo_X12_hasBindings ⟨Nat.le_of_ble_eq_true rfl, Nat.le_of_ble_eq_true rfl⟩ na_X12_hasBindings w1436 w1438 (by decide) rfl w77 hk [.long x3] rfl (n_X12_hasBindings (a0) x3) rfl (csum (Nat.le_of_ble_eq_true rfl)) (t_X12_hasBindings (a0) x3 h_10 _ hc) ?_
            obtain ⟨x_14, h_13⟩ := z_12
            refine go_if_eq (tgt := 269) dX12_exchangeMethod_255 (by decide) hf (fun hf => ?_) (fun hf => ?_)
            · refine go_sub (lv' := [(0, vR Ω (some a0)), (2, .int x2), (7, .int x_11)]) [2, 4, 0] rfl ?_
              exact t_X12_exchangeMethod_269 a0 x2 x_11 h_13 q hf
            · refine go_aload_n dX12_exchangeMethod_258 rfl 2 rfl ?_
              refine go_iload_n dX12_exchangeMethod_259 rfl 4 rfl ?_
              refine go_sipush 406 dX12_exchangeMethod_260 (by decide) ?_
              obtain ⟨hk, hf⟩ := kg_some hf
              obtain ⟨z_15, hc, hf⟩ := bd_some hf
              refine go_callV (y2 := M_X12_soft) (c2 := 13) dX12_exchangeMethod_263 mo_X12_soft ⟨Nat.le_of_ble_eq_true rfl, Nat.le_of_ble_eq_true rfl⟩ na_X12_soft w1432 w1434 (by decide) rfl w76 hk [.int x2, .int 406] rfl (n_X12_soft (a0) x2 406) rfl (csum (Nat.le_of_ble_eq_true rfl)) (t_X12_soft (a0) x2 406 h_13 _ hc) ?_
              obtain ⟨_, h_16⟩ := z_15
              refine go_goto (tgt := 284) dX12_exchangeMethod_266 (by decide) ?_
              exact go_return dX12_exchangeMethod_284 rfl hf
        · refine go_aload_n dX12_exchangeMethod_234 rfl 2 rfl ?_
          refine go_iload_n dX12_exchangeMethod_235 rfl 4 rfl ?_
          refine go_sipush 403 dX12_exchangeMethod_236 (by decide) ?_
          obtain ⟨hk, hf⟩ := kg_some hf
          obtain ⟨z_17, hc, hf⟩ := bd_some hf
          refine go_callV (y2 := M_X12_soft) (c2 := 13) dX12_exchangeMethod_239 mo_X12_soft ⟨Nat.le_of_ble_eq_true rfl, Nat.le_of_ble_eq_true rfl⟩ na_X12_soft w1432 w1434 (by decide) rfl w76 hk [.int x2, .int 403] rfl (n_X12_soft (a0) x2 403) rfl (csum (Nat.le_of_ble_eq_true rfl)) (t_X12_soft (a0) x2 403 h_10 _ hc) ?_
          obtain ⟨_, h_18⟩ := z_17
          refine go_goto (tgt := 284) dX12_exchangeMethod_242 (by decide) ?_
          exact go_return dX12_exchangeMethod_284 rfl hf
      · refine go_aload_n dX12_exchangeMethod_217 rfl 2 rfl ?_
        refine go_iload_n dX12_exchangeMethod_218 rfl 4 rfl ?_
        refine go_sipush 404 dX12_exchangeMethod_219 (by decide) ?_
        obtain ⟨hk, hf⟩ := kg_some hf
        obtain ⟨z_19, hc, hf⟩ := bd_some hf
        refine go_callV (y2 := M_X12_soft) (c2 := 13) dX12_exchangeMethod_222 mo_X12_soft ⟨Nat.le_of_ble_eq_true rfl, Nat.le_of_ble_eq_true rfl⟩ na_X12_soft w1432 w1434 (by decide) rfl w76 hk [.int x2, .int 404] rfl (n_X12_soft (a0) x2 404) rfl (csum (Nat.le_of_ble_eq_true rfl)) (t_X12_soft (a0) x2 404 h_10 _ hc) ?_
        obtain ⟨_, h_20⟩ := z_19
        refine go_goto (tgt := 284) dX12_exchangeMethod_225 (by decide) ?_
        exact go_return dX12_exchangeMethod_284 rfl hf
    · refine go_iload dX12_exchangeMethod_75 1 rfl ?_
      refine go_if_eq (tgt := 96) dX12_exchangeMethod_77 (by decide) hf (fun hf => ?_) (fun hf => ?_)
      · refine go_sub (lv' := [(0, vR Ω (some a0)), (2, .int x2), (3, .long x3), (5, .int x5), (7, .int x_11)]) [2, 4, 5, 6, 0] rfl ?_
        exact t_X12_exchangeMethod_96 a0 x2 x3 x5 x_11 h_10 q hf
      · refine go_iload dX12_exchangeMethod_80 0 rfl ?_
        refine go_if_ge (tgt := 96) dX12_exchangeMethod_82 (by decide) hf (fun hf => ?_) (fun hf => ?_)
        · refine go_sub (lv' := [(0, vR Ω (some a0)), (2, .int x2), (3, .long x3), (5, .int x5), (7, .int x_11)]) [2, 4, 5, 6, 0] rfl ?_
          exact t_X12_exchangeMethod_96 a0 x2 x3 x5 x_11 h_10 q hf
        · refine go_aload_n dX12_exchangeMethod_85 rfl 2 rfl ?_
          refine go_iload_n dX12_exchangeMethod_86 rfl 4 rfl ?_
          refine go_sipush 404 dX12_exchangeMethod_87 (by decide) ?_
          obtain ⟨hk, hf⟩ := kg_some hf
          obtain ⟨z_21, hc, hf⟩ := bd_some hf
          refine go_callV (y2 := M_X12_soft) (c2 := 13) dX12_exchangeMethod_90 mo_X12_soft ⟨Nat.le_of_ble_eq_true rfl, Nat.le_of_ble_eq_true rfl⟩ na_X12_soft w1432 w1434 (by decide) rfl w76 hk [.int x2, .int 404] rfl (n_X12_soft (a0) x2 404) rfl (csum (Nat.le_of_ble_eq_true rfl)) (t_X12_soft (a0) x2 404 h_10 _ hc) ?_
          obtain ⟨_, h_22⟩ := z_21
          refine go_goto (tgt := 211) dX12_exchangeMethod_93 (by decide) ?_
          exact go_return dX12_exchangeMethod_211 rfl hf
  · exact go_return dX12_exchangeMethod_61 rfl hf
def f_X12_exchangeMethod_24 (a0 : Nat) (x1 : Int32) (x2 : Int32) (x3 : Int64) (s0 : Int32) (h : AH) : Option (Unit × AH) := rdI h a0 13 57 fun x_1 =>
  (if x_1 = 0 then
    (if s0 ≤ 2 then
      f_X12_exchangeMethod_45 a0 x1 x2 x3 s0 0 (some a0) h
    else
      f_X12_exchangeMethod_45 a0 x1 x2 x3 s0 1 (some a0) h)
  else
    f_X12_exchangeMethod_45 a0 x1 x2 x3 s0 1 (some a0) h)
set_option maxRecDepth 20000 in
set_option maxHeartbeats 4000000 in
theorem t_X12_exchangeMethod_24 {Ω : Om} (a0 : Nat) (x1 : Int32) (x2 : Int32) (x3 : Int64) (s0 : Int32) (h : AH) (q : Unit × AH) (hf : f_X12_exchangeMethod_24 a0 x1 x2 x3 s0 h = some q) : Go Ω M_X12_exchangeMethod 24 [(0, vR Ω (some a0)), (1, .int x1), (2, .int x2), (3, .long x3)] [.int s0] h none q.2 := by
  unfold f_X12_exchangeMethod_24 at hf
  refine go_istore (i := 5) (lv' := [(5, .int s0), (0, vR Ω (some a0)), (1, .int x1), (2, .int x2), (3, .long x3)]) dX12_exchangeMethod_24 (by decide) (by first | rfl | simp [catR, catI, catJ]) ?_
  refine go_aload_n dX12_exchangeMethod_26 rfl 1 rfl ?_
  refine go_aload_n dX12_exchangeMethod_27 rfl 1 rfl ?_
  refine go_getI dX12_exchangeMethod_28 fl_1176_0 (fun _ _ => rfl) hf (fun x_1 hf => ?_)
  refine go_if_ne (tgt := 40) dX12_exchangeMethod_31 (by decide) hf (fun hf => ?_) (fun hf => ?_)
  · refine go_iconst 1 dX12_exchangeMethod_40 rfl ?_
    refine go_goto (tgt := 45) dX12_exchangeMethod_41 (by decide) ?_
    refine go_sub (lv' := [(0, vR Ω (some a0)), (1, .int x1), (2, .int x2), (3, .long x3), (5, .int s0)]) [1, 2, 3, 4, 0] rfl ?_
    exact t_X12_exchangeMethod_45 a0 x1 x2 x3 s0 1 (some a0) h q hf
  · refine go_iload dX12_exchangeMethod_34 0 rfl ?_
    refine go_iconst 2 dX12_exchangeMethod_36 rfl ?_
    refine go_icmp_le (tgt := 44) dX12_exchangeMethod_37 (by decide) hf (fun hf => ?_) (fun hf => ?_)
    · refine go_iconst 0 dX12_exchangeMethod_44 rfl ?_
      refine go_sub (lv' := [(0, vR Ω (some a0)), (1, .int x1), (2, .int x2), (3, .long x3), (5, .int s0)]) [1, 2, 3, 4, 0] rfl ?_
      exact t_X12_exchangeMethod_45 a0 x1 x2 x3 s0 0 (some a0) h q hf
    · refine go_iconst 1 dX12_exchangeMethod_40 rfl ?_
      refine go_goto (tgt := 45) dX12_exchangeMethod_41 (by decide) ?_
      refine go_sub (lv' := [(0, vR Ω (some a0)), (1, .int x1), (2, .int x2), (3, .long x3), (5, .int s0)]) [1, 2, 3, 4, 0] rfl ?_
      exact t_X12_exchangeMethod_45 a0 x1 x2 x3 s0 1 (some a0) h q hf
def f_X12_exchangeMethod (a0 : Nat) (x1 : Int32) (h : AH) : Option (Unit × AH) := rdI h a0 13 54 fun x_1 =>
  kg h a0 13 (bd (f_X12_nextName a0 h) fun x_4 h_3 =>
  (if x1 = 10 then
    kg h_3 a0 13 (bd (f_X12_next a0 h_3) fun x_7 h_6 =>
    f_X12_exchangeMethod_24 a0 x1 x_1 x_4 x_7 h_6)
  else
    f_X12_exchangeMethod_24 a0 x1 x_1 x_4 0 h_3))
set_option maxRecDepth 20000 in
set_option maxHeartbeats 4000000 in
theorem t_X12_exchangeMethod {Ω : Om} (a0 : Nat) (x1 : Int32) (h : AH) (q : Unit × AH) (hf : f_X12_exchangeMethod a0 x1 h = some q) : Go Ω M_X12_exchangeMethod 0 (lv_args 0 [vR Ω (some a0), .int x1]) [] h none q.2 := by
  unfold f_X12_exchangeMethod at hf
  rw [la_R, la_I, la_0]
  refine go_sub (lv' := [(0, vR Ω (some a0)), (1, .int x1)]) [0, 1] rfl ?_
  refine go_aload_n dX12_exchangeMethod_0 rfl 0 rfl ?_
  refine go_getI dX12_exchangeMethod_1 fl_1173_0 (fun _ _ => rfl) hf (fun x_1 hf => ?_)
  refine go_istore_n (i := 2) (lv' := [(2, .int x_1), (0, vR Ω (some a0)), (1, .int x1)]) dX12_exchangeMethod_4 rfl (by decide) (by first | rfl | simp [catR, catI, catJ]) ?_
  refine go_aload_n dX12_exchangeMethod_5 rfl 1 rfl ?_
  obtain ⟨hk, hf⟩ := kg_some hf
  obtain ⟨z_2, hc, hf⟩ := bd_some hf
  refine go_callV (y2 := M_X12_nextName) (c2 := 13) dX12_exchangeMethod_6 mo_X12_nextName ⟨Nat.le_of_ble_eq_true rfl, Nat.le_of_ble_eq_true rfl⟩ na_X12_nextName w1420 w1422 (by decide) rfl w73 hk [] rfl (n_X12_nextName (a0)) rfl (csum (Nat.le_of_ble_eq_true rfl)) (t_X12_nextName (a0) h _ hc) ?_
  obtain ⟨x_4, h_3⟩ := z_2
  refine go_lstore_n (i := 3) (lv' := [(3, .long x_4), (2, .int x_1), (0, vR Ω (some a0)), (1, .int x1)]) dX12_exchangeMethod_9 rfl (by decide) (by first | rfl | simp [catR, catI, catJ]) ?_
  refine go_iload_n dX12_exchangeMethod_10 rfl 3 rfl ?_
  refine go_bipush 10 dX12_exchangeMethod_11 (by decide) ?_
  refine go_icmp_ne (tgt := 23) dX12_exchangeMethod_13 (by decide) hf (fun hf => ?_) (fun hf => ?_)
  · refine go_iconst 0 dX12_exchangeMethod_23 rfl ?_
    refine go_sub (lv' := [(0, vR Ω (some a0)), (1, .int x1), (2, .int x_1), (3, .long x_4)]) [2, 3, 1, 0] rfl ?_
    exact t_X12_exchangeMethod_24 a0 x1 x_1 x_4 0 h_3 q hf
  · refine go_aload_n dX12_exchangeMethod_16 rfl 2 rfl ?_
    obtain ⟨hk, hf⟩ := kg_some hf
    obtain ⟨z_5, hc, hf⟩ := bd_some hf
    refine go_callV (y2 := M_X12_next) (c2 := 13) dX12_exchangeMethod_17 mo_X12_next ⟨Nat.le_of_ble_eq_true rfl, Nat.le_of_ble_eq_true rfl⟩ na_X12_next w1397 w1399 (by decide) rfl w68 hk [] rfl (n_X12_next (a0)) rfl (csum (Nat.le_of_ble_eq_true rfl)) (t_X12_next (a0) h_3 _ hc) ?_
    obtain ⟨x_7, h_6⟩ := z_5
    refine go_goto (tgt := 24) dX12_exchangeMethod_20 (by decide) ?_
    refine go_sub (lv' := [(0, vR Ω (some a0)), (1, .int x1), (2, .int x_1), (3, .long x_4)]) [2, 3, 1, 0] rfl ?_
    exact t_X12_exchangeMethod_24 a0 x1 x_1 x_4 x_7 h_6 q hf
-- LetterBrokerModel.isMethod(II)Z
theorem dX12_isMethod_0 : decode cX12_isMethod 0 = .ok (.iload_n 0, 1) := by decide +kernel
theorem dX12_isMethod_1 : decode cX12_isMethod 1 = .ok (.lookupswitch 192 #[(20, 51), (40, 69), (50, 87), (60, 112), (90, 168)], 51) := by decide +kernel
theorem dX12_isMethod_52 : decode cX12_isMethod 52 = .ok (.iload_n 1, 1) := by decide +kernel
theorem dX12_isMethod_53 : decode cX12_isMethod 53 = .ok (.bipush 20, 2) := by decide +kernel
theorem dX12_isMethod_55 : decode cX12_isMethod 55 = .ok (.if_icmp .eq 9, 3) := by decide +kernel
theorem dX12_isMethod_58 : decode cX12_isMethod 58 = .ok (.iload_n 1, 1) := by decide +kernel
theorem dX12_isMethod_59 : decode cX12_isMethod 59 = .ok (.bipush 40, 2) := by decide +kernel
theorem dX12_isMethod_61 : decode cX12_isMethod 61 = .ok (.if_icmp .ne 7, 3) := by decide +kernel
theorem dX12_isMethod_64 : decode cX12_isMethod 64 = .ok (.iconst 1, 1) := by decide +kernel
theorem dX12_isMethod_65 : decode cX12_isMethod 65 = .ok (.goto 4, 3) := by decide +kernel
theorem dX12_isMethod_68 : decode cX12_isMethod 68 = .ok (.iconst 0, 1) := by decide +kernel
theorem dX12_isMethod_69 : decode cX12_isMethod 69 = .ok (.ireturn, 1) := by decide +kernel
theorem dX12_isMethod_70 : decode cX12_isMethod 70 = .ok (.iload_n 1, 1) := by decide +kernel
theorem dX12_isMethod_71 : decode cX12_isMethod 71 = .ok (.bipush 10, 2) := by decide +kernel
theorem dX12_isMethod_73 : decode cX12_isMethod 73 = .ok (.if_icmp .eq 9, 3) := by decide +kernel
theorem dX12_isMethod_76 : decode cX12_isMethod 76 = .ok (.iload_n 1, 1) := by decide +kernel
theorem dX12_isMethod_77 : decode cX12_isMethod 77 = .ok (.bipush 20, 2) := by decide +kernel
theorem dX12_isMethod_79 : decode cX12_isMethod 79 = .ok (.if_icmp .ne 7, 3) := by decide +kernel
theorem dX12_isMethod_82 : decode cX12_isMethod 82 = .ok (.iconst 1, 1) := by decide +kernel
theorem dX12_isMethod_83 : decode cX12_isMethod 83 = .ok (.goto 4, 3) := by decide +kernel
theorem dX12_isMethod_86 : decode cX12_isMethod 86 = .ok (.iconst 0, 1) := by decide +kernel
theorem dX12_isMethod_87 : decode cX12_isMethod 87 = .ok (.ireturn, 1) := by decide +kernel
theorem dX12_isMethod_88 : decode cX12_isMethod 88 = .ok (.iload_n 1, 1) := by decide +kernel
theorem dX12_isMethod_89 : decode cX12_isMethod 89 = .ok (.bipush 10, 2) := by decide +kernel
theorem dX12_isMethod_91 : decode cX12_isMethod 91 = .ok (.if_icmp .lt 20, 3) := by decide +kernel
theorem dX12_isMethod_94 : decode cX12_isMethod 94 = .ok (.iload_n 1, 1) := by decide +kernel
theorem dX12_isMethod_95 : decode cX12_isMethod 95 = .ok (.bipush 50, 2) := by decide +kernel
theorem dX12_isMethod_97 : decode cX12_isMethod 97 = .ok (.if_icmp .gt 14, 3) := by decide +kernel
theorem dX12_isMethod_100 : decode cX12_isMethod 100 = .ok (.iload_n 1, 1) := by decide +kernel
theorem dX12_isMethod_101 : decode cX12_isMethod 101 = .ok (.bipush 10, 2) := by decide +kernel
theorem dX12_isMethod_103 : decode cX12_isMethod 103 = .ok (.irem, 1) := by decide +kernel
theorem dX12_isMethod_104 : decode cX12_isMethod 104 = .ok (.ifCond .ne 7, 3) := by decide +kernel
theorem dX12_isMethod_107 : decode cX12_isMethod 107 = .ok (.iconst 1, 1) := by decide +kernel
theorem dX12_isMethod_108 : decode cX12_isMethod 108 = .ok (.goto 4, 3) := by decide +kernel
theorem dX12_isMethod_111 : decode cX12_isMethod 111 = .ok (.iconst 0, 1) := by decide +kernel
theorem dX12_isMethod_112 : decode cX12_isMethod 112 = .ok (.ireturn, 1) := by decide +kernel
theorem dX12_isMethod_113 : decode cX12_isMethod 113 = .ok (.iload_n 1, 1) := by decide +kernel
theorem dX12_isMethod_114 : decode cX12_isMethod 114 = .ok (.bipush 10, 2) := by decide +kernel
theorem dX12_isMethod_116 : decode cX12_isMethod 116 = .ok (.if_icmp .lt 16, 3) := by decide +kernel
theorem dX12_isMethod_119 : decode cX12_isMethod 119 = .ok (.iload_n 1, 1) := by decide +kernel
theorem dX12_isMethod_120 : decode cX12_isMethod 120 = .ok (.bipush 40, 2) := by decide +kernel
theorem dX12_isMethod_122 : decode cX12_isMethod 122 = .ok (.if_icmp .gt 10, 3) := by decide +kernel
theorem dX12_isMethod_125 : decode cX12_isMethod 125 = .ok (.iload_n 1, 1) := by decide +kernel
theorem dX12_isMethod_126 : decode cX12_isMethod 126 = .ok (.bipush 10, 2) := by decide +kernel
theorem dX12_isMethod_128 : decode cX12_isMethod 128 = .ok (.irem, 1) := by decide +kernel
theorem dX12_isMethod_129 : decode cX12_isMethod 129 = .ok (.ifCond .eq 34, 3) := by decide +kernel
theorem dX12_isMethod_132 : decode cX12_isMethod 132 = .ok (.iload_n 1, 1) := by decide +kernel
theorem dX12_isMethod_133 : decode cX12_isMethod 133 = .ok (.bipush 70, 2) := by decide +kernel
theorem dX12_isMethod_135 : decode cX12_isMethod 135 = .ok (.if_icmp .lt 16, 3) := by decide +kernel
theorem dX12_isMethod_138 : decode cX12_isMethod 138 = .ok (.iload_n 1, 1) := by decide +kernel
theorem dX12_isMethod_139 : decode cX12_isMethod 139 = .ok (.bipush 90, 2) := by decide +kernel
theorem dX12_isMethod_141 : decode cX12_isMethod 141 = .ok (.if_icmp .gt 10, 3) := by decide +kernel
theorem dX12_isMethod_144 : decode cX12_isMethod 144 = .ok (.iload_n 1, 1) := by decide +kernel
theorem dX12_isMethod_145 : decode cX12_isMethod 145 = .ok (.bipush 10, 2) := by decide +kernel
theorem dX12_isMethod_147 : decode cX12_isMethod 147 = .ok (.irem, 1) := by decide +kernel
theorem dX12_isMethod_148 : decode cX12_isMethod 148 = .ok (.ifCond .eq 15, 3) := by decide +kernel
theorem dX12_isMethod_151 : decode cX12_isMethod 151 = .ok (.iload_n 1, 1) := by decide +kernel
theorem dX12_isMethod_152 : decode cX12_isMethod 152 = .ok (.bipush 110, 2) := by decide +kernel
theorem dX12_isMethod_154 : decode cX12_isMethod 154 = .ok (.if_icmp .eq 9, 3) := by decide +kernel
theorem dX12_isMethod_157 : decode cX12_isMethod 157 = .ok (.iload_n 1, 1) := by decide +kernel
theorem dX12_isMethod_158 : decode cX12_isMethod 158 = .ok (.bipush 120, 2) := by decide +kernel
theorem dX12_isMethod_160 : decode cX12_isMethod 160 = .ok (.if_icmp .ne 7, 3) := by decide +kernel
theorem dX12_isMethod_163 : decode cX12_isMethod 163 = .ok (.iconst 1, 1) := by decide +kernel
theorem dX12_isMethod_164 : decode cX12_isMethod 164 = .ok (.goto 4, 3) := by decide +kernel
theorem dX12_isMethod_167 : decode cX12_isMethod 167 = .ok (.iconst 0, 1) := by decide +kernel
theorem dX12_isMethod_168 : decode cX12_isMethod 168 = .ok (.ireturn, 1) := by decide +kernel
theorem dX12_isMethod_169 : decode cX12_isMethod 169 = .ok (.iload_n 1, 1) := by decide +kernel
theorem dX12_isMethod_170 : decode cX12_isMethod 170 = .ok (.bipush 10, 2) := by decide +kernel
theorem dX12_isMethod_172 : decode cX12_isMethod 172 = .ok (.if_icmp .eq 15, 3) := by decide +kernel
theorem dX12_isMethod_175 : decode cX12_isMethod 175 = .ok (.iload_n 1, 1) := by decide +kernel
theorem dX12_isMethod_176 : decode cX12_isMethod 176 = .ok (.bipush 20, 2) := by decide +kernel
theorem dX12_isMethod_178 : decode cX12_isMethod 178 = .ok (.if_icmp .eq 9, 3) := by decide +kernel
theorem dX12_isMethod_181 : decode cX12_isMethod 181 = .ok (.iload_n 1, 1) := by decide +kernel
theorem dX12_isMethod_182 : decode cX12_isMethod 182 = .ok (.bipush 30, 2) := by decide +kernel
theorem dX12_isMethod_184 : decode cX12_isMethod 184 = .ok (.if_icmp .ne 7, 3) := by decide +kernel
theorem dX12_isMethod_187 : decode cX12_isMethod 187 = .ok (.iconst 1, 1) := by decide +kernel
theorem dX12_isMethod_188 : decode cX12_isMethod 188 = .ok (.goto 4, 3) := by decide +kernel
theorem dX12_isMethod_191 : decode cX12_isMethod 191 = .ok (.iconst 0, 1) := by decide +kernel
theorem dX12_isMethod_192 : decode cX12_isMethod 192 = .ok (.ireturn, 1) := by decide +kernel
theorem dX12_isMethod_193 : decode cX12_isMethod 193 = .ok (.iconst 0, 1) := by decide +kernel
theorem dX12_isMethod_194 : decode cX12_isMethod 194 = .ok (.ireturn, 1) := by decide +kernel
def f_X12_isMethod_151 (x1 : Int32) (h : AH) : Option (Int32 × AH) := (if x1 = 110 then
    rz 1 (some (1, h))
  else
    (if x1 = 120 then
      rz 1 (some (1, h))
    else
      rz 0 (some (0, h))))
set_option maxRecDepth 20000 in
set_option maxHeartbeats 4000000 in
theorem t_X12_isMethod_151 {Ω : Om} (x1 : Int32) (h : AH) (q : Int32 × AH) (hf : f_X12_isMethod_151 x1 h = some q) : Go Ω M_X12_isMethod 151 [(1, .int x1)] [] h (some (.int q.1)) q.2 := by
  unfold f_X12_isMethod_151 at hf
  refine go_iload_n dX12_isMethod_151 rfl 0 rfl ?_
  refine go_bipush 110 dX12_isMethod_152 (by decide) ?_
  refine go_icmp_eq (tgt := 163) dX12_isMethod_154 (by decide) hf (fun hf => ?_) (fun hf => ?_)
  · refine go_iconst 1 dX12_isMethod_163 rfl ?_
    refine go_goto (tgt := 168) dX12_isMethod_164 (by decide) ?_
    exact go_zreturn dX12_isMethod_168 rfl hf
  · refine go_iload_n dX12_isMethod_157 rfl 0 rfl ?_
    refine go_bipush 120 dX12_isMethod_158 (by decide) ?_
    refine go_icmp_ne (tgt := 167) dX12_isMethod_160 (by decide) hf (fun hf => ?_) (fun hf => ?_)
    · refine go_iconst 0 dX12_isMethod_167 rfl ?_
      exact go_zreturn dX12_isMethod_168 rfl hf
    · refine go_iconst 1 dX12_isMethod_163 rfl ?_
      refine go_goto (tgt := 168) dX12_isMethod_164 (by decide) ?_
      exact go_zreturn dX12_isMethod_168 rfl hf
def f_X12_isMethod_132 (x1 : Int32) (h : AH) : Option (Int32 × AH) := (if x1 < 70 then
    f_X12_isMethod_151 x1 h
  else
    (if 90 < x1 then
      f_X12_isMethod_151 x1 h
    else
      nz 10 (
      (if (x1 - x1 / 10 * 10) = 0 then
        rz 1 (some (1, h))
      else
        f_X12_isMethod_151 x1 h))))
set_option maxRecDepth 20000 in
set_option maxHeartbeats 4000000 in
theorem t_X12_isMethod_132 {Ω : Om} (x1 : Int32) (h : AH) (q : Int32 × AH) (hf : f_X12_isMethod_132 x1 h = some q) : Go Ω M_X12_isMethod 132 [(1, .int x1)] [] h (some (.int q.1)) q.2 := by
  unfold f_X12_isMethod_132 at hf
  refine go_iload_n dX12_isMethod_132 rfl 0 rfl ?_
  refine go_bipush 70 dX12_isMethod_133 (by decide) ?_
  refine go_icmp_lt (tgt := 151) dX12_isMethod_135 (by decide) hf (fun hf => ?_) (fun hf => ?_)
  · refine go_sub (lv' := [(1, .int x1)]) [0] rfl ?_
    exact t_X12_isMethod_151 x1 h q hf
  · refine go_iload_n dX12_isMethod_138 rfl 0 rfl ?_
    refine go_bipush 90 dX12_isMethod_139 (by decide) ?_
    refine go_icmp_gt (tgt := 151) dX12_isMethod_141 (by decide) hf (fun hf => ?_) (fun hf => ?_)
    · refine go_sub (lv' := [(1, .int x1)]) [0] rfl ?_
      exact t_X12_isMethod_151 x1 h q hf
    · refine go_iload_n dX12_isMethod_144 rfl 0 rfl ?_
      refine go_bipush 10 dX12_isMethod_145 (by decide) ?_
      obtain ⟨hz0, hf⟩ := nz_some hf
      refine go_irem dX12_isMethod_147 hz0 ?_
      refine go_if_eq (tgt := 163) dX12_isMethod_148 (by decide) hf (fun hf => ?_) (fun hf => ?_)
      · refine go_iconst 1 dX12_isMethod_163 rfl ?_
        refine go_goto (tgt := 168) dX12_isMethod_164 (by decide) ?_
        exact go_zreturn dX12_isMethod_168 rfl hf
      · refine go_sub (lv' := [(1, .int x1)]) [0] rfl ?_
        exact t_X12_isMethod_151 x1 h q hf
def f_X12_isMethod (x0 : Int32) (x1 : Int32) (h : AH) : Option (Int32 × AH) := (if x0 = 20 then
    (if x1 = 20 then
      rz 1 (some (1, h))
    else
      (if x1 = 40 then
        rz 1 (some (1, h))
      else
        rz 0 (some (0, h))))
  else (if x0 = 40 then
    (if x1 = 10 then
      rz 1 (some (1, h))
    else
      (if x1 = 20 then
        rz 1 (some (1, h))
      else
        rz 0 (some (0, h))))
  else (if x0 = 50 then
    (if x1 < 10 then
      rz 0 (some (0, h))
    else
      (if 50 < x1 then
        rz 0 (some (0, h))
      else
        nz 10 (
        (if (x1 - x1 / 10 * 10) = 0 then
          rz 1 (some (1, h))
        else
          rz 0 (some (0, h))))))
  else (if x0 = 60 then
    (if x1 < 10 then
      f_X12_isMethod_132 x1 h
    else
      (if 40 < x1 then
        f_X12_isMethod_132 x1 h
      else
        nz 10 (
        (if (x1 - x1 / 10 * 10) = 0 then
          rz 1 (some (1, h))
        else
          f_X12_isMethod_132 x1 h))))
  else (if x0 = 90 then
    (if x1 = 10 then
      rz 1 (some (1, h))
    else
      (if x1 = 20 then
        rz 1 (some (1, h))
      else
        (if x1 = 30 then
          rz 1 (some (1, h))
        else
          rz 0 (some (0, h)))))
  else rz 0 (some (0, h)))))))
set_option maxRecDepth 20000 in
set_option maxHeartbeats 4000000 in
theorem t_X12_isMethod {Ω : Om} (x0 : Int32) (x1 : Int32) (h : AH) (q : Int32 × AH) (hf : f_X12_isMethod x0 x1 h = some q) : Go Ω M_X12_isMethod 0 (lv_args 0 [.int x0, .int x1]) [] h (some (.int q.1)) q.2 := by
  unfold f_X12_isMethod at hf
  rw [la_I, la_I, la_0]
  refine go_sub (lv' := [(0, .int x0), (1, .int x1)]) [0, 1] rfl ?_
  refine go_iload_n dX12_isMethod_0 rfl 0 rfl ?_
  by_cases e0 : x0 = 20
  · rw [if_pos e0] at hf
    refine go_lsw1 (off := 51) (tgt := 52) dX12_isMethod_1 (by decide) (by rw [e0]; decide) (by decide) ?_
    refine go_iload_n dX12_isMethod_52 rfl 1 rfl ?_
    refine go_bipush 20 dX12_isMethod_53 (by decide) ?_
    refine go_icmp_eq (tgt := 64) dX12_isMethod_55 (by decide) hf (fun hf => ?_) (fun hf => ?_)
    · refine go_iconst 1 dX12_isMethod_64 rfl ?_
      refine go_goto (tgt := 69) dX12_isMethod_65 (by decide) ?_
      exact go_zreturn dX12_isMethod_69 rfl hf
    · refine go_iload_n dX12_isMethod_58 rfl 1 rfl ?_
      refine go_bipush 40 dX12_isMethod_59 (by decide) ?_
      refine go_icmp_ne (tgt := 68) dX12_isMethod_61 (by decide) hf (fun hf => ?_) (fun hf => ?_)
      · refine go_iconst 0 dX12_isMethod_68 rfl ?_
        exact go_zreturn dX12_isMethod_69 rfl hf
      · refine go_iconst 1 dX12_isMethod_64 rfl ?_
        refine go_goto (tgt := 69) dX12_isMethod_65 (by decide) ?_
        exact go_zreturn dX12_isMethod_69 rfl hf
  rw [if_neg e0] at hf
  by_cases e1 : x0 = 40
  · rw [if_pos e1] at hf
    refine go_lsw1 (off := 69) (tgt := 70) dX12_isMethod_1 (by decide) (by rw [e1]; decide) (by decide) ?_
    refine go_iload_n dX12_isMethod_70 rfl 1 rfl ?_
    refine go_bipush 10 dX12_isMethod_71 (by decide) ?_
    refine go_icmp_eq (tgt := 82) dX12_isMethod_73 (by decide) hf (fun hf => ?_) (fun hf => ?_)
    · refine go_iconst 1 dX12_isMethod_82 rfl ?_
      refine go_goto (tgt := 87) dX12_isMethod_83 (by decide) ?_
      exact go_zreturn dX12_isMethod_87 rfl hf
    · refine go_iload_n dX12_isMethod_76 rfl 1 rfl ?_
      refine go_bipush 20 dX12_isMethod_77 (by decide) ?_
      refine go_icmp_ne (tgt := 86) dX12_isMethod_79 (by decide) hf (fun hf => ?_) (fun hf => ?_)
      · refine go_iconst 0 dX12_isMethod_86 rfl ?_
        exact go_zreturn dX12_isMethod_87 rfl hf
      · refine go_iconst 1 dX12_isMethod_82 rfl ?_
        refine go_goto (tgt := 87) dX12_isMethod_83 (by decide) ?_
        exact go_zreturn dX12_isMethod_87 rfl hf
  rw [if_neg e1] at hf
  by_cases e2 : x0 = 50
  · rw [if_pos e2] at hf
    refine go_lsw1 (off := 87) (tgt := 88) dX12_isMethod_1 (by decide) (by rw [e2]; decide) (by decide) ?_
    refine go_iload_n dX12_isMethod_88 rfl 1 rfl ?_
    refine go_bipush 10 dX12_isMethod_89 (by decide) ?_
    refine go_icmp_lt (tgt := 111) dX12_isMethod_91 (by decide) hf (fun hf => ?_) (fun hf => ?_)
    · refine go_iconst 0 dX12_isMethod_111 rfl ?_
      exact go_zreturn dX12_isMethod_112 rfl hf
    · refine go_iload_n dX12_isMethod_94 rfl 1 rfl ?_
      refine go_bipush 50 dX12_isMethod_95 (by decide) ?_
      refine go_icmp_gt (tgt := 111) dX12_isMethod_97 (by decide) hf (fun hf => ?_) (fun hf => ?_)
      · refine go_iconst 0 dX12_isMethod_111 rfl ?_
        exact go_zreturn dX12_isMethod_112 rfl hf
      · refine go_iload_n dX12_isMethod_100 rfl 1 rfl ?_
        refine go_bipush 10 dX12_isMethod_101 (by decide) ?_
        obtain ⟨hz0, hf⟩ := nz_some hf
        refine go_irem dX12_isMethod_103 hz0 ?_
        refine go_if_ne (tgt := 111) dX12_isMethod_104 (by decide) hf (fun hf => ?_) (fun hf => ?_)
        · refine go_iconst 0 dX12_isMethod_111 rfl ?_
          exact go_zreturn dX12_isMethod_112 rfl hf
        · refine go_iconst 1 dX12_isMethod_107 rfl ?_
          refine go_goto (tgt := 112) dX12_isMethod_108 (by decide) ?_
          exact go_zreturn dX12_isMethod_112 rfl hf
  rw [if_neg e2] at hf
  by_cases e3 : x0 = 60
  · rw [if_pos e3] at hf
    refine go_lsw1 (off := 112) (tgt := 113) dX12_isMethod_1 (by decide) (by rw [e3]; decide) (by decide) ?_
    refine go_iload_n dX12_isMethod_113 rfl 1 rfl ?_
    refine go_bipush 10 dX12_isMethod_114 (by decide) ?_
    refine go_icmp_lt (tgt := 132) dX12_isMethod_116 (by decide) hf (fun hf => ?_) (fun hf => ?_)
    · refine go_sub (lv' := [(1, .int x1)]) [1] rfl ?_
      exact t_X12_isMethod_132 x1 h q hf
    · refine go_iload_n dX12_isMethod_119 rfl 1 rfl ?_
      refine go_bipush 40 dX12_isMethod_120 (by decide) ?_
      refine go_icmp_gt (tgt := 132) dX12_isMethod_122 (by decide) hf (fun hf => ?_) (fun hf => ?_)
      · refine go_sub (lv' := [(1, .int x1)]) [1] rfl ?_
        exact t_X12_isMethod_132 x1 h q hf
      · refine go_iload_n dX12_isMethod_125 rfl 1 rfl ?_
        refine go_bipush 10 dX12_isMethod_126 (by decide) ?_
        obtain ⟨hz0, hf⟩ := nz_some hf
        refine go_irem dX12_isMethod_128 hz0 ?_
        refine go_if_eq (tgt := 163) dX12_isMethod_129 (by decide) hf (fun hf => ?_) (fun hf => ?_)
        · refine go_iconst 1 dX12_isMethod_163 rfl ?_
          refine go_goto (tgt := 168) dX12_isMethod_164 (by decide) ?_
          exact go_zreturn dX12_isMethod_168 rfl hf
        · refine go_sub (lv' := [(1, .int x1)]) [1] rfl ?_
          exact t_X12_isMethod_132 x1 h q hf
  rw [if_neg e3] at hf
  by_cases e4 : x0 = 90
  · rw [if_pos e4] at hf
    refine go_lsw1 (off := 168) (tgt := 169) dX12_isMethod_1 (by decide) (by rw [e4]; decide) (by decide) ?_
    refine go_iload_n dX12_isMethod_169 rfl 1 rfl ?_
    refine go_bipush 10 dX12_isMethod_170 (by decide) ?_
    refine go_icmp_eq (tgt := 187) dX12_isMethod_172 (by decide) hf (fun hf => ?_) (fun hf => ?_)
    · refine go_iconst 1 dX12_isMethod_187 rfl ?_
      refine go_goto (tgt := 192) dX12_isMethod_188 (by decide) ?_
      exact go_zreturn dX12_isMethod_192 rfl hf
    · refine go_iload_n dX12_isMethod_175 rfl 1 rfl ?_
      refine go_bipush 20 dX12_isMethod_176 (by decide) ?_
      refine go_icmp_eq (tgt := 187) dX12_isMethod_178 (by decide) hf (fun hf => ?_) (fun hf => ?_)
      · refine go_iconst 1 dX12_isMethod_187 rfl ?_
        refine go_goto (tgt := 192) dX12_isMethod_188 (by decide) ?_
        exact go_zreturn dX12_isMethod_192 rfl hf
      · refine go_iload_n dX12_isMethod_181 rfl 1 rfl ?_
        refine go_bipush 30 dX12_isMethod_182 (by decide) ?_
        refine go_icmp_ne (tgt := 191) dX12_isMethod_184 (by decide) hf (fun hf => ?_) (fun hf => ?_)
        · refine go_iconst 0 dX12_isMethod_191 rfl ?_
          exact go_zreturn dX12_isMethod_192 rfl hf
        · refine go_iconst 1 dX12_isMethod_187 rfl ?_
          refine go_goto (tgt := 192) dX12_isMethod_188 (by decide) ?_
          exact go_zreturn dX12_isMethod_192 rfl hf
  rw [if_neg e4] at hf
  refine go_lsw1 (off := 192) (tgt := 193) dX12_isMethod_1 (by decide) (lk_c (ti (by decide) e0) (lk_c (ti (by decide) e1) (lk_c (ti (by decide) e2) (lk_c (ti (by decide) e3) (lk_c (ti (by decide) e4) rfl))))) (by decide) ?_
  refine go_iconst 0 dX12_isMethod_193 rfl ?_
  exact go_zreturn dX12_isMethod_194 rfl hf
-- LetterBrokerModel.cancel()V
theorem dX12_cancel_0 : decode cX12_cancel 0 = .ok (.aload_n 0, 1) := by decide +kernel
theorem dX12_cancel_1 : decode cX12_cancel 1 = .ok (.invokevirtual 321, 3) := by decide +kernel
theorem dX12_cancel_4 : decode cX12_cancel 4 = .ok (.lstore_n 1, 1) := by decide +kernel
theorem dX12_cancel_5 : decode cX12_cancel 5 = .ok (.aload_n 0, 1) := by decide +kernel
theorem dX12_cancel_6 : decode cX12_cancel 6 = .ok (.invokevirtual 329, 3) := by decide +kernel
theorem dX12_cancel_9 : decode cX12_cancel 9 = .ok (.ifCond .ne 4, 3) := by decide +kernel
theorem dX12_cancel_12 : decode cX12_cancel 12 = .ok (.return_, 1) := by decide +kernel
theorem dX12_cancel_13 : decode cX12_cancel 13 = .ok (.aload_n 0, 1) := by decide +kernel
theorem dX12_cancel_14 : decode cX12_cancel 14 = .ok (.getfield 198, 3) := by decide +kernel
theorem dX12_cancel_17 : decode cX12_cancel 17 = .ok (.iconst 1, 1) := by decide +kernel
theorem dX12_cancel_18 : decode cX12_cancel 18 = .ok (.isub, 1) := by decide +kernel
theorem dX12_cancel_19 : decode cX12_cancel 19 = .ok (.istore_n 3, 1) := by decide +kernel
theorem dX12_cancel_20 : decode cX12_cancel 20 = .ok (.iload_n 3, 1) := by decide +kernel
theorem dX12_cancel_21 : decode cX12_cancel 21 = .ok (.ifCond .lt 38, 3) := by decide +kernel
theorem dX12_cancel_24 : decode cX12_cancel 24 = .ok (.aload_n 0, 1) := by decide +kernel
theorem dX12_cancel_25 : decode cX12_cancel 25 = .ok (.getfield 48, 3) := by decide +kernel
theorem dX12_cancel_28 : decode cX12_cancel 28 = .ok (.iload_n 3, 1) := by decide +kernel
theorem dX12_cancel_29 : decode cX12_cancel 29 = .ok (.iaload, 1) := by decide +kernel
theorem dX12_cancel_30 : decode cX12_cancel 30 = .ok (.aload_n 0, 1) := by decide +kernel
theorem dX12_cancel_31 : decode cX12_cancel 31 = .ok (.getfield 318, 3) := by decide +kernel
theorem dX12_cancel_34 : decode cX12_cancel 34 = .ok (.if_icmp .ne 19, 3) := by decide +kernel
theorem dX12_cancel_37 : decode cX12_cancel 37 = .ok (.aload_n 0, 1) := by decide +kernel
theorem dX12_cancel_38 : decode cX12_cancel 38 = .ok (.getfield 51, 3) := by decide +kernel
theorem dX12_cancel_41 : decode cX12_cancel 41 = .ok (.iload_n 3, 1) := by decide +kernel
theorem dX12_cancel_42 : decode cX12_cancel 42 = .ok (.laload, 1) := by decide +kernel
theorem dX12_cancel_43 : decode cX12_cancel 43 = .ok (.lload_n 1, 1) := by decide +kernel
theorem dX12_cancel_44 : decode cX12_cancel 44 = .ok (.lcmp, 1) := by decide +kernel
theorem dX12_cancel_45 : decode cX12_cancel 45 = .ok (.ifCond .ne 8, 3) := by decide +kernel
theorem dX12_cancel_48 : decode cX12_cancel 48 = .ok (.aload_n 0, 1) := by decide +kernel
theorem dX12_cancel_49 : decode cX12_cancel 49 = .ok (.iload_n 3, 1) := by decide +kernel
theorem dX12_cancel_50 : decode cX12_cancel 50 = .ok (.invokevirtual 201, 3) := by decide +kernel
theorem dX12_cancel_53 : decode cX12_cancel 53 = .ok (.iinc 3 (-1), 3) := by decide +kernel
theorem dX12_cancel_56 : decode cX12_cancel 56 = .ok (.goto (-36), 3) := by decide +kernel
theorem dX12_cancel_59 : decode cX12_cancel 59 = .ok (.aload_n 0, 1) := by decide +kernel
theorem dX12_cancel_60 : decode cX12_cancel 60 = .ok (.aload_n 0, 1) := by decide +kernel
theorem dX12_cancel_61 : decode cX12_cancel 61 = .ok (.getfield 318, 3) := by decide +kernel
theorem dX12_cancel_64 : decode cX12_cancel 64 = .ok (.bipush 60, 2) := by decide +kernel
theorem dX12_cancel_66 : decode cX12_cancel 66 = .ok (.bipush 31, 2) := by decide +kernel
theorem dX12_cancel_68 : decode cX12_cancel 68 = .ok (.invokevirtual 168, 3) := by decide +kernel
theorem dX12_cancel_71 : decode cX12_cancel 71 = .ok (.aload_n 0, 1) := by decide +kernel
theorem dX12_cancel_72 : decode cX12_cancel 72 = .ok (.lload_n 1, 1) := by decide +kernel
theorem dX12_cancel_73 : decode cX12_cancel 73 = .ok (.invokevirtual 258, 3) := by decide +kernel
theorem dX12_cancel_76 : decode cX12_cancel 76 = .ok (.aload_n 0, 1) := by decide +kernel
theorem dX12_cancel_77 : decode cX12_cancel 77 = .ok (.invokevirtual 172, 3) := by decide +kernel
theorem dX12_cancel_80 : decode cX12_cancel 80 = .ok (.return_, 1) := by decide +kernel
def f_X12_cancel_53 (k20 : Nat → Int64 → Int32 → AH → Option (Unit × AH)) (a0 : Nat) (x1 : Int64) (x3 : Int32) (h : AH) : Option (Unit × AH) := k20 a0 x1 (x3 + (-1)) h
set_option maxRecDepth 20000 in
set_option maxHeartbeats 4000000 in
theorem t_X12_cancel_53 {Ω : Om} {k20 : Nat → Int64 → Int32 → AH → Option (Unit × AH)} (c20 : ∀ (a0 : Nat) (x1 : Int64) (x3 : Int32) (h : AH) (q : Unit × AH), k20 a0 x1 x3 h = some q → Go Ω M_X12_cancel 20 [(0, vR Ω (some a0)), (1, .long x1), (3, .int x3)] [] h none q.2) (a0 : Nat) (x1 : Int64) (x3 : Int32) (h : AH) (q : Unit × AH) (hf : f_X12_cancel_53 k20 a0 x1 x3 h = some q) : Go Ω M_X12_cancel 53 [(0, vR Ω (some a0)), (1, .long x1), (3, .int x3)] [] h none q.2 := by
  unfold f_X12_cancel_53 at hf
  refine go_iinc (j := 2) (v := x3 + (-1)) (lv' := [(3, .int (x3 + (-1))), (0, vR Ω (some a0)), (1, .long x1)]) dX12_cancel_53 rfl rfl (by decide) (by first | rfl | simp [catR, catI, catJ]) ?_
  refine go_goto (tgt := 20) dX12_cancel_56 (by decide) ?_
  refine go_sub (lv' := [(0, vR Ω (some a0)), (1, .long x1), (3, .int (x3 + (-1)))]) [1, 2, 0] rfl ?_
  exact c20 a0 x1 (x3 + (-1)) h q hf
def f_X12_cancel_59 (a0 : Nat) (x1 : Int64) (h : AH) : Option (Unit × AH) := rdI h a0 13 54 fun x_1 =>
  kg h a0 13 (bd (f_X12_method a0 x_1 60 31 h) fun _ h_3 =>
  kg h_3 a0 13 (bd (f_X12_putName a0 x1 h_3) fun _ h_5 =>
  kg h_5 a0 13 (bd (f_X12_finish a0 h_5) fun _ h_7 =>
  some ((), h_7))))
set_option maxRecDepth 20000 in
set_option maxHeartbeats 4000000 in
theorem t_X12_cancel_59 {Ω : Om} (a0 : Nat) (x1 : Int64) (h : AH) (q : Unit × AH) (hf : f_X12_cancel_59 a0 x1 h = some q) : Go Ω M_X12_cancel 59 [(0, vR Ω (some a0)), (1, .long x1)] [] h none q.2 := by
  unfold f_X12_cancel_59 at hf
  refine go_aload_n dX12_cancel_59 rfl 0 rfl ?_
  refine go_aload_n dX12_cancel_60 rfl 0 rfl ?_
  refine go_getI dX12_cancel_61 fl_1173_0 (fun _ _ => rfl) hf (fun x_1 hf => ?_)
  refine go_bipush 60 dX12_cancel_64 (by decide) ?_
  refine go_bipush 31 dX12_cancel_66 (by decide) ?_
  obtain ⟨hk, hf⟩ := kg_some hf
  obtain ⟨z_2, hc, hf⟩ := bd_some hf
  refine go_callV (y2 := M_X12_method) (c2 := 13) dX12_cancel_68 mo_X12_method ⟨Nat.le_of_ble_eq_true rfl, Nat.le_of_ble_eq_true rfl⟩ na_X12_method w1325 w1327 (by decide) rfl w50 hk [.int x_1, .int 60, .int 31] rfl (n_X12_method (a0) x_1 60 31) rfl (csum (Nat.le_of_ble_eq_true rfl)) (t_X12_method (a0) x_1 60 31 h _ hc) ?_
  obtain ⟨_, h_3⟩ := z_2
  refine go_aload_n dX12_cancel_71 rfl 0 rfl ?_
  refine go_lload_n dX12_cancel_72 rfl 1 rfl ?_
  obtain ⟨hk, hf⟩ := kg_some hf
  obtain ⟨z_4, hc, hf⟩ := bd_some hf
  refine go_callV (y2 := M_X12_putName) (c2 := 13) dX12_cancel_73 mo_X12_putName ⟨Nat.le_of_ble_eq_true rfl, Nat.le_of_ble_eq_true rfl⟩ na_X12_putName w1460 w1462 (by decide) rfl w83 hk [.long x1] rfl (n_X12_putName (a0) x1) rfl (csum (Nat.le_of_ble_eq_true rfl)) (t_X12_putName (a0) x1 h_3 _ hc) ?_
  obtain ⟨_, h_5⟩ := z_4
  refine go_aload_n dX12_cancel_76 rfl 0 rfl ?_
  obtain ⟨hk, hf⟩ := kg_some hf
  obtain ⟨z_6, hc, hf⟩ := bd_some hf
  refine go_callV (y2 := M_X12_finish) (c2 := 13) dX12_cancel_77 mo_X12_finish ⟨Nat.le_of_ble_eq_true rfl, Nat.le_of_ble_eq_true rfl⟩ na_X12_finish w1341 w1343 (by decide) rfl w54 hk [] rfl (n_X12_finish (a0)) rfl (csum (Nat.le_of_ble_eq_true rfl)) (t_X12_finish (a0) h_5 _ hc) ?_
  obtain ⟨_, h_7⟩ := z_6
  exact go_return dX12_cancel_80 rfl hf
def f_X12_cancel_20 : Nat → Nat → Int64 → Int32 → AH → Option (Unit × AH)
  | 0, _, _, _, _ => none
  | n + 1, a0, x1, x3, h => (if x3 < 0 then
      f_X12_cancel_59 a0 x1 h
    else
      rdR h a0 13 20 fun r_1 =>
      nn r_1 fun a_2 =>
      arI h a_2 x3 fun x_3 =>
      rdI h a0 13 54 fun x_4 =>
      (if x_3 = x_4 then
        rdR h a0 13 21 fun r_5 =>
        nn r_5 fun a_6 =>
        arJ h a_6 x3 fun x_7 =>
        (if (lg_cmp x_7 x1) = 0 then
          kg h a0 13 (bd (f_X12_removeConsumer a0 x3 h) fun _ h_9 =>
          f_X12_cancel_53 (fun a0 x1 x3 h => f_X12_cancel_20 n a0 x1 x3 h) a0 x1 x3 h_9)
        else
          f_X12_cancel_53 (fun a0 x1 x3 h => f_X12_cancel_20 n a0 x1 x3 h) a0 x1 x3 h)
      else
        f_X12_cancel_53 (fun a0 x1 x3 h => f_X12_cancel_20 n a0 x1 x3 h) a0 x1 x3 h))
set_option maxRecDepth 20000 in
set_option maxHeartbeats 4000000 in
theorem t_X12_cancel_20 {Ω : Om} : ∀ (n : Nat) (a0 : Nat) (x1 : Int64) (x3 : Int32) (h : AH) (q : Unit × AH), f_X12_cancel_20 n a0 x1 x3 h = some q → Go Ω M_X12_cancel 20 [(0, vR Ω (some a0)), (1, .long x1), (3, .int x3)] [] h none q.2 := by
  intro n
  induction n with
  | zero => intro a0 x1 x3 h q hf; cases hf
  | succ n ih =>
    intro a0 x1 x3 h q hf
    rw [f_X12_cancel_20] at hf
    refine go_iload_n dX12_cancel_20 rfl 2 rfl ?_
    refine go_if_lt (tgt := 59) dX12_cancel_21 (by decide) hf (fun hf => ?_) (fun hf => ?_)
    · refine go_sub (lv' := [(0, vR Ω (some a0)), (1, .long x1)]) [0, 1] rfl ?_
      exact t_X12_cancel_59 a0 x1 h q hf
    · refine go_aload_n dX12_cancel_24 rfl 0 rfl ?_
      refine go_getR dX12_cancel_25 fl_1139_0 (fun _ _ => rfl) hf (fun r_1 hf => ?_)
      refine go_iload_n dX12_cancel_28 rfl 2 rfl ?_
      obtain ⟨a_2, rfl, hga_2⟩ := nn_some hf
      have hf := hga_2
      refine go_iaload dX12_cancel_29 hf (fun x_3 hf => ?_)
      refine go_aload_n dX12_cancel_30 rfl 0 rfl ?_
      refine go_getI dX12_cancel_31 fl_1173_0 (fun _ _ => rfl) hf (fun x_4 hf => ?_)
      refine go_icmp_ne (tgt := 53) dX12_cancel_34 (by decide) hf (fun hf => ?_) (fun hf => ?_)
      · refine go_sub (lv' := [(0, vR Ω (some a0)), (1, .long x1), (3, .int x3)]) [0, 1, 2] rfl ?_
        exact t_X12_cancel_53 ih a0 x1 x3 h q hf
      · refine go_aload_n dX12_cancel_37 rfl 0 rfl ?_
        refine go_getR dX12_cancel_38 fl_1140_0 (fun _ _ => rfl) hf (fun r_5 hf => ?_)
        refine go_iload_n dX12_cancel_41 rfl 2 rfl ?_
        obtain ⟨a_6, rfl, hga_6⟩ := nn_some hf
        have hf := hga_6
        refine go_laload dX12_cancel_42 hf (fun x_7 hf => ?_)
        refine go_lload_n dX12_cancel_43 rfl 1 rfl ?_
        refine go_lcmp dX12_cancel_44 ?_
        refine go_if_ne (tgt := 53) dX12_cancel_45 (by decide) hf (fun hf => ?_) (fun hf => ?_)
        · refine go_sub (lv' := [(0, vR Ω (some a0)), (1, .long x1), (3, .int x3)]) [0, 1, 2] rfl ?_
          exact t_X12_cancel_53 ih a0 x1 x3 h q hf
        · refine go_aload_n dX12_cancel_48 rfl 0 rfl ?_
          refine go_iload_n dX12_cancel_49 rfl 2 rfl ?_
          obtain ⟨hk, hf⟩ := kg_some hf
          obtain ⟨z_8, hc, hf⟩ := bd_some hf
          refine go_callV (y2 := M_X12_removeConsumer) (c2 := 13) dX12_cancel_50 mo_X12_removeConsumer ⟨Nat.le_of_ble_eq_true rfl, Nat.le_of_ble_eq_true rfl⟩ na_X12_removeConsumer w1353 w1355 (by decide) rfl w57 hk [.int x3] rfl (n_X12_removeConsumer (a0) x3) rfl (csum (Nat.le_of_ble_eq_true rfl)) (t_X12_removeConsumer (a0) x3 h _ hc) ?_
          obtain ⟨_, h_9⟩ := z_8
          refine go_sub (lv' := [(0, vR Ω (some a0)), (1, .long x1), (3, .int x3)]) [0, 1, 2] rfl ?_
          exact t_X12_cancel_53 ih a0 x1 x3 h_9 q hf
def f_X12_cancel (a0 : Nat) (h : AH) : Option (Unit × AH) := kg h a0 13 (bd (f_X12_nextName a0 h) fun x_3 h_2 =>
  kg h_2 a0 13 (bd (f_X12_isJust a0 h_2) fun x_6 h_5 =>
  (if x_6 = 0 then
    some ((), h_5)
  else
    rdI h_5 a0 13 17 fun x_7 =>
    lt (x_7 - 1) fun x_8 =>
    f_X12_cancel_20 FU a0 x_3 x_8 h_5)))
set_option maxRecDepth 20000 in
set_option maxHeartbeats 4000000 in
theorem t_X12_cancel {Ω : Om} (a0 : Nat) (h : AH) (q : Unit × AH) (hf : f_X12_cancel a0 h = some q) : Go Ω M_X12_cancel 0 (lv_args 0 [vR Ω (some a0)]) [] h none q.2 := by
  unfold f_X12_cancel at hf
  rw [la_R, la_0]
  refine go_sub (lv' := [(0, vR Ω (some a0))]) [0] rfl ?_
  refine go_aload_n dX12_cancel_0 rfl 0 rfl ?_
  obtain ⟨hk, hf⟩ := kg_some hf
  obtain ⟨z_1, hc, hf⟩ := bd_some hf
  refine go_callV (y2 := M_X12_nextName) (c2 := 13) dX12_cancel_1 mo_X12_nextName ⟨Nat.le_of_ble_eq_true rfl, Nat.le_of_ble_eq_true rfl⟩ na_X12_nextName w1420 w1422 (by decide) rfl w73 hk [] rfl (n_X12_nextName (a0)) rfl (csum (Nat.le_of_ble_eq_true rfl)) (t_X12_nextName (a0) h _ hc) ?_
  obtain ⟨x_3, h_2⟩ := z_1
  refine go_lstore_n (i := 1) (lv' := [(1, .long x_3), (0, vR Ω (some a0))]) dX12_cancel_4 rfl (by decide) (by first | rfl | simp [catR, catI, catJ]) ?_
  refine go_aload_n dX12_cancel_5 rfl 1 rfl ?_
  obtain ⟨hk, hf⟩ := kg_some hf
  obtain ⟨z_4, hc, hf⟩ := bd_some hf
  refine go_callV (y2 := M_X12_isJust) (c2 := 13) dX12_cancel_6 mo_X12_isJust ⟨Nat.le_of_ble_eq_true rfl, Nat.le_of_ble_eq_true rfl⟩ na_X12_isJust w1405 w1407 (by decide) rfl w70 hk [] rfl (n_X12_isJust (a0)) rfl (csum (Nat.le_of_ble_eq_true rfl)) (t_X12_isJust (a0) h_2 _ hc) ?_
  obtain ⟨x_6, h_5⟩ := z_4
  refine go_if_ne (tgt := 13) dX12_cancel_9 (by decide) hf (fun hf => ?_) (fun hf => ?_)
  · refine go_aload_n dX12_cancel_13 rfl 1 rfl ?_
    refine go_getI dX12_cancel_14 fl_1136_0 (fun _ _ => rfl) hf (fun x_7 hf => ?_)
    refine go_iconst 1 dX12_cancel_17 rfl ?_
    refine go_isub dX12_cancel_18 ?_
    refine lt_I hf (fun x_8 hf => ?_)
    refine go_istore_n (i := 3) (lv' := [(3, .int x_8), (1, .long x_3), (0, vR Ω (some a0))]) dX12_cancel_19 rfl (by decide) (by first | rfl | simp [catR, catI, catJ]) ?_
    refine go_sub (lv' := [(0, vR Ω (some a0)), (1, .long x_3), (3, .int x_8)]) [2, 1, 0] rfl ?_
    exact t_X12_cancel_20 FU a0 x_3 x_8 h_5 q hf
  · exact go_return dX12_cancel_12 rfl hf
-- LetterBrokerModel.hasTag(IJ)Z
theorem dX12_hasTag_0 : decode cX12_hasTag 0 = .ok (.iconst 0, 1) := by decide +kernel
theorem dX12_hasTag_1 : decode cX12_hasTag 1 = .ok (.istore 4, 2) := by decide +kernel
theorem dX12_hasTag_3 : decode cX12_hasTag 3 = .ok (.iconst 0, 1) := by decide +kernel
theorem dX12_hasTag_4 : decode cX12_hasTag 4 = .ok (.istore 5, 2) := by decide +kernel
theorem dX12_hasTag_6 : decode cX12_hasTag 6 = .ok (.iload 5, 2) := by decide +kernel
theorem dX12_hasTag_8 : decode cX12_hasTag 8 = .ok (.aload_n 0, 1) := by decide +kernel
theorem dX12_hasTag_9 : decode cX12_hasTag 9 = .ok (.getfield 198, 3) := by decide +kernel
theorem dX12_hasTag_12 : decode cX12_hasTag 12 = .ok (.if_icmp .ge 44, 3) := by decide +kernel
theorem dX12_hasTag_15 : decode cX12_hasTag 15 = .ok (.iload 4, 2) := by decide +kernel
theorem dX12_hasTag_17 : decode cX12_hasTag 17 = .ok (.ifCond .ne 26, 3) := by decide +kernel
theorem dX12_hasTag_20 : decode cX12_hasTag 20 = .ok (.aload_n 0, 1) := by decide +kernel
theorem dX12_hasTag_21 : decode cX12_hasTag 21 = .ok (.getfield 48, 3) := by decide +kernel
theorem dX12_hasTag_24 : decode cX12_hasTag 24 = .ok (.iload 5, 2) := by decide +kernel
theorem dX12_hasTag_26 : decode cX12_hasTag 26 = .ok (.iaload, 1) := by decide +kernel
theorem dX12_hasTag_27 : decode cX12_hasTag 27 = .ok (.iload_n 1, 1) := by decide +kernel
theorem dX12_hasTag_28 : decode cX12_hasTag 28 = .ok (.if_icmp .ne 19, 3) := by decide +kernel
theorem dX12_hasTag_31 : decode cX12_hasTag 31 = .ok (.aload_n 0, 1) := by decide +kernel
theorem dX12_hasTag_32 : decode cX12_hasTag 32 = .ok (.getfield 51, 3) := by decide +kernel
theorem dX12_hasTag_35 : decode cX12_hasTag 35 = .ok (.iload 5, 2) := by decide +kernel
theorem dX12_hasTag_37 : decode cX12_hasTag 37 = .ok (.laload, 1) := by decide +kernel
theorem dX12_hasTag_38 : decode cX12_hasTag 38 = .ok (.lload_n 2, 1) := by decide +kernel
theorem dX12_hasTag_39 : decode cX12_hasTag 39 = .ok (.lcmp, 1) := by decide +kernel
theorem dX12_hasTag_40 : decode cX12_hasTag 40 = .ok (.ifCond .ne 7, 3) := by decide +kernel
theorem dX12_hasTag_43 : decode cX12_hasTag 43 = .ok (.iconst 1, 1) := by decide +kernel
theorem dX12_hasTag_44 : decode cX12_hasTag 44 = .ok (.goto 4, 3) := by decide +kernel
theorem dX12_hasTag_47 : decode cX12_hasTag 47 = .ok (.iconst 0, 1) := by decide +kernel
theorem dX12_hasTag_48 : decode cX12_hasTag 48 = .ok (.istore 4, 2) := by decide +kernel
theorem dX12_hasTag_50 : decode cX12_hasTag 50 = .ok (.iinc 5 1, 3) := by decide +kernel
theorem dX12_hasTag_53 : decode cX12_hasTag 53 = .ok (.goto (-47), 3) := by decide +kernel
theorem dX12_hasTag_56 : decode cX12_hasTag 56 = .ok (.iload 4, 2) := by decide +kernel
theorem dX12_hasTag_58 : decode cX12_hasTag 58 = .ok (.ireturn, 1) := by decide +kernel
def f_X12_hasTag_48 (k6 : Nat → Int32 → Int64 → Int32 → Int32 → AH → Option (Int32 × AH)) (a0 : Nat) (x1 : Int32) (x2 : Int64) (x5 : Int32) (s0 : Int32) (h : AH) : Option (Int32 × AH) := k6 a0 x1 x2 s0 (x5 + 1) h
set_option maxRecDepth 20000 in
set_option maxHeartbeats 4000000 in
theorem t_X12_hasTag_48 {Ω : Om} {k6 : Nat → Int32 → Int64 → Int32 → Int32 → AH → Option (Int32 × AH)} (c6 : ∀ (a0 : Nat) (x1 : Int32) (x2 : Int64) (x4 : Int32) (x5 : Int32) (h : AH) (q : Int32 × AH), k6 a0 x1 x2 x4 x5 h = some q → Go Ω M_X12_hasTag 6 [(0, vR Ω (some a0)), (1, .int x1), (2, .long x2), (4, .int x4), (5, .int x5)] [] h (some (.int q.1)) q.2) (a0 : Nat) (x1 : Int32) (x2 : Int64) (x5 : Int32) (s0 : Int32) (h : AH) (q : Int32 × AH) (hf : f_X12_hasTag_48 k6 a0 x1 x2 x5 s0 h = some q) : Go Ω M_X12_hasTag 48 [(0, vR Ω (some a0)), (1, .int x1), (2, .long x2), (5, .int x5)] [.int s0] h (some (.int q.1)) q.2 := by
  unfold f_X12_hasTag_48 at hf
  refine go_istore (i := 4) (lv' := [(4, .int s0), (0, vR Ω (some a0)), (1, .int x1), (2, .long x2), (5, .int x5)]) dX12_hasTag_48 (by decide) (by first | rfl | simp [catR, catI, catJ]) ?_
  refine go_iinc (j := 4) (v := x5 + 1) (lv' := [(5, .int (x5 + 1)), (4, .int s0), (0, vR Ω (some a0)), (1, .int x1), (2, .long x2)]) dX12_hasTag_50 rfl rfl (by decide) (by first | rfl | simp [catR, catI, catJ]) ?_
  refine go_goto (tgt := 6) dX12_hasTag_53 (by decide) ?_
  refine go_sub (lv' := [(0, vR Ω (some a0)), (1, .int x1), (2, .long x2), (4, .int s0), (5, .int (x5 + 1))]) [2, 3, 4, 1, 0] rfl ?_
  exact c6 a0 x1 x2 s0 (x5 + 1) h q hf
def f_X12_hasTag_6 : Nat → Nat → Int32 → Int64 → Int32 → Int32 → AH → Option (Int32 × AH)
  | 0, _, _, _, _, _, _ => none
  | n + 1, a0, x1, x2, x4, x5, h => rdI h a0 13 17 fun x_1 =>
    (if x_1 ≤ x5 then
      rz x4 (some (x4, h))
    else
      (if x4 = 0 then
        rdR h a0 13 20 fun r_2 =>
        nn r_2 fun a_3 =>
        arI h a_3 x5 fun x_4 =>
        (if x_4 = x1 then
          rdR h a0 13 21 fun r_5 =>
          nn r_5 fun a_6 =>
          arJ h a_6 x5 fun x_7 =>
          (if (lg_cmp x_7 x2) = 0 then
            f_X12_hasTag_48 (fun a0 x1 x2 x4 x5 h => f_X12_hasTag_6 n a0 x1 x2 x4 x5 h) a0 x1 x2 x5 1 h
          else
            f_X12_hasTag_48 (fun a0 x1 x2 x4 x5 h => f_X12_hasTag_6 n a0 x1 x2 x4 x5 h) a0 x1 x2 x5 0 h)
        else
          f_X12_hasTag_48 (fun a0 x1 x2 x4 x5 h => f_X12_hasTag_6 n a0 x1 x2 x4 x5 h) a0 x1 x2 x5 0 h)
      else
        f_X12_hasTag_48 (fun a0 x1 x2 x4 x5 h => f_X12_hasTag_6 n a0 x1 x2 x4 x5 h) a0 x1 x2 x5 1 h))
set_option maxRecDepth 20000 in
set_option maxHeartbeats 4000000 in
theorem t_X12_hasTag_6 {Ω : Om} : ∀ (n : Nat) (a0 : Nat) (x1 : Int32) (x2 : Int64) (x4 : Int32) (x5 : Int32) (h : AH) (q : Int32 × AH), f_X12_hasTag_6 n a0 x1 x2 x4 x5 h = some q → Go Ω M_X12_hasTag 6 [(0, vR Ω (some a0)), (1, .int x1), (2, .long x2), (4, .int x4), (5, .int x5)] [] h (some (.int q.1)) q.2 := by
  intro n
  induction n with
  | zero => intro a0 x1 x2 x4 x5 h q hf; cases hf
  | succ n ih =>
    intro a0 x1 x2 x4 x5 h q hf
    rw [f_X12_hasTag_6] at hf
    refine go_iload dX12_hasTag_6 4 rfl ?_
    refine go_aload_n dX12_hasTag_8 rfl 0 rfl ?_
    refine go_getI dX12_hasTag_9 fl_1136_0 (fun _ _ => rfl) hf (fun x_1 hf => ?_)
    refine go_icmp_ge (tgt := 56) dX12_hasTag_12 (by decide) hf (fun hf => ?_) (fun hf => ?_)
    · refine go_iload dX12_hasTag_56 3 rfl ?_
      exact go_zreturn dX12_hasTag_58 rfl hf
    · refine go_iload dX12_hasTag_15 3 rfl ?_
      refine go_if_ne (tgt := 43) dX12_hasTag_17 (by decide) hf (fun hf => ?_) (fun hf => ?_)
      · refine go_iconst 1 dX12_hasTag_43 rfl ?_
        refine go_goto (tgt := 48) dX12_hasTag_44 (by decide) ?_
        refine go_sub (lv' := [(0, vR Ω (some a0)), (1, .int x1), (2, .long x2), (5, .int x5)]) [0, 1, 2, 4] rfl ?_
        exact t_X12_hasTag_48 ih a0 x1 x2 x5 1 h q hf
      · refine go_aload_n dX12_hasTag_20 rfl 0 rfl ?_
        refine go_getR dX12_hasTag_21 fl_1139_0 (fun _ _ => rfl) hf (fun r_2 hf => ?_)
        refine go_iload dX12_hasTag_24 4 rfl ?_
        obtain ⟨a_3, rfl, hga_3⟩ := nn_some hf
        have hf := hga_3
        refine go_iaload dX12_hasTag_26 hf (fun x_4 hf => ?_)
        refine go_iload_n dX12_hasTag_27 rfl 1 rfl ?_
        refine go_icmp_ne (tgt := 47) dX12_hasTag_28 (by decide) hf (fun hf => ?_) (fun hf => ?_)
        · refine go_iconst 0 dX12_hasTag_47 rfl ?_
          refine go_sub (lv' := [(0, vR Ω (some a0)), (1, .int x1), (2, .long x2), (5, .int x5)]) [0, 1, 2, 4] rfl ?_
          exact t_X12_hasTag_48 ih a0 x1 x2 x5 0 h q hf
        · refine go_aload_n dX12_hasTag_31 rfl 0 rfl ?_
          refine go_getR dX12_hasTag_32 fl_1140_0 (fun _ _ => rfl) hf (fun r_5 hf => ?_)
          refine go_iload dX12_hasTag_35 4 rfl ?_
          obtain ⟨a_6, rfl, hga_6⟩ := nn_some hf
          have hf := hga_6
          refine go_laload dX12_hasTag_37 hf (fun x_7 hf => ?_)
          refine go_lload_n dX12_hasTag_38 rfl 2 rfl ?_
          refine go_lcmp dX12_hasTag_39 ?_
          refine go_if_ne (tgt := 47) dX12_hasTag_40 (by decide) hf (fun hf => ?_) (fun hf => ?_)
          · refine go_iconst 0 dX12_hasTag_47 rfl ?_
            refine go_sub (lv' := [(0, vR Ω (some a0)), (1, .int x1), (2, .long x2), (5, .int x5)]) [0, 1, 2, 4] rfl ?_
            exact t_X12_hasTag_48 ih a0 x1 x2 x5 0 h q hf
          · refine go_iconst 1 dX12_hasTag_43 rfl ?_
            refine go_goto (tgt := 48) dX12_hasTag_44 (by decide) ?_
            refine go_sub (lv' := [(0, vR Ω (some a0)), (1, .int x1), (2, .long x2), (5, .int x5)]) [0, 1, 2, 4] rfl ?_
            exact t_X12_hasTag_48 ih a0 x1 x2 x5 1 h q hf
def f_X12_hasTag (a0 : Nat) (x1 : Int32) (x2 : Int64) (h : AH) : Option (Int32 × AH) := f_X12_hasTag_6 FU a0 x1 x2 0 0 h
set_option maxRecDepth 20000 in
set_option maxHeartbeats 4000000 in
theorem t_X12_hasTag {Ω : Om} (a0 : Nat) (x1 : Int32) (x2 : Int64) (h : AH) (q : Int32 × AH) (hf : f_X12_hasTag a0 x1 x2 h = some q) : Go Ω M_X12_hasTag 0 (lv_args 0 [vR Ω (some a0), .int x1, .long x2]) [] h (some (.int q.1)) q.2 := by
  unfold f_X12_hasTag at hf
  rw [la_R, la_I, la_J, la_0]
  refine go_sub (lv' := [(0, vR Ω (some a0)), (1, .int x1), (2, .long x2)]) [0, 1, 2] rfl ?_
  refine go_iconst 0 dX12_hasTag_0 rfl ?_
  refine go_istore (i := 4) (lv' := [(4, .int 0), (0, vR Ω (some a0)), (1, .int x1), (2, .long x2)]) dX12_hasTag_1 (by decide) (by first | rfl | simp [catR, catI, catJ]) ?_
  refine go_iconst 0 dX12_hasTag_3 rfl ?_
  refine go_istore (i := 5) (lv' := [(5, .int 0), (4, .int 0), (0, vR Ω (some a0)), (1, .int x1), (2, .long x2)]) dX12_hasTag_4 (by decide) (by first | rfl | simp [catR, catI, catJ]) ?_
  refine go_sub (lv' := [(0, vR Ω (some a0)), (1, .int x1), (2, .long x2), (4, .int 0), (5, .int 0)]) [2, 3, 4, 1, 0] rfl ?_
  exact t_X12_hasTag_6 FU a0 x1 x2 0 0 h q hf

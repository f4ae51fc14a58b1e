/-! printed by wip/whole/gen: functions and their walks -/
-- LetterBrokerModel.step()I
theorem dX12_step_0 : decode cX12_step 0 = .ok (.aload_n 0, 1) := by decide +kernel
theorem dX12_step_1 : decode cX12_step 1 = .ok (.getfield 207, 3) := by decide +kernel
theorem dX12_step_4 : decode cX12_step 4 = .ok (.iconst 5, 1) := by decide +kernel
theorem dX12_step_5 : decode cX12_step 5 = .ok (.if_icmp .eq 13, 3) := by decide +kernel
theorem dX12_step_8 : decode cX12_step 8 = .ok (.aload_n 0, 1) := by decide +kernel
theorem dX12_step_9 : decode cX12_step 9 = .ok (.getfield 154, 3) := by decide +kernel
theorem dX12_step_12 : decode cX12_step 12 = .ok (.sipush 500, 3) := by decide +kernel
theorem dX12_step_15 : decode cX12_step 15 = .ok (.if_icmp .lt 5, 3) := by decide +kernel
theorem dX12_step_18 : decode cX12_step 18 = .ok (.iconst (-1), 1) := by decide +kernel
theorem dX12_step_19 : decode cX12_step 19 = .ok (.ireturn, 1) := by decide +kernel
theorem dX12_step_20 : decode cX12_step 20 = .ok (.aload_n 0, 1) := by decide +kernel
theorem dX12_step_21 : decode cX12_step 21 = .ok (.getfield 207, 3) := by decide +kernel
theorem dX12_step_24 : decode cX12_step 24 = .ok (.ifCond .ne 8, 3) := by decide +kernel
theorem dX12_step_27 : decode cX12_step 27 = .ok (.aload_n 0, 1) := by decide +kernel
theorem dX12_step_28 : decode cX12_step 28 = .ok (.invokevirtual 440, 3) := by decide +kernel
theorem dX12_step_31 : decode cX12_step 31 = .ok (.ireturn, 1) := by decide +kernel
theorem dX12_step_32 : decode cX12_step 32 = .ok (.aload_n 0, 1) := by decide +kernel
theorem dX12_step_33 : decode cX12_step 33 = .ok (.invokevirtual 443, 3) := by decide +kernel
theorem dX12_step_36 : decode cX12_step 36 = .ok (.istore_n 1, 1) := by decide +kernel
theorem dX12_step_37 : decode cX12_step 37 = .ok (.iload_n 1, 1) := by decide +kernel
theorem dX12_step_38 : decode cX12_step 38 = .ok (.ifCond .ne 5, 3) := by decide +kernel
theorem dX12_step_41 : decode cX12_step 41 = .ok (.iconst 0, 1) := by decide +kernel
theorem dX12_step_42 : decode cX12_step 42 = .ok (.ireturn, 1) := by decide +kernel
theorem dX12_step_43 : decode cX12_step 43 = .ok (.iload_n 1, 1) := by decide +kernel
theorem dX12_step_44 : decode cX12_step 44 = .ok (.ifCond .ge 12, 3) := by decide +kernel
theorem dX12_step_47 : decode cX12_step 47 = .ok (.aload_n 0, 1) := by decide +kernel
theorem dX12_step_48 : decode cX12_step 48 = .ok (.sipush 501, 3) := by decide +kernel
theorem dX12_step_51 : decode cX12_step 51 = .ok (.invokevirtual 315, 3) := by decide +kernel
theorem dX12_step_54 : decode cX12_step 54 = .ok (.iconst 1, 1) := by decide +kernel
theorem dX12_step_55 : decode cX12_step 55 = .ok (.ireturn, 1) := by decide +kernel
theorem dX12_step_56 : decode cX12_step 56 = .ok (.aload_n 0, 1) := by decide +kernel
theorem dX12_step_57 : decode cX12_step 57 = .ok (.aload_n 0, 1) := by decide +kernel
theorem dX12_step_58 : decode cX12_step 58 = .ok (.getfield 7, 3) := by decide +kernel
theorem dX12_step_61 : decode cX12_step 61 = .ok (.iconst 1, 1) := by decide +kernel
theorem dX12_step_62 : decode cX12_step 62 = .ok (.iaload, 1) := by decide +kernel
theorem dX12_step_63 : decode cX12_step 63 = .ok (.putfield 318, 3) := by decide +kernel
theorem dX12_step_66 : decode cX12_step 66 = .ok (.aload_n 0, 1) := by decide +kernel
theorem dX12_step_67 : decode cX12_step 67 = .ok (.iconst 3, 1) := by decide +kernel
theorem dX12_step_68 : decode cX12_step 68 = .ok (.putfield 301, 3) := by decide +kernel
theorem dX12_step_71 : decode cX12_step 71 = .ok (.aload_n 0, 1) := by decide +kernel
theorem dX12_step_72 : decode cX12_step 72 = .ok (.iload_n 1, 1) := by decide +kernel
theorem dX12_step_73 : decode cX12_step 73 = .ok (.iconst 1, 1) := by decide +kernel
theorem dX12_step_74 : decode cX12_step 74 = .ok (.isub, 1) := by decide +kernel
theorem dX12_step_75 : decode cX12_step 75 = .ok (.putfield 304, 3) := by decide +kernel
theorem dX12_step_78 : decode cX12_step 78 = .ok (.aload_n 0, 1) := by decide +kernel
theorem dX12_step_79 : decode cX12_step 79 = .ok (.iconst 0, 1) := by decide +kernel
theorem dX12_step_80 : decode cX12_step 80 = .ok (.putfield 307, 3) := by decide +kernel
theorem dX12_step_83 : decode cX12_step 83 = .ok (.aload_n 0, 1) := by decide +kernel
theorem dX12_step_84 : decode cX12_step 84 = .ok (.aload_n 0, 1) := by decide +kernel
theorem dX12_step_85 : decode cX12_step 85 = .ok (.getfield 7, 3) := by decide +kernel
theorem dX12_step_88 : decode cX12_step 88 = .ok (.iconst 0, 1) := by decide +kernel
theorem dX12_step_89 : decode cX12_step 89 = .ok (.iaload, 1) := by decide +kernel
theorem dX12_step_90 : decode cX12_step 90 = .ok (.invokevirtual 446, 3) := by decide +kernel
theorem dX12_step_93 : decode cX12_step 93 = .ok (.aload_n 0, 1) := by decide +kernel
theorem dX12_step_94 : decode cX12_step 94 = .ok (.getfield 207, 3) := by decide +kernel
theorem dX12_step_97 : decode cX12_step 97 = .ok (.iconst 5, 1) := by decide +kernel
theorem dX12_step_98 : decode cX12_step 98 = .ok (.if_icmp .eq 8, 3) := by decide +kernel
theorem dX12_step_101 : decode cX12_step 101 = .ok (.aload_n 0, 1) := by decide +kernel
theorem dX12_step_102 : decode cX12_step 102 = .ok (.iload_n 1, 1) := by decide +kernel
theorem dX12_step_103 : decode cX12_step 103 = .ok (.invokevirtual 437, 3) := by decide +kernel
theorem dX12_step_106 : decode cX12_step 106 = .ok (.aload_n 0, 1) := by decide +kernel
theorem dX12_step_107 : decode cX12_step 107 = .ok (.getfield 207, 3) := by decide +kernel
theorem dX12_step_110 : decode cX12_step 110 = .ok (.iconst 4, 1) := by decide +kernel
theorem dX12_step_111 : decode cX12_step 111 = .ok (.if_icmp .ne 18, 3) := by decide +kernel
theorem dX12_step_114 : decode cX12_step 114 = .ok (.aload_n 0, 1) := by decide +kernel
theorem dX12_step_115 : decode cX12_step 115 = .ok (.invokevirtual 449, 3) := by decide +kernel
theorem dX12_step_118 : decode cX12_step 118 = .ok (.ifCond .eq 11, 3) := by decide +kernel
theorem dX12_step_121 : decode cX12_step 121 = .ok (.aload_n 0, 1) := by decide +kernel
theorem dX12_step_122 : decode cX12_step 122 = .ok (.iconst 0, 1) := by decide +kernel
theorem dX12_step_123 : decode cX12_step 123 = .ok (.putfield 318, 3) := by decide +kernel
theorem dX12_step_126 : decode cX12_step 126 = .ok (.goto (-20), 3) := by decide +kernel
theorem dX12_step_129 : decode cX12_step 129 = .ok (.iconst 1, 1) := by decide +kernel
theorem dX12_step_130 : decode cX12_step 130 = .ok (.ireturn, 1) := by decide +kernel
def f_X12_step_106 : Nat → Nat → AH → Option (Int32 × AH)
  | 0, _, _ => none
  | n + 1, a0, h => rdI h a0 13 0 fun x_1 =>
    (if x_1 = 4 then
      kg h a0 13 (bd (f_X12_deliver a0 h) fun x_4 h_3 =>
      (if x_4 = 0 then
        some (1, h_3)
      else
        wrI h_3 a0 13 54 0 fun h_5 =>
        f_X12_step_106 n a0 h_5))
    else
      some (1, h))
set_option maxRecDepth 20000 in
set_option maxHeartbeats 4000000 in
theorem t_X12_step_106 {Ω : Om} : ∀ (n : Nat) (a0 : Nat) (h : AH) (q : Int32 × AH), f_X12_step_106 n a0 h = some q → Go Ω M_X12_step 106 [(0, vR Ω (some a0))] [] h (some (.int q.1)) q.2 := by
  intro n
  induction n with
  | zero => intro a0 h q hf; cases hf
  | succ n ih =>
    intro a0 h q hf
    rw [f_X12_step_106] at hf
    refine go_aload_n dX12_step_106 rfl 0 rfl ?_
    refine go_getI dX12_step_107 fl_1119_0 (fun _ _ => rfl) hf (fun x_1 hf => ?_)
    refine go_iconst 4 dX12_step_110 rfl ?_
    refine go_icmp_ne (tgt := 129) dX12_step_111 (by decide) hf (fun hf => ?_) (fun hf => ?_)
    · refine go_iconst 1 dX12_step_129 rfl ?_
      exact go_ireturn dX12_step_130 rfl hf
    · refine go_aload_n dX12_step_114 rfl 0 rfl ?_
      obtain ⟨hk, hf⟩ := kg_some hf
      obtain ⟨z_2, hc, hf⟩ := bd_some hf
      refine go_callV (y2 := M_X12_deliver) (c2 := 13) dX12_step_115 mo_X12_deliver ⟨Nat.le_of_ble_eq_true rfl, Nat.le_of_ble_eq_true rfl⟩ na_X12_deliver w1593 w1595 (by decide) rfl w114 hk [] rfl (n_X12_deliver (a0)) rfl (csum (Nat.le_of_ble_eq_true rfl)) (t_X12_deliver (a0) h _ hc) ?_
      obtain ⟨x_4, h_3⟩ := z_2
      refine go_if_eq (tgt := 129) dX12_step_118 (by decide) hf (fun hf => ?_) (fun hf => ?_)
      · refine go_iconst 1 dX12_step_129 rfl ?_
        exact go_ireturn dX12_step_130 rfl hf
      · refine go_aload_n dX12_step_121 rfl 0 rfl ?_
        refine go_iconst 0 dX12_step_122 rfl ?_
        refine go_putI dX12_step_123 fl_1173_0 (fun q hq => by cases hq; exact Or.inl rfl) (fun _ _ => rfl) rfl hf (fun h_5 hf => ?_)
        refine go_goto (tgt := 106) dX12_step_126 (by decide) ?_
        refine go_sub (lv' := [(0, vR Ω (some a0))]) [0] rfl ?_
        exact ih a0 h_5 q hf
def f_X12_step (a0 : Nat) (h : AH) : Option (Int32 × AH) := rdI h a0 13 0 fun x_1 =>
  (if x_1 = 5 then
    some (((-1)), h)
  else
    rdI h a0 13 4 fun x_2 =>
    (if x_2 < 500 then
      rdI h a0 13 0 fun x_3 =>
      (if x_3 = 0 then
        kg h a0 13 (bd (f_X12_greet a0 h) fun x_26 h_25 =>
        some (x_26, h_25))
      else
        kg h a0 13 (bd (f_X12_frameLength a0 h) fun x_6 h_5 =>
        (if x_6 = 0 then
          some (0, h_5)
        else
          (if 0 ≤ x_6 then
            rdR h_5 a0 13 1 fun r_7 =>
            nn r_7 fun a_8 =>
            arI h_5 a_8 1 fun x_9 =>
            wrI h_5 a0 13 54 x_9 fun h_10 =>
            wrI h_10 a0 13 55 3 fun h_11 =>
            wrI h_11 a0 13 56 (x_6 - 1) fun h_12 =>
            wrZ h_12 a0 13 57 0 fun h_13 =>
            rdR h_13 a0 13 1 fun r_14 =>
            nn r_14 fun a_15 =>
            arI h_13 a_15 0 fun x_16 =>
            kg h_13 a0 13 (bd (f_X12_frame a0 x_16 h_13) fun _ h_18 =>
            rdI h_18 a0 13 0 fun x_19 =>
            (if x_19 = 5 then
              f_X12_step_106 FU a0 h_18
            else
              kg h_18 a0 13 (bd (f_X12_drop a0 x_6 h_18) fun _ h_21 =>
              f_X12_step_106 FU a0 h_21)))
          else
            kg h_5 a0 13 (bd (f_X12_hard a0 501 h_5) fun _ h_23 =>
            some (1, h_23))))))
    else
      some (((-1)), h)))
set_option maxRecDepth 20000 in
set_option maxHeartbeats 4000000 in
theorem t_X12_step {Ω : Om} (a0 : Nat) (h : AH) (q : Int32 × AH) (hf : f_X12_step a0 h = some q) : Go Ω M_X12_step 0 (lv_args 0 [vR Ω (some a0)]) [] h (some (.int q.1)) q.2 := by
  unfold f_X12_step at hf
  rw [la_R, la_0]
  refine go_sub (lv' := [(0, vR Ω (some a0))]) [0] rfl ?_
  refine go_aload_n dX12_step_0 rfl 0 rfl ?_
  refine go_getI dX12_step_1 fl_1119_0 (fun _ _ => rfl) hf (fun x_1 hf => ?_)
  refine go_iconst 5 dX12_step_4 rfl ?_
  refine go_icmp_eq (tgt := 18) dX12_step_5 (by decide) hf (fun hf => ?_) (fun hf => ?_)
  · refine go_iconst (-1) dX12_step_18 rfl ?_
    exact go_ireturn dX12_step_19 rfl hf
  · refine go_aload_n dX12_step_8 rfl 0 rfl ?_
    refine go_getI dX12_step_9 fl_1123_0 (fun _ _ => rfl) hf (fun x_2 hf => ?_)
    refine go_sipush 500 dX12_step_12 (by decide) ?_
    refine go_icmp_lt (tgt := 20) dX12_step_15 (by decide) hf (fun hf => ?_) (fun hf => ?_)
    · refine go_aload_n dX12_step_20 rfl 0 rfl ?_
      refine go_getI dX12_step_21 fl_1119_0 (fun _ _ => rfl) hf (fun x_3 hf => ?_)
      refine go_if_ne (tgt := 32) dX12_step_24 (by decide) hf (fun hf => ?_) (fun hf => ?_)
      · refine go_aload_n dX12_step_32 rfl 0 rfl ?_
        obtain ⟨hk, hf⟩ := kg_some hf
        obtain ⟨z_4, hc, hf⟩ := bd_some hf
        refine go_callV (y2 := M_X12_frameLength) (c2 := 13) dX12_step_33 mo_X12_frameLength ⟨Nat.le_of_ble_eq_true rfl, Nat.le_of_ble_eq_true rfl⟩ na_X12_frameLength w1385 w1387 (by decide) rfl w65 hk [] rfl (n_X12_frameLength (a0)) rfl (csum (Nat.le_of_ble_eq_true rfl)) (t_X12_frameLength (a0) h _ hc) ?_
        obtain ⟨x_6, h_5⟩ := z_4
        refine go_istore_n (i := 1) (lv' := [(1, .int x_6), (0, vR Ω (some a0))]) dX12_step_36 rfl (by decide) (by first | rfl | simp [catR, catI, catJ]) ?_
        refine go_iload_n dX12_step_37 rfl 0 rfl ?_
        refine go_if_ne (tgt := 43) dX12_step_38 (by decide) hf (fun hf => ?_) (fun hf => ?_)
        · refine go_iload_n dX12_step_43 rfl 0 rfl ?_
          refine go_if_ge (tgt := 56) dX12_step_44 (by decide) hf (fun hf => ?_) (fun hf => ?_)
          · refine go_aload_n dX12_step_56 rfl 1 rfl ?_
            refine go_aload_n dX12_step_57 rfl 1 rfl ?_
            refine go_getR dX12_step_58 fl_1120_0 (fun _ _ => rfl) hf (fun r_7 hf => ?_)
            refine go_iconst 1 dX12_step_61 rfl ?_
            obtain ⟨a_8, rfl, hga_8⟩ := nn_some hf
            have hf := hga_8
            refine go_iaload dX12_step_62 hf (fun x_9 hf => ?_)
            refine go_putI dX12_step_63 fl_1173_0 (fun q hq => by cases hq; exact Or.inl rfl) (fun _ _ => rfl) rfl hf (fun h_10 hf => ?_)
            refine go_aload_n dX12_step_66 rfl 1 rfl ?_
            refine go_iconst 3 dX12_step_67 rfl ?_
            refine go_putI dX12_step_68 fl_1174_0 (fun q hq => by cases hq; exact Or.inl rfl) (fun _ _ => rfl) rfl hf (fun h_11 hf => ?_)
            refine go_aload_n dX12_step_71 rfl 1 rfl ?_
            refine go_iload_n dX12_step_72 rfl 0 rfl ?_
            refine go_iconst 1 dX12_step_73 rfl ?_
            refine go_isub dX12_step_74 ?_
            refine go_putI dX12_step_75 fl_1175_0 (fun q hq => by cases hq; exact Or.inl rfl) (fun _ _ => rfl) rfl hf (fun h_12 hf => ?_)
            refine go_aload_n dX12_step_78 rfl 1 rfl ?_
            refine go_iconst 0 dX12_step_79 rfl ?_
            refine go_putZ dX12_step_80 fl_1176_0 (fun q hq => by cases hq; exact Or.inl rfl) (fun _ _ => rfl) rfl hf (fun h_13 hf => ?_)
            refine go_aload_n dX12_step_83 rfl 1 rfl ?_
            refine go_aload_n dX12_step_84 rfl 1 rfl ?_
            refine go_getR dX12_step_85 fl_1120_0 (fun _ _ => rfl) hf (fun r_14 hf => ?_)
            refine go_iconst 0 dX12_step_88 rfl ?_
            obtain ⟨a_15, rfl, hga_15⟩ := nn_some hf
            have hf := hga_15
            refine go_iaload dX12_step_89 hf (fun x_16 hf => ?_)
            obtain ⟨hk, hf⟩ := kg_some hf
            obtain ⟨z_17, hc, hf⟩ := bd_some hf
            refine go_callV (y2 := M_X12_frame) (c2 := 13) dX12_step_90 mo_X12_frame ⟨Nat.le_of_ble_eq_true rfl, Nat.le_of_ble_eq_true rfl⟩ na_X12_frame w1389 w1391 (by decide) rfl w66 hk [.int x_16] rfl (n_X12_frame (a0) x_16) rfl (csum (Nat.le_of_ble_eq_true rfl)) (t_X12_frame (a0) x_16 h_13 _ hc) ?_
            obtain ⟨_, h_18⟩ := z_17
            refine go_aload_n dX12_step_93 rfl 1 rfl ?_
            refine go_getI dX12_step_94 fl_1119_0 (fun _ _ => rfl) hf (fun x_19 hf => ?_)
            refine go_iconst 5 dX12_step_97 rfl ?_
            refine go_icmp_eq (tgt := 106) dX12_step_98 (by decide) hf (fun hf => ?_) (fun hf => ?_)
            · refine go_sub (lv' := [(0, vR Ω (some a0))]) [1] rfl ?_
              exact t_X12_step_106 FU a0 h_18 q hf
            · refine go_aload_n dX12_step_101 rfl 1 rfl ?_
              refine go_iload_n dX12_step_102 rfl 0 rfl ?_
              obtain ⟨hk, hf⟩ := kg_some hf
              obtain ⟨z_20, hc, hf⟩ := bd_some hf
              refine go_callV (y2 := M_X12_drop) (c2 := 13) dX12_step_103 mo_X12_drop ⟨Nat.le_of_ble_eq_true rfl, Nat.le_of_ble_eq_true rfl⟩ na_X12_drop w1377 w1379 (by decide) rfl w63 hk [.int x_6] rfl (n_X12_drop (a0) x_6) rfl (csum (Nat.le_of_ble_eq_true rfl)) (t_X12_drop (a0) x_6 h_18 _ hc) ?_
              obtain ⟨_, h_21⟩ := z_20
              refine go_sub (lv' := [(0, vR Ω (some a0))]) [1] rfl ?_
              exact t_X12_step_106 FU a0 h_21 q hf
          · refine go_aload_n dX12_step_47 rfl 1 rfl ?_
            refine go_sipush 501 dX12_step_48 (by decide) ?_
            obtain ⟨hk, hf⟩ := kg_some hf
            obtain ⟨z_22, hc, hf⟩ := bd_some hf
            refine go_callV (y2 := M_X12_hard) (c2 := 13) dX12_step_51 mo_X12_hard ⟨Nat.le_of_ble_eq_true rfl, Nat.le_of_ble_eq_true rfl⟩ na_X12_hard w1321 w1323 (by decide) rfl w49 hk [.int 501] rfl (n_X12_hard (a0) 501) rfl (csum (Nat.le_of_ble_eq_true rfl)) (t_X12_hard (a0) 501 h_5 _ hc) ?_
            obtain ⟨_, h_23⟩ := z_22
            refine go_iconst 1 dX12_step_54 rfl ?_
            exact go_ireturn dX12_step_55 rfl hf
        · refine go_iconst 0 dX12_step_41 rfl ?_
          exact go_ireturn dX12_step_42 rfl hf
      · refine go_aload_n dX12_step_27 rfl 0 rfl ?_
        obtain ⟨hk, hf⟩ := kg_some hf
        obtain ⟨z_24, hc, hf⟩ := bd_some hf
        refine go_callV (y2 := M_X12_greet) (c2 := 13) dX12_step_28 mo_X12_greet ⟨Nat.le_of_ble_eq_true rfl, Nat.le_of_ble_eq_true rfl⟩ na_X12_greet w1316 w1318 (by decide) rfl w48 hk [] rfl (n_X12_greet (a0)) rfl (csum (Nat.le_of_ble_eq_true rfl)) (t_X12_greet (a0) h _ hc) ?_
        obtain ⟨x_26, h_25⟩ := z_24
        exact go_ireturn dX12_step_31 rfl hf
    · refine go_iconst (-1) dX12_step_18 rfl ?_
      exact go_ireturn dX12_step_19 rfl hf
-- LetterBrokerLaw.law([I)Z
theorem dL_law_0 : decode cL_law 0 = .ok (.new 7, 3) := by decide +kernel
theorem dL_law_3 : decode cL_law 3 = .ok (.dup, 1) := by decide +kernel
theorem dL_law_4 : decode cL_law 4 = .ok (.invokespecial 9, 3) := by decide +kernel
theorem dL_law_7 : decode cL_law 7 = .ok (.astore_n 1, 1) := by decide +kernel
theorem dL_law_8 : decode cL_law 8 = .ok (.new 10, 3) := by decide +kernel
theorem dL_law_11 : decode cL_law 11 = .ok (.dup, 1) := by decide +kernel
theorem dL_law_12 : decode cL_law 12 = .ok (.invokespecial 12, 3) := by decide +kernel
theorem dL_law_15 : decode cL_law 15 = .ok (.astore_n 2, 1) := by decide +kernel
theorem dL_law_16 : decode cL_law 16 = .ok (.iconst 0, 1) := by decide +kernel
theorem dL_law_17 : decode cL_law 17 = .ok (.istore_n 3, 1) := by decide +kernel
theorem dL_law_18 : decode cL_law 18 = .ok (.iload_n 3, 1) := by decide +kernel
theorem dL_law_19 : decode cL_law 19 = .ok (.aload_n 0, 1) := by decide +kernel
theorem dL_law_20 : decode cL_law 20 = .ok (.arraylength, 1) := by decide +kernel
theorem dL_law_21 : decode cL_law 21 = .ok (.iconst 4, 1) := by decide +kernel
theorem dL_law_22 : decode cL_law 22 = .ok (.isub, 1) := by decide +kernel
theorem dL_law_23 : decode cL_law 23 = .ok (.if_icmp .gt 257, 3) := by decide +kernel
theorem dL_law_26 : decode cL_law 26 = .ok (.aload_n 0, 1) := by decide +kernel
theorem dL_law_27 : decode cL_law 27 = .ok (.iload_n 3, 1) := by decide +kernel
theorem dL_law_28 : decode cL_law 28 = .ok (.iaload, 1) := by decide +kernel
theorem dL_law_29 : decode cL_law 29 = .ok (.bipush 7, 2) := by decide +kernel
theorem dL_law_31 : decode cL_law 31 = .ok (.iand, 1) := by decide +kernel
theorem dL_law_32 : decode cL_law 32 = .ok (.tableswitch 242 0 7 #[48, 111, 124, 137, 150, 163, 176, 209], 48) := by decide +kernel
theorem dL_law_80 : decode cL_law 80 = .ok (.aload_n 1, 1) := by decide +kernel
theorem dL_law_81 : decode cL_law 81 = .ok (.aload_n 0, 1) := by decide +kernel
theorem dL_law_82 : decode cL_law 82 = .ok (.iload_n 3, 1) := by decide +kernel
theorem dL_law_83 : decode cL_law 83 = .ok (.iconst 1, 1) := by decide +kernel
theorem dL_law_84 : decode cL_law 84 = .ok (.iadd, 1) := by decide +kernel
theorem dL_law_85 : decode cL_law 85 = .ok (.iaload, 1) := by decide +kernel
theorem dL_law_86 : decode cL_law 86 = .ok (.i2l, 1) := by decide +kernel
theorem dL_law_87 : decode cL_law 87 = .ok (.bipush 32, 2) := by decide +kernel
theorem dL_law_89 : decode cL_law 89 = .ok (.lshl, 1) := by decide +kernel
theorem dL_law_90 : decode cL_law 90 = .ok (.aload_n 0, 1) := by decide +kernel
theorem dL_law_91 : decode cL_law 91 = .ok (.iload_n 3, 1) := by decide +kernel
theorem dL_law_92 : decode cL_law 92 = .ok (.iconst 2, 1) := by decide +kernel
theorem dL_law_93 : decode cL_law 93 = .ok (.iadd, 1) := by decide +kernel
theorem dL_law_94 : decode cL_law 94 = .ok (.iaload, 1) := by decide +kernel
theorem dL_law_95 : decode cL_law 95 = .ok (.i2l, 1) := by decide +kernel
theorem dL_law_96 : decode cL_law 96 = .ok (.ldc2_w 13, 3) := by decide +kernel
theorem dL_law_99 : decode cL_law 99 = .ok (.land, 1) := by decide +kernel
theorem dL_law_100 : decode cL_law 100 = .ok (.lor, 1) := by decide +kernel
theorem dL_law_101 : decode cL_law 101 = .ok (.aload_n 0, 1) := by decide +kernel
theorem dL_law_102 : decode cL_law 102 = .ok (.iload_n 3, 1) := by decide +kernel
theorem dL_law_103 : decode cL_law 103 = .ok (.iconst 3, 1) := by decide +kernel
theorem dL_law_104 : decode cL_law 104 = .ok (.iadd, 1) := by decide +kernel
theorem dL_law_105 : decode cL_law 105 = .ok (.iaload, 1) := by decide +kernel
theorem dL_law_106 : decode cL_law 106 = .ok (.invokevirtual 15, 3) := by decide +kernel
theorem dL_law_109 : decode cL_law 109 = .ok (.aload_n 2, 1) := by decide +kernel
theorem dL_law_110 : decode cL_law 110 = .ok (.aload_n 0, 1) := by decide +kernel
theorem dL_law_111 : decode cL_law 111 = .ok (.iload_n 3, 1) := by decide +kernel
theorem dL_law_112 : decode cL_law 112 = .ok (.iconst 1, 1) := by decide +kernel
theorem dL_law_113 : decode cL_law 113 = .ok (.iadd, 1) := by decide +kernel
theorem dL_law_114 : decode cL_law 114 = .ok (.iaload, 1) := by decide +kernel
theorem dL_law_115 : decode cL_law 115 = .ok (.i2l, 1) := by decide +kernel
theorem dL_law_116 : decode cL_law 116 = .ok (.bipush 32, 2) := by decide +kernel
theorem dL_law_118 : decode cL_law 118 = .ok (.lshl, 1) := by decide +kernel
theorem dL_law_119 : decode cL_law 119 = .ok (.aload_n 0, 1) := by decide +kernel
theorem dL_law_120 : decode cL_law 120 = .ok (.iload_n 3, 1) := by decide +kernel
theorem dL_law_121 : decode cL_law 121 = .ok (.iconst 2, 1) := by decide +kernel
theorem dL_law_122 : decode cL_law 122 = .ok (.iadd, 1) := by decide +kernel
theorem dL_law_123 : decode cL_law 123 = .ok (.iaload, 1) := by decide +kernel
theorem dL_law_124 : decode cL_law 124 = .ok (.i2l, 1) := by decide +kernel
theorem dL_law_125 : decode cL_law 125 = .ok (.ldc2_w 13, 3) := by decide +kernel
theorem dL_law_128 : decode cL_law 128 = .ok (.land, 1) := by decide +kernel
theorem dL_law_129 : decode cL_law 129 = .ok (.lor, 1) := by decide +kernel
theorem dL_law_130 : decode cL_law 130 = .ok (.aload_n 0, 1) := by decide +kernel
theorem dL_law_131 : decode cL_law 131 = .ok (.iload_n 3, 1) := by decide +kernel
theorem dL_law_132 : decode cL_law 132 = .ok (.iconst 3, 1) := by decide +kernel
theorem dL_law_133 : decode cL_law 133 = .ok (.iadd, 1) := by decide +kernel
theorem dL_law_134 : decode cL_law 134 = .ok (.iaload, 1) := by decide +kernel
theorem dL_law_135 : decode cL_law 135 = .ok (.invokevirtual 19, 3) := by decide +kernel
theorem dL_law_138 : decode cL_law 138 = .ok (.if_icmp .eq 136, 3) := by decide +kernel
theorem dL_law_141 : decode cL_law 141 = .ok (.iconst 0, 1) := by decide +kernel
theorem dL_law_142 : decode cL_law 142 = .ok (.ireturn, 1) := by decide +kernel
theorem dL_law_143 : decode cL_law 143 = .ok (.aload_n 1, 1) := by decide +kernel
theorem dL_law_144 : decode cL_law 144 = .ok (.invokevirtual 20, 3) := by decide +kernel
theorem dL_law_147 : decode cL_law 147 = .ok (.aload_n 2, 1) := by decide +kernel
theorem dL_law_148 : decode cL_law 148 = .ok (.invokevirtual 24, 3) := by decide +kernel
theorem dL_law_151 : decode cL_law 151 = .ok (.if_icmp .eq 123, 3) := by decide +kernel
theorem dL_law_154 : decode cL_law 154 = .ok (.iconst 0, 1) := by decide +kernel
theorem dL_law_155 : decode cL_law 155 = .ok (.ireturn, 1) := by decide +kernel
theorem dL_law_156 : decode cL_law 156 = .ok (.aload_n 1, 1) := by decide +kernel
theorem dL_law_157 : decode cL_law 157 = .ok (.invokevirtual 25, 3) := by decide +kernel
theorem dL_law_160 : decode cL_law 160 = .ok (.aload_n 2, 1) := by decide +kernel
theorem dL_law_161 : decode cL_law 161 = .ok (.invokevirtual 28, 3) := by decide +kernel
theorem dL_law_164 : decode cL_law 164 = .ok (.if_icmp .eq 110, 3) := by decide +kernel
theorem dL_law_167 : decode cL_law 167 = .ok (.iconst 0, 1) := by decide +kernel
theorem dL_law_168 : decode cL_law 168 = .ok (.ireturn, 1) := by decide +kernel
theorem dL_law_169 : decode cL_law 169 = .ok (.aload_n 1, 1) := by decide +kernel
theorem dL_law_170 : decode cL_law 170 = .ok (.invokevirtual 29, 3) := by decide +kernel
theorem dL_law_173 : decode cL_law 173 = .ok (.aload_n 2, 1) := by decide +kernel
theorem dL_law_174 : decode cL_law 174 = .ok (.invokevirtual 32, 3) := by decide +kernel
theorem dL_law_177 : decode cL_law 177 = .ok (.if_icmp .eq 97, 3) := by decide +kernel
theorem dL_law_180 : decode cL_law 180 = .ok (.iconst 0, 1) := by decide +kernel
theorem dL_law_181 : decode cL_law 181 = .ok (.ireturn, 1) := by decide +kernel
theorem dL_law_182 : decode cL_law 182 = .ok (.aload_n 1, 1) := by decide +kernel
theorem dL_law_183 : decode cL_law 183 = .ok (.invokevirtual 33, 3) := by decide +kernel
theorem dL_law_186 : decode cL_law 186 = .ok (.aload_n 2, 1) := by decide +kernel
theorem dL_law_187 : decode cL_law 187 = .ok (.invokevirtual 36, 3) := by decide +kernel
theorem dL_law_190 : decode cL_law 190 = .ok (.if_icmp .eq 84, 3) := by decide +kernel
theorem dL_law_193 : decode cL_law 193 = .ok (.iconst 0, 1) := by decide +kernel
theorem dL_law_194 : decode cL_law 194 = .ok (.ireturn, 1) := by decide +kernel
theorem dL_law_195 : decode cL_law 195 = .ok (.aload_n 1, 1) := by decide +kernel
theorem dL_law_196 : decode cL_law 196 = .ok (.invokevirtual 37, 3) := by decide +kernel
theorem dL_law_199 : decode cL_law 199 = .ok (.aload_n 2, 1) := by decide +kernel
theorem dL_law_200 : decode cL_law 200 = .ok (.invokevirtual 41, 3) := by decide +kernel
theorem dL_law_203 : decode cL_law 203 = .ok (.if_icmp .eq 71, 3) := by decide +kernel
theorem dL_law_206 : decode cL_law 206 = .ok (.iconst 0, 1) := by decide +kernel
theorem dL_law_207 : decode cL_law 207 = .ok (.ireturn, 1) := by decide +kernel
theorem dL_law_208 : decode cL_law 208 = .ok (.aload_n 1, 1) := by decide +kernel
theorem dL_law_209 : decode cL_law 209 = .ok (.aload_n 0, 1) := by decide +kernel
theorem dL_law_210 : decode cL_law 210 = .ok (.iload_n 3, 1) := by decide +kernel
theorem dL_law_211 : decode cL_law 211 = .ok (.iconst 1, 1) := by decide +kernel
theorem dL_law_212 : decode cL_law 212 = .ok (.iadd, 1) := by decide +kernel
theorem dL_law_213 : decode cL_law 213 = .ok (.iaload, 1) := by decide +kernel
theorem dL_law_214 : decode cL_law 214 = .ok (.aload_n 0, 1) := by decide +kernel
theorem dL_law_215 : decode cL_law 215 = .ok (.iload_n 3, 1) := by decide +kernel
theorem dL_law_216 : decode cL_law 216 = .ok (.iconst 2, 1) := by decide +kernel
theorem dL_law_217 : decode cL_law 217 = .ok (.iadd, 1) := by decide +kernel
theorem dL_law_218 : decode cL_law 218 = .ok (.iaload, 1) := by decide +kernel
theorem dL_law_219 : decode cL_law 219 = .ok (.invokevirtual 42, 3) := by decide +kernel
theorem dL_law_222 : decode cL_law 222 = .ok (.aload_n 2, 1) := by decide +kernel
theorem dL_law_223 : decode cL_law 223 = .ok (.aload_n 0, 1) := by decide +kernel
theorem dL_law_224 : decode cL_law 224 = .ok (.iload_n 3, 1) := by decide +kernel
theorem dL_law_225 : decode cL_law 225 = .ok (.iconst 1, 1) := by decide +kernel
theorem dL_law_226 : decode cL_law 226 = .ok (.iadd, 1) := by decide +kernel
theorem dL_law_227 : decode cL_law 227 = .ok (.iaload, 1) := by decide +kernel
theorem dL_law_228 : decode cL_law 228 = .ok (.aload_n 0, 1) := by decide +kernel
theorem dL_law_229 : decode cL_law 229 = .ok (.iload_n 3, 1) := by decide +kernel
theorem dL_law_230 : decode cL_law 230 = .ok (.iconst 2, 1) := by decide +kernel
theorem dL_law_231 : decode cL_law 231 = .ok (.iadd, 1) := by decide +kernel
theorem dL_law_232 : decode cL_law 232 = .ok (.iaload, 1) := by decide +kernel
theorem dL_law_233 : decode cL_law 233 = .ok (.invokevirtual 46, 3) := by decide +kernel
theorem dL_law_236 : decode cL_law 236 = .ok (.if_icmp .eq 38, 3) := by decide +kernel
theorem dL_law_239 : decode cL_law 239 = .ok (.iconst 0, 1) := by decide +kernel
theorem dL_law_240 : decode cL_law 240 = .ok (.ireturn, 1) := by decide +kernel
theorem dL_law_241 : decode cL_law 241 = .ok (.aload_n 1, 1) := by decide +kernel
theorem dL_law_242 : decode cL_law 242 = .ok (.aload_n 0, 1) := by decide +kernel
theorem dL_law_243 : decode cL_law 243 = .ok (.iload_n 3, 1) := by decide +kernel
theorem dL_law_244 : decode cL_law 244 = .ok (.iconst 1, 1) := by decide +kernel
theorem dL_law_245 : decode cL_law 245 = .ok (.iadd, 1) := by decide +kernel
theorem dL_law_246 : decode cL_law 246 = .ok (.iaload, 1) := by decide +kernel
theorem dL_law_247 : decode cL_law 247 = .ok (.aload_n 0, 1) := by decide +kernel
theorem dL_law_248 : decode cL_law 248 = .ok (.iload_n 3, 1) := by decide +kernel
theorem dL_law_249 : decode cL_law 249 = .ok (.iconst 2, 1) := by decide +kernel
theorem dL_law_250 : decode cL_law 250 = .ok (.iadd, 1) := by decide +kernel
theorem dL_law_251 : decode cL_law 251 = .ok (.iaload, 1) := by decide +kernel
theorem dL_law_252 : decode cL_law 252 = .ok (.invokevirtual 47, 3) := by decide +kernel
theorem dL_law_255 : decode cL_law 255 = .ok (.aload_n 2, 1) := by decide +kernel
theorem dL_law_256 : decode cL_law 256 = .ok (.aload_n 0, 1) := by decide +kernel
theorem dL_law_257 : decode cL_law 257 = .ok (.iload_n 3, 1) := by decide +kernel
theorem dL_law_258 : decode cL_law 258 = .ok (.iconst 1, 1) := by decide +kernel
theorem dL_law_259 : decode cL_law 259 = .ok (.iadd, 1) := by decide +kernel
theorem dL_law_260 : decode cL_law 260 = .ok (.iaload, 1) := by decide +kernel
theorem dL_law_261 : decode cL_law 261 = .ok (.aload_n 0, 1) := by decide +kernel
theorem dL_law_262 : decode cL_law 262 = .ok (.iload_n 3, 1) := by decide +kernel
theorem dL_law_263 : decode cL_law 263 = .ok (.iconst 2, 1) := by decide +kernel
theorem dL_law_264 : decode cL_law 264 = .ok (.iadd, 1) := by decide +kernel
theorem dL_law_265 : decode cL_law 265 = .ok (.iaload, 1) := by decide +kernel
theorem dL_law_266 : decode cL_law 266 = .ok (.invokevirtual 50, 3) := by decide +kernel
theorem dL_law_269 : decode cL_law 269 = .ok (.if_icmp .eq 5, 3) := by decide +kernel
theorem dL_law_272 : decode cL_law 272 = .ok (.iconst 0, 1) := by decide +kernel
theorem dL_law_273 : decode cL_law 273 = .ok (.ireturn, 1) := by decide +kernel
theorem dL_law_274 : decode cL_law 274 = .ok (.iinc 3 4, 3) := by decide +kernel
theorem dL_law_277 : decode cL_law 277 = .ok (.goto (-259), 3) := by decide +kernel
theorem dL_law_280 : decode cL_law 280 = .ok (.iconst 1, 1) := by decide +kernel
theorem dL_law_281 : decode cL_law 281 = .ok (.ireturn, 1) := by decide +kernel
def f_L_law_274 (Ω : Om) (k18 : Option Nat → Option Nat → Int32 → AH → Option (Int32 × AH)) (r1 : Option Nat) (r2 : Option Nat) (x3 : Int32) (h : AH) : Option (Int32 × AH) := k18 r1 r2 (x3 + 4) h
set_option maxRecDepth 20000 in
set_option maxHeartbeats 4000000 in
theorem t_L_law_274 {Ω : Om} {k18 : Option Nat → Option Nat → Int32 → AH → Option (Int32 × AH)} (c18 : ∀ (r1 : Option Nat) (r2 : Option Nat) (x3 : Int32) (h : AH) (q : Int32 × AH), k18 r1 r2 x3 h = some q → Go Ω M_L_law 18 [(0, vR Ω (some 3)), (1, vR Ω r1), (2, vR Ω r2), (3, .int x3)] [] h (some (.int q.1)) q.2) (r1 : Option Nat) (r2 : Option Nat) (x3 : Int32) (h : AH) (q : Int32 × AH) (hf : f_L_law_274 Ω k18 r1 r2 x3 h = some q) : Go Ω M_L_law 274 [(0, vR Ω (some 3)), (1, vR Ω r1), (2, vR Ω r2), (3, .int x3)] [] h (some (.int q.1)) q.2 := by
  unfold f_L_law_274 at hf
  refine go_iinc (j := 3) (v := x3 + 4) (lv' := [(3, .int (x3 + 4)), (0, vR Ω (some 3)), (1, vR Ω r1), (2, vR Ω r2)]) dL_law_274 rfl rfl (by decide) (by first | rfl | simp [catR, catI, catJ]) ?_
  refine go_goto (tgt := 18) dL_law_277 (by decide) ?_
  refine go_sub (lv' := [(0, vR Ω (some 3)), (1, vR Ω r1), (2, vR Ω r2), (3, .int (x3 + 4))]) [1, 2, 3, 0] rfl ?_
  exact c18 r1 r2 (x3 + 4) h q hf
def f_L_law_18 (Ω : Om) : Nat → Option Nat → Option Nat → Int32 → AH → Option (Int32 × AH)
  | 0, _, _, _, _ => none
  | n + 1, r1, r2, x3, h => (if ((nI (oN Ω)) - 4) < x3 then
      rz 1 (some (1, h))
    else
      arX Ω x3 fun x_1 =>
      (if (x_1 &&& 7) = 0 then
        arX Ω (x3 + 1) fun x_2 =>
        arX Ω (x3 + 2) fun x_3 =>
        arX Ω (x3 + 3) fun x_4 =>
        nn r1 fun a_5 =>
        kg h a_5 12 (bd (f_X11_send a_5 ((x_2.toInt64 <<< ((32 : Int32).toInt64 &&& 63)) ||| (x_3.toInt64 &&& 4294967295)) x_4 h) fun x_8 h_7 =>
        arX Ω (x3 + 1) fun x_9 =>
        arX Ω (x3 + 2) fun x_10 =>
        arX Ω (x3 + 3) fun x_11 =>
        nn r2 fun a_12 =>
        kg h_7 a_12 13 (bd (f_X12_send a_12 ((x_9.toInt64 <<< ((32 : Int32).toInt64 &&& 63)) ||| (x_10.toInt64 &&& 4294967295)) x_11 h_7) fun x_15 h_14 =>
        (if x_8 = x_15 then
          f_L_law_274 Ω (fun r1 r2 x3 h => f_L_law_18 Ω n r1 r2 x3 h) (some a_5) (some a_12) x3 h_14
        else
          rz 0 (some (0, h_14)))))
      else (if (x_1 &&& 7) = 1 then
        nn r1 fun a_16 =>
        kg h a_16 12 (bd (f_X11_step a_16 h) fun x_19 h_18 =>
        nn r2 fun a_20 =>
        kg h_18 a_20 13 (bd (f_X12_step a_20 h_18) fun x_23 h_22 =>
        (if x_19 = x_23 then
          f_L_law_274 Ω (fun r1 r2 x3 h => f_L_law_18 Ω n r1 r2 x3 h) (some a_16) (some a_20) x3 h_22
        else
          rz 0 (some (0, h_22)))))
      else (if (x_1 &&& 7) = 2 then
        nn r1 fun a_24 =>
        kg h a_24 12 (bd (f_X11_ready a_24 h) fun x_27 h_26 =>
        nn r2 fun a_28 =>
        kg h_26 a_28 13 (bd (f_X12_ready a_28 h_26) fun x_31 h_30 =>
        (if x_27 = x_31 then
          f_L_law_274 Ω (fun r1 r2 x3 h => f_L_law_18 Ω n r1 r2 x3 h) (some a_24) (some a_28) x3 h_30
        else
          rz 0 (some (0, h_30)))))
      else (if (x_1 &&& 7) = 3 then
        nn r1 fun a_32 =>
        kg h a_32 12 (bd (f_X11_receive a_32 h) fun x_35 h_34 =>
        nn r2 fun a_36 =>
        kg h_34 a_36 13 (bd (f_X12_receive a_36 h_34) fun x_39 h_38 =>
        (if x_35 = x_39 then
          f_L_law_274 Ω (fun r1 r2 x3 h => f_L_law_18 Ω n r1 r2 x3 h) (some a_32) (some a_36) x3 h_38
        else
          rz 0 (some (0, h_38)))))
      else (if (x_1 &&& 7) = 4 then
        nn r1 fun a_40 =>
        kg h a_40 12 (bd (f_X11_line a_40 h) fun x_43 h_42 =>
        nn r2 fun a_44 =>
        kg h_42 a_44 13 (bd (f_X12_line a_44 h_42) fun x_47 h_46 =>
        (if x_43 = x_47 then
          f_L_law_274 Ω (fun r1 r2 x3 h => f_L_law_18 Ω n r1 r2 x3 h) (some a_40) (some a_44) x3 h_46
        else
          rz 0 (some (0, h_46)))))
      else (if (x_1 &&& 7) = 5 then
        nn r1 fun a_48 =>
        kg h a_48 12 (bd (f_X11_connect a_48 h) fun x_51 h_50 =>
        nn r2 fun a_52 =>
        kg h_50 a_52 13 (bd (f_X12_connect a_52 h_50) fun x_55 h_54 =>
        (if x_51 = x_55 then
          f_L_law_274 Ω (fun r1 r2 x3 h => f_L_law_18 Ω n r1 r2 x3 h) (some a_48) (some a_52) x3 h_54
        else
          rz 0 (some (0, h_54)))))
      else (if (x_1 &&& 7) = 6 then
        arX Ω (x3 + 1) fun x_56 =>
        arX Ω (x3 + 2) fun x_57 =>
        nn r1 fun a_58 =>
        kg h a_58 12 (bd (f_X11_channel a_58 x_56 x_57 h) fun x_61 h_60 =>
        arX Ω (x3 + 1) fun x_62 =>
        arX Ω (x3 + 2) fun x_63 =>
        nn r2 fun a_64 =>
        kg h_60 a_64 13 (bd (f_X12_channel a_64 x_62 x_63 h_60) fun x_67 h_66 =>
        (if x_61 = x_67 then
          f_L_law_274 Ω (fun r1 r2 x3 h => f_L_law_18 Ω n r1 r2 x3 h) (some a_58) (some a_64) x3 h_66
        else
          rz 0 (some (0, h_66)))))
      else (if (x_1 &&& 7) = 7 then
        arX Ω (x3 + 1) fun x_68 =>
        arX Ω (x3 + 2) fun x_69 =>
        nn r1 fun a_70 =>
        kg h a_70 12 (bd (f_X11_queue a_70 x_68 x_69 h) fun x_73 h_72 =>
        arX Ω (x3 + 1) fun x_74 =>
        arX Ω (x3 + 2) fun x_75 =>
        nn r2 fun a_76 =>
        kg h_72 a_76 13 (bd (f_X12_queue a_76 x_74 x_75 h_72) fun x_79 h_78 =>
        (if x_73 = x_79 then
          f_L_law_274 Ω (fun r1 r2 x3 h => f_L_law_18 Ω n r1 r2 x3 h) (some a_70) (some a_76) x3 h_78
        else
          rz 0 (some (0, h_78)))))
      else f_L_law_274 Ω (fun r1 r2 x3 h => f_L_law_18 Ω n r1 r2 x3 h) r1 r2 x3 h)))))))))
set_option maxRecDepth 20000 in
set_option maxHeartbeats 4000000 in
theorem t_L_law_18 {Ω : Om} : ∀ (n : Nat) (r1 : Option Nat) (r2 : Option Nat) (x3 : Int32) (h : AH) (q : Int32 × AH), f_L_law_18 Ω n r1 r2 x3 h = some q → Go Ω M_L_law 18 [(0, vR Ω (some 3)), (1, vR Ω r1), (2, vR Ω r2), (3, .int x3)] [] h (some (.int q.1)) q.2 := by
  intro n
  induction n with
  | zero => intro r1 r2 x3 h q hf; cases hf
  | succ n ih =>
    intro r1 r2 x3 h q hf
    rw [f_L_law_18] at hf
    refine go_iload_n dL_law_18 rfl 3 rfl ?_
    refine go_aload_n dL_law_19 rfl 0 rfl ?_
    refine go_lenX dL_law_20 ?_
    refine go_iconst 4 dL_law_21 rfl ?_
    refine go_isub dL_law_22 ?_
    refine go_icmp_gt (tgt := 280) dL_law_23 (by decide) hf (fun hf => ?_) (fun hf => ?_)
    · refine go_iconst 1 dL_law_280 rfl ?_
      exact go_zreturn dL_law_281 rfl hf
    · refine go_aload_n dL_law_26 rfl 0 rfl ?_
      refine go_iload_n dL_law_27 rfl 3 rfl ?_
      refine go_iaX dL_law_28 hf (fun x_1 hf => ?_)
      refine go_bipush 7 dL_law_29 (by decide) ?_
      refine go_iand dL_law_31 ?_
      by_cases e0 : (x_1 &&& 7) = 0
      · rw [if_pos e0] at hf
        refine go_tsw1 (off := 48) (tgt := 80) dL_law_32 (by rw [e0]; decide) (by rw [e0]; decide) (by rw [e0]; decide) (by decide) ?_
        refine go_aload_n dL_law_80 rfl 1 rfl ?_
        refine go_aload_n dL_law_81 rfl 0 rfl ?_
        refine go_iload_n dL_law_82 rfl 3 rfl ?_
        refine go_iconst 1 dL_law_83 rfl ?_
        refine go_iadd dL_law_84 ?_
        refine go_iaX dL_law_85 hf (fun x_2 hf => ?_)
        refine go_i2l dL_law_86 ?_
        refine go_bipush 32 dL_law_87 (by decide) ?_
        refine go_lshl dL_law_89 ?_
        refine go_aload_n dL_law_90 rfl 0 rfl ?_
        refine go_iload_n dL_law_91 rfl 3 rfl ?_
        refine go_iconst 2 dL_law_92 rfl ?_
        refine go_iadd dL_law_93 ?_
        refine go_iaX dL_law_94 hf (fun x_3 hf => ?_)
        refine go_i2l dL_law_95 ?_
        refine go_ldc2 4294967295 dL_law_96 w1633 ?_
        refine go_land dL_law_99 ?_
        refine go_lor dL_law_100 ?_
        refine go_aload_n dL_law_101 rfl 0 rfl ?_
        refine go_iload_n dL_law_102 rfl 3 rfl ?_
        refine go_iconst 3 dL_law_103 rfl ?_
        refine go_iadd dL_law_104 ?_
        refine go_iaX dL_law_105 hf (fun x_4 hf => ?_)
        obtain ⟨a_5, rfl, hga_5⟩ := nn_some hf
        have hf := hga_5
        obtain ⟨hk, hf⟩ := kg_some hf
        obtain ⟨z_6, hc, hf⟩ := bd_some hf
        refine go_callV (y2 := M_X11_send) (c2 := 12) dL_law_106 mo_X11_send ⟨Nat.le_of_ble_eq_true rfl, Nat.le_of_ble_eq_true rfl⟩ na_X11_send w404 w405 (by decide) rfl w406 hk [.long ((x_2.toInt64 <<< ((32 : Int32).toInt64 &&& 63)) ||| (x_3.toInt64 &&& 4294967295)), .int x_4] rfl (n_X11_send (a_5) ((x_2.toInt64 <<< ((32 : Int32).toInt64 &&& 63)) ||| (x_3.toInt64 &&& 4294967295)) x_4) rfl (csum (Nat.le_of_ble_eq_true rfl)) (t_X11_send (a_5) ((x_2.toInt64 <<< ((32 : Int32).toInt64 &&& 63)) ||| (x_3.toInt64 &&& 4294967295)) x_4 h _ hc) ?_
        obtain ⟨x_8, h_7⟩ := z_6
        refine go_aload_n dL_law_109 rfl 2 rfl ?_
        refine go_aload_n dL_law_110 rfl 0 rfl ?_
        refine go_iload_n dL_law_111 rfl 3 rfl ?_
        refine go_iconst 1 dL_law_112 rfl ?_
        refine go_iadd dL_law_113 ?_
        refine go_iaX dL_law_114 hf (fun x_9 hf => ?_)
        refine go_i2l dL_law_115 ?_
        refine go_bipush 32 dL_law_116 (by decide) ?_
        refine go_lshl dL_law_118 ?_
        refine go_aload_n dL_law_119 rfl 0 rfl ?_
        refine go_iload_n dL_law_120 rfl 3 rfl ?_
        refine go_iconst 2 dL_law_121 rfl ?_
        refine go_iadd dL_law_122 ?_
        refine go_iaX dL_law_123 hf (fun x_10 hf => ?_)
        refine go_i2l dL_law_124 ?_
        refine go_ldc2 4294967295 dL_law_125 w1633 ?_
        refine go_land dL_law_128 ?_
        refine go_lor dL_law_129 ?_
        refine go_aload_n dL_law_130 rfl 0 rfl ?_
        refine go_iload_n dL_law_131 rfl 3 rfl ?_
        refine go_iconst 3 dL_law_132 rfl ?_
        refine go_iadd dL_law_133 ?_
        refine go_iaX dL_law_134 hf (fun x_11 hf => ?_)
        obtain ⟨a_12, rfl, hga_12⟩ := nn_some hf
        have hf := hga_12
        obtain ⟨hk, hf⟩ := kg_some hf
        obtain ⟨z_13, hc, hf⟩ := bd_some hf
        refine go_callV (y2 := M_X12_send) (c2 := 13) dL_law_135 mo_X12_send ⟨Nat.le_of_ble_eq_true rfl, Nat.le_of_ble_eq_true rfl⟩ na_X12_send w1307 w1308 (by decide) rfl w1309 hk [.long ((x_9.toInt64 <<< ((32 : Int32).toInt64 &&& 63)) ||| (x_10.toInt64 &&& 4294967295)), .int x_11] rfl (n_X12_send (a_12) ((x_9.toInt64 <<< ((32 : Int32).toInt64 &&& 63)) ||| (x_10.toInt64 &&& 4294967295)) x_11) rfl (csum (Nat.le_of_ble_eq_true rfl)) (t_X12_send (a_12) ((x_9.toInt64 <<< ((32 : Int32).toInt64 &&& 63)) ||| (x_10.toInt64 &&& 4294967295)) x_11 h_7 _ hc) ?_
        obtain ⟨x_15, h_14⟩ := z_13
        refine go_icmp_eq (tgt := 274) dL_law_138 (by decide) hf (fun hf => ?_) (fun hf => ?_)
        · refine go_sub (lv' := [(0, vR Ω (some 3)), (1, vR Ω (some a_5)), (2, vR Ω (some a_12)), (3, .int x3)]) [0, 1, 2, 3] rfl ?_
          exact t_L_law_274 ih (some a_5) (some a_12) x3 h_14 q hf
        · refine go_iconst 0 dL_law_141 rfl ?_
          exact go_zreturn dL_law_142 rfl hf
      rw [if_neg e0] at hf
      by_cases e1 : (x_1 &&& 7) = 1
      · rw [if_pos e1] at hf
        refine go_tsw1 (off := 111) (tgt := 143) dL_law_32 (by rw [e1]; decide) (by rw [e1]; decide) (by rw [e1]; decide) (by decide) ?_
        refine go_aload_n dL_law_143 rfl 1 rfl ?_
        obtain ⟨a_16, rfl, hga_16⟩ := nn_some hf
        have hf := hga_16
        obtain ⟨hk, hf⟩ := kg_some hf
        obtain ⟨z_17, hc, hf⟩ := bd_some hf
        refine go_callV (y2 := M_X11_step) (c2 := 12) dL_law_144 mo_X11_step ⟨Nat.le_of_ble_eq_true rfl, Nat.le_of_ble_eq_true rfl⟩ na_X11_step w412 w413 (by decide) rfl w414 hk [] rfl (n_X11_step (a_16)) rfl (csum (Nat.le_of_ble_eq_true rfl)) (t_X11_step (a_16) h _ hc) ?_
        obtain ⟨x_19, h_18⟩ := z_17
        refine go_aload_n dL_law_147 rfl 2 rfl ?_
        obtain ⟨a_20, rfl, hga_20⟩ := nn_some hf
        have hf := hga_20
        obtain ⟨hk, hf⟩ := kg_some hf
        obtain ⟨z_21, hc, hf⟩ := bd_some hf
        refine go_callV (y2 := M_X12_step) (c2 := 13) dL_law_148 mo_X12_step ⟨Nat.le_of_ble_eq_true rfl, Nat.le_of_ble_eq_true rfl⟩ na_X12_step w1312 w1313 (by decide) rfl w1314 hk [] rfl (n_X12_step (a_20)) rfl (csum (Nat.le_of_ble_eq_true rfl)) (t_X12_step (a_20) h_18 _ hc) ?_
        obtain ⟨x_23, h_22⟩ := z_21
        refine go_icmp_eq (tgt := 274) dL_law_151 (by decide) hf (fun hf => ?_) (fun hf => ?_)
        · refine go_sub (lv' := [(0, vR Ω (some 3)), (1, vR Ω (some a_16)), (2, vR Ω (some a_20)), (3, .int x3)]) [0, 1, 2, 3] rfl ?_
          exact t_L_law_274 ih (some a_16) (some a_20) x3 h_22 q hf
        · refine go_iconst 0 dL_law_154 rfl ?_
          exact go_zreturn dL_law_155 rfl hf
      rw [if_neg e1] at hf
      by_cases e2 : (x_1 &&& 7) = 2
      · rw [if_pos e2] at hf
        refine go_tsw1 (off := 124) (tgt := 156) dL_law_32 (by rw [e2]; decide) (by rw [e2]; decide) (by rw [e2]; decide) (by decide) ?_
        refine go_aload_n dL_law_156 rfl 1 rfl ?_
        obtain ⟨a_24, rfl, hga_24⟩ := nn_some hf
        have hf := hga_24
        obtain ⟨hk, hf⟩ := kg_some hf
        obtain ⟨z_25, hc, hf⟩ := bd_some hf
        refine go_callV (y2 := M_X11_ready) (c2 := 12) dL_law_157 mo_X11_ready ⟨Nat.le_of_ble_eq_true rfl, Nat.le_of_ble_eq_true rfl⟩ na_X11_ready w1081 w1082 (by decide) rfl w1083 hk [] rfl (n_X11_ready (a_24)) rfl (csum (Nat.le_of_ble_eq_true rfl)) (t_X11_ready (a_24) h _ hc) ?_
        obtain ⟨x_27, h_26⟩ := z_25
        refine go_aload_n dL_law_160 rfl 2 rfl ?_
        obtain ⟨a_28, rfl, hga_28⟩ := nn_some hf
        have hf := hga_28
        obtain ⟨hk, hf⟩ := kg_some hf
        obtain ⟨z_29, hc, hf⟩ := bd_some hf
        refine go_callV (y2 := M_X12_ready) (c2 := 13) dL_law_161 mo_X12_ready ⟨Nat.le_of_ble_eq_true rfl, Nat.le_of_ble_eq_true rfl⟩ na_X12_ready w1609 w1610 (by decide) rfl w1611 hk [] rfl (n_X12_ready (a_28)) rfl (csum (Nat.le_of_ble_eq_true rfl)) (t_X12_ready (a_28) h_26 _ hc) ?_
        obtain ⟨x_31, h_30⟩ := z_29
        refine go_icmp_eq (tgt := 274) dL_law_164 (by decide) hf (fun hf => ?_) (fun hf => ?_)
        · refine go_sub (lv' := [(0, vR Ω (some 3)), (1, vR Ω (some a_24)), (2, vR Ω (some a_28)), (3, .int x3)]) [0, 1, 2, 3] rfl ?_
          exact t_L_law_274 ih (some a_24) (some a_28) x3 h_30 q hf
        · refine go_iconst 0 dL_law_167 rfl ?_
          exact go_zreturn dL_law_168 rfl hf
      rw [if_neg e2] at hf
      by_cases e3 : (x_1 &&& 7) = 3
      · rw [if_pos e3] at hf
        refine go_tsw1 (off := 137) (tgt := 169) dL_law_32 (by rw [e3]; decide) (by rw [e3]; decide) (by rw [e3]; decide) (by decide) ?_
        refine go_aload_n dL_law_169 rfl 1 rfl ?_
        obtain ⟨a_32, rfl, hga_32⟩ := nn_some hf
        have hf := hga_32
        obtain ⟨hk, hf⟩ := kg_some hf
        obtain ⟨z_33, hc, hf⟩ := bd_some hf
        refine go_callV (y2 := M_X11_receive) (c2 := 12) dL_law_170 mo_X11_receive ⟨Nat.le_of_ble_eq_true rfl, Nat.le_of_ble_eq_true rfl⟩ na_X11_receive w1085 w1086 (by decide) rfl w1087 hk [] rfl (n_X11_receive (a_32)) rfl (csum (Nat.le_of_ble_eq_true rfl)) (t_X11_receive (a_32) h _ hc) ?_
        obtain ⟨x_35, h_34⟩ := z_33
        refine go_aload_n dL_law_173 rfl 2 rfl ?_
        obtain ⟨a_36, rfl, hga_36⟩ := nn_some hf
        have hf := hga_36
        obtain ⟨hk, hf⟩ := kg_some hf
        obtain ⟨z_37, hc, hf⟩ := bd_some hf
        refine go_callV (y2 := M_X12_receive) (c2 := 13) dL_law_174 mo_X12_receive ⟨Nat.le_of_ble_eq_true rfl, Nat.le_of_ble_eq_true rfl⟩ na_X12_receive w1613 w1614 (by decide) rfl w1615 hk [] rfl (n_X12_receive (a_36)) rfl (csum (Nat.le_of_ble_eq_true rfl)) (t_X12_receive (a_36) h_34 _ hc) ?_
        obtain ⟨x_39, h_38⟩ := z_37
        refine go_icmp_eq (tgt := 274) dL_law_177 (by decide) hf (fun hf => ?_) (fun hf => ?_)
        · refine go_sub (lv' := [(0, vR Ω (some 3)), (1, vR Ω (some a_32)), (2, vR Ω (some a_36)), (3, .int x3)]) [0, 1, 2, 3] rfl ?_
          exact t_L_law_274 ih (some a_32) (some a_36) x3 h_38 q hf
        · refine go_iconst 0 dL_law_180 rfl ?_
          exact go_zreturn dL_law_181 rfl hf
      rw [if_neg e3] at hf
      by_cases e4 : (x_1 &&& 7) = 4
      · rw [if_pos e4] at hf
        refine go_tsw1 (off := 150) (tgt := 182) dL_law_32 (by rw [e4]; decide) (by rw [e4]; decide) (by rw [e4]; decide) (by decide) ?_
        refine go_aload_n dL_law_182 rfl 1 rfl ?_
        obtain ⟨a_40, rfl, hga_40⟩ := nn_some hf
        have hf := hga_40
        obtain ⟨hk, hf⟩ := kg_some hf
        obtain ⟨z_41, hc, hf⟩ := bd_some hf
        refine go_callV (y2 := M_X11_line) (c2 := 12) dL_law_183 mo_X11_line ⟨Nat.le_of_ble_eq_true rfl, Nat.le_of_ble_eq_true rfl⟩ na_X11_line w1093 w1094 (by decide) rfl w1095 hk [] rfl (n_X11_line (a_40)) rfl (csum (Nat.le_of_ble_eq_true rfl)) (t_X11_line (a_40) h _ hc) ?_
        obtain ⟨x_43, h_42⟩ := z_41
        refine go_aload_n dL_law_186 rfl 2 rfl ?_
        obtain ⟨a_44, rfl, hga_44⟩ := nn_some hf
        have hf := hga_44
        obtain ⟨hk, hf⟩ := kg_some hf
        obtain ⟨z_45, hc, hf⟩ := bd_some hf
        refine go_callV (y2 := M_X12_line) (c2 := 13) dL_law_187 mo_X12_line ⟨Nat.le_of_ble_eq_true rfl, Nat.le_of_ble_eq_true rfl⟩ na_X12_line w1617 w1618 (by decide) rfl w1619 hk [] rfl (n_X12_line (a_44)) rfl (csum (Nat.le_of_ble_eq_true rfl)) (t_X12_line (a_44) h_42 _ hc) ?_
        obtain ⟨x_47, h_46⟩ := z_45
        refine go_icmp_eq (tgt := 274) dL_law_190 (by decide) hf (fun hf => ?_) (fun hf => ?_)
        · refine go_sub (lv' := [(0, vR Ω (some 3)), (1, vR Ω (some a_40)), (2, vR Ω (some a_44)), (3, .int x3)]) [0, 1, 2, 3] rfl ?_
          exact t_L_law_274 ih (some a_40) (some a_44) x3 h_46 q hf
        · refine go_iconst 0 dL_law_193 rfl ?_
          exact go_zreturn dL_law_194 rfl hf
      rw [if_neg e4] at hf
      by_cases e5 : (x_1 &&& 7) = 5
      · rw [if_pos e5] at hf
        refine go_tsw1 (off := 163) (tgt := 195) dL_law_32 (by rw [e5]; decide) (by rw [e5]; decide) (by rw [e5]; decide) (by decide) ?_
        refine go_aload_n dL_law_195 rfl 1 rfl ?_
        obtain ⟨a_48, rfl, hga_48⟩ := nn_some hf
        have hf := hga_48
        obtain ⟨hk, hf⟩ := kg_some hf
        obtain ⟨z_49, hc, hf⟩ := bd_some hf
        refine go_callV (y2 := M_X11_connect) (c2 := 12) dL_law_196 mo_X11_connect ⟨Nat.le_of_ble_eq_true rfl, Nat.le_of_ble_eq_true rfl⟩ na_X11_connect w1097 w1098 (by decide) rfl w1099 hk [] rfl (n_X11_connect (a_48)) rfl (csum (Nat.le_of_ble_eq_true rfl)) (t_X11_connect (a_48) h _ hc) ?_
        obtain ⟨x_51, h_50⟩ := z_49
        refine go_aload_n dL_law_199 rfl 2 rfl ?_
        obtain ⟨a_52, rfl, hga_52⟩ := nn_some hf
        have hf := hga_52
        obtain ⟨hk, hf⟩ := kg_some hf
        obtain ⟨z_53, hc, hf⟩ := bd_some hf
        refine go_callV (y2 := M_X12_connect) (c2 := 13) dL_law_200 mo_X12_connect ⟨Nat.le_of_ble_eq_true rfl, Nat.le_of_ble_eq_true rfl⟩ na_X12_connect w1621 w1622 (by decide) rfl w1623 hk [] rfl (n_X12_connect (a_52)) rfl (csum (Nat.le_of_ble_eq_true rfl)) (t_X12_connect (a_52) h_50 _ hc) ?_
        obtain ⟨x_55, h_54⟩ := z_53
        refine go_icmp_eq (tgt := 274) dL_law_203 (by decide) hf (fun hf => ?_) (fun hf => ?_)
        · refine go_sub (lv' := [(0, vR Ω (some 3)), (1, vR Ω (some a_48)), (2, vR Ω (some a_52)), (3, .int x3)]) [0, 1, 2, 3] rfl ?_
          exact t_L_law_274 ih (some a_48) (some a_52) x3 h_54 q hf
        · refine go_iconst 0 dL_law_206 rfl ?_
          exact go_zreturn dL_law_207 rfl hf
      rw [if_neg e5] at hf
      by_cases e6 : (x_1 &&& 7) = 6
      · rw [if_pos e6] at hf
        refine go_tsw1 (off := 176) (tgt := 208) dL_law_32 (by rw [e6]; decide) (by rw [e6]; decide) (by rw [e6]; decide) (by decide) ?_
        refine go_aload_n dL_law_208 rfl 1 rfl ?_
        refine go_aload_n dL_law_209 rfl 0 rfl ?_
        refine go_iload_n dL_law_210 rfl 3 rfl ?_
        refine go_iconst 1 dL_law_211 rfl ?_
        refine go_iadd dL_law_212 ?_
        refine go_iaX dL_law_213 hf (fun x_56 hf => ?_)
        refine go_aload_n dL_law_214 rfl 0 rfl ?_
        refine go_iload_n dL_law_215 rfl 3 rfl ?_
        refine go_iconst 2 dL_law_216 rfl ?_
        refine go_iadd dL_law_217 ?_
        refine go_iaX dL_law_218 hf (fun x_57 hf => ?_)
        obtain ⟨a_58, rfl, hga_58⟩ := nn_some hf
        have hf := hga_58
        obtain ⟨hk, hf⟩ := kg_some hf
        obtain ⟨z_59, hc, hf⟩ := bd_some hf
        refine go_callV (y2 := M_X11_channel) (c2 := 12) dL_law_219 mo_X11_channel ⟨Nat.le_of_ble_eq_true rfl, Nat.le_of_ble_eq_true rfl⟩ na_X11_channel w1101 w1102 (by decide) rfl w1103 hk [.int x_56, .int x_57] rfl (n_X11_channel (a_58) x_56 x_57) rfl (csum (Nat.le_of_ble_eq_true rfl)) (t_X11_channel (a_58) x_56 x_57 h _ hc) ?_
        obtain ⟨x_61, h_60⟩ := z_59
        refine go_aload_n dL_law_222 rfl 2 rfl ?_
        refine go_aload_n dL_law_223 rfl 0 rfl ?_
        refine go_iload_n dL_law_224 rfl 3 rfl ?_
        refine go_iconst 1 dL_law_225 rfl ?_
        refine go_iadd dL_law_226 ?_
        refine go_iaX dL_law_227 hf (fun x_62 hf => ?_)
        refine go_aload_n dL_law_228 rfl 0 rfl ?_
        refine go_iload_n dL_law_229 rfl 3 rfl ?_
        refine go_iconst 2 dL_law_230 rfl ?_
        refine go_iadd dL_law_231 ?_
        refine go_iaX dL_law_232 hf (fun x_63 hf => ?_)
        obtain ⟨a_64, rfl, hga_64⟩ := nn_some hf
        have hf := hga_64
        obtain ⟨hk, hf⟩ := kg_some hf
        obtain ⟨z_65, hc, hf⟩ := bd_some hf
        refine go_callV (y2 := M_X12_channel) (c2 := 13) dL_law_233 mo_X12_channel ⟨Nat.le_of_ble_eq_true rfl, Nat.le_of_ble_eq_true rfl⟩ na_X12_channel w1625 w1626 (by decide) rfl w1627 hk [.int x_62, .int x_63] rfl (n_X12_channel (a_64) x_62 x_63) rfl (csum (Nat.le_of_ble_eq_true rfl)) (t_X12_channel (a_64) x_62 x_63 h_60 _ hc) ?_
        obtain ⟨x_67, h_66⟩ := z_65
        refine go_icmp_eq (tgt := 274) dL_law_236 (by decide) hf (fun hf => ?_) (fun hf => ?_)
        · refine go_sub (lv' := [(0, vR Ω (some 3)), (1, vR Ω (some a_58)), (2, vR Ω (some a_64)), (3, .int x3)]) [0, 1, 2, 3] rfl ?_
          exact t_L_law_274 ih (some a_58) (some a_64) x3 h_66 q hf
        · refine go_iconst 0 dL_law_239 rfl ?_
          exact go_zreturn dL_law_240 rfl hf
      rw [if_neg e6] at hf
      by_cases e7 : (x_1 &&& 7) = 7
      · rw [if_pos e7] at hf
        refine go_tsw1 (off := 209) (tgt := 241) dL_law_32 (by rw [e7]; decide) (by rw [e7]; decide) (by rw [e7]; decide) (by decide) ?_
        refine go_aload_n dL_law_241 rfl 1 rfl ?_
        refine go_aload_n dL_law_242 rfl 0 rfl ?_
        refine go_iload_n dL_law_243 rfl 3 rfl ?_
        refine go_iconst 1 dL_law_244 rfl ?_
        refine go_iadd dL_law_245 ?_
        refine go_iaX dL_law_246 hf (fun x_68 hf => ?_)
        refine go_aload_n dL_law_247 rfl 0 rfl ?_
        refine go_iload_n dL_law_248 rfl 3 rfl ?_
        refine go_iconst 2 dL_law_249 rfl ?_
        refine go_iadd dL_law_250 ?_
        refine go_iaX dL_law_251 hf (fun x_69 hf => ?_)
        obtain ⟨a_70, rfl, hga_70⟩ := nn_some hf
        have hf := hga_70
        obtain ⟨hk, hf⟩ := kg_some hf
        obtain ⟨z_71, hc, hf⟩ := bd_some hf
        refine go_callV (y2 := M_X11_queue) (c2 := 12) dL_law_252 mo_X11_queue ⟨Nat.le_of_ble_eq_true rfl, Nat.le_of_ble_eq_true rfl⟩ na_X11_queue w1105 w1106 (by decide) rfl w1107 hk [.int x_68, .int x_69] rfl (n_X11_queue (a_70) x_68 x_69) rfl (csum (Nat.le_of_ble_eq_true rfl)) (t_X11_queue (a_70) x_68 x_69 h _ hc) ?_
        obtain ⟨x_73, h_72⟩ := z_71
        refine go_aload_n dL_law_255 rfl 2 rfl ?_
        refine go_aload_n dL_law_256 rfl 0 rfl ?_
        refine go_iload_n dL_law_257 rfl 3 rfl ?_
        refine go_iconst 1 dL_law_258 rfl ?_
        refine go_iadd dL_law_259 ?_
        refine go_iaX dL_law_260 hf (fun x_74 hf => ?_)
        refine go_aload_n dL_law_261 rfl 0 rfl ?_
        refine go_iload_n dL_law_262 rfl 3 rfl ?_
        refine go_iconst 2 dL_law_263 rfl ?_
        refine go_iadd dL_law_264 ?_
        refine go_iaX dL_law_265 hf (fun x_75 hf => ?_)
        obtain ⟨a_76, rfl, hga_76⟩ := nn_some hf
        have hf := hga_76
        obtain ⟨hk, hf⟩ := kg_some hf
        obtain ⟨z_77, hc, hf⟩ := bd_some hf
        refine go_callV (y2 := M_X12_queue) (c2 := 13) dL_law_266 mo_X12_queue ⟨Nat.le_of_ble_eq_true rfl, Nat.le_of_ble_eq_true rfl⟩ na_X12_queue w1629 w1630 (by decide) rfl w1631 hk [.int x_74, .int x_75] rfl (n_X12_queue (a_76) x_74 x_75) rfl (csum (Nat.le_of_ble_eq_true rfl)) (t_X12_queue (a_76) x_74 x_75 h_72 _ hc) ?_
        obtain ⟨x_79, h_78⟩ := z_77
        refine go_icmp_eq (tgt := 274) dL_law_269 (by decide) hf (fun hf => ?_) (fun hf => ?_)
        · refine go_sub (lv' := [(0, vR Ω (some 3)), (1, vR Ω (some a_70)), (2, vR Ω (some a_76)), (3, .int x3)]) [0, 1, 2, 3] rfl ?_
          exact t_L_law_274 ih (some a_70) (some a_76) x3 h_78 q hf
        · refine go_iconst 0 dL_law_272 rfl ?_
          exact go_zreturn dL_law_273 rfl hf
      rw [if_neg e7] at hf
      have n0 := ti (n := 0) (by decide) e0
      have n1 := ti (n := 1) (by decide) e1
      have n2 := ti (n := 2) (by decide) e2
      have n3 := ti (n := 3) (by decide) e3
      have n4 := ti (n := 4) (by decide) e4
      have n5 := ti (n := 5) (by decide) e5
      have n6 := ti (n := 6) (by decide) e6
      have n7 := ti (n := 7) (by decide) e7
      refine go_tsw0 (tgt := 274) dL_law_32 (by omega) (by decide) ?_
      refine go_sub (lv' := [(0, vR Ω (some 3)), (1, vR Ω r1), (2, vR Ω r2), (3, .int x3)]) [0, 1, 2, 3] rfl ?_
      exact t_L_law_274 ih r1 r2 x3 h q hf
def f_L_law (Ω : Om) (h : AH) : Option (Int32 × AH) := nwO h 12 fun a_1 h_2 =>
  bd (f_X11_init a_1 h_2) fun _ h_4 =>
  nwO h_4 13 fun a_5 h_6 =>
  bd (f_X12_init a_5 h_6) fun _ h_8 =>
  f_L_law_18 Ω FU (some a_1) (some a_5) 0 h_8
set_option maxRecDepth 20000 in
set_option maxHeartbeats 4000000 in
theorem t_L_law {Ω : Om} (h : AH) (q : Int32 × AH) (hf : f_L_law Ω h = some q) : Go Ω M_L_law 0 (lv_args 0 [vR Ω (some 3)]) [] h (some (.int q.1)) q.2 := by
  unfold f_L_law at hf
  rw [la_R, la_0]
  refine go_sub (lv' := [(0, vR Ω (some 3))]) [0] rfl ?_
  refine go_new (c := 12) dL_law_0 (by decide) rfl w142 hf (fun a_1 h_2 hf => ?_)
  refine go_dup dL_law_3 catR ?_
  obtain ⟨z_3, hc, hf⟩ := bd_some hf
  refine go_callI (y2 := M_X11_init) dL_law_4 mo_X11_init ⟨Nat.le_of_ble_eq_true rfl, Nat.le_of_ble_eq_true rfl⟩ na_X11_init w144 w145 rfl rfl [] rfl (n_X11_init (a_1)) rfl (csum (Nat.le_of_ble_eq_true rfl)) (t_X11_init (a_1) h_2 _ hc) ?_
  obtain ⟨_, h_4⟩ := z_3
  refine go_astore_n (i := 1) (lv' := [(1, vR Ω (some a_1)), (0, vR Ω (some 3))]) dL_law_7 rfl (by decide) (by first | rfl | simp [catR, catI, catJ]) ?_
  refine go_new (c := 13) dL_law_8 (by decide) rfl w1113 hf (fun a_5 h_6 hf => ?_)
  refine go_dup dL_law_11 catR ?_
  obtain ⟨z_7, hc, hf⟩ := bd_some hf
  refine go_callI (y2 := M_X12_init) dL_law_12 mo_X12_init ⟨Nat.le_of_ble_eq_true rfl, Nat.le_of_ble_eq_true rfl⟩ na_X12_init w1115 w1116 rfl rfl [] rfl (n_X12_init (a_5)) rfl (csum (Nat.le_of_ble_eq_true rfl)) (t_X12_init (a_5) h_6 _ hc) ?_
  obtain ⟨_, h_8⟩ := z_7
  refine go_astore_n (i := 2) (lv' := [(2, vR Ω (some a_5)), (1, vR Ω (some a_1)), (0, vR Ω (some 3))]) dL_law_15 rfl (by decide) (by first | rfl | simp [catR, catI, catJ]) ?_
  refine go_iconst 0 dL_law_16 rfl ?_
  refine go_istore_n (i := 3) (lv' := [(3, .int 0), (2, vR Ω (some a_5)), (1, vR Ω (some a_1)), (0, vR Ω (some 3))]) dL_law_17 rfl (by decide) (by first | rfl | simp [catR, catI, catJ]) ?_
  refine go_sub (lv' := [(0, vR Ω (some 3)), (1, vR Ω (some a_1)), (2, vR Ω (some a_5)), (3, .int 0)]) [3, 2, 1, 0] rfl ?_
  exact t_L_law_18 FU (some a_1) (some a_5) 0 h_8 q hf

/-! printed by wip/whole/gen: functions and their walks -/
-- LetterBrokerModel.isThere(I)Z
theorem dX12_isThere_0 : decode cX12_isThere 0 = .ok (.iconst 0, 1) := by decide +kernel
theorem dX12_isThere_1 : decode cX12_isThere 1 = .ok (.istore_n 2, 1) := by decide +kernel
theorem dX12_isThere_2 : decode cX12_isThere 2 = .ok (.iconst 0, 1) := by decide +kernel
theorem dX12_isThere_3 : decode cX12_isThere 3 = .ok (.istore_n 3, 1) := by decide +kernel
theorem dX12_isThere_4 : decode cX12_isThere 4 = .ok (.iload_n 3, 1) := by decide +kernel
theorem dX12_isThere_5 : decode cX12_isThere 5 = .ok (.aload_n 0, 1) := by decide +kernel
theorem dX12_isThere_6 : decode cX12_isThere 6 = .ok (.getfield 185, 3) := by decide +kernel
theorem dX12_isThere_9 : decode cX12_isThere 9 = .ok (.if_icmp .ge 29, 3) := by decide +kernel
theorem dX12_isThere_12 : decode cX12_isThere 12 = .ok (.iload_n 2, 1) := by decide +kernel
theorem dX12_isThere_13 : decode cX12_isThere 13 = .ok (.ifCond .ne 13, 3) := by decide +kernel
theorem dX12_isThere_16 : decode cX12_isThere 16 = .ok (.aload_n 0, 1) := by decide +kernel
theorem dX12_isThere_17 : decode cX12_isThere 17 = .ok (.getfield 30, 3) := by decide +kernel
theorem dX12_isThere_20 : decode cX12_isThere 20 = .ok (.iload_n 3, 1) := by decide +kernel
theorem dX12_isThere_21 : decode cX12_isThere 21 = .ok (.iaload, 1) := by decide +kernel
theorem dX12_isThere_22 : decode cX12_isThere 22 = .ok (.iload_n 1, 1) := by decide +kernel
theorem dX12_isThere_23 : decode cX12_isThere 23 = .ok (.if_icmp .ne 7, 3) := by decide +kernel
theorem dX12_isThere_26 : decode cX12_isThere 26 = .ok (.iconst 1, 1) := by decide +kernel
theorem dX12_isThere_27 : decode cX12_isThere 27 = .ok (.goto 4, 3) := by decide +kernel
theorem dX12_isThere_30 : decode cX12_isThere 30 = .ok (.iconst 0, 1) := by decide +kernel
theorem dX12_isThere_31 : decode cX12_isThere 31 = .ok (.istore_n 2, 1) := by decide +kernel
theorem dX12_isThere_32 : decode cX12_isThere 32 = .ok (.iinc 3 1, 3) := by decide +kernel
theorem dX12_isThere_35 : decode cX12_isThere 35 = .ok (.goto (-31), 3) := by decide +kernel
theorem dX12_isThere_38 : decode cX12_isThere 38 = .ok (.iload_n 2, 1) := by decide +kernel
theorem dX12_isThere_39 : decode cX12_isThere 39 = .ok (.ireturn, 1) := by decide +kernel
def f_X12_isThere_31 (k4 : Nat → Int32 → Int32 → Int32 → AH → Option (Int32 × AH)) (a0 : Nat) (x1 : Int32) (x3 : Int32) (s0 : Int32) (h : AH) : Option (Int32 × AH) := k4 a0 x1 s0 (x3 + 1) h
set_option maxRecDepth 20000 in
set_option maxHeartbeats 4000000 in
theorem t_X12_isThere_31 {Ω : Om} {k4 : Nat → Int32 → Int32 → Int32 → AH → Option (Int32 × AH)} (c4 : ∀ (a0 : Nat) (x1 : Int32) (x2 : Int32) (x3 : Int32) (h : AH) (q : Int32 × AH), k4 a0 x1 x2 x3 h = some q → Go Ω M_X12_isThere 4 [(0, vR Ω (some a0)), (1, .int x1), (2, .int x2), (3, .int x3)] [] h (some (.int q.1)) q.2) (a0 : Nat) (x1 : Int32) (x3 : Int32) (s0 : Int32) (h : AH) (q : Int32 × AH) (hf : f_X12_isThere_31 k4 a0 x1 x3 s0 h = some q) : Go Ω M_X12_isThere 31 [(0, vR Ω (some a0)), (1, .int x1), (3, .int x3)] [.int s0] h (some (.int q.1)) q.2 := by
  unfold f_X12_isThere_31 at hf
  refine go_istore_n (i := 2) (lv' := [(2, .int s0), (0, vR Ω (some a0)), (1, .int x1), (3, .int x3)]) dX12_isThere_31 rfl (by decide) (by first | rfl | simp [catR, catI, catJ]) ?_
  refine go_iinc (j := 3) (v := x3 + 1) (lv' := [(3, .int (x3 + 1)), (2, .int s0), (0, vR Ω (some a0)), (1, .int x1)]) dX12_isThere_32 rfl rfl (by decide) (by first | rfl | simp [catR, catI, catJ]) ?_
  refine go_goto (tgt := 4) dX12_isThere_35 (by decide) ?_
  refine go_sub (lv' := [(0, vR Ω (some a0)), (1, .int x1), (2, .int s0), (3, .int (x3 + 1))]) [2, 3, 1, 0] rfl ?_
  exact c4 a0 x1 s0 (x3 + 1) h q hf
def f_X12_isThere_4 : Nat → Nat → Int32 → Int32 → Int32 → AH → Option (Int32 × AH)
  | 0, _, _, _, _, _ => none
  | n + 1, a0, x1, x2, x3, h => rdI h a0 13 8 fun x_1 =>
    (if x_1 ≤ x3 then
      rz x2 (some (x2, h))
    else
      (if x2 = 0 then
        rdR h a0 13 11 fun r_2 =>
        nn r_2 fun a_3 =>
        arI h a_3 x3 fun x_4 =>
        (if x_4 = x1 then
          f_X12_isThere_31 (fun a0 x1 x2 x3 h => f_X12_isThere_4 n a0 x1 x2 x3 h) a0 x1 x3 1 h
        else
          f_X12_isThere_31 (fun a0 x1 x2 x3 h => f_X12_isThere_4 n a0 x1 x2 x3 h) a0 x1 x3 0 h)
      else
        f_X12_isThere_31 (fun a0 x1 x2 x3 h => f_X12_isThere_4 n a0 x1 x2 x3 h) a0 x1 x3 1 h))
set_option maxRecDepth 20000 in
set_option maxHeartbeats 4000000 in
theorem t_X12_isThere_4 {Ω : Om} : ∀ (n : Nat) (a0 : Nat) (x1 : Int32) (x2 : Int32) (x3 : Int32) (h : AH) (q : Int32 × AH), f_X12_isThere_4 n a0 x1 x2 x3 h = some q → Go Ω M_X12_isThere 4 [(0, vR Ω (some a0)), (1, .int x1), (2, .int x2), (3, .int x3)] [] h (some (.int q.1)) q.2 := by
  intro n
  induction n with
  | zero => intro a0 x1 x2 x3 h q hf; cases hf
  | succ n ih =>
    intro a0 x1 x2 x3 h q hf
    rw [f_X12_isThere_4] at hf
    refine go_iload_n dX12_isThere_4 rfl 3 rfl ?_
    refine go_aload_n dX12_isThere_5 rfl 0 rfl ?_
    refine go_getI dX12_isThere_6 fl_1127_0 (fun _ _ => rfl) hf (fun x_1 hf => ?_)
    refine go_icmp_ge (tgt := 38) dX12_isThere_9 (by decide) hf (fun hf => ?_) (fun hf => ?_)
    · refine go_iload_n dX12_isThere_38 rfl 2 rfl ?_
      exact go_zreturn dX12_isThere_39 rfl hf
    · refine go_iload_n dX12_isThere_12 rfl 2 rfl ?_
      refine go_if_ne (tgt := 26) dX12_isThere_13 (by decide) hf (fun hf => ?_) (fun hf => ?_)
      · refine go_iconst 1 dX12_isThere_26 rfl ?_
        refine go_goto (tgt := 31) dX12_isThere_27 (by decide) ?_
        refine go_sub (lv' := [(0, vR Ω (some a0)), (1, .int x1), (3, .int x3)]) [0, 1, 3] rfl ?_
        exact t_X12_isThere_31 ih a0 x1 x3 1 h q hf
      · refine go_aload_n dX12_isThere_16 rfl 0 rfl ?_
        refine go_getR dX12_isThere_17 fl_1130_0 (fun _ _ => rfl) hf (fun r_2 hf => ?_)
        refine go_iload_n dX12_isThere_20 rfl 3 rfl ?_
        obtain ⟨a_3, rfl, hga_3⟩ := nn_some hf
        have hf := hga_3
        refine go_iaload dX12_isThere_21 hf (fun x_4 hf => ?_)
        refine go_iload_n dX12_isThere_22 rfl 1 rfl ?_
        refine go_icmp_ne (tgt := 30) dX12_isThere_23 (by decide) hf (fun hf => ?_) (fun hf => ?_)
        · refine go_iconst 0 dX12_isThere_30 rfl ?_
          refine go_sub (lv' := [(0, vR Ω (some a0)), (1, .int x1), (3, .int x3)]) [0, 1, 3] rfl ?_
          exact t_X12_isThere_31 ih a0 x1 x3 0 h q hf
        · refine go_iconst 1 dX12_isThere_26 rfl ?_
          refine go_goto (tgt := 31) dX12_isThere_27 (by decide) ?_
          refine go_sub (lv' := [(0, vR Ω (some a0)), (1, .int x1), (3, .int x3)]) [0, 1, 3] rfl ?_
          exact t_X12_isThere_31 ih a0 x1 x3 1 h q hf
def f_X12_isThere (a0 : Nat) (x1 : Int32) (h : AH) : Option (Int32 × AH) := f_X12_isThere_4 FU a0 x1 0 0 h
set_option maxRecDepth 20000 in
set_option maxHeartbeats 4000000 in
theorem t_X12_isThere {Ω : Om} (a0 : Nat) (x1 : Int32) (h : AH) (q : Int32 × AH) (hf : f_X12_isThere a0 x1 h = some q) : Go Ω M_X12_isThere 0 (lv_args 0 [vR Ω (some a0), .int x1]) [] h (some (.int q.1)) q.2 := by
  unfold f_X12_isThere at hf
  rw [la_R, la_I, la_0]
  refine go_sub (lv' := [(0, vR Ω (some a0)), (1, .int x1)]) [0, 1] rfl ?_
  refine go_iconst 0 dX12_isThere_0 rfl ?_
  refine go_istore_n (i := 2) (lv' := [(2, .int 0), (0, vR Ω (some a0)), (1, .int x1)]) dX12_isThere_1 rfl (by decide) (by first | rfl | simp [catR, catI, catJ]) ?_
  refine go_iconst 0 dX12_isThere_2 rfl ?_
  refine go_istore_n (i := 3) (lv' := [(3, .int 0), (2, .int 0), (0, vR Ω (some a0)), (1, .int x1)]) dX12_isThere_3 rfl (by decide) (by first | rfl | simp [catR, catI, catJ]) ?_
  refine go_sub (lv' := [(0, vR Ω (some a0)), (1, .int x1), (2, .int 0), (3, .int 0)]) [2, 3, 1, 0] rfl ?_
  exact t_X12_isThere_4 FU a0 x1 0 0 h q hf
-- LetterBrokerModel.goesBack(I)Z
theorem dX12_goesBack_0 : decode cX12_goesBack 0 = .ok (.aload_n 0, 1) := by decide +kernel
theorem dX12_goesBack_1 : decode cX12_goesBack 1 = .ok (.aload_n 0, 1) := by decide +kernel
theorem dX12_goesBack_2 : decode cX12_goesBack 2 = .ok (.getfield 64, 3) := by decide +kernel
theorem dX12_goesBack_5 : decode cX12_goesBack 5 = .ok (.iload_n 1, 1) := by decide +kernel
theorem dX12_goesBack_6 : decode cX12_goesBack 6 = .ok (.iaload, 1) := by decide +kernel
theorem dX12_goesBack_7 : decode cX12_goesBack 7 = .ok (.invokevirtual 188, 3) := by decide +kernel
theorem dX12_goesBack_10 : decode cX12_goesBack 10 = .ok (.ifCond .ne 10, 3) := by decide +kernel
theorem dX12_goesBack_13 : decode cX12_goesBack 13 = .ok (.aload_n 0, 1) := by decide +kernel
theorem dX12_goesBack_14 : decode cX12_goesBack 14 = .ok (.iload_n 1, 1) := by decide +kernel
theorem dX12_goesBack_15 : decode cX12_goesBack 15 = .ok (.invokevirtual 192, 3) := by decide +kernel
theorem dX12_goesBack_18 : decode cX12_goesBack 18 = .ok (.iconst 1, 1) := by decide +kernel
theorem dX12_goesBack_19 : decode cX12_goesBack 19 = .ok (.ireturn, 1) := by decide +kernel
theorem dX12_goesBack_20 : decode cX12_goesBack 20 = .ok (.aload_n 0, 1) := by decide +kernel
theorem dX12_goesBack_21 : decode cX12_goesBack 21 = .ok (.getfield 67, 3) := by decide +kernel
theorem dX12_goesBack_24 : decode cX12_goesBack 24 = .ok (.iload_n 1, 1) := by decide +kernel
theorem dX12_goesBack_25 : decode cX12_goesBack 25 = .ok (.iconst 0, 1) := by decide +kernel
theorem dX12_goesBack_26 : decode cX12_goesBack 26 = .ok (.iastore, 1) := by decide +kernel
theorem dX12_goesBack_27 : decode cX12_goesBack 27 = .ok (.aload_n 0, 1) := by decide +kernel
theorem dX12_goesBack_28 : decode cX12_goesBack 28 = .ok (.getfield 73, 3) := by decide +kernel
theorem dX12_goesBack_31 : decode cX12_goesBack 31 = .ok (.iload_n 1, 1) := by decide +kernel
theorem dX12_goesBack_32 : decode cX12_goesBack 32 = .ok (.iconst 1, 1) := by decide +kernel
theorem dX12_goesBack_33 : decode cX12_goesBack 33 = .ok (.bastore, 1) := by decide +kernel
theorem dX12_goesBack_34 : decode cX12_goesBack 34 = .ok (.iconst 0, 1) := by decide +kernel
theorem dX12_goesBack_35 : decode cX12_goesBack 35 = .ok (.ireturn, 1) := by decide +kernel
def f_X12_goesBack (a0 : Nat) (x1 : Int32) (h : AH) : Option (Int32 × AH) := rdR h a0 13 27 fun r_1 =>
  nn r_1 fun a_2 =>
  arI h a_2 x1 fun x_3 =>
  kg h a0 13 (bd (f_X12_isThere a0 x_3 h) fun x_6 h_5 =>
  (if x_6 = 0 then
    kg h_5 a0 13 (bd (f_X12_removeLetter a0 x1 h_5) fun _ h_14 =>
    rz 1 (some (1, h_14)))
  else
    rdR h_5 a0 13 28 fun r_7 =>
    nn r_7 fun a_8 =>
    asI h_5 a_8 x1 0 fun h_9 =>
    rdR h_9 a0 13 30 fun r_10 =>
    nn r_10 fun a_11 =>
    asZ h_9 a_11 x1 1 fun h_12 =>
    rz 0 (some (0, h_12))))
set_option maxRecDepth 20000 in
set_option maxHeartbeats 4000000 in
theorem t_X12_goesBack {Ω : Om} (a0 : Nat) (x1 : Int32) (h : AH) (q : Int32 × AH) (hf : f_X12_goesBack a0 x1 h = some q) : Go Ω M_X12_goesBack 0 (lv_args 0 [vR Ω (some a0), .int x1]) [] h (some (.int q.1)) q.2 := by
  unfold f_X12_goesBack at hf
  rw [la_R, la_I, la_0]
  refine go_sub (lv' := [(0, vR Ω (some a0)), (1, .int x1)]) [0, 1] rfl ?_
  refine go_aload_n dX12_goesBack_0 rfl 0 rfl ?_
  refine go_aload_n dX12_goesBack_1 rfl 0 rfl ?_
  refine go_getR dX12_goesBack_2 fl_1146_0 (fun _ _ => rfl) hf (fun r_1 hf => ?_)
  refine go_iload_n dX12_goesBack_5 rfl 1 rfl ?_
  obtain ⟨a_2, rfl, hga_2⟩ := nn_some hf
  have hf := hga_2
  refine go_iaload dX12_goesBack_6 hf (fun x_3 hf => ?_)
  obtain ⟨hk, hf⟩ := kg_some hf
  obtain ⟨z_4, hc, hf⟩ := bd_some hf
  refine go_callV (y2 := M_X12_isThere) (c2 := 13) dX12_goesBack_7 mo_X12_isThere ⟨Nat.le_of_ble_eq_true rfl, Nat.le_of_ble_eq_true rfl⟩ na_X12_isThere w1365 w1367 (by decide) rfl w60 hk [.int x_3] rfl (n_X12_isThere (a0) x_3) rfl (csum (Nat.le_of_ble_eq_true rfl)) (t_X12_isThere (a0) x_3 h _ hc) ?_
  obtain ⟨x_6, h_5⟩ := z_4
  refine go_if_ne (tgt := 20) dX12_goesBack_10 (by decide) hf (fun hf => ?_) (fun hf => ?_)
  · refine go_aload_n dX12_goesBack_20 rfl 0 rfl ?_
    refine go_getR dX12_goesBack_21 fl_1147_0 (fun _ _ => rfl) hf (fun r_7 hf => ?_)
    refine go_iload_n dX12_goesBack_24 rfl 1 rfl ?_
    refine go_iconst 0 dX12_goesBack_25 rfl ?_
    obtain ⟨a_8, rfl, hga_8⟩ := nn_some hf
    have hf := hga_8
    refine go_iastore dX12_goesBack_26 hf (fun h_9 hf => ?_)
    refine go_aload_n dX12_goesBack_27 rfl 0 rfl ?_
    refine go_getR dX12_goesBack_28 fl_1149_0 (fun _ _ => rfl) hf (fun r_10 hf => ?_)
    refine go_iload_n dX12_goesBack_31 rfl 1 rfl ?_
    refine go_iconst 1 dX12_goesBack_32 rfl ?_
    obtain ⟨a_11, rfl, hga_11⟩ := nn_some hf
    have hf := hga_11
    refine go_zastore dX12_goesBack_33 hf (fun h_12 hf => ?_)
    refine go_iconst 0 dX12_goesBack_34 rfl ?_
    exact go_zreturn dX12_goesBack_35 rfl hf
  · refine go_aload_n dX12_goesBack_13 rfl 0 rfl ?_
    refine go_iload_n dX12_goesBack_14 rfl 1 rfl ?_
    obtain ⟨hk, hf⟩ := kg_some hf
    obtain ⟨z_13, hc, hf⟩ := bd_some hf
    refine go_callV (y2 := M_X12_removeLetter) (c2 := 13) dX12_goesBack_15 mo_X12_removeLetter ⟨Nat.le_of_ble_eq_true rfl, Nat.le_of_ble_eq_true rfl⟩ na_X12_removeLetter w1369 w1371 (by decide) rfl w61 hk [.int x1] rfl (n_X12_removeLetter (a0) x1) rfl (csum (Nat.le_of_ble_eq_true rfl)) (t_X12_removeLetter (a0) x1 h_5 _ hc) ?_
    obtain ⟨_, h_14⟩ := z_13
    refine go_iconst 1 dX12_goesBack_18 rfl ?_
    exact go_zreturn dX12_goesBack_19 rfl hf
-- LetterBrokerModel.allBack(I)V
theorem dX12_allBack_0 : decode cX12_allBack 0 = .ok (.iconst 0, 1) := by decide +kernel
theorem dX12_allBack_1 : decode cX12_allBack 1 = .ok (.istore_n 2, 1) := by decide +kernel
theorem dX12_allBack_2 : decode cX12_allBack 2 = .ok (.iload_n 2, 1) := by decide +kernel
theorem dX12_allBack_3 : decode cX12_allBack 3 = .ok (.aload_n 0, 1) := by decide +kernel
theorem dX12_allBack_4 : decode cX12_allBack 4 = .ok (.getfield 179, 3) := by decide +kernel
theorem dX12_allBack_7 : decode cX12_allBack 7 = .ok (.if_icmp .ge 32, 3) := by decide +kernel
theorem dX12_allBack_10 : decode cX12_allBack 10 = .ok (.iload_n 2, 1) := by decide +kernel
theorem dX12_allBack_11 : decode cX12_allBack 11 = .ok (.aload_n 0, 1) := by decide +kernel
theorem dX12_allBack_12 : decode cX12_allBack 12 = .ok (.getfield 67, 3) := by decide +kernel
theorem dX12_allBack_15 : decode cX12_allBack 15 = .ok (.iload_n 2, 1) := by decide +kernel
theorem dX12_allBack_16 : decode cX12_allBack 16 = .ok (.iaload, 1) := by decide +kernel
theorem dX12_allBack_17 : decode cX12_allBack 17 = .ok (.iload_n 1, 1) := by decide +kernel
theorem dX12_allBack_18 : decode cX12_allBack 18 = .ok (.if_icmp .ne 15, 3) := by decide +kernel
theorem dX12_allBack_21 : decode cX12_allBack 21 = .ok (.aload_n 0, 1) := by decide +kernel
theorem dX12_allBack_22 : decode cX12_allBack 22 = .ok (.iload_n 2, 1) := by decide +kernel
theorem dX12_allBack_23 : decode cX12_allBack 23 = .ok (.invokevirtual 195, 3) := by decide +kernel
theorem dX12_allBack_26 : decode cX12_allBack 26 = .ok (.ifCond .eq 7, 3) := by decide +kernel
theorem dX12_allBack_29 : decode cX12_allBack 29 = .ok (.iconst 0, 1) := by decide +kernel
theorem dX12_allBack_30 : decode cX12_allBack 30 = .ok (.goto 4, 3) := by decide +kernel
theorem dX12_allBack_33 : decode cX12_allBack 33 = .ok (.iconst 1, 1) := by decide +kernel
theorem dX12_allBack_34 : decode cX12_allBack 34 = .ok (.iadd, 1) := by decide +kernel
theorem dX12_allBack_35 : decode cX12_allBack 35 = .ok (.istore_n 2, 1) := by decide +kernel
theorem dX12_allBack_36 : decode cX12_allBack 36 = .ok (.goto (-34), 3) := by decide +kernel
theorem dX12_allBack_39 : decode cX12_allBack 39 = .ok (.return_, 1) := by decide +kernel
def f_X12_allBack_2 : Nat → Nat → Int32 → Int32 → AH → Option (Unit × AH)
  | 0, _, _, _, _ => none
  | n + 1, a0, x1, x2, h => rdI h a0 13 24 fun x_1 =>
    (if x_1 ≤ x2 then
      some ((), h)
    else
      rdR h a0 13 28 fun r_2 =>
      nn r_2 fun a_3 =>
      arI h a_3 x2 fun x_4 =>
      (if x_4 = x1 then
        kg h a0 13 (bd (f_X12_goesBack a0 x2 h) fun x_8 h_7 =>
        (if x_8 = 0 then
          lt (x2 + 1) fun x_9 =>
          f_X12_allBack_2 n a0 x1 x_9 h_7
        else
          lt (x2 + 0) fun x_10 =>
          f_X12_allBack_2 n a0 x1 x_10 h_7))
      else
        lt (x2 + 1) fun x_5 =>
        f_X12_allBack_2 n a0 x1 x_5 h))
set_option maxRecDepth 20000 in
set_option maxHeartbeats 4000000 in
theorem t_X12_allBack_2 {Ω : Om} : ∀ (n : Nat) (a0 : Nat) (x1 : Int32) (x2 : Int32) (h : AH) (q : Unit × AH), f_X12_allBack_2 n a0 x1 x2 h = some q → Go Ω M_X12_allBack 2 [(0, vR Ω (some a0)), (1, .int x1), (2, .int x2)] [] h none q.2 := by
  intro n
  induction n with
  | zero => intro a0 x1 x2 h q hf; cases hf
  | succ n ih =>
    intro a0 x1 x2 h q hf
    rw [f_X12_allBack_2] at hf
    refine go_iload_n dX12_allBack_2 rfl 2 rfl ?_
    refine go_aload_n dX12_allBack_3 rfl 0 rfl ?_
    refine go_getI dX12_allBack_4 fl_1143_0 (fun _ _ => rfl) hf (fun x_1 hf => ?_)
    refine go_icmp_ge (tgt := 39) dX12_allBack_7 (by decide) hf (fun hf => ?_) (fun hf => ?_)
    · exact go_return dX12_allBack_39 rfl hf
    · refine go_iload_n dX12_allBack_10 rfl 2 rfl ?_
      refine go_aload_n dX12_allBack_11 rfl 0 rfl ?_
      refine go_getR dX12_allBack_12 fl_1147_0 (fun _ _ => rfl) hf (fun r_2 hf => ?_)
      refine go_iload_n dX12_allBack_15 rfl 2 rfl ?_
      obtain ⟨a_3, rfl, hga_3⟩ := nn_some hf
      have hf := hga_3
      refine go_iaload dX12_allBack_16 hf (fun x_4 hf => ?_)
      refine go_iload_n dX12_allBack_17 rfl 1 rfl ?_
      refine go_icmp_ne (tgt := 33) dX12_allBack_18 (by decide) hf (fun hf => ?_) (fun hf => ?_)
      · refine go_iconst 1 dX12_allBack_33 rfl ?_
        refine go_iadd dX12_allBack_34 ?_
        refine lt_I hf (fun x_5 hf => ?_)
        refine go_istore_n (i := 2) (lv' := [(2, .int x_5), (0, vR Ω (some a0)), (1, .int x1)]) dX12_allBack_35 rfl (by decide) (by first | rfl | simp [catR, catI, catJ]) ?_
        refine go_goto (tgt := 2) dX12_allBack_36 (by decide) ?_
        refine go_sub (lv' := [(0, vR Ω (some a0)), (1, .int x1), (2, .int x_5)]) [1, 2, 0] rfl ?_
        exact ih a0 x1 x_5 h q hf
      · refine go_aload_n dX12_allBack_21 rfl 0 rfl ?_
        refine go_iload_n dX12_allBack_22 rfl 2 rfl ?_
        obtain ⟨hk, hf⟩ := kg_some hf
        obtain ⟨z_6, hc, hf⟩ := bd_some hf
        refine go_callV (y2 := M_X12_goesBack) (c2 := 13) dX12_allBack_23 mo_X12_goesBack ⟨Nat.le_of_ble_eq_true rfl, Nat.le_of_ble_eq_true rfl⟩ na_X12_goesBack w1361 w1363 (by decide) rfl w59 hk [.int x2] rfl (n_X12_goesBack (a0) x2) rfl (csum (Nat.le_of_ble_eq_true rfl)) (t_X12_goesBack (a0) x2 h _ hc) ?_
        obtain ⟨x_8, h_7⟩ := z_6
        refine go_if_eq (tgt := 33) dX12_allBack_26 (by decide) hf (fun hf => ?_) (fun hf => ?_)
        · refine go_iconst 1 dX12_allBack_33 rfl ?_
          refine go_iadd dX12_allBack_34 ?_
          refine lt_I hf (fun x_9 hf => ?_)
          refine go_istore_n (i := 2) (lv' := [(2, .int x_9), (0, vR Ω (some a0)), (1, .int x1)]) dX12_allBack_35 rfl (by decide) (by first | rfl | simp [catR, catI, catJ]) ?_
          refine go_goto (tgt := 2) dX12_allBack_36 (by decide) ?_
          refine go_sub (lv' := [(0, vR Ω (some a0)), (1, .int x1), (2, .int x_9)]) [1, 2, 0] rfl ?_
          exact ih a0 x1 x_9 h_7 q hf
        · refine go_iconst 0 dX12_allBack_29 rfl ?_
          refine go_goto (tgt := 34) dX12_allBack_30 (by decide) ?_
          refine go_iadd dX12_allBack_34 ?_
          refine lt_I hf (fun x_10 hf => ?_)
          refine go_istore_n (i := 2) (lv' := [(2, .int x_10), (0, vR Ω (some a0)), (1, .int x1)]) dX12_allBack_35 rfl (by decide) (by first | rfl | simp [catR, catI, catJ]) ?_
          refine go_goto (tgt := 2) dX12_allBack_36 (by decide) ?_
          refine go_sub (lv' := [(0, vR Ω (some a0)), (1, .int x1), (2, .int x_10)]) [1, 2, 0] rfl ?_
          exact ih a0 x1 x_10 h_7 q hf
def f_X12_allBack (a0 : Nat) (x1 : Int32) (h : AH) : Option (Unit × AH) := f_X12_allBack_2 FU a0 x1 0 h
set_option maxRecDepth 20000 in
set_option maxHeartbeats 4000000 in
theorem t_X12_allBack {Ω : Om} (a0 : Nat) (x1 : Int32) (h : AH) (q : Unit × AH) (hf : f_X12_allBack a0 x1 h = some q) : Go Ω M_X12_allBack 0 (lv_args 0 [vR Ω (some a0), .int x1]) [] h none q.2 := by
  unfold f_X12_allBack at hf
  rw [la_R, la_I, la_0]
  refine go_sub (lv' := [(0, vR Ω (some a0)), (1, .int x1)]) [0, 1] rfl ?_
  refine go_iconst 0 dX12_allBack_0 rfl ?_
  refine go_istore_n (i := 2) (lv' := [(2, .int 0), (0, vR Ω (some a0)), (1, .int x1)]) dX12_allBack_1 rfl (by decide) (by first | rfl | simp [catR, catI, catJ]) ?_
  refine go_sub (lv' := [(0, vR Ω (some a0)), (1, .int x1), (2, .int 0)]) [1, 2, 0] rfl ?_
  exact t_X12_allBack_2 FU a0 x1 0 h q hf
-- LetterBrokerModel.removeConsumer(I)V
theorem dX12_removeConsumer_0 : decode cX12_removeConsumer 0 = .ok (.aload_n 0, 1) := by decide +kernel
theorem dX12_removeConsumer_1 : decode cX12_removeConsumer 1 = .ok (.dup, 1) := by decide +kernel
theorem dX12_removeConsumer_2 : decode cX12_removeConsumer 2 = .ok (.getfield 198, 3) := by decide +kernel
theorem dX12_removeConsumer_5 : decode cX12_removeConsumer 5 = .ok (.iconst 1, 1) := by decide +kernel
theorem dX12_removeConsumer_6 : decode cX12_removeConsumer 6 = .ok (.isub, 1) := by decide +kernel
theorem dX12_removeConsumer_7 : decode cX12_removeConsumer 7 = .ok (.putfield 198, 3) := by decide +kernel
theorem dX12_removeConsumer_10 : decode cX12_removeConsumer 10 = .ok (.iload_n 1, 1) := by decide +kernel
theorem dX12_removeConsumer_11 : decode cX12_removeConsumer 11 = .ok (.istore_n 2, 1) := by decide +kernel
theorem dX12_removeConsumer_12 : decode cX12_removeConsumer 12 = .ok (.iload_n 2, 1) := by decide +kernel
theorem dX12_removeConsumer_13 : decode cX12_removeConsumer 13 = .ok (.aload_n 0, 1) := by decide +kernel
theorem dX12_removeConsumer_14 : decode cX12_removeConsumer 14 = .ok (.getfield 198, 3) := by decide +kernel
theorem dX12_removeConsumer_17 : decode cX12_removeConsumer 17 = .ok (.if_icmp .ge 79, 3) := by decide +kernel
theorem dX12_removeConsumer_20 : decode cX12_removeConsumer 20 = .ok (.aload_n 0, 1) := by decide +kernel
theorem dX12_removeConsumer_21 : decode cX12_removeConsumer 21 = .ok (.getfield 45, 3) := by decide +kernel
theorem dX12_removeConsumer_24 : decode cX12_removeConsumer 24 = .ok (.iload_n 2, 1) := by decide +kernel
theorem dX12_removeConsumer_25 : decode cX12_removeConsumer 25 = .ok (.aload_n 0, 1) := by decide +kernel
theorem dX12_removeConsumer_26 : decode cX12_removeConsumer 26 = .ok (.getfield 45, 3) := by decide +kernel
theorem dX12_removeConsumer_29 : decode cX12_removeConsumer 29 = .ok (.iload_n 2, 1) := by decide +kernel
theorem dX12_removeConsumer_30 : decode cX12_removeConsumer 30 = .ok (.iconst 1, 1) := by decide +kernel
theorem dX12_removeConsumer_31 : decode cX12_removeConsumer 31 = .ok (.iadd, 1) := by decide +kernel
theorem dX12_removeConsumer_32 : decode cX12_removeConsumer 32 = .ok (.iaload, 1) := by decide +kernel
theorem dX12_removeConsumer_33 : decode cX12_removeConsumer 33 = .ok (.iastore, 1) := by decide +kernel
theorem dX12_removeConsumer_34 : decode cX12_removeConsumer 34 = .ok (.aload_n 0, 1) := by decide +kernel
theorem dX12_removeConsumer_35 : decode cX12_removeConsumer 35 = .ok (.getfield 48, 3) := by decide +kernel
theorem dX12_removeConsumer_38 : decode cX12_removeConsumer 38 = .ok (.iload_n 2, 1) := by decide +kernel
theorem dX12_removeConsumer_39 : decode cX12_removeConsumer 39 = .ok (.aload_n 0, 1) := by decide +kernel
theorem dX12_removeConsumer_40 : decode cX12_removeConsumer 40 = .ok (.getfield 48, 3) := by decide +kernel
theorem dX12_removeConsumer_43 : decode cX12_removeConsumer 43 = .ok (.iload_n 2, 1) := by decide +kernel
theorem dX12_removeConsumer_44 : decode cX12_removeConsumer 44 = .ok (.iconst 1, 1) := by decide +kernel
theorem dX12_removeConsumer_45 : decode cX12_removeConsumer 45 = .ok (.iadd, 1) := by decide +kernel
theorem dX12_removeConsumer_46 : decode cX12_removeConsumer 46 = .ok (.iaload, 1) := by decide +kernel
theorem dX12_removeConsumer_47 : decode cX12_removeConsumer 47 = .ok (.iastore, 1) := by decide +kernel
theorem dX12_removeConsumer_48 : decode cX12_removeConsumer 48 = .ok (.aload_n 0, 1) := by decide +kernel
theorem dX12_removeConsumer_49 : decode cX12_removeConsumer 49 = .ok (.getfield 51, 3) := by decide +kernel
theorem dX12_removeConsumer_52 : decode cX12_removeConsumer 52 = .ok (.iload_n 2, 1) := by decide +kernel
theorem dX12_removeConsumer_53 : decode cX12_removeConsumer 53 = .ok (.aload_n 0, 1) := by decide +kernel
theorem dX12_removeConsumer_54 : decode cX12_removeConsumer 54 = .ok (.getfield 51, 3) := by decide +kernel
theorem dX12_removeConsumer_57 : decode cX12_removeConsumer 57 = .ok (.iload_n 2, 1) := by decide +kernel
theorem dX12_removeConsumer_58 : decode cX12_removeConsumer 58 = .ok (.iconst 1, 1) := by decide +kernel
theorem dX12_removeConsumer_59 : decode cX12_removeConsumer 59 = .ok (.iadd, 1) := by decide +kernel
theorem dX12_removeConsumer_60 : decode cX12_removeConsumer 60 = .ok (.laload, 1) := by decide +kernel
theorem dX12_removeConsumer_61 : decode cX12_removeConsumer 61 = .ok (.lastore, 1) := by decide +kernel
theorem dX12_removeConsumer_62 : decode cX12_removeConsumer 62 = .ok (.aload_n 0, 1) := by decide +kernel
theorem dX12_removeConsumer_63 : decode cX12_removeConsumer 63 = .ok (.getfield 54, 3) := by decide +kernel
theorem dX12_removeConsumer_66 : decode cX12_removeConsumer 66 = .ok (.iload_n 2, 1) := by decide +kernel
theorem dX12_removeConsumer_67 : decode cX12_removeConsumer 67 = .ok (.aload_n 0, 1) := by decide +kernel
theorem dX12_removeConsumer_68 : decode cX12_removeConsumer 68 = .ok (.getfield 54, 3) := by decide +kernel
theorem dX12_removeConsumer_71 : decode cX12_removeConsumer 71 = .ok (.iload_n 2, 1) := by decide +kernel
theorem dX12_removeConsumer_72 : decode cX12_removeConsumer 72 = .ok (.iconst 1, 1) := by decide +kernel
theorem dX12_removeConsumer_73 : decode cX12_removeConsumer 73 = .ok (.iadd, 1) := by decide +kernel
theorem dX12_removeConsumer_74 : decode cX12_removeConsumer 74 = .ok (.iaload, 1) := by decide +kernel
theorem dX12_removeConsumer_75 : decode cX12_removeConsumer 75 = .ok (.iastore, 1) := by decide +kernel
theorem dX12_removeConsumer_76 : decode cX12_removeConsumer 76 = .ok (.aload_n 0, 1) := by decide +kernel
theorem dX12_removeConsumer_77 : decode cX12_removeConsumer 77 = .ok (.getfield 57, 3) := by decide +kernel
theorem dX12_removeConsumer_80 : decode cX12_removeConsumer 80 = .ok (.iload_n 2, 1) := by decide +kernel
theorem dX12_removeConsumer_81 : decode cX12_removeConsumer 81 = .ok (.aload_n 0, 1) := by decide +kernel
theorem dX12_removeConsumer_82 : decode cX12_removeConsumer 82 = .ok (.getfield 57, 3) := by decide +kernel
theorem dX12_removeConsumer_85 : decode cX12_removeConsumer 85 = .ok (.iload_n 2, 1) := by decide +kernel
theorem dX12_removeConsumer_86 : decode cX12_removeConsumer 86 = .ok (.iconst 1, 1) := by decide +kernel
theorem dX12_removeConsumer_87 : decode cX12_removeConsumer 87 = .ok (.iadd, 1) := by decide +kernel
theorem dX12_removeConsumer_88 : decode cX12_removeConsumer 88 = .ok (.baload, 1) := by decide +kernel
theorem dX12_removeConsumer_89 : decode cX12_removeConsumer 89 = .ok (.bastore, 1) := by decide +kernel
theorem dX12_removeConsumer_90 : decode cX12_removeConsumer 90 = .ok (.iinc 2 1, 3) := by decide +kernel
theorem dX12_removeConsumer_93 : decode cX12_removeConsumer 93 = .ok (.goto (-81), 3) := by decide +kernel
theorem dX12_removeConsumer_96 : decode cX12_removeConsumer 96 = .ok (.return_, 1) := by decide +kernel
def f_X12_removeConsumer_12 : Nat → Nat → Int32 → AH → Option (Unit × AH)
  | 0, _, _, _ => none
  | n + 1, a0, x2, h => rdI h a0 13 17 fun x_1 =>
    (if x_1 ≤ x2 then
      some ((), h)
    else
      rdR h a0 13 19 fun r_2 =>
      rdR h a0 13 19 fun r_3 =>
      nn r_3 fun a_4 =>
      arI h a_4 (x2 + 1) fun x_5 =>
      nn r_2 fun a_6 =>
      asI h a_6 x2 x_5 fun h_7 =>
      rdR h_7 a0 13 20 fun r_8 =>
      rdR h_7 a0 13 20 fun r_9 =>
      nn r_9 fun a_10 =>
      arI h_7 a_10 (x2 + 1) fun x_11 =>
      nn r_8 fun a_12 =>
      asI h_7 a_12 x2 x_11 fun h_13 =>
      rdR h_13 a0 13 21 fun r_14 =>
      rdR h_13 a0 13 21 fun r_15 =>
      nn r_15 fun a_16 =>
      arJ h_13 a_16 (x2 + 1) fun x_17 =>
      nn r_14 fun a_18 =>
      asJ h_13 a_18 x2 x_17 fun h_19 =>
      rdR h_19 a0 13 22 fun r_20 =>
      rdR h_19 a0 13 22 fun r_21 =>
      nn r_21 fun a_22 =>
      arI h_19 a_22 (x2 + 1) fun x_23 =>
      nn r_20 fun a_24 =>
      asI h_19 a_24 x2 x_23 fun h_25 =>
      rdR h_25 a0 13 23 fun r_26 =>
      rdR h_25 a0 13 23 fun r_27 =>
      nn r_27 fun a_28 =>
      arZ h_25 a_28 (x2 + 1) fun x_29 =>
      nn r_26 fun a_30 =>
      asZ h_25 a_30 x2 x_29 fun h_31 =>
      f_X12_removeConsumer_12 n a0 (x2 + 1) h_31)
set_option maxRecDepth 20000 in
set_option maxHeartbeats 4000000 in
theorem t_X12_removeConsumer_12 {Ω : Om} : ∀ (n : Nat) (a0 : Nat) (x2 : Int32) (h : AH) (q : Unit × AH), f_X12_removeConsumer_12 n a0 x2 h = some q → Go Ω M_X12_removeConsumer 12 [(0, vR Ω (some a0)), (2, .int x2)] [] h none q.2 := by
  intro n
  induction n with
  | zero => intro a0 x2 h q hf; cases hf
  | succ n ih =>
    intro a0 x2 h q hf
    rw [f_X12_removeConsumer_12] at hf
    refine go_iload_n dX12_removeConsumer_12 rfl 1 rfl ?_
    refine go_aload_n dX12_removeConsumer_13 rfl 0 rfl ?_
    refine go_getI dX12_removeConsumer_14 fl_1136_0 (fun _ _ => rfl) hf (fun x_1 hf => ?_)
    refine go_icmp_ge (tgt := 96) dX12_removeConsumer_17 (by decide) hf (fun hf => ?_) (fun hf => ?_)
    · exact go_return dX12_removeConsumer_96 rfl hf
    · refine go_aload_n dX12_removeConsumer_20 rfl 0 rfl ?_
      refine go_getR dX12_removeConsumer_21 fl_1138_0 (fun _ _ => rfl) hf (fun r_2 hf => ?_)
      refine go_iload_n dX12_removeConsumer_24 rfl 1 rfl ?_
      refine go_aload_n dX12_removeConsumer_25 rfl 0 rfl ?_
      refine go_getR dX12_removeConsumer_26 fl_1138_0 (fun _ _ => rfl) hf (fun r_3 hf => ?_)
      refine go_iload_n dX12_removeConsumer_29 rfl 1 rfl ?_
      refine go_iconst 1 dX12_removeConsumer_30 rfl ?_
      refine go_iadd dX12_removeConsumer_31 ?_
      obtain ⟨a_4, rfl, hga_4⟩ := nn_some hf
      have hf := hga_4
      refine go_iaload dX12_removeConsumer_32 hf (fun x_5 hf => ?_)
      obtain ⟨a_6, rfl, hga_6⟩ := nn_some hf
      have hf := hga_6
      refine go_iastore dX12_removeConsumer_33 hf (fun h_7 hf => ?_)
      refine go_aload_n dX12_removeConsumer_34 rfl 0 rfl ?_
      refine go_getR dX12_removeConsumer_35 fl_1139_0 (fun _ _ => rfl) hf (fun r_8 hf => ?_)
      refine go_iload_n dX12_removeConsumer_38 rfl 1 rfl ?_
      refine go_aload_n dX12_removeConsumer_39 rfl 0 rfl ?_
      refine go_getR dX12_removeConsumer_40 fl_1139_0 (fun _ _ => rfl) hf (fun r_9 hf => ?_)
      refine go_iload_n dX12_removeConsumer_43 rfl 1 rfl ?_
      refine go_iconst 1 dX12_removeConsumer_44 rfl ?_
      refine go_iadd dX12_removeConsumer_45 ?_
      obtain ⟨a_10, rfl, hga_10⟩ := nn_some hf
      have hf := hga_10
      refine go_iaload dX12_removeConsumer_46 hf (fun x_11 hf => ?_)
      obtain ⟨a_12, rfl, hga_12⟩ := nn_some hf
      have hf := hga_12
      refine go_iastore dX12_removeConsumer_47 hf (fun h_13 hf => ?_)
      refine go_aload_n dX12_removeConsumer_48 rfl 0 rfl ?_
      refine go_getR dX12_removeConsumer_49 fl_1140_0 (fun _ _ => rfl) hf (fun r_14 hf => ?_)
      refine go_iload_n dX12_removeConsumer_52 rfl 1 rfl ?_
      refine go_aload_n dX12_removeConsumer_53 rfl 0 rfl ?_
      refine go_getR dX12_removeConsumer_54 fl_1140_0 (fun _ _ => rfl) hf (fun r_15 hf => ?_)
      refine go_iload_n dX12_removeConsumer_57 rfl 1 rfl ?_
      refine go_iconst 1 dX12_removeConsumer_58 rfl ?_
      refine go_iadd dX12_removeConsumer_59 ?_
      obtain ⟨a_16, rfl, hga_16⟩ := nn_some hf
      have hf := hga_16
      refine go_laload dX12_removeConsumer_60 hf (fun x_17 hf => ?_)
      obtain ⟨a_18, rfl, hga_18⟩ := nn_some hf
      have hf := hga_18
      refine go_lastore dX12_removeConsumer_61 hf (fun h_19 hf => ?_)
      refine go_aload_n dX12_removeConsumer_62 rfl 0 rfl ?_
      refine go_getR dX12_removeConsumer_63 fl_1141_0 (fun _ _ => rfl) hf (fun r_20 hf => ?_)
      refine go_iload_n dX12_removeConsumer_66 rfl 1 rfl ?_
      refine go_aload_n dX12_removeConsumer_67 rfl 0 rfl ?_
      refine go_getR dX12_removeConsumer_68 fl_1141_0 (fun _ _ => rfl) hf (fun r_21 hf => ?_)
      refine go_iload_n dX12_removeConsumer_71 rfl 1 rfl ?_
      refine go_iconst 1 dX12_removeConsumer_72 rfl ?_
      refine go_iadd dX12_removeConsumer_73 ?_
      obtain ⟨a_22, rfl, hga_22⟩ := nn_some hf
      have hf := hga_22
      refine go_iaload dX12_removeConsumer_74 hf (fun x_23 hf => ?_)
      obtain ⟨a_24, rfl, hga_24⟩ := nn_some hf
      have hf := hga_24
      refine go_iastore dX12_removeConsumer_75 hf (fun h_25 hf => ?_)
      refine go_aload_n dX12_removeConsumer_76 rfl 0 rfl ?_
      refine go_getR dX12_removeConsumer_77 fl_1142_0 (fun _ _ => rfl) hf (fun r_26 hf => ?_)
      refine go_iload_n dX12_removeConsumer_80 rfl 1 rfl ?_
      refine go_aload_n dX12_removeConsumer_81 rfl 0 rfl ?_
      refine go_getR dX12_removeConsumer_82 fl_1142_0 (fun _ _ => rfl) hf (fun r_27 hf => ?_)
      refine go_iload_n dX12_removeConsumer_85 rfl 1 rfl ?_
      refine go_iconst 1 dX12_removeConsumer_86 rfl ?_
      refine go_iadd dX12_removeConsumer_87 ?_
      obtain ⟨a_28, rfl, hga_28⟩ := nn_some hf
      have hf := hga_28
      refine go_zaload dX12_removeConsumer_88 hf (fun x_29 hf => ?_)
      obtain ⟨a_30, rfl, hga_30⟩ := nn_some hf
      have hf := hga_30
      refine go_zastore dX12_removeConsumer_89 hf (fun h_31 hf => ?_)
      refine go_iinc (j := 1) (v := x2 + 1) (lv' := [(2, .int (x2 + 1)), (0, vR Ω (some a0))]) dX12_removeConsumer_90 rfl rfl (by decide) (by first | rfl | simp [catR, catI, catJ]) ?_
      refine go_goto (tgt := 12) dX12_removeConsumer_93 (by decide) ?_
      refine go_sub (lv' := [(0, vR Ω (some a0)), (2, .int (x2 + 1))]) [1, 0] rfl ?_
      exact ih a0 (x2 + 1) h_31 q hf
def f_X12_removeConsumer (a0 : Nat) (x1 : Int32) (h : AH) : Option (Unit × AH) := rdI h a0 13 17 fun x_1 =>
  wrI h a0 13 17 (x_1 - 1) fun h_2 =>
  f_X12_removeConsumer_12 FU a0 x1 h_2
set_option maxRecDepth 20000 in
set_option maxHeartbeats 4000000 in
theorem t_X12_removeConsumer {Ω : Om} (a0 : Nat) (x1 : Int32) (h : AH) (q : Unit × AH) (hf : f_X12_removeConsumer a0 x1 h = some q) : Go Ω M_X12_removeConsumer 0 (lv_args 0 [vR Ω (some a0), .int x1]) [] h none q.2 := by
  unfold f_X12_removeConsumer at hf
  rw [la_R, la_I, la_0]
  refine go_sub (lv' := [(0, vR Ω (some a0)), (1, .int x1)]) [0, 1] rfl ?_
  refine go_aload_n dX12_removeConsumer_0 rfl 0 rfl ?_
  refine go_dup dX12_removeConsumer_1 catR ?_
  refine go_getI dX12_removeConsumer_2 fl_1136_0 (fun _ _ => rfl) hf (fun x_1 hf => ?_)
  refine go_iconst 1 dX12_removeConsumer_5 rfl ?_
  refine go_isub dX12_removeConsumer_6 ?_
  refine go_putI dX12_removeConsumer_7 fl_1136_0 (fun q hq => by cases hq; exact Or.inl rfl) (fun _ _ => rfl) rfl hf (fun h_2 hf => ?_)
  refine go_iload_n dX12_removeConsumer_10 rfl 1 rfl ?_
  refine go_istore_n (i := 2) (lv' := [(2, .int x1), (0, vR Ω (some a0)), (1, .int x1)]) dX12_removeConsumer_11 rfl (by decide) (by first | rfl | simp [catR, catI, catJ]) ?_
  refine go_sub (lv' := [(0, vR Ω (some a0)), (2, .int x1)]) [1, 0] rfl ?_
  exact t_X12_removeConsumer_12 FU a0 x1 h_2 q hf
-- LetterBrokerModel.endChannel(II)V
theorem dX12_endChannel_0 : decode cX12_endChannel 0 = .ok (.aload_n 0, 1) := by decide +kernel
theorem dX12_endChannel_1 : decode cX12_endChannel 1 = .ok (.getfield 88, 3) := by decide +kernel
theorem dX12_endChannel_4 : decode cX12_endChannel 4 = .ok (.iload_n 1, 1) := by decide +kernel
theorem dX12_endChannel_5 : decode cX12_endChannel 5 = .ok (.iload_n 2, 1) := by decide +kernel
theorem dX12_endChannel_6 : decode cX12_endChannel 6 = .ok (.iastore, 1) := by decide +kernel
theorem dX12_endChannel_7 : decode cX12_endChannel 7 = .ok (.aload_n 0, 1) := by decide +kernel
theorem dX12_endChannel_8 : decode cX12_endChannel 8 = .ok (.getfield 198, 3) := by decide +kernel
theorem dX12_endChannel_11 : decode cX12_endChannel 11 = .ok (.iconst 1, 1) := by decide +kernel
theorem dX12_endChannel_12 : decode cX12_endChannel 12 = .ok (.isub, 1) := by decide +kernel
theorem dX12_endChannel_13 : decode cX12_endChannel 13 = .ok (.istore_n 3, 1) := by decide +kernel
theorem dX12_endChannel_14 : decode cX12_endChannel 14 = .ok (.iload_n 3, 1) := by decide +kernel
theorem dX12_endChannel_15 : decode cX12_endChannel 15 = .ok (.ifCond .lt 24, 3) := by decide +kernel
theorem dX12_endChannel_18 : decode cX12_endChannel 18 = .ok (.aload_n 0, 1) := by decide +kernel
theorem dX12_endChannel_19 : decode cX12_endChannel 19 = .ok (.getfield 48, 3) := by decide +kernel
theorem dX12_endChannel_22 : decode cX12_endChannel 22 = .ok (.iload_n 3, 1) := by decide +kernel
theorem dX12_endChannel_23 : decode cX12_endChannel 23 = .ok (.iaload, 1) := by decide +kernel
theorem dX12_endChannel_24 : decode cX12_endChannel 24 = .ok (.iload_n 1, 1) := by decide +kernel
theorem dX12_endChannel_25 : decode cX12_endChannel 25 = .ok (.if_icmp .ne 8, 3) := by decide +kernel
theorem dX12_endChannel_28 : decode cX12_endChannel 28 = .ok (.aload_n 0, 1) := by decide +kernel
theorem dX12_endChannel_29 : decode cX12_endChannel 29 = .ok (.iload_n 3, 1) := by decide +kernel
theorem dX12_endChannel_30 : decode cX12_endChannel 30 = .ok (.invokevirtual 201, 3) := by decide +kernel
theorem dX12_endChannel_33 : decode cX12_endChannel 33 = .ok (.iinc 3 (-1), 3) := by decide +kernel
theorem dX12_endChannel_36 : decode cX12_endChannel 36 = .ok (.goto (-22), 3) := by decide +kernel
theorem dX12_endChannel_39 : decode cX12_endChannel 39 = .ok (.aload_n 0, 1) := by decide +kernel
theorem dX12_endChannel_40 : decode cX12_endChannel 40 = .ok (.iload_n 1, 1) := by decide +kernel
theorem dX12_endChannel_41 : decode cX12_endChannel 41 = .ok (.invokevirtual 204, 3) := by decide +kernel
theorem dX12_endChannel_44 : decode cX12_endChannel 44 = .ok (.aload_n 0, 1) := by decide +kernel
theorem dX12_endChannel_45 : decode cX12_endChannel 45 = .ok (.getfield 100, 3) := by decide +kernel
theorem dX12_endChannel_48 : decode cX12_endChannel 48 = .ok (.iload_n 1, 1) := by decide +kernel
theorem dX12_endChannel_49 : decode cX12_endChannel 49 = .ok (.iconst 0, 1) := by decide +kernel
theorem dX12_endChannel_50 : decode cX12_endChannel 50 = .ok (.bastore, 1) := by decide +kernel
theorem dX12_endChannel_51 : decode cX12_endChannel 51 = .ok (.aload_n 0, 1) := by decide +kernel
theorem dX12_endChannel_52 : decode cX12_endChannel 52 = .ok (.getfield 124, 3) := by decide +kernel
theorem dX12_endChannel_55 : decode cX12_endChannel 55 = .ok (.iload_n 1, 1) := by decide +kernel
theorem dX12_endChannel_56 : decode cX12_endChannel 56 = .ok (.iconst 0, 1) := by decide +kernel
theorem dX12_endChannel_57 : decode cX12_endChannel 57 = .ok (.iastore, 1) := by decide +kernel
theorem dX12_endChannel_58 : decode cX12_endChannel 58 = .ok (.aload_n 0, 1) := by decide +kernel
theorem dX12_endChannel_59 : decode cX12_endChannel 59 = .ok (.getfield 103, 3) := by decide +kernel
theorem dX12_endChannel_62 : decode cX12_endChannel 62 = .ok (.iload_n 1, 1) := by decide +kernel
theorem dX12_endChannel_63 : decode cX12_endChannel 63 = .ok (.iconst 0, 1) := by decide +kernel
theorem dX12_endChannel_64 : decode cX12_endChannel 64 = .ok (.iastore, 1) := by decide +kernel
theorem dX12_endChannel_65 : decode cX12_endChannel 65 = .ok (.return_, 1) := by decide +kernel
def f_X12_endChannel_33 (k14 : Nat → Int32 → Int32 → AH → Option (Unit × AH)) (a0 : Nat) (x1 : Int32) (x3 : Int32) (h : AH) : Option (Unit × AH) := k14 a0 x1 (x3 + (-1)) h
set_option maxRecDepth 20000 in
set_option maxHeartbeats 4000000 in
theorem t_X12_endChannel_33 {Ω : Om} {k14 : Nat → Int32 → Int32 → AH → Option (Unit × AH)} (c14 : ∀ (a0 : Nat) (x1 : Int32) (x3 : Int32) (h : AH) (q : Unit × AH), k14 a0 x1 x3 h = some q → Go Ω M_X12_endChannel 14 [(0, vR Ω (some a0)), (1, .int x1), (3, .int x3)] [] h none q.2) (a0 : Nat) (x1 : Int32) (x3 : Int32) (h : AH) (q : Unit × AH) (hf : f_X12_endChannel_33 k14 a0 x1 x3 h = some q) : Go Ω M_X12_endChannel 33 [(0, vR Ω (some a0)), (1, .int x1), (3, .int x3)] [] h none q.2 := by
  unfold f_X12_endChannel_33 at hf
  refine go_iinc (j := 2) (v := x3 + (-1)) (lv' := [(3, .int (x3 + (-1))), (0, vR Ω (some a0)), (1, .int x1)]) dX12_endChannel_33 rfl rfl (by decide) (by first | rfl | simp [catR, catI, catJ]) ?_
  refine go_goto (tgt := 14) dX12_endChannel_36 (by decide) ?_
  refine go_sub (lv' := [(0, vR Ω (some a0)), (1, .int x1), (3, .int (x3 + (-1)))]) [1, 2, 0] rfl ?_
  exact c14 a0 x1 (x3 + (-1)) h q hf
def f_X12_endChannel_39 (a0 : Nat) (x1 : Int32) (h : AH) : Option (Unit × AH) := kg h a0 13 (bd (f_X12_allBack a0 x1 h) fun _ h_2 =>
  rdR h_2 a0 13 39 fun r_3 =>
  nn r_3 fun a_4 =>
  asZ h_2 a_4 x1 0 fun h_5 =>
  rdR h_5 a0 13 47 fun r_6 =>
  nn r_6 fun a_7 =>
  asI h_5 a_7 x1 0 fun h_8 =>
  rdR h_8 a0 13 40 fun r_9 =>
  nn r_9 fun a_10 =>
  asI h_8 a_10 x1 0 fun h_11 =>
  some ((), h_11))
set_option maxRecDepth 20000 in
set_option maxHeartbeats 4000000 in
theorem t_X12_endChannel_39 {Ω : Om} (a0 : Nat) (x1 : Int32) (h : AH) (q : Unit × AH) (hf : f_X12_endChannel_39 a0 x1 h = some q) : Go Ω M_X12_endChannel 39 [(0, vR Ω (some a0)), (1, .int x1)] [] h none q.2 := by
  unfold f_X12_endChannel_39 at hf
  refine go_aload_n dX12_endChannel_39 rfl 0 rfl ?_
  refine go_iload_n dX12_endChannel_40 rfl 1 rfl ?_
  obtain ⟨hk, hf⟩ := kg_some hf
  obtain ⟨z_1, hc, hf⟩ := bd_some hf
  refine go_callV (y2 := M_X12_allBack) (c2 := 13) dX12_endChannel_41 mo_X12_allBack ⟨Nat.le_of_ble_eq_true rfl, Nat.le_of_ble_eq_true rfl⟩ na_X12_allBack w1357 w1359 (by decide) rfl w58 hk [.int x1] rfl (n_X12_allBack (a0) x1) rfl (csum (Nat.le_of_ble_eq_true rfl)) (t_X12_allBack (a0) x1 h _ hc) ?_
  obtain ⟨_, h_2⟩ := z_1
  refine go_aload_n dX12_endChannel_44 rfl 0 rfl ?_
  refine go_getR dX12_endChannel_45 fl_1158_0 (fun _ _ => rfl) hf (fun r_3 hf => ?_)
  refine go_iload_n dX12_endChannel_48 rfl 1 rfl ?_
  refine go_iconst 0 dX12_endChannel_49 rfl ?_
  obtain ⟨a_4, rfl, hga_4⟩ := nn_some hf
  have hf := hga_4
  refine go_zastore dX12_endChannel_50 hf (fun h_5 hf => ?_)
  refine go_aload_n dX12_endChannel_51 rfl 0 rfl ?_
  refine go_getR dX12_endChannel_52 fl_1166_0 (fun _ _ => rfl) hf (fun r_6 hf => ?_)
  refine go_iload_n dX12_endChannel_55 rfl 1 rfl ?_
  refine go_iconst 0 dX12_endChannel_56 rfl ?_
  obtain ⟨a_7, rfl, hga_7⟩ := nn_some hf
  have hf := hga_7
  refine go_iastore dX12_endChannel_57 hf (fun h_8 hf => ?_)
  refine go_aload_n dX12_endChannel_58 rfl 0 rfl ?_
  refine go_getR dX12_endChannel_59 fl_1159_0 (fun _ _ => rfl) hf (fun r_9 hf => ?_)
  refine go_iload_n dX12_endChannel_62 rfl 1 rfl ?_
  refine go_iconst 0 dX12_endChannel_63 rfl ?_
  obtain ⟨a_10, rfl, hga_10⟩ := nn_some hf
  have hf := hga_10
  refine go_iastore dX12_endChannel_64 hf (fun h_11 hf => ?_)
  exact go_return dX12_endChannel_65 rfl hf
def f_X12_endChannel_14 : Nat → Nat → Int32 → Int32 → AH → Option (Unit × AH)
  | 0, _, _, _, _ => none
  | n + 1, a0, x1, x3, h => (if x3 < 0 then
      f_X12_endChannel_39 a0 x1 h
    else
      rdR h a0 13 20 fun r_1 =>
      nn r_1 fun a_2 =>
      arI h a_2 x3 fun x_3 =>
      (if x_3 = x1 then
        kg h a0 13 (bd (f_X12_removeConsumer a0 x3 h) fun _ h_5 =>
        f_X12_endChannel_33 (fun a0 x1 x3 h => f_X12_endChannel_14 n a0 x1 x3 h) a0 x1 x3 h_5)
      else
        f_X12_endChannel_33 (fun a0 x1 x3 h => f_X12_endChannel_14 n a0 x1 x3 h) a0 x1 x3 h))
set_option maxRecDepth 20000 in
set_option maxHeartbeats 4000000 in
theorem t_X12_endChannel_14 {Ω : Om} : ∀ (n : Nat) (a0 : Nat) (x1 : Int32) (x3 : Int32) (h : AH) (q : Unit × AH), f_X12_endChannel_14 n a0 x1 x3 h = some q → Go Ω M_X12_endChannel 14 [(0, vR Ω (some a0)), (1, .int x1), (3, .int x3)] [] h none q.2 := by
  intro n
  induction n with
  | zero => intro a0 x1 x3 h q hf; cases hf
  | succ n ih =>
    intro a0 x1 x3 h q hf
    rw [f_X12_endChannel_14] at hf
    refine go_iload_n dX12_endChannel_14 rfl 2 rfl ?_
    refine go_if_lt (tgt := 39) dX12_endChannel_15 (by decide) hf (fun hf => ?_) (fun hf => ?_)
    · refine go_sub (lv' := [(0, vR Ω (some a0)), (1, .int x1)]) [0, 1] rfl ?_
      exact t_X12_endChannel_39 a0 x1 h q hf
    · refine go_aload_n dX12_endChannel_18 rfl 0 rfl ?_
      refine go_getR dX12_endChannel_19 fl_1139_0 (fun _ _ => rfl) hf (fun r_1 hf => ?_)
      refine go_iload_n dX12_endChannel_22 rfl 2 rfl ?_
      obtain ⟨a_2, rfl, hga_2⟩ := nn_some hf
      have hf := hga_2
      refine go_iaload dX12_endChannel_23 hf (fun x_3 hf => ?_)
      refine go_iload_n dX12_endChannel_24 rfl 1 rfl ?_
      refine go_icmp_ne (tgt := 33) dX12_endChannel_25 (by decide) hf (fun hf => ?_) (fun hf => ?_)
      · refine go_sub (lv' := [(0, vR Ω (some a0)), (1, .int x1), (3, .int x3)]) [0, 1, 2] rfl ?_
        exact t_X12_endChannel_33 ih a0 x1 x3 h q hf
      · refine go_aload_n dX12_endChannel_28 rfl 0 rfl ?_
        refine go_iload_n dX12_endChannel_29 rfl 2 rfl ?_
        obtain ⟨hk, hf⟩ := kg_some hf
        obtain ⟨z_4, hc, hf⟩ := bd_some hf
        refine go_callV (y2 := M_X12_removeConsumer) (c2 := 13) dX12_endChannel_30 mo_X12_removeConsumer ⟨Nat.le_of_ble_eq_true rfl, Nat.le_of_ble_eq_true rfl⟩ na_X12_removeConsumer w1353 w1355 (by decide) rfl w57 hk [.int x3] rfl (n_X12_removeConsumer (a0) x3) rfl (csum (Nat.le_of_ble_eq_true rfl)) (t_X12_removeConsumer (a0) x3 h _ hc) ?_
        obtain ⟨_, h_5⟩ := z_4
        refine go_sub (lv' := [(0, vR Ω (some a0)), (1, .int x1), (3, .int x3)]) [0, 1, 2] rfl ?_
        exact t_X12_endChannel_33 ih a0 x1 x3 h_5 q hf
def f_X12_endChannel (a0 : Nat) (x1 : Int32) (x2 : Int32) (h : AH) : Option (Unit × AH) := rdR h a0 13 35 fun r_1 =>
  nn r_1 fun a_2 =>
  asI h a_2 x1 x2 fun h_3 =>
  rdI h_3 a0 13 17 fun x_4 =>
  lt (x_4 - 1) fun x_5 =>
  f_X12_endChannel_14 FU a0 x1 x_5 h_3
set_option maxRecDepth 20000 in
set_option maxHeartbeats 4000000 in
theorem t_X12_endChannel {Ω : Om} (a0 : Nat) (x1 : Int32) (x2 : Int32) (h : AH) (q : Unit × AH) (hf : f_X12_endChannel a0 x1 x2 h = some q) : Go Ω M_X12_endChannel 0 (lv_args 0 [vR Ω (some a0), .int x1, .int x2]) [] h none q.2 := by
  unfold f_X12_endChannel at hf
  rw [la_R, la_I, la_I, la_0]
  refine go_sub (lv' := [(0, vR Ω (some a0)), (1, .int x1), (2, .int x2)]) [0, 1, 2] rfl ?_
  refine go_aload_n dX12_endChannel_0 rfl 0 rfl ?_
  refine go_getR dX12_endChannel_1 fl_1154_0 (fun _ _ => rfl) hf (fun r_1 hf => ?_)
  refine go_iload_n dX12_endChannel_4 rfl 1 rfl ?_
  refine go_iload_n dX12_endChannel_5 rfl 2 rfl ?_
  obtain ⟨a_2, rfl, hga_2⟩ := nn_some hf
  have hf := hga_2
  refine go_iastore dX12_endChannel_6 hf (fun h_3 hf => ?_)
  refine go_aload_n dX12_endChannel_7 rfl 0 rfl ?_
  refine go_getI dX12_endChannel_8 fl_1136_0 (fun _ _ => rfl) hf (fun x_4 hf => ?_)
  refine go_iconst 1 dX12_endChannel_11 rfl ?_
  refine go_isub dX12_endChannel_12 ?_
  refine lt_I hf (fun x_5 hf => ?_)
  refine go_istore_n (i := 3) (lv' := [(3, .int x_5), (0, vR Ω (some a0)), (1, .int x1), (2, .int x2)]) dX12_endChannel_13 rfl (by decide) (by first | rfl | simp [catR, catI, catJ]) ?_
  refine go_sub (lv' := [(0, vR Ω (some a0)), (1, .int x1), (3, .int x_5)]) [1, 2, 0] rfl ?_
  exact t_X12_endChannel_14 FU a0 x1 x_5 h_3 q hf
-- LetterBrokerModel.soft(II)V
theorem dX12_soft_0 : decode cX12_soft 0 = .ok (.aload_n 0, 1) := by decide +kernel
theorem dX12_soft_1 : decode cX12_soft 1 = .ok (.iload_n 1, 1) := by decide +kernel
theorem dX12_soft_2 : decode cX12_soft 2 = .ok (.bipush 20, 2) := by decide +kernel
theorem dX12_soft_4 : decode cX12_soft 4 = .ok (.bipush 40, 2) := by decide +kernel
theorem dX12_soft_6 : decode cX12_soft 6 = .ok (.invokevirtual 168, 3) := by decide +kernel
theorem dX12_soft_9 : decode cX12_soft 9 = .ok (.aload_n 0, 1) := by decide +kernel
theorem dX12_soft_10 : decode cX12_soft 10 = .ok (.iload_n 2, 1) := by decide +kernel
theorem dX12_soft_11 : decode cX12_soft 11 = .ok (.invokevirtual 216, 3) := by decide +kernel
theorem dX12_soft_14 : decode cX12_soft 14 = .ok (.aload_n 0, 1) := by decide +kernel
theorem dX12_soft_15 : decode cX12_soft 15 = .ok (.invokevirtual 172, 3) := by decide +kernel
theorem dX12_soft_18 : decode cX12_soft 18 = .ok (.aload_n 0, 1) := by decide +kernel
theorem dX12_soft_19 : decode cX12_soft 19 = .ok (.iload_n 1, 1) := by decide +kernel
theorem dX12_soft_20 : decode cX12_soft 20 = .ok (.iconst 2, 1) := by decide +kernel
theorem dX12_soft_21 : decode cX12_soft 21 = .ok (.invokevirtual 213, 3) := by decide +kernel
theorem dX12_soft_24 : decode cX12_soft 24 = .ok (.return_, 1) := by decide +kernel
def f_X12_soft (a0 : Nat) (x1 : Int32) (x2 : Int32) (h : AH) : Option (Unit × AH) := kg h a0 13 (bd (f_X12_method a0 x1 20 40 h) fun _ h_2 =>
  kg h_2 a0 13 (bd (f_X12_putShort a0 x2 h_2) fun _ h_4 =>
  kg h_4 a0 13 (bd (f_X12_finish a0 h_4) fun _ h_6 =>
  kg h_6 a0 13 (bd (f_X12_endChannel a0 x1 2 h_6) fun _ h_8 =>
  some ((), h_8)))))
set_option maxRecDepth 20000 in
set_option maxHeartbeats 4000000 in
theorem t_X12_soft {Ω : Om} (a0 : Nat) (x1 : Int32) (x2 : Int32) (h : AH) (q : Unit × AH) (hf : f_X12_soft a0 x1 x2 h = some q) : Go Ω M_X12_soft 0 (lv_args 0 [vR Ω (some a0), .int x1, .int x2]) [] h none q.2 := by
  unfold f_X12_soft at hf
  rw [la_R, la_I, la_I, la_0]
  refine go_sub (lv' := [(0, vR Ω (some a0)), (1, .int x1), (2, .int x2)]) [0, 1, 2] rfl ?_
  refine go_aload_n dX12_soft_0 rfl 0 rfl ?_
  refine go_iload_n dX12_soft_1 rfl 1 rfl ?_
  refine go_bipush 20 dX12_soft_2 (by decide) ?_
  refine go_bipush 40 dX12_soft_4 (by decide) ?_
  obtain ⟨hk, hf⟩ := kg_some hf
  obtain ⟨z_1, hc, hf⟩ := bd_some hf
  refine go_callV (y2 := M_X12_method) (c2 := 13) dX12_soft_6 mo_X12_method ⟨Nat.le_of_ble_eq_true rfl, Nat.le_of_ble_eq_true rfl⟩ na_X12_method w1325 w1327 (by decide) rfl w50 hk [.int x1, .int 20, .int 40] rfl (n_X12_method (a0) x1 20 40) rfl (csum (Nat.le_of_ble_eq_true rfl)) (t_X12_method (a0) x1 20 40 h _ hc) ?_
  obtain ⟨_, h_2⟩ := z_1
  refine go_aload_n dX12_soft_9 rfl 0 rfl ?_
  refine go_iload_n dX12_soft_10 rfl 2 rfl ?_
  obtain ⟨hk, hf⟩ := kg_some hf
  obtain ⟨z_3, hc, hf⟩ := bd_some hf
  refine go_callV (y2 := M_X12_putShort) (c2 := 13) dX12_soft_11 mo_X12_putShort ⟨Nat.le_of_ble_eq_true rfl, Nat.le_of_ble_eq_true rfl⟩ na_X12_putShort w1337 w1339 (by decide) rfl w53 hk [.int x2] rfl (n_X12_putShort (a0) x2) rfl (csum (Nat.le_of_ble_eq_true rfl)) (t_X12_putShort (a0) x2 h_2 _ hc) ?_
  obtain ⟨_, h_4⟩ := z_3
  refine go_aload_n dX12_soft_14 rfl 0 rfl ?_
  obtain ⟨hk, hf⟩ := kg_some hf
  obtain ⟨z_5, hc, hf⟩ := bd_some hf
  refine go_callV (y2 := M_X12_finish) (c2 := 13) dX12_soft_15 mo_X12_finish ⟨Nat.le_of_ble_eq_true rfl, Nat.le_of_ble_eq_true rfl⟩ na_X12_finish w1341 w1343 (by decide) rfl w54 hk [] rfl (n_X12_finish (a0)) rfl (csum (Nat.le_of_ble_eq_true rfl)) (t_X12_finish (a0) h_4 _ hc) ?_
  obtain ⟨_, h_6⟩ := z_5
  refine go_aload_n dX12_soft_18 rfl 0 rfl ?_
  refine go_iload_n dX12_soft_19 rfl 1 rfl ?_
  refine go_iconst 2 dX12_soft_20 rfl ?_
  obtain ⟨hk, hf⟩ := kg_some hf
  obtain ⟨z_7, hc, hf⟩ := bd_some hf
  refine go_callV (y2 := M_X12_endChannel) (c2 := 13) dX12_soft_21 mo_X12_endChannel ⟨Nat.le_of_ble_eq_true rfl, Nat.le_of_ble_eq_true rfl⟩ na_X12_endChannel w1349 w1351 (by decide) rfl w56 hk [.int x1, .int 2] rfl (n_X12_endChannel (a0) x1 2) rfl (csum (Nat.le_of_ble_eq_true rfl)) (t_X12_endChannel (a0) x1 2 h_6 _ hc) ?_
  obtain ⟨_, h_8⟩ := z_7
  exact go_return dX12_soft_24 rfl hf
-- LetterBrokerModel.route(IJJZIJ)Z
theorem dX12_route_0 : decode cX12_route 0 = .ok (.aload_n 0, 1) := by decide +kernel
theorem dX12_route_1 : decode cX12_route 1 = .ok (.lload_n 2, 1) := by decide +kernel
theorem dX12_route_2 : decode cX12_route 2 = .ok (.invokevirtual 245, 3) := by decide +kernel
theorem dX12_route_5 : decode cX12_route 5 = .ok (.istore 10, 2) := by decide +kernel
theorem dX12_route_7 : decode cX12_route 7 = .ok (.iconst 0, 1) := by decide +kernel
theorem dX12_route_8 : decode cX12_route 8 = .ok (.istore 11, 2) := by decide +kernel
theorem dX12_route_10 : decode cX12_route 10 = .ok (.iconst 0, 1) := by decide +kernel
theorem dX12_route_11 : decode cX12_route 11 = .ok (.istore 12, 2) := by decide +kernel
theorem dX12_route_13 : decode cX12_route 13 = .ok (.iload 12, 2) := by decide +kernel
theorem dX12_route_15 : decode cX12_route 15 = .ok (.aload_n 0, 1) := by decide +kernel
theorem dX12_route_16 : decode cX12_route 16 = .ok (.getfield 185, 3) := by decide +kernel
theorem dX12_route_19 : decode cX12_route 19 = .ok (.if_icmp .ge 32, 3) := by decide +kernel
theorem dX12_route_22 : decode cX12_route 22 = .ok (.iload 11, 2) := by decide +kernel
theorem dX12_route_24 : decode cX12_route 24 = .ok (.aload_n 0, 1) := by decide +kernel
theorem dX12_route_25 : decode cX12_route 25 = .ok (.iload 12, 2) := by decide +kernel
theorem dX12_route_27 : decode cX12_route 27 = .ok (.iload 10, 2) := by decide +kernel
theorem dX12_route_29 : decode cX12_route 29 = .ok (.lload 4, 2) := by decide +kernel
theorem dX12_route_31 : decode cX12_route 31 = .ok (.invokevirtual 248, 3) := by decide +kernel
theorem dX12_route_34 : decode cX12_route 34 = .ok (.ifCond .eq 7, 3) := by decide +kernel
theorem dX12_route_37 : decode cX12_route 37 = .ok (.iconst 1, 1) := by decide +kernel
theorem dX12_route_38 : decode cX12_route 38 = .ok (.goto 4, 3) := by decide +kernel
theorem dX12_route_41 : decode cX12_route 41 = .ok (.iconst 0, 1) := by decide +kernel
theorem dX12_route_42 : decode cX12_route 42 = .ok (.iadd, 1) := by decide +kernel
theorem dX12_route_43 : decode cX12_route 43 = .ok (.istore 11, 2) := by decide +kernel
theorem dX12_route_45 : decode cX12_route 45 = .ok (.iinc 12 1, 3) := by decide +kernel
theorem dX12_route_48 : decode cX12_route 48 = .ok (.goto (-35), 3) := by decide +kernel
theorem dX12_route_51 : decode cX12_route 51 = .ok (.aload_n 0, 1) := by decide +kernel
theorem dX12_route_52 : decode cX12_route 52 = .ok (.getfield 179, 3) := by decide +kernel
theorem dX12_route_55 : decode cX12_route 55 = .ok (.iload 11, 2) := by decide +kernel
theorem dX12_route_57 : decode cX12_route 57 = .ok (.iadd, 1) := by decide +kernel
theorem dX12_route_58 : decode cX12_route 58 = .ok (.bipush 24, 2) := by decide +kernel
theorem dX12_route_60 : decode cX12_route 60 = .ok (.if_icmp .le 13, 3) := by decide +kernel
theorem dX12_route_63 : decode cX12_route 63 = .ok (.aload_n 0, 1) := by decide +kernel
theorem dX12_route_64 : decode cX12_route 64 = .ok (.iload_n 1, 1) := by decide +kernel
theorem dX12_route_65 : decode cX12_route 65 = .ok (.sipush 506, 3) := by decide +kernel
theorem dX12_route_68 : decode cX12_route 68 = .ok (.invokevirtual 252, 3) := by decide +kernel
theorem dX12_route_71 : decode cX12_route 71 = .ok (.iconst 0, 1) := by decide +kernel
theorem dX12_route_72 : decode cX12_route 72 = .ok (.ireturn, 1) := by decide +kernel
theorem dX12_route_73 : decode cX12_route 73 = .ok (.iconst 0, 1) := by decide +kernel
theorem dX12_route_74 : decode cX12_route 74 = .ok (.istore 12, 2) := by decide +kernel
theorem dX12_route_76 : decode cX12_route 76 = .ok (.iload 12, 2) := by decide +kernel
theorem dX12_route_78 : decode cX12_route 78 = .ok (.aload_n 0, 1) := by decide +kernel
theorem dX12_route_79 : decode cX12_route 79 = .ok (.getfield 185, 3) := by decide +kernel
theorem dX12_route_82 : decode cX12_route 82 = .ok (.if_icmp .ge 144, 3) := by decide +kernel
theorem dX12_route_85 : decode cX12_route 85 = .ok (.aload_n 0, 1) := by decide +kernel
theorem dX12_route_86 : decode cX12_route 86 = .ok (.iload 12, 2) := by decide +kernel
theorem dX12_route_88 : decode cX12_route 88 = .ok (.iload 10, 2) := by decide +kernel
theorem dX12_route_90 : decode cX12_route 90 = .ok (.lload 4, 2) := by decide +kernel
theorem dX12_route_92 : decode cX12_route 92 = .ok (.invokevirtual 248, 3) := by decide +kernel
theorem dX12_route_95 : decode cX12_route 95 = .ok (.ifCond .eq 125, 3) := by decide +kernel
theorem dX12_route_98 : decode cX12_route 98 = .ok (.aload_n 0, 1) := by decide +kernel
theorem dX12_route_99 : decode cX12_route 99 = .ok (.dup, 1) := by decide +kernel
theorem dX12_route_100 : decode cX12_route 100 = .ok (.getfield 255, 3) := by decide +kernel
theorem dX12_route_103 : decode cX12_route 103 = .ok (.iconst 1, 1) := by decide +kernel
theorem dX12_route_104 : decode cX12_route 104 = .ok (.iadd, 1) := by decide +kernel
theorem dX12_route_105 : decode cX12_route 105 = .ok (.putfield 255, 3) := by decide +kernel
theorem dX12_route_108 : decode cX12_route 108 = .ok (.aload_n 0, 1) := by decide +kernel
theorem dX12_route_109 : decode cX12_route 109 = .ok (.getfield 61, 3) := by decide +kernel
theorem dX12_route_112 : decode cX12_route 112 = .ok (.aload_n 0, 1) := by decide +kernel
theorem dX12_route_113 : decode cX12_route 113 = .ok (.getfield 179, 3) := by decide +kernel
theorem dX12_route_116 : decode cX12_route 116 = .ok (.aload_n 0, 1) := by decide +kernel
theorem dX12_route_117 : decode cX12_route 117 = .ok (.getfield 255, 3) := by decide +kernel
theorem dX12_route_120 : decode cX12_route 120 = .ok (.iastore, 1) := by decide +kernel
theorem dX12_route_121 : decode cX12_route 121 = .ok (.aload_n 0, 1) := by decide +kernel
theorem dX12_route_122 : decode cX12_route 122 = .ok (.getfield 64, 3) := by decide +kernel
theorem dX12_route_125 : decode cX12_route 125 = .ok (.aload_n 0, 1) := by decide +kernel
theorem dX12_route_126 : decode cX12_route 126 = .ok (.getfield 179, 3) := by decide +kernel
theorem dX12_route_129 : decode cX12_route 129 = .ok (.aload_n 0, 1) := by decide +kernel
theorem dX12_route_130 : decode cX12_route 130 = .ok (.getfield 30, 3) := by decide +kernel
theorem dX12_route_133 : decode cX12_route 133 = .ok (.iload 12, 2) := by decide +kernel
theorem dX12_route_135 : decode cX12_route 135 = .ok (.iaload, 1) := by decide +kernel
theorem dX12_route_136 : decode cX12_route 136 = .ok (.iastore, 1) := by decide +kernel
theorem dX12_route_137 : decode cX12_route 137 = .ok (.aload_n 0, 1) := by decide +kernel
theorem dX12_route_138 : decode cX12_route 138 = .ok (.getfield 67, 3) := by decide +kernel
theorem dX12_route_141 : decode cX12_route 141 = .ok (.aload_n 0, 1) := by decide +kernel
theorem dX12_route_142 : decode cX12_route 142 = .ok (.getfield 179, 3) := by decide +kernel
theorem dX12_route_145 : decode cX12_route 145 = .ok (.iconst 0, 1) := by decide +kernel
theorem dX12_route_146 : decode cX12_route 146 = .ok (.iastore, 1) := by decide +kernel
theorem dX12_route_147 : decode cX12_route 147 = .ok (.aload_n 0, 1) := by decide +kernel
theorem dX12_route_148 : decode cX12_route 148 = .ok (.getfield 70, 3) := by decide +kernel
theorem dX12_route_151 : decode cX12_route 151 = .ok (.aload_n 0, 1) := by decide +kernel
theorem dX12_route_152 : decode cX12_route 152 = .ok (.getfield 179, 3) := by decide +kernel
theorem dX12_route_155 : decode cX12_route 155 = .ok (.iconst 0, 1) := by decide +kernel
theorem dX12_route_156 : decode cX12_route 156 = .ok (.iastore, 1) := by decide +kernel
theorem dX12_route_157 : decode cX12_route 157 = .ok (.aload_n 0, 1) := by decide +kernel
theorem dX12_route_158 : decode cX12_route 158 = .ok (.getfield 73, 3) := by decide +kernel
theorem dX12_route_161 : decode cX12_route 161 = .ok (.aload_n 0, 1) := by decide +kernel
theorem dX12_route_162 : decode cX12_route 162 = .ok (.getfield 179, 3) := by decide +kernel
theorem dX12_route_165 : decode cX12_route 165 = .ok (.iconst 0, 1) := by decide +kernel
theorem dX12_route_166 : decode cX12_route 166 = .ok (.bastore, 1) := by decide +kernel
theorem dX12_route_167 : decode cX12_route 167 = .ok (.aload_n 0, 1) := by decide +kernel
theorem dX12_route_168 : decode cX12_route 168 = .ok (.getfield 76, 3) := by decide +kernel
theorem dX12_route_171 : decode cX12_route 171 = .ok (.aload_n 0, 1) := by decide +kernel
theorem dX12_route_172 : decode cX12_route 172 = .ok (.getfield 179, 3) := by decide +kernel
theorem dX12_route_175 : decode cX12_route 175 = .ok (.lload_n 2, 1) := by decide +kernel
theorem dX12_route_176 : decode cX12_route 176 = .ok (.lastore, 1) := by decide +kernel
theorem dX12_route_177 : decode cX12_route 177 = .ok (.aload_n 0, 1) := by decide +kernel
theorem dX12_route_178 : decode cX12_route 178 = .ok (.getfield 79, 3) := by decide +kernel
theorem dX12_route_181 : decode cX12_route 181 = .ok (.aload_n 0, 1) := by decide +kernel
theorem dX12_route_182 : decode cX12_route 182 = .ok (.getfield 179, 3) := by decide +kernel
theorem dX12_route_185 : decode cX12_route 185 = .ok (.lload 4, 2) := by decide +kernel
theorem dX12_route_187 : decode cX12_route 187 = .ok (.lastore, 1) := by decide +kernel
theorem dX12_route_188 : decode cX12_route 188 = .ok (.aload_n 0, 1) := by decide +kernel
theorem dX12_route_189 : decode cX12_route 189 = .ok (.getfield 82, 3) := by decide +kernel
theorem dX12_route_192 : decode cX12_route 192 = .ok (.aload_n 0, 1) := by decide +kernel
theorem dX12_route_193 : decode cX12_route 193 = .ok (.getfield 179, 3) := by decide +kernel
theorem dX12_route_196 : decode cX12_route 196 = .ok (.iload 7, 2) := by decide +kernel
theorem dX12_route_198 : decode cX12_route 198 = .ok (.iastore, 1) := by decide +kernel
theorem dX12_route_199 : decode cX12_route 199 = .ok (.aload_n 0, 1) := by decide +kernel
theorem dX12_route_200 : decode cX12_route 200 = .ok (.getfield 85, 3) := by decide +kernel
theorem dX12_route_203 : decode cX12_route 203 = .ok (.aload_n 0, 1) := by decide +kernel
theorem dX12_route_204 : decode cX12_route 204 = .ok (.getfield 179, 3) := by decide +kernel
theorem dX12_route_207 : decode cX12_route 207 = .ok (.lload 8, 2) := by decide +kernel
theorem dX12_route_209 : decode cX12_route 209 = .ok (.lastore, 1) := by decide +kernel
theorem dX12_route_210 : decode cX12_route 210 = .ok (.aload_n 0, 1) := by decide +kernel
theorem dX12_route_211 : decode cX12_route 211 = .ok (.dup, 1) := by decide +kernel
theorem dX12_route_212 : decode cX12_route 212 = .ok (.getfield 179, 3) := by decide +kernel
theorem dX12_route_215 : decode cX12_route 215 = .ok (.iconst 1, 1) := by decide +kernel
theorem dX12_route_216 : decode cX12_route 216 = .ok (.iadd, 1) := by decide +kernel
theorem dX12_route_217 : decode cX12_route 217 = .ok (.putfield 179, 3) := by decide +kernel
theorem dX12_route_220 : decode cX12_route 220 = .ok (.iinc 12 1, 3) := by decide +kernel
theorem dX12_route_223 : decode cX12_route 223 = .ok (.goto (-147), 3) := by decide +kernel
theorem dX12_route_226 : decode cX12_route 226 = .ok (.iload 11, 2) := by decide +kernel
theorem dX12_route_228 : decode cX12_route 228 = .ok (.ifCond .ne 48, 3) := by decide +kernel
theorem dX12_route_231 : decode cX12_route 231 = .ok (.iload 6, 2) := by decide +kernel
theorem dX12_route_233 : decode cX12_route 233 = .ok (.ifCond .eq 43, 3) := by decide +kernel
theorem dX12_route_236 : decode cX12_route 236 = .ok (.aload_n 0, 1) := by decide +kernel
theorem dX12_route_237 : decode cX12_route 237 = .ok (.iload_n 1, 1) := by decide +kernel
theorem dX12_route_238 : decode cX12_route 238 = .ok (.bipush 60, 2) := by decide +kernel
theorem dX12_route_240 : decode cX12_route 240 = .ok (.bipush 50, 2) := by decide +kernel
theorem dX12_route_242 : decode cX12_route 242 = .ok (.invokevirtual 168, 3) := by decide +kernel
theorem dX12_route_245 : decode cX12_route 245 = .ok (.aload_n 0, 1) := by decide +kernel
theorem dX12_route_246 : decode cX12_route 246 = .ok (.sipush 312, 3) := by decide +kernel
theorem dX12_route_249 : decode cX12_route 249 = .ok (.invokevirtual 216, 3) := by decide +kernel
theorem dX12_route_252 : decode cX12_route 252 = .ok (.aload_n 0, 1) := by decide +kernel
theorem dX12_route_253 : decode cX12_route 253 = .ok (.lload_n 2, 1) := by decide +kernel
theorem dX12_route_254 : decode cX12_route 254 = .ok (.invokevirtual 258, 3) := by decide +kernel
theorem dX12_route_257 : decode cX12_route 257 = .ok (.aload_n 0, 1) := by decide +kernel
theorem dX12_route_258 : decode cX12_route 258 = .ok (.lload 4, 2) := by decide +kernel
theorem dX12_route_260 : decode cX12_route 260 = .ok (.invokevirtual 258, 3) := by decide +kernel
theorem dX12_route_263 : decode cX12_route 263 = .ok (.aload_n 0, 1) := by decide +kernel
theorem dX12_route_264 : decode cX12_route 264 = .ok (.invokevirtual 172, 3) := by decide +kernel
theorem dX12_route_267 : decode cX12_route 267 = .ok (.aload_n 0, 1) := by decide +kernel
theorem dX12_route_268 : decode cX12_route 268 = .ok (.iload_n 1, 1) := by decide +kernel
theorem dX12_route_269 : decode cX12_route 269 = .ok (.iload 7, 2) := by decide +kernel
theorem dX12_route_271 : decode cX12_route 271 = .ok (.lload 8, 2) := by decide +kernel
theorem dX12_route_273 : decode cX12_route 273 = .ok (.invokevirtual 262, 3) := by decide +kernel
theorem dX12_route_276 : decode cX12_route 276 = .ok (.iconst 1, 1) := by decide +kernel
theorem dX12_route_277 : decode cX12_route 277 = .ok (.ireturn, 1) := by decide +kernel
def f_X12_route_42 (k13 : Nat → Int32 → Int64 → Int64 → Int32 → Int32 → Int64 → Int32 → Int32 → Int32 → AH → Option (Int32 × AH)) (a0 : Nat) (x1 : Int32) (x2 : Int64) (x4 : Int64) (x6 : Int32) (x7 : Int32) (x8 : Int64) (x10 : Int32) (x12 : Int32) (s0 : Int32) (s1 : Int32) (h : AH) : Option (Int32 × AH) := lt (s1 + s0) fun x_1 =>
  k13 a0 x1 x2 x4 x6 x7 x8 x10 x_1 (x12 + 1) h
set_option maxRecDepth 20000 in
set_option maxHeartbeats 4000000 in
theorem t_X12_route_42 {Ω : Om} {k13 : Nat → Int32 → Int64 → Int64 → Int32 → Int32 → Int64 → Int32 → Int32 → Int32 → AH → Option (Int32 × AH)} (c13 : ∀ (a0 : Nat) (x1 : Int32) (x2 : Int64) (x4 : Int64) (x6 : Int32) (x7 : Int32) (x8 : Int64) (x10 : Int32) (x11 : Int32) (x12 : Int32) (h : AH) (q : Int32 × AH), k13 a0 x1 x2 x4 x6 x7 x8 x10 x11 x12 h = some q → Go Ω M_X12_route 13 [(0, vR Ω (some a0)), (1, .int x1), (2, .long x2), (4, .long x4), (6, .int x6), (7, .int x7), (8, .long x8), (10, .int x10), (11, .int x11), (12, .int x12)] [] h (some (.int q.1)) q.2) (a0 : Nat) (x1 : Int32) (x2 : Int64) (x4 : Int64) (x6 : Int32) (x7 : Int32) (x8 : Int64) (x10 : Int32) (x12 : Int32) (s0 : Int32) (s1 : Int32) (h : AH) (q : Int32 × AH) (hf : f_X12_route_42 k13 a0 x1 x2 x4 x6 x7 x8 x10 x12 s0 s1 h = some q) : Go Ω M_X12_route 42 [(0, vR Ω (some a0)), (1, .int x1), (2, .long x2), (4, .long x4), (6, .int x6), (7, .int x7), (8, .long x8), (10, .int x10), (12, .int x12)] [.int s0, .int s1] h (some (.int q.1)) q.2 := by
  unfold f_X12_route_42 at hf
  refine go_iadd dX12_route_42 ?_
  refine lt_I hf (fun x_1 hf => ?_)
  refine go_istore (i := 11) (lv' := [(11, .int x_1), (0, vR Ω (some a0)), (1, .int x1), (2, .long x2), (4, .long x4), (6, .int x6), (7, .int x7), (8, .long x8), (10, .int x10), (12, .int x12)]) dX12_route_43 (by decide) (by first | rfl | simp [catR, catI, catJ]) ?_
  refine go_iinc (j := 9) (v := x12 + 1) (lv' := [(12, .int (x12 + 1)), (11, .int x_1), (0, vR Ω (some a0)), (1, .int x1), (2, .long x2), (4, .long x4), (6, .int x6), (7, .int x7), (8, .long x8), (10, .int x10)]) dX12_route_45 rfl rfl (by decide) (by first | rfl | simp [catR, catI, catJ]) ?_
  refine go_goto (tgt := 13) dX12_route_48 (by decide) ?_
  refine go_sub (lv' := [(0, vR Ω (some a0)), (1, .int x1), (2, .long x2), (4, .long x4), (6, .int x6), (7, .int x7), (8, .long x8), (10, .int x10), (11, .int x_1), (12, .int (x12 + 1))]) [2, 3, 4, 5, 6, 7, 8, 9, 1, 0] rfl ?_
  exact c13 a0 x1 x2 x4 x6 x7 x8 x10 x_1 (x12 + 1) h q hf
def f_X12_route_220 (k76 : Nat → Int32 → Int64 → Int64 → Int32 → Int32 → Int64 → Int32 → Int32 → Int32 → AH → Option (Int32 × AH)) (a0 : Nat) (x1 : Int32) (x2 : Int64) (x4 : Int64) (x6 : Int32) (x7 : Int32) (x8 : Int64) (x10 : Int32) (x11 : Int32) (x12 : Int32) (h : AH) : Option (Int32 × AH) := k76 a0 x1 x2 x4 x6 x7 x8 x10 x11 (x12 + 1) h
set_option maxRecDepth 20000 in
set_option maxHeartbeats 4000000 in
theorem t_X12_route_220 {Ω : Om} {k76 : Nat → Int32 → Int64 → Int64 → Int32 → Int32 → Int64 → Int32 → Int32 → Int32 → AH → Option (Int32 × AH)} (c76 : ∀ (a0 : Nat) (x1 : Int32) (x2 : Int64) (x4 : Int64) (x6 : Int32) (x7 : Int32) (x8 : Int64) (x10 : Int32) (x11 : Int32) (x12 : Int32) (h : AH) (q : Int32 × AH), k76 a0 x1 x2 x4 x6 x7 x8 x10 x11 x12 h = some q → Go Ω M_X12_route 76 [(0, vR Ω (some a0)), (1, .int x1), (2, .long x2), (4, .long x4), (6, .int x6), (7, .int x7), (8, .long x8), (10, .int x10), (11, .int x11), (12, .int x12)] [] h (some (.int q.1)) q.2) (a0 : Nat) (x1 : Int32) (x2 : Int64) (x4 : Int64) (x6 : Int32) (x7 : Int32) (x8 : Int64) (x10 : Int32) (x11 : Int32) (x12 : Int32) (h : AH) (q : Int32 × AH) (hf : f_X12_route_220 k76 a0 x1 x2 x4 x6 x7 x8 x10 x11 x12 h = some q) : Go Ω M_X12_route 220 [(0, vR Ω (some a0)), (1, .int x1), (2, .long x2), (4, .long x4), (6, .int x6), (7, .int x7), (8, .long x8), (10, .int x10), (11, .int x11), (12, .int x12)] [] h (some (.int q.1)) q.2 := by
  unfold f_X12_route_220 at hf
  refine go_iinc (j := 9) (v := x12 + 1) (lv' := [(12, .int (x12 + 1)), (0, vR Ω (some a0)), (1, .int x1), (2, .long x2), (4, .long x4), (6, .int x6), (7, .int x7), (8, .long x8), (10, .int x10), (11, .int x11)]) dX12_route_220 rfl rfl (by decide) (by first | rfl | simp [catR, catI, catJ]) ?_
  refine go_goto (tgt := 76) dX12_route_223 (by decide) ?_
  refine go_sub (lv' := [(0, vR Ω (some a0)), (1, .int x1), (2, .long x2), (4, .long x4), (6, .int x6), (7, .int x7), (8, .long x8), (10, .int x10), (11, .int x11), (12, .int (x12 + 1))]) [1, 2, 3, 4, 5, 6, 7, 8, 9, 0] rfl ?_
  exact c76 a0 x1 x2 x4 x6 x7 x8 x10 x11 (x12 + 1) h q hf
def f_X12_route_226 (a0 : Nat) (x1 : Int32) (x2 : Int64) (x4 : Int64) (x6 : Int32) (x7 : Int32) (x8 : Int64) (x11 : Int32) (h : AH) : Option (Int32 × AH) := (if x11 = 0 then
    (if x6 = 0 then
      rz 1 (some (1, h))
    else
      kg h a0 13 (bd (f_X12_method a0 x1 60 50 h) fun _ h_2 =>
      kg h_2 a0 13 (bd (f_X12_putShort a0 312 h_2) fun _ h_4 =>
      kg h_4 a0 13 (bd (f_X12_putName a0 x2 h_4) fun _ h_6 =>
      kg h_6 a0 13 (bd (f_X12_putName a0 x4 h_6) fun _ h_8 =>
      kg h_8 a0 13 (bd (f_X12_finish a0 h_8) fun _ h_10 =>
      kg h_10 a0 13 (bd (f_X12_putLetter a0 x1 x7 x8 h_10) fun _ h_12 =>
      rz 1 (some (1, h_12)))))))))
  else
    rz 1 (some (1, h)))
set_option maxRecDepth 20000 in
set_option maxHeartbeats 4000000 in
theorem t_X12_route_226 {Ω : Om} (a0 : Nat) (x1 : Int32) (x2 : Int64) (x4 : Int64) (x6 : Int32) (x7 : Int32) (x8 : Int64) (x11 : Int32) (h : AH) (q : Int32 × AH) (hf : f_X12_route_226 a0 x1 x2 x4 x6 x7 x8 x11 h = some q) : Go Ω M_X12_route 226 [(0, vR Ω (some a0)), (1, .int x1), (2, .long x2), (4, .long x4), (6, .int x6), (7, .int x7), (8, .long x8), (11, .int x11)] [] h (some (.int q.1)) q.2 := by
  unfold f_X12_route_226 at hf
  refine go_iload dX12_route_226 7 rfl ?_
  refine go_if_ne (tgt := 276) dX12_route_228 (by decide) hf (fun hf => ?_) (fun hf => ?_)
  · refine go_iconst 1 dX12_route_276 rfl ?_
    exact go_zreturn dX12_route_277 rfl hf
  · refine go_iload dX12_route_231 4 rfl ?_
    refine go_if_eq (tgt := 276) dX12_route_233 (by decide) hf (fun hf => ?_) (fun hf => ?_)
    · refine go_iconst 1 dX12_route_276 rfl ?_
      exact go_zreturn dX12_route_277 rfl hf
    · refine go_aload_n dX12_route_236 rfl 0 rfl ?_
      refine go_iload_n dX12_route_237 rfl 1 rfl ?_
      refine go_bipush 60 dX12_route_238 (by decide) ?_
      refine go_bipush 50 dX12_route_240 (by decide) ?_
      obtain ⟨hk, hf⟩ := kg_some hf
      obtain ⟨z_1, hc, hf⟩ := bd_some hf
      refine go_callV (y2 := M_X12_method) (c2 := 13) dX12_route_242 mo_X12_method ⟨Nat.le_of_ble_eq_true rfl, Nat.le_of_ble_eq_true rfl⟩ na_X12_method w1325 w1327 (by decide) rfl w50 hk [.int x1, .int 60, .int 50] rfl (n_X12_method (a0) x1 60 50) rfl (csum (Nat.le_of_ble_eq_true rfl)) (t_X12_method (a0) x1 60 50 h _ hc) ?_
      obtain ⟨_, h_2⟩ := z_1
      refine go_aload_n dX12_route_245 rfl 0 rfl ?_
      refine go_sipush 312 dX12_route_246 (by decide) ?_
      obtain ⟨hk, hf⟩ := kg_some hf
      obtain ⟨z_3, hc, hf⟩ := bd_some hf
      refine go_callV (y2 := M_X12_putShort) (c2 := 13) dX12_route_249 mo_X12_putShort ⟨Nat.le_of_ble_eq_true rfl, Nat.le_of_ble_eq_true rfl⟩ na_X12_putShort w1337 w1339 (by decide) rfl w53 hk [.int 312] rfl (n_X12_putShort (a0) 312) rfl (csum (Nat.le_of_ble_eq_true rfl)) (t_X12_putShort (a0) 312 h_2 _ hc) ?_
      obtain ⟨_, h_4⟩ := z_3
      refine go_aload_n dX12_route_252 rfl 0 rfl ?_
      refine go_lload_n dX12_route_253 rfl 2 rfl ?_
      obtain ⟨hk, hf⟩ := kg_some hf
      obtain ⟨z_5, hc, hf⟩ := bd_some hf
      refine go_callV (y2 := M_X12_putName) (c2 := 13) dX12_route_254 mo_X12_putName ⟨Nat.le_of_ble_eq_true rfl, Nat.le_of_ble_eq_true rfl⟩ na_X12_putName w1460 w1462 (by decide) rfl w83 hk [.long x2] rfl (n_X12_putName (a0) x2) rfl (csum (Nat.le_of_ble_eq_true rfl)) (t_X12_putName (a0) x2 h_4 _ hc) ?_
      obtain ⟨_, h_6⟩ := z_5
      refine go_aload_n dX12_route_257 rfl 0 rfl ?_
      refine go_lload dX12_route_258 3 rfl ?_
      obtain ⟨hk, hf⟩ := kg_some hf
      obtain ⟨z_7, hc, hf⟩ := bd_some hf
      refine go_callV (y2 := M_X12_putName) (c2 := 13) dX12_route_260 mo_X12_putName ⟨Nat.le_of_ble_eq_true rfl, Nat.le_of_ble_eq_true rfl⟩ na_X12_putName w1460 w1462 (by decide) rfl w83 hk [.long x4] rfl (n_X12_putName (a0) x4) rfl (csum (Nat.le_of_ble_eq_true rfl)) (t_X12_putName (a0) x4 h_6 _ hc) ?_
      obtain ⟨_, h_8⟩ := z_7
      refine go_aload_n dX12_route_263 rfl 0 rfl ?_
      obtain ⟨hk, hf⟩ := kg_some hf
      obtain ⟨z_9, hc, hf⟩ := bd_some hf
      refine go_callV (y2 := M_X12_finish) (c2 := 13) dX12_route_264 mo_X12_finish ⟨Nat.le_of_ble_eq_true rfl, Nat.le_of_ble_eq_true rfl⟩ na_X12_finish w1341 w1343 (by decide) rfl w54 hk [] rfl (n_X12_finish (a0)) rfl (csum (Nat.le_of_ble_eq_true rfl)) (t_X12_finish (a0) h_8 _ hc) ?_
      obtain ⟨_, h_10⟩ := z_9
      refine go_aload_n dX12_route_267 rfl 0 rfl ?_
      refine go_iload_n dX12_route_268 rfl 1 rfl ?_
      refine go_iload dX12_route_269 5 rfl ?_
      refine go_lload dX12_route_271 6 rfl ?_
      obtain ⟨hk, hf⟩ := kg_some hf
      obtain ⟨z_11, hc, hf⟩ := bd_some hf
      refine go_callV (y2 := M_X12_putLetter) (c2 := 13) dX12_route_273 mo_X12_putLetter ⟨Nat.le_of_ble_eq_true rfl, Nat.le_of_ble_eq_true rfl⟩ na_X12_putLetter w1527 w1529 (by decide) rfl w99 hk [.int x1, .int x7, .long x8] rfl (n_X12_putLetter (a0) x1 x7 x8) rfl (csum (Nat.le_of_ble_eq_true rfl)) (t_X12_putLetter (a0) x1 x7 x8 h_10 _ hc) ?_
      obtain ⟨_, h_12⟩ := z_11
      refine go_iconst 1 dX12_route_276 rfl ?_
      exact go_zreturn dX12_route_277 rfl hf
def f_X12_route_76 : Nat → Nat → Int32 → Int64 → Int64 → Int32 → Int32 → Int64 → Int32 → Int32 → Int32 → AH → Option (Int32 × AH)
  | 0, _, _, _, _, _, _, _, _, _, _, _ => none
  | n + 1, a0, x1, x2, x4, x6, x7, x8, x10, x11, x12, h => rdI h a0 13 8 fun x_1 =>
    (if x_1 ≤ x12 then
      f_X12_route_226 a0 x1 x2 x4 x6 x7 x8 x11 h
    else
      kg h a0 13 (bd (f_X12_reaches a0 x12 x10 x4 h) fun x_4 h_3 =>
      (if x_4 = 0 then
        f_X12_route_220 (fun a0 x1 x2 x4 x6 x7 x8 x10 x11 x12 h => f_X12_route_76 n a0 x1 x2 x4 x6 x7 x8 x10 x11 x12 h) a0 x1 x2 x4 x6 x7 x8 x10 x11 x12 h_3
      else
        rdI h_3 a0 13 25 fun x_5 =>
        wrI h_3 a0 13 25 (x_5 + 1) fun h_6 =>
        rdR h_6 a0 13 26 fun r_7 =>
        rdI h_6 a0 13 24 fun x_8 =>
        rdI h_6 a0 13 25 fun x_9 =>
        nn r_7 fun a_10 =>
        asI h_6 a_10 x_8 x_9 fun h_11 =>
        rdR h_11 a0 13 27 fun r_12 =>
        rdI h_11 a0 13 24 fun x_13 =>
        rdR h_11 a0 13 11 fun r_14 =>
        nn r_14 fun a_15 =>
        arI h_11 a_15 x12 fun x_16 =>
        nn r_12 fun a_17 =>
        asI h_11 a_17 x_13 x_16 fun h_18 =>
        rdR h_18 a0 13 28 fun r_19 =>
        rdI h_18 a0 13 24 fun x_20 =>
        nn r_19 fun a_21 =>
        asI h_18 a_21 x_20 0 fun h_22 =>
        rdR h_22 a0 13 29 fun r_23 =>
        rdI h_22 a0 13 24 fun x_24 =>
        nn r_23 fun a_25 =>
        asI h_22 a_25 x_24 0 fun h_26 =>
        rdR h_26 a0 13 30 fun r_27 =>
        rdI h_26 a0 13 24 fun x_28 =>
        nn r_27 fun a_29 =>
        asZ h_26 a_29 x_28 0 fun h_30 =>
        rdR h_30 a0 13 31 fun r_31 =>
        rdI h_30 a0 13 24 fun x_32 =>
        nn r_31 fun a_33 =>
        asJ h_30 a_33 x_32 x2 fun h_34 =>
        rdR h_34 a0 13 32 fun r_35 =>
        rdI h_34 a0 13 24 fun x_36 =>
        nn r_35 fun a_37 =>
        asJ h_34 a_37 x_36 x4 fun h_38 =>
        rdR h_38 a0 13 33 fun r_39 =>
        rdI h_38 a0 13 24 fun x_40 =>
        nn r_39 fun a_41 =>
        asI h_38 a_41 x_40 x7 fun h_42 =>
        rdR h_42 a0 13 34 fun r_43 =>
        rdI h_42 a0 13 24 fun x_44 =>
        nn r_43 fun a_45 =>
        asJ h_42 a_45 x_44 x8 fun h_46 =>
        rdI h_46 a0 13 24 fun x_47 =>
        wrI h_46 a0 13 24 (x_47 + 1) fun h_48 =>
        f_X12_route_220 (fun a0 x1 x2 x4 x6 x7 x8 x10 x11 x12 h => f_X12_route_76 n a0 x1 x2 x4 x6 x7 x8 x10 x11 x12 h) a0 x1 x2 x4 x6 x7 x8 x10 x11 x12 h_48)))
set_option maxRecDepth 20000 in
set_option maxHeartbeats 4000000 in
theorem t_X12_route_76 {Ω : Om} : ∀ (n : Nat) (a0 : Nat) (x1 : Int32) (x2 : Int64) (x4 : Int64) (x6 : Int32) (x7 : Int32) (x8 : Int64) (x10 : Int32) (x11 : Int32) (x12 : Int32) (h : AH) (q : Int32 × AH), f_X12_route_76 n a0 x1 x2 x4 x6 x7 x8 x10 x11 x12 h = some q → Go Ω M_X12_route 76 [(0, vR Ω (some a0)), (1, .int x1), (2, .long x2), (4, .long x4), (6, .int x6), (7, .int x7), (8, .long x8), (10, .int x10), (11, .int x11), (12, .int x12)] [] h (some (.int q.1)) q.2 := by
  intro n
  induction n with
  | zero => intro a0 x1 x2 x4 x6 x7 x8 x10 x11 x12 h q hf; cases hf
  | succ n ih =>
    intro a0 x1 x2 x4 x6 x7 x8 x10 x11 x12 h q hf
    rw [f_X12_route_76] at hf
    refine go_iload dX12_route_76 9 rfl ?_
    refine go_aload_n dX12_route_78 rfl 0 rfl ?_
    refine go_getI dX12_route_79 fl_1127_0 (fun _ _ => rfl) hf (fun x_1 hf => ?_)
    refine go_icmp_ge (tgt := 226) dX12_route_82 (by decide) hf (fun hf => ?_) (fun hf => ?_)
    · refine go_sub (lv' := [(0, vR Ω (some a0)), (1, .int x1), (2, .long x2), (4, .long x4), (6, .int x6), (7, .int x7), (8, .long x8), (11, .int x11)]) [0, 1, 2, 3, 4, 5, 6, 8] rfl ?_
      exact t_X12_route_226 a0 x1 x2 x4 x6 x7 x8 x11 h q hf
    · refine go_aload_n dX12_route_85 rfl 0 rfl ?_
      refine go_iload dX12_route_86 9 rfl ?_
      refine go_iload dX12_route_88 7 rfl ?_
      refine go_lload dX12_route_90 3 rfl ?_
      obtain ⟨hk, hf⟩ := kg_some hf
      obtain ⟨z_2, hc, hf⟩ := bd_some hf
      refine go_callV (y2 := M_X12_reaches) (c2 := 13) dX12_route_92 mo_X12_reaches ⟨Nat.le_of_ble_eq_true rfl, Nat.le_of_ble_eq_true rfl⟩ na_X12_reaches w1563 w1565 (by decide) rfl w108 hk [.int x12, .int x10, .long x4] rfl (n_X12_reaches (a0) x12 x10 x4) rfl (csum (Nat.le_of_ble_eq_true rfl)) (t_X12_reaches (a0) x12 x10 x4 h _ hc) ?_
      obtain ⟨x_4, h_3⟩ := z_2
      refine go_if_eq (tgt := 220) dX12_route_95 (by decide) hf (fun hf => ?_) (fun hf => ?_)
      · refine go_sub (lv' := [(0, vR Ω (some a0)), (1, .int x1), (2, .long x2), (4, .long x4), (6, .int x6), (7, .int x7), (8, .long x8), (10, .int x10), (11, .int x11), (12, .int x12)]) [0, 1, 2, 3, 4, 5, 6, 7, 8, 9] rfl ?_
        exact t_X12_route_220 ih a0 x1 x2 x4 x6 x7 x8 x10 x11 x12 h_3 q hf
      · refine go_aload_n dX12_route_98 rfl 0 rfl ?_
        refine go_dup dX12_route_99 catR ?_
        refine go_getI dX12_route_100 fl_1144_0 (fun _ _ => rfl) hf (fun x_5 hf => ?_)
        refine go_iconst 1 dX12_route_103 rfl ?_
        refine go_iadd dX12_route_104 ?_
        refine go_putI dX12_route_105 fl_1144_0 (fun q hq => by cases hq; exact Or.inl rfl) (fun _ _ => rfl) rfl hf (fun h_6 hf => ?_)
        refine go_aload_n dX12_route_108 rfl 0 rfl ?_
        refine go_getR dX12_route_109 fl_1145_0 (fun _ _ => rfl) hf (fun r_7 hf => ?_)
        refine go_aload_n dX12_route_112 rfl 0 rfl ?_
        refine go_getI dX12_route_113 fl_1143_0 (fun _ _ => rfl) hf (fun x_8 hf => ?_)
        refine go_aload_n dX12_route_116 rfl 0 rfl ?_
        refine go_getI dX12_route_117 fl_1144_0 (fun _ _ => rfl) hf (fun x_9 hf => ?_)
        obtain ⟨a_10, rfl, hga_10⟩ := nn_some hf
        have hf := hga_10
        refine go_iastore dX12_route_120 hf (fun h_11 hf => ?_)
        refine go_aload_n dX12_route_121 rfl 0 rfl ?_
        refine go_getR dX12_route_122 fl_1146_0 (fun _ _ => rfl) hf (fun r_12 hf => ?_)
        refine go_aload_n dX12_route_125 rfl 0 rfl ?_
        refine go_getI dX12_route_126 fl_1143_0 (fun _ _ => rfl) hf (fun x_13 hf => ?_)
        refine go_aload_n dX12_route_129 rfl 0 rfl ?_
        refine go_getR dX12_route_130 fl_1130_0 (fun _ _ => rfl) hf (fun r_14 hf => ?_)
        refine go_iload dX12_route_133 9 rfl ?_
        obtain ⟨a_15, rfl, hga_15⟩ := nn_some hf
        have hf := hga_15
        refine go_iaload dX12_route_135 hf (fun x_16 hf => ?_)
        obtain ⟨a_17, rfl, hga_17⟩ := nn_some hf
        have hf := hga_17
        refine go_iastore dX12_route_136 hf (fun h_18 hf => ?_)
        refine go_aload_n dX12_route_137 rfl 0 rfl ?_
        refine go_getR dX12_route_138 fl_1147_0 (fun _ _ => rfl) hf (fun r_19 hf => ?_)
        refine go_aload_n dX12_route_141 rfl 0 rfl ?_
        refine go_getI dX12_route_142 fl_1143_0 (fun _ _ => rfl) hf (fun x_20 hf => ?_)
        refine go_iconst 0 dX12_route_145 rfl ?_
        obtain ⟨a_21, rfl, hga_21⟩ := nn_some hf
        have hf := hga_21
        refine go_iastore dX12_route_146 hf (fun h_22 hf => ?_)
        refine go_aload_n dX12_route_147 rfl 0 rfl ?_
        refine go_getR dX12_route_148 fl_1148_0 (fun _ _ => rfl) hf (fun r_23 hf => ?_)
        refine go_aload_n dX12_route_151 rfl 0 rfl ?_
        refine go_getI dX12_route_152 fl_1143_0 (fun _ _ => rfl) hf (fun x_24 hf => ?_)
        refine go_iconst 0 dX12_route_155 rfl ?_
        obtain ⟨a_25, rfl, hga_25⟩ := nn_some hf
        have hf := hga_25
        refine go_iastore dX12_route_156 hf (fun h_26 hf => ?_)
        refine go_aload_n dX12_route_157 rfl 0 rfl ?_
        refine go_getR dX12_route_158 fl_1149_0 (fun _ _ => rfl) hf (fun r_27 hf => ?_)
        refine go_aload_n dX12_route_161 rfl 0 rfl ?_
        refine go_getI dX12_route_162 fl_1143_0 (fun _ _ => rfl) hf (fun x_28 hf => ?_)
        refine go_iconst 0 dX12_route_165 rfl ?_
        obtain ⟨a_29, rfl, hga_29⟩ := nn_some hf
        have hf := hga_29
        refine go_zastore dX12_route_166 hf (fun h_30 hf => ?_)
        refine go_aload_n dX12_route_167 rfl 0 rfl ?_
        refine go_getR dX12_route_168 fl_1150_0 (fun _ _ => rfl) hf (fun r_31 hf => ?_)
        refine go_aload_n dX12_route_171 rfl 0 rfl ?_
        refine go_getI dX12_route_172 fl_1143_0 (fun _ _ => rfl) hf (fun x_32 hf => ?_)
        refine go_lload_n dX12_route_175 rfl 2 rfl ?_
        obtain ⟨a_33, rfl, hga_33⟩ := nn_some hf
        have hf := hga_33
        refine go_lastore dX12_route_176 hf (fun h_34 hf => ?_)
        refine go_aload_n dX12_route_177 rfl 0 rfl ?_
        refine go_getR dX12_route_178 fl_1151_0 (fun _ _ => rfl) hf (fun r_35 hf => ?_)
        refine go_aload_n dX12_route_181 rfl 0 rfl ?_
        refine go_getI dX12_route_182 fl_1143_0 (fun _ _ => rfl) hf (fun x_36 hf => ?_)
        refine go_lload dX12_route_185 3 rfl ?_
        obtain ⟨a_37, rfl, hga_37⟩ := nn_some hf
        have hf := hga_37
        refine go_lastore dX12_route_187 hf (fun h_38 hf => ?_)
        refine go_aload_n dX12_route_188 rfl 0 rfl ?_
        refine go_getR dX12_route_189 fl_1152_0 (fun _ _ => rfl) hf (fun r_39 hf => ?_)
        refine go_aload_n dX12_route_192 rfl 0 rfl ?_
        refine go_getI dX12_route_193 fl_1143_0 (fun _ _ => rfl) hf (fun x_40 hf => ?_)
        refine go_iload dX12_route_196 5 rfl ?_
        obtain ⟨a_41, rfl, hga_41⟩ := nn_some hf
        have hf := hga_41
        refine go_iastore dX12_route_198 hf (fun h_42 hf => ?_)
        refine go_aload_n dX12_route_199 rfl 0 rfl ?_
        refine go_getR dX12_route_200 fl_1153_0 (fun _ _ => rfl) hf (fun r_43 hf => ?_)
        refine go_aload_n dX12_route_203 rfl 0 rfl ?_
        refine go_getI dX12_route_204 fl_1143_0 (fun _ _ => rfl) hf (fun x_44 hf => ?_)
        refine go_lload dX12_route_207 6 rfl ?_
        obtain ⟨a_45, rfl, hga_45⟩ := nn_some hf
        have hf := hga_45
        refine go_lastore dX12_route_209 hf (fun h_46 hf => ?_)
        refine go_aload_n dX12_route_210 rfl 0 rfl ?_
        refine go_dup dX12_route_211 catR ?_
        refine go_getI dX12_route_212 fl_1143_0 (fun _ _ => rfl) hf (fun x_47 hf => ?_)
        refine go_iconst 1 dX12_route_215 rfl ?_
        refine go_iadd dX12_route_216 ?_
        refine go_putI dX12_route_217 fl_1143_0 (fun q hq => by cases hq; exact Or.inl rfl) (fun _ _ => rfl) rfl hf (fun h_48 hf => ?_)
        refine go_sub (lv' := [(0, vR Ω (some a0)), (1, .int x1), (2, .long x2), (4, .long x4), (6, .int x6), (7, .int x7), (8, .long x8), (10, .int x10), (11, .int x11), (12, .int x12)]) [0, 1, 2, 3, 4, 5, 6, 7, 8, 9] rfl ?_
        exact t_X12_route_220 ih a0 x1 x2 x4 x6 x7 x8 x10 x11 x12 h_48 q hf
def f_X12_route_51 (a0 : Nat) (x1 : Int32) (x2 : Int64) (x4 : Int64) (x6 : Int32) (x7 : Int32) (x8 : Int64) (x10 : Int32) (x11 : Int32) (h : AH) : Option (Int32 × AH) := rdI h a0 13 24 fun x_1 =>
  (if (x_1 + x11) ≤ 24 then
    f_X12_route_76 FU a0 x1 x2 x4 x6 x7 x8 x10 x11 0 h
  else
    kg h a0 13 (bd (f_X12_soft a0 x1 506 h) fun _ h_3 =>
    rz 0 (some (0, h_3))))
set_option maxRecDepth 20000 in
set_option maxHeartbeats 4000000 in
theorem t_X12_route_51 {Ω : Om} (a0 : Nat) (x1 : Int32) (x2 : Int64) (x4 : Int64) (x6 : Int32) (x7 : Int32) (x8 : Int64) (x10 : Int32) (x11 : Int32) (h : AH) (q : Int32 × AH) (hf : f_X12_route_51 a0 x1 x2 x4 x6 x7 x8 x10 x11 h = some q) : Go Ω M_X12_route 51 [(0, vR Ω (some a0)), (1, .int x1), (2, .long x2), (4, .long x4), (6, .int x6), (7, .int x7), (8, .long x8), (10, .int x10), (11, .int x11)] [] h (some (.int q.1)) q.2 := by
  unfold f_X12_route_51 at hf
  refine go_aload_n dX12_route_51 rfl 0 rfl ?_
  refine go_getI dX12_route_52 fl_1143_0 (fun _ _ => rfl) hf (fun x_1 hf => ?_)
  refine go_iload dX12_route_55 8 rfl ?_
  refine go_iadd dX12_route_57 ?_
  refine go_bipush 24 dX12_route_58 (by decide) ?_
  refine go_icmp_le (tgt := 73) dX12_route_60 (by decide) hf (fun hf => ?_) (fun hf => ?_)
  · refine go_iconst 0 dX12_route_73 rfl ?_
    refine go_istore (i := 12) (lv' := [(12, .int 0), (0, vR Ω (some a0)), (1, .int x1), (2, .long x2), (4, .long x4), (6, .int x6), (7, .int x7), (8, .long x8), (10, .int x10), (11, .int x11)]) dX12_route_74 (by decide) (by first | rfl | simp [catR, catI, catJ]) ?_
    refine go_sub (lv' := [(0, vR Ω (some a0)), (1, .int x1), (2, .long x2), (4, .long x4), (6, .int x6), (7, .int x7), (8, .long x8), (10, .int x10), (11, .int x11), (12, .int 0)]) [1, 2, 3, 4, 5, 6, 7, 8, 9, 0] rfl ?_
    exact t_X12_route_76 FU a0 x1 x2 x4 x6 x7 x8 x10 x11 0 h q hf
  · refine go_aload_n dX12_route_63 rfl 0 rfl ?_
    refine go_iload_n dX12_route_64 rfl 1 rfl ?_
    refine go_sipush 506 dX12_route_65 (by decide) ?_
    obtain ⟨hk, hf⟩ := kg_some hf
    obtain ⟨z_2, hc, hf⟩ := bd_some hf
    refine go_callV (y2 := M_X12_soft) (c2 := 13) dX12_route_68 mo_X12_soft ⟨Nat.le_of_ble_eq_true rfl, Nat.le_of_ble_eq_true rfl⟩ na_X12_soft w1432 w1434 (by decide) rfl w76 hk [.int x1, .int 506] rfl (n_X12_soft (a0) x1 506) rfl (csum (Nat.le_of_ble_eq_true rfl)) (t_X12_soft (a0) x1 506 h _ hc) ?_
    obtain ⟨_, h_3⟩ := z_2
    refine go_iconst 0 dX12_route_71 rfl ?_
    exact go_zreturn dX12_route_72 rfl hf
def f_X12_route_13 : Nat → Nat → Int32 → Int64 → Int64 → Int32 → Int32 → Int64 → Int32 → Int32 → Int32 → AH → Option (Int32 × AH)
  | 0, _, _, _, _, _, _, _, _, _, _, _ => none
  | n + 1, a0, x1, x2, x4, x6, x7, x8, x10, x11, x12, h => rdI h a0 13 8 fun x_1 =>
    (if x_1 ≤ x12 then
      f_X12_route_51 a0 x1 x2 x4 x6 x7 x8 x10 x11 h
    else
      kg h a0 13 (bd (f_X12_reaches a0 x12 x10 x4 h) fun x_4 h_3 =>
      (if x_4 = 0 then
        f_X12_route_42 (fun a0 x1 x2 x4 x6 x7 x8 x10 x11 x12 h => f_X12_route_13 n a0 x1 x2 x4 x6 x7 x8 x10 x11 x12 h) a0 x1 x2 x4 x6 x7 x8 x10 x12 0 x11 h_3
      else
        f_X12_route_42 (fun a0 x1 x2 x4 x6 x7 x8 x10 x11 x12 h => f_X12_route_13 n a0 x1 x2 x4 x6 x7 x8 x10 x11 x12 h) a0 x1 x2 x4 x6 x7 x8 x10 x12 1 x11 h_3)))
set_option maxRecDepth 20000 in
set_option maxHeartbeats 4000000 in
theorem t_X12_route_13 {Ω : Om} : ∀ (n : Nat) (a0 : Nat) (x1 : Int32) (x2 : Int64) (x4 : Int64) (x6 : Int32) (x7 : Int32) (x8 : Int64) (x10 : Int32) (x11 : Int32) (x12 : Int32) (h : AH) (q : Int32 × AH), f_X12_route_13 n a0 x1 x2 x4 x6 x7 x8 x10 x11 x12 h = some q → Go Ω M_X12_route 13 [(0, vR Ω (some a0)), (1, .int x1), (2, .long x2), (4, .long x4), (6, .int x6), (7, .int x7), (8, .long x8), (10, .int x10), (11, .int x11), (12, .int x12)] [] h (some (.int q.1)) q.2 := by
  intro n
  induction n with
  | zero => intro a0 x1 x2 x4 x6 x7 x8 x10 x11 x12 h q hf; cases hf
  | succ n ih =>
    intro a0 x1 x2 x4 x6 x7 x8 x10 x11 x12 h q hf
    rw [f_X12_route_13] at hf
    refine go_iload dX12_route_13 9 rfl ?_
    refine go_aload_n dX12_route_15 rfl 0 rfl ?_
    refine go_getI dX12_route_16 fl_1127_0 (fun _ _ => rfl) hf (fun x_1 hf => ?_)
    refine go_icmp_ge (tgt := 51) dX12_route_19 (by decide) hf (fun hf => ?_) (fun hf => ?_)
    · refine go_sub (lv' := [(0, vR Ω (some a0)), (1, .int x1), (2, .long x2), (4, .long x4), (6, .int x6), (7, .int x7), (8, .long x8), (10, .int x10), (11, .int x11)]) [0, 1, 2, 3, 4, 5, 6, 7, 8] rfl ?_
      exact t_X12_route_51 a0 x1 x2 x4 x6 x7 x8 x10 x11 h q hf
    · refine go_iload dX12_route_22 8 rfl ?_
      refine go_aload_n dX12_route_24 rfl 0 rfl ?_
      refine go_iload dX12_route_25 9 rfl ?_
      refine go_iload dX12_route_27 7 rfl ?_
      refine go_lload dX12_route_29 3 rfl ?_
      obtain ⟨hk, hf⟩ := kg_some hf
      obtain ⟨z_2, hc, hf⟩ := bd_some hf
      refine go_callV (y2 := M_X12_reaches) (c2 := 13) dX12_route_31 mo_X12_reaches ⟨Nat.le_of_ble_eq_true rfl, Nat.le_of_ble_eq_true rfl⟩ na_X12_reaches w1563 w1565 (by decide) rfl w108 hk [.int x12, .int x10, .long x4] rfl (n_X12_reaches (a0) x12 x10 x4) rfl (csum (Nat.le_of_ble_eq_true rfl)) (t_X12_reaches (a0) x12 x10 x4 h _ hc) ?_
      obtain ⟨x_4, h_3⟩ := z_2
      refine go_if_eq (tgt := 41) dX12_route_34 (by decide) hf (fun hf => ?_) (fun hf => ?_)
      · refine go_iconst 0 dX12_route_41 rfl ?_
        refine go_sub (lv' := [(0, vR Ω (some a0)), (1, .int x1), (2, .long x2), (4, .long x4), (6, .int x6), (7, .int x7), (8, .long x8), (10, .int x10), (12, .int x12)]) [0, 1, 2, 3, 4, 5, 6, 7, 9] rfl ?_
        exact t_X12_route_42 ih a0 x1 x2 x4 x6 x7 x8 x10 x12 0 x11 h_3 q hf
      · refine go_iconst 1 dX12_route_37 rfl ?_
        refine go_goto (tgt := 42) dX12_route_38 (by decide) ?_
        refine go_sub (lv' := [(0, vR Ω (some a0)), (1, .int x1), (2, .long x2), (4, .long x4), (6, .int x6), (7, .int x7), (8, .long x8), (10, .int x10), (12, .int x12)]) [0, 1, 2, 3, 4, 5, 6, 7, 9] rfl ?_
        exact t_X12_route_42 ih a0 x1 x2 x4 x6 x7 x8 x10 x12 1 x11 h_3 q hf
def f_X12_route (a0 : Nat) (x1 : Int32) (x2 : Int64) (x4 : Int64) (x6 : Int32) (x7 : Int32) (x8 : Int64) (h : AH) : Option (Int32 × AH) := kg h a0 13 (bd (f_X12_exchangeOf a0 x2 h) fun x_3 h_2 =>
  f_X12_route_13 FU a0 x1 x2 x4 x6 x7 x8 x_3 0 0 h_2)
set_option maxRecDepth 20000 in
set_option maxHeartbeats 4000000 in
theorem t_X12_route {Ω : Om} (a0 : Nat) (x1 : Int32) (x2 : Int64) (x4 : Int64) (x6 : Int32) (x7 : Int32) (x8 : Int64) (h : AH) (q : Int32 × AH) (hf : f_X12_route a0 x1 x2 x4 x6 x7 x8 h = some q) : Go Ω M_X12_route 0 (lv_args 0 [vR Ω (some a0), .int x1, .long x2, .long x4, .int x6, .int x7, .long x8]) [] h (some (.int q.1)) q.2 := by
  unfold f_X12_route at hf
  rw [la_R, la_I, la_J, la_J, la_I, la_I, la_J, la_0]
  refine go_sub (lv' := [(0, vR Ω (some a0)), (1, .int x1), (2, .long x2), (4, .long x4), (6, .int x6), (7, .int x7), (8, .long x8)]) [0, 1, 2, 3, 4, 5, 6] rfl ?_
  refine go_aload_n dX12_route_0 rfl 0 rfl ?_
  refine go_lload_n dX12_route_1 rfl 2 rfl ?_
  obtain ⟨hk, hf⟩ := kg_some hf
  obtain ⟨z_1, hc, hf⟩ := bd_some hf
  refine go_callV (y2 := M_X12_exchangeOf) (c2 := 13) dX12_route_2 mo_X12_exchangeOf ⟨Nat.le_of_ble_eq_true rfl, Nat.le_of_ble_eq_true rfl⟩ na_X12_exchangeOf w1428 w1430 (by decide) rfl w75 hk [.long x2] rfl (n_X12_exchangeOf (a0) x2) rfl (csum (Nat.le_of_ble_eq_true rfl)) (t_X12_exchangeOf (a0) x2 h _ hc) ?_
  obtain ⟨x_3, h_2⟩ := z_1
  refine go_istore (i := 10) (lv' := [(10, .int x_3), (0, vR Ω (some a0)), (1, .int x1), (2, .long x2), (4, .long x4), (6, .int x6), (7, .int x7), (8, .long x8)]) dX12_route_5 (by decide) (by first | rfl | simp [catR, catI, catJ]) ?_
  refine go_iconst 0 dX12_route_7 rfl ?_
  refine go_istore (i := 11) (lv' := [(11, .int 0), (10, .int x_3), (0, vR Ω (some a0)), (1, .int x1), (2, .long x2), (4, .long x4), (6, .int x6), (7, .int x7), (8, .long x8)]) dX12_route_8 (by decide) (by first | rfl | simp [catR, catI, catJ]) ?_
  refine go_iconst 0 dX12_route_10 rfl ?_
  refine go_istore (i := 12) (lv' := [(12, .int 0), (11, .int 0), (10, .int x_3), (0, vR Ω (some a0)), (1, .int x1), (2, .long x2), (4, .long x4), (6, .int x6), (7, .int x7), (8, .long x8)]) dX12_route_11 (by decide) (by first | rfl | simp [catR, catI, catJ]) ?_
  refine go_sub (lv' := [(0, vR Ω (some a0)), (1, .int x1), (2, .long x2), (4, .long x4), (6, .int x6), (7, .int x7), (8, .long x8), (10, .int x_3), (11, .int 0), (12, .int 0)]) [3, 4, 5, 6, 7, 8, 9, 2, 1, 0] rfl ?_
  exact t_X12_route_13 FU a0 x1 x2 x4 x6 x7 x8 x_3 0 0 h_2 q hf

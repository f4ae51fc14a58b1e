/-! printed by wip/whole/gen: functions and their walks -/
-- LetterBroker$Outbox.putLetter(LLetterBroker$Letter;)V
theorem dX9_putLetter_0 : decode cX9_putLetter 0 = .ok (.aload_n 0, 1) := by decide +kernel
theorem dX9_putLetter_1 : decode cX9_putLetter 1 = .ok (.aload_n 1, 1) := by decide +kernel
theorem dX9_putLetter_2 : decode cX9_putLetter 2 = .ok (.getfield 42, 3) := by decide +kernel
theorem dX9_putLetter_5 : decode cX9_putLetter 5 = .ok (.invokevirtual 39, 3) := by decide +kernel
theorem dX9_putLetter_8 : decode cX9_putLetter 8 = .ok (.aload_n 0, 1) := by decide +kernel
theorem dX9_putLetter_9 : decode cX9_putLetter 9 = .ok (.aload_n 1, 1) := by decide +kernel
theorem dX9_putLetter_10 : decode cX9_putLetter 10 = .ok (.getfield 47, 3) := by decide +kernel
theorem dX9_putLetter_13 : decode cX9_putLetter 13 = .ok (.ifCond .eq 7, 3) := by decide +kernel
theorem dX9_putLetter_16 : decode cX9_putLetter 16 = .ok (.iconst 1, 1) := by decide +kernel
theorem dX9_putLetter_17 : decode cX9_putLetter 17 = .ok (.goto 4, 3) := by decide +kernel
theorem dX9_putLetter_20 : decode cX9_putLetter 20 = .ok (.iconst 0, 1) := by decide +kernel
theorem dX9_putLetter_21 : decode cX9_putLetter 21 = .ok (.invokevirtual 22, 3) := by decide +kernel
theorem dX9_putLetter_24 : decode cX9_putLetter 24 = .ok (.aload_n 0, 1) := by decide +kernel
theorem dX9_putLetter_25 : decode cX9_putLetter 25 = .ok (.aload_n 1, 1) := by decide +kernel
theorem dX9_putLetter_26 : decode cX9_putLetter 26 = .ok (.getfield 51, 3) := by decide +kernel
theorem dX9_putLetter_29 : decode cX9_putLetter 29 = .ok (.getfield 55, 3) := by decide +kernel
theorem dX9_putLetter_32 : decode cX9_putLetter 32 = .ok (.invokevirtual 61, 3) := by decide +kernel
theorem dX9_putLetter_35 : decode cX9_putLetter 35 = .ok (.aload_n 0, 1) := by decide +kernel
theorem dX9_putLetter_36 : decode cX9_putLetter 36 = .ok (.aload_n 1, 1) := by decide +kernel
theorem dX9_putLetter_37 : decode cX9_putLetter 37 = .ok (.getfield 51, 3) := by decide +kernel
theorem dX9_putLetter_40 : decode cX9_putLetter 40 = .ok (.getfield 65, 3) := by decide +kernel
theorem dX9_putLetter_43 : decode cX9_putLetter 43 = .ok (.invokevirtual 61, 3) := by decide +kernel
theorem dX9_putLetter_46 : decode cX9_putLetter 46 = .ok (.return_, 1) := by decide +kernel
def f_X9_putLetter_21 (a0 : Nat) (r1 : Option Nat) (s0 : Int32) (s1 : Option Nat) (h : AH) : Option (Unit × AH) := nn s1 fun a_1 =>
  kg h a_1 10 (bd (f_X9_put a_1 s0 h) fun _ h_3 =>
  nn r1 fun a_4 =>
  rdR h_3 a_4 8 0 fun r_5 =>
  nn r_5 fun a_6 =>
  rdJ h_3 a_6 5 0 fun x_7 =>
  kg h_3 a0 10 (bd (f_X9_putName a0 x_7 h_3) fun _ h_9 =>
  rdR h_9 a_4 8 0 fun r_10 =>
  nn r_10 fun a_11 =>
  rdJ h_9 a_11 5 1 fun x_12 =>
  kg h_9 a0 10 (bd (f_X9_putName a0 x_12 h_9) fun _ h_14 =>
  some ((), h_14))))
set_option maxRecDepth 20000 in
set_option maxHeartbeats 4000000 in
theorem t_X9_putLetter_21 {Ω : Om} (a0 : Nat) (r1 : Option Nat) (s0 : Int32) (s1 : Option Nat) (h : AH) (q : Unit × AH) (hf : f_X9_putLetter_21 a0 r1 s0 s1 h = some q) : Go Ω M_X9_putLetter 21 [(0, vR Ω (some a0)), (1, vR Ω r1)] [.int s0, vR Ω s1] h none q.2 := by
  unfold f_X9_putLetter_21 at hf
  obtain ⟨a_1, rfl, hga_1⟩ := nn_some hf
  have hf := hga_1
  obtain ⟨hk, hf⟩ := kg_some hf
  obtain ⟨z_2, hc, hf⟩ := bd_some hf
  refine go_callV (y2 := M_X9_put) (c2 := 10) dX9_putLetter_21 mo_X9_put ⟨Nat.le_of_ble_eq_true rfl, Nat.le_of_ble_eq_true rfl⟩ na_X9_put w438 w439 (by decide) rfl w440 hk [.int s0] rfl (n_X9_put (a_1) s0) rfl (csum (Nat.le_of_ble_eq_true rfl)) (t_X9_put (a_1) s0 h _ hc) ?_
  obtain ⟨_, h_3⟩ := z_2
  refine go_aload_n dX9_putLetter_24 rfl 0 rfl ?_
  refine go_aload_n dX9_putLetter_25 rfl 1 rfl ?_
  obtain ⟨a_4, rfl, hga_4⟩ := nn_some hf
  have hf := hga_4
  refine go_getR dX9_putLetter_26 fl_611_0 (fun _ _ => rfl) hf (fun r_5 hf => ?_)
  obtain ⟨a_6, rfl, hga_6⟩ := nn_some hf
  have hf := hga_6
  refine go_getJ dX9_putLetter_29 fl_940_0 (fun _ _ => rfl) hf (fun x_7 hf => ?_)
  obtain ⟨hk, hf⟩ := kg_some hf
  obtain ⟨z_8, hc, hf⟩ := bd_some hf
  refine go_callV (y2 := M_X9_putName) (c2 := 10) dX9_putLetter_32 mo_X9_putName ⟨Nat.le_of_ble_eq_true rfl, Nat.le_of_ble_eq_true rfl⟩ na_X9_putName w989 w592 (by decide) rfl w593 hk [.long x_7] rfl (n_X9_putName (a0) x_7) rfl (csum (Nat.le_of_ble_eq_true rfl)) (t_X9_putName (a0) x_7 h_3 _ hc) ?_
  obtain ⟨_, h_9⟩ := z_8
  refine go_aload_n dX9_putLetter_35 rfl 0 rfl ?_
  refine go_aload_n dX9_putLetter_36 rfl 1 rfl ?_
  refine go_getR dX9_putLetter_37 fl_611_0 (fun _ _ => rfl) hf (fun r_10 hf => ?_)
  obtain ⟨a_11, rfl, hga_11⟩ := nn_some hf
  have hf := hga_11
  refine go_getJ dX9_putLetter_40 fl_945_0 (fun _ _ => rfl) hf (fun x_12 hf => ?_)
  obtain ⟨hk, hf⟩ := kg_some hf
  obtain ⟨z_13, hc, hf⟩ := bd_some hf
  refine go_callV (y2 := M_X9_putName) (c2 := 10) dX9_putLetter_43 mo_X9_putName ⟨Nat.le_of_ble_eq_true rfl, Nat.le_of_ble_eq_true rfl⟩ na_X9_putName w989 w592 (by decide) rfl w593 hk [.long x_12] rfl (n_X9_putName (a0) x_12) rfl (csum (Nat.le_of_ble_eq_true rfl)) (t_X9_putName (a0) x_12 h_9 _ hc) ?_
  obtain ⟨_, h_14⟩ := z_13
  exact go_return dX9_putLetter_46 rfl hf
def f_X9_putLetter (a0 : Nat) (r1 : Option Nat) (h : AH) : Option (Unit × AH) := nn r1 fun a_1 =>
  rdI h a_1 8 4 fun x_2 =>
  kg h a0 10 (bd (f_X9_putShort a0 x_2 h) fun _ h_4 =>
  rdI h_4 a_1 8 3 fun x_5 =>
  (if x_5 = 0 then
    f_X9_putLetter_21 a0 (some a_1) 0 (some a0) h_4
  else
    f_X9_putLetter_21 a0 (some a_1) 1 (some a0) h_4))
set_option maxRecDepth 20000 in
set_option maxHeartbeats 4000000 in
theorem t_X9_putLetter {Ω : Om} (a0 : Nat) (r1 : Option Nat) (h : AH) (q : Unit × AH) (hf : f_X9_putLetter a0 r1 h = some q) : Go Ω M_X9_putLetter 0 (lv_args 0 [vR Ω (some a0), vR Ω r1]) [] h none q.2 := by
  unfold f_X9_putLetter at hf
  rw [la_R, la_R, la_0]
  refine go_sub (lv' := [(0, vR Ω (some a0)), (1, vR Ω r1)]) [0, 1] rfl ?_
  refine go_aload_n dX9_putLetter_0 rfl 0 rfl ?_
  refine go_aload_n dX9_putLetter_1 rfl 1 rfl ?_
  obtain ⟨a_1, rfl, hga_1⟩ := nn_some hf
  have hf := hga_1
  refine go_getI dX9_putLetter_2 fl_622_0 (fun _ _ => rfl) hf (fun x_2 hf => ?_)
  obtain ⟨hk, hf⟩ := kg_some hf
  obtain ⟨z_3, hc, hf⟩ := bd_some hf
  refine go_callV (y2 := M_X9_putShort) (c2 := 10) dX9_putLetter_5 mo_X9_putShort ⟨Nat.le_of_ble_eq_true rfl, Nat.le_of_ble_eq_true rfl⟩ na_X9_putShort w988 w588 (by decide) rfl w589 hk [.int x_2] rfl (n_X9_putShort (a0) x_2) rfl (csum (Nat.le_of_ble_eq_true rfl)) (t_X9_putShort (a0) x_2 h _ hc) ?_
  obtain ⟨_, h_4⟩ := z_3
  refine go_aload_n dX9_putLetter_8 rfl 0 rfl ?_
  refine go_aload_n dX9_putLetter_9 rfl 1 rfl ?_
  refine go_getI dX9_putLetter_10 fl_619_0 (fun _ _ => rfl) hf (fun x_5 hf => ?_)
  refine go_if_eq (tgt := 20) dX9_putLetter_13 (by decide) hf (fun hf => ?_) (fun hf => ?_)
  · refine go_iconst 0 dX9_putLetter_20 rfl ?_
    refine go_sub (lv' := [(0, vR Ω (some a0)), (1, vR Ω (some a_1))]) [0, 1] rfl ?_
    exact t_X9_putLetter_21 a0 (some a_1) 0 (some a0) h_4 q hf
  · refine go_iconst 1 dX9_putLetter_16 rfl ?_
    refine go_goto (tgt := 21) dX9_putLetter_17 (by decide) ?_
    refine go_sub (lv' := [(0, vR Ω (some a0)), (1, vR Ω (some a_1))]) [0, 1] rfl ?_
    exact t_X9_putLetter_21 a0 (some a_1) 1 (some a0) h_4 q hf
-- LetterBroker.deliver(LLetterBroker$Queue;LLetterBroker$Consumer;)V
theorem dX11_deliver_0 : decode cX11_deliver 0 = .ok (.aload_n 1, 1) := by decide +kernel
theorem dX11_deliver_1 : decode cX11_deliver 1 = .ok (.getfield 106, 3) := by decide +kernel
theorem dX11_deliver_4 : decode cX11_deliver 4 = .ok (.invokeinterface 116 1, 5) := by decide +kernel
theorem dX11_deliver_9 : decode cX11_deliver 9 = .ok (.ifCond .eq 4, 3) := by decide +kernel
theorem dX11_deliver_12 : decode cX11_deliver 12 = .ok (.return_, 1) := by decide +kernel
theorem dX11_deliver_13 : decode cX11_deliver 13 = .ok (.aload_n 1, 1) := by decide +kernel
theorem dX11_deliver_14 : decode cX11_deliver 14 = .ok (.getfield 106, 3) := by decide +kernel
theorem dX11_deliver_17 : decode cX11_deliver 17 = .ok (.iconst 0, 1) := by decide +kernel
theorem dX11_deliver_18 : decode cX11_deliver 18 = .ok (.invokeinterface 336 2, 5) := by decide +kernel
theorem dX11_deliver_23 : decode cX11_deliver 23 = .ok (.checkcast 120, 3) := by decide +kernel
theorem dX11_deliver_26 : decode cX11_deliver 26 = .ok (.astore_n 3, 1) := by decide +kernel
theorem dX11_deliver_27 : decode cX11_deliver 27 = .ok (.aload_n 1, 1) := by decide +kernel
theorem dX11_deliver_28 : decode cX11_deliver 28 = .ok (.aload_n 2, 1) := by decide +kernel
theorem dX11_deliver_29 : decode cX11_deliver 29 = .ok (.getfield 445, 3) := by decide +kernel
theorem dX11_deliver_32 : decode cX11_deliver 32 = .ok (.putfield 450, 3) := by decide +kernel
theorem dX11_deliver_35 : decode cX11_deliver 35 = .ok (.aload_n 2, 1) := by decide +kernel
theorem dX11_deliver_36 : decode cX11_deliver 36 = .ok (.getfield 453, 3) := by decide +kernel
theorem dX11_deliver_39 : decode cX11_deliver 39 = .ok (.aload_n 3, 1) := by decide +kernel
theorem dX11_deliver_40 : decode cX11_deliver 40 = .ok (.aload_n 2, 1) := by decide +kernel
theorem dX11_deliver_41 : decode cX11_deliver 41 = .ok (.getfield 457, 3) := by decide +kernel
theorem dX11_deliver_44 : decode cX11_deliver 44 = .ok (.invokevirtual 426, 3) := by decide +kernel
theorem dX11_deliver_47 : decode cX11_deliver 47 = .ok (.aload_n 0, 1) := by decide +kernel
theorem dX11_deliver_48 : decode cX11_deliver 48 = .ok (.getfield 19, 3) := by decide +kernel
theorem dX11_deliver_51 : decode cX11_deliver 51 = .ok (.aload_n 2, 1) := by decide +kernel
theorem dX11_deliver_52 : decode cX11_deliver 52 = .ok (.getfield 453, 3) := by decide +kernel
theorem dX11_deliver_55 : decode cX11_deliver 55 = .ok (.getfield 145, 3) := by decide +kernel
theorem dX11_deliver_58 : decode cX11_deliver 58 = .ok (.sipush 15420, 3) := by decide +kernel
theorem dX11_deliver_61 : decode cX11_deliver 61 = .ok (.invokevirtual 272, 3) := by decide +kernel
theorem dX11_deliver_64 : decode cX11_deliver 64 = .ok (.aload_n 0, 1) := by decide +kernel
theorem dX11_deliver_65 : decode cX11_deliver 65 = .ok (.getfield 19, 3) := by decide +kernel
theorem dX11_deliver_68 : decode cX11_deliver 68 = .ok (.aload_n 2, 1) := by decide +kernel
theorem dX11_deliver_69 : decode cX11_deliver 69 = .ok (.getfield 460, 3) := by decide +kernel
theorem dX11_deliver_72 : decode cX11_deliver 72 = .ok (.invokevirtual 322, 3) := by decide +kernel
theorem dX11_deliver_75 : decode cX11_deliver 75 = .ok (.aload_n 0, 1) := by decide +kernel
theorem dX11_deliver_76 : decode cX11_deliver 76 = .ok (.getfield 19, 3) := by decide +kernel
theorem dX11_deliver_79 : decode cX11_deliver 79 = .ok (.aload_n 3, 1) := by decide +kernel
theorem dX11_deliver_80 : decode cX11_deliver 80 = .ok (.invokevirtual 429, 3) := by decide +kernel
theorem dX11_deliver_83 : decode cX11_deliver 83 = .ok (.aload_n 0, 1) := by decide +kernel
theorem dX11_deliver_84 : decode cX11_deliver 84 = .ok (.getfield 19, 3) := by decide +kernel
theorem dX11_deliver_87 : decode cX11_deliver 87 = .ok (.invokevirtual 277, 3) := by decide +kernel
theorem dX11_deliver_90 : decode cX11_deliver 90 = .ok (.aload_n 0, 1) := by decide +kernel
theorem dX11_deliver_91 : decode cX11_deliver 91 = .ok (.getfield 19, 3) := by decide +kernel
theorem dX11_deliver_94 : decode cX11_deliver 94 = .ok (.aload_n 2, 1) := by decide +kernel
theorem dX11_deliver_95 : decode cX11_deliver 95 = .ok (.getfield 453, 3) := by decide +kernel
theorem dX11_deliver_98 : decode cX11_deliver 98 = .ok (.getfield 145, 3) := by decide +kernel
theorem dX11_deliver_101 : decode cX11_deliver 101 = .ok (.aload_n 3, 1) := by decide +kernel
theorem dX11_deliver_102 : decode cX11_deliver 102 = .ok (.getfield 433, 3) := by decide +kernel
theorem dX11_deliver_105 : decode cX11_deliver 105 = .ok (.invokevirtual 423, 3) := by decide +kernel
theorem dX11_deliver_108 : decode cX11_deliver 108 = .ok (.return_, 1) := by decide +kernel
def f_X11_deliver (a0 : Nat) (r1 : Option Nat) (r2 : Option Nat) (h : AH) : Option (Unit × AH) := nn r1 fun a_1 =>
  rdR h a_1 11 1 fun r_2 =>
  nn r_2 fun a_3 =>
  kg h a_3 0 (bd (f_Jx4a65c_isEmpty_aae02 a_3 h) fun x_6 h_5 =>
  (if x_6 = 0 then
    rdR h_5 a_1 11 1 fun r_7 =>
    nn r_7 fun a_8 =>
    kg h_5 a_8 0 (bd (f_Jx4a65c_remove_915e3 a_8 0 h_5) fun r_11 h_10 =>
    ckc h_10 r_11 8 (
    nn r2 fun a_12 =>
    rdI h_10 a_12 3 4 fun x_13 =>
    wrI h_10 a_1 11 2 x_13 fun h_14 =>
    rdR h_14 a_12 3 1 fun r_15 =>
    rdI h_14 a_12 3 3 fun x_16 =>
    nn r_15 fun a_17 =>
    kg h_14 a_17 2 (bd (f_X1_take a_17 r_11 x_16 h_14) fun _ h_19 =>
    rdR h_19 a0 12 1 fun r_20 =>
    rdR h_19 a_12 3 1 fun r_21 =>
    nn r_21 fun a_22 =>
    rdI h_19 a_22 2 0 fun x_23 =>
    nn r_20 fun a_24 =>
    kg h_19 a_24 10 (bd (f_X9_begin a_24 x_23 15420 h_19) fun _ h_26 =>
    rdR h_26 a0 12 1 fun r_27 =>
    rdJ h_26 a_12 3 2 fun x_28 =>
    nn r_27 fun a_29 =>
    kg h_26 a_29 10 (bd (f_X9_putName a_29 x_28 h_26) fun _ h_31 =>
    rdR h_31 a0 12 1 fun r_32 =>
    nn r_32 fun a_33 =>
    kg h_31 a_33 10 (bd (f_X9_putLetter a_33 r_11 h_31) fun _ h_35 =>
    rdR h_35 a0 12 1 fun r_36 =>
    nn r_36 fun a_37 =>
    kg h_35 a_37 10 (bd (f_X9_end a_37 h_35) fun _ h_39 =>
    rdR h_39 a0 12 1 fun r_40 =>
    rdR h_39 a_12 3 1 fun r_41 =>
    nn r_41 fun a_42 =>
    rdI h_39 a_42 2 0 fun x_43 =>
    nn r_11 fun a_44 =>
    rdR h_39 a_44 8 0 fun r_45 =>
    nn r_40 fun a_46 =>
    kg h_39 a_46 10 (bd (f_X9_putContent a_46 x_43 r_45 h_39) fun _ h_48 =>
    some ((), h_48)))))))))
  else
    some ((), h_5)))
set_option maxRecDepth 20000 in
set_option maxHeartbeats 4000000 in
theorem t_X11_deliver {Ω : Om} (a0 : Nat) (r1 : Option Nat) (r2 : Option Nat) (h : AH) (q : Unit × AH) (hf : f_X11_deliver a0 r1 r2 h = some q) : Go Ω M_X11_deliver 0 (lv_args 0 [vR Ω (some a0), vR Ω r1, vR Ω r2]) [] h none q.2 := by
  unfold f_X11_deliver at hf
  rw [la_R, la_R, la_R, la_0]
  refine go_sub (lv' := [(0, vR Ω (some a0)), (1, vR Ω r1), (2, vR Ω r2)]) [0, 1, 2] rfl ?_
  refine go_aload_n dX11_deliver_0 rfl 1 rfl ?_
  obtain ⟨a_1, rfl, hga_1⟩ := nn_some hf
  have hf := hga_1
  refine go_getR dX11_deliver_1 fl_804_0 (fun _ _ => rfl) hf (fun r_2 hf => ?_)
  obtain ⟨a_3, rfl, hga_3⟩ := nn_some hf
  have hf := hga_3
  obtain ⟨hk, hf⟩ := kg_some hf
  obtain ⟨z_4, hc, hf⟩ := bd_some hf
  refine go_callF (y2 := M_Jx4a65c_isEmpty_aae02) (x2 := ⟨"java/util/List", "isEmpty", "()Z"⟩) dX11_deliver_4 mo_Jx4a65c_isEmpty_aae02 ⟨Nat.le_of_ble_eq_true rfl, Nat.le_of_ble_eq_true rfl⟩ na_Jx4a65c_isEmpty_aae02 w867 w872 w870 (by decide) (fun U hU => hU.2.2.2.2.2.1) hk [] rfl (n_Jx4a65c_isEmpty_aae02 (a_3)) rfl (csum (Nat.le_of_ble_eq_true rfl)) (t_Jx4a65c_isEmpty_aae02 (a_3) h _ hc) ?_
  obtain ⟨x_6, h_5⟩ := z_4
  refine go_if_eq (tgt := 13) dX11_deliver_9 (by decide) hf (fun hf => ?_) (fun hf => ?_)
  · refine go_aload_n dX11_deliver_13 rfl 1 rfl ?_
    refine go_getR dX11_deliver_14 fl_804_0 (fun _ _ => rfl) hf (fun r_7 hf => ?_)
    refine go_iconst 0 dX11_deliver_17 rfl ?_
    obtain ⟨a_8, rfl, hga_8⟩ := nn_some hf
    have hf := hga_8
    obtain ⟨hk, hf⟩ := kg_some hf
    obtain ⟨z_9, hc, hf⟩ := bd_some hf
    refine go_callF (y2 := M_Jx4a65c_remove_915e3) (x2 := ⟨"java/util/List", "remove", "(I)Ljava/lang/Object;"⟩) dX11_deliver_18 mo_Jx4a65c_remove_915e3 ⟨Nat.le_of_ble_eq_true rfl, Nat.le_of_ble_eq_true rfl⟩ na_Jx4a65c_remove_915e3 w827 w681 w679 (by decide) (fun U hU => hU.2.2.2.1) hk [.int 0] rfl (n_Jx4a65c_remove_915e3 (a_8) 0) rfl (csum (Nat.le_of_ble_eq_true rfl)) (t_Jx4a65c_remove_915e3 (a_8) 0 h_5 _ hc) ?_
    obtain ⟨r_11, h_10⟩ := z_9
    refine go_cast (c := 8) dX11_deliver_23 (by decide) rfl w977 hf (fun hf => ?_)
    refine go_astore_n (i := 3) (lv' := [(3, vR Ω r_11), (0, vR Ω (some a0)), (1, vR Ω (some a_1)), (2, vR Ω r2)]) dX11_deliver_26 rfl (by decide) (by first | rfl | simp [catR, catI, catJ]) ?_
    refine go_aload_n dX11_deliver_27 rfl 2 rfl ?_
    refine go_aload_n dX11_deliver_28 rfl 3 rfl ?_
    obtain ⟨a_12, rfl, hga_12⟩ := nn_some hf
    have hf := hga_12
    refine go_getI dX11_deliver_29 fl_912_0 (fun _ _ => rfl) hf (fun x_13 hf => ?_)
    refine go_putI dX11_deliver_32 fl_806_0 (fun q hq => by cases hq; exact Or.inl rfl) (fun _ _ => rfl) rfl hf (fun h_14 hf => ?_)
    refine go_aload_n dX11_deliver_35 rfl 3 rfl ?_
    refine go_getR dX11_deliver_36 fl_904_0 (fun _ _ => rfl) hf (fun r_15 hf => ?_)
    refine go_aload_n dX11_deliver_39 rfl 0 rfl ?_
    refine go_aload_n dX11_deliver_40 rfl 3 rfl ?_
    refine go_getI dX11_deliver_41 fl_909_0 (fun _ _ => rfl) hf (fun x_16 hf => ?_)
    obtain ⟨a_17, rfl, hga_17⟩ := nn_some hf
    have hf := hga_17
    obtain ⟨hk, hf⟩ := kg_some hf
    obtain ⟨z_18, hc, hf⟩ := bd_some hf
    refine go_callV (y2 := M_X1_take) (c2 := 2) dX11_deliver_44 mo_X1_take ⟨Nat.le_of_ble_eq_true rfl, Nat.le_of_ble_eq_true rfl⟩ na_X1_take w978 w979 (by decide) rfl w980 hk [vR Ω r_11, .int x_16] rfl (n_X1_take (a_17) r_11 x_16) rfl (csum (Nat.le_of_ble_eq_true rfl)) (t_X1_take (a_17) r_11 x_16 h_14 _ hc) ?_
    obtain ⟨_, h_19⟩ := z_18
    refine go_aload_n dX11_deliver_47 rfl 1 rfl ?_
    refine go_getR dX11_deliver_48 fl_389_0 (fun _ _ => rfl) hf (fun r_20 hf => ?_)
    refine go_aload_n dX11_deliver_51 rfl 3 rfl ?_
    refine go_getR dX11_deliver_52 fl_904_0 (fun _ _ => rfl) hf (fun r_21 hf => ?_)
    obtain ⟨a_22, rfl, hga_22⟩ := nn_some hf
    have hf := hga_22
    refine go_getI dX11_deliver_55 fl_349_0 (fun _ _ => rfl) hf (fun x_23 hf => ?_)
    refine go_sipush 15420 dX11_deliver_58 (by decide) ?_
    obtain ⟨a_24, rfl, hga_24⟩ := nn_some hf
    have hf := hga_24
    obtain ⟨hk, hf⟩ := kg_some hf
    obtain ⟨z_25, hc, hf⟩ := bd_some hf
    refine go_callV (y2 := M_X9_begin) (c2 := 10) dX11_deliver_61 mo_X9_begin ⟨Nat.le_of_ble_eq_true rfl, Nat.le_of_ble_eq_true rfl⟩ na_X9_begin w586 w435 (by decide) rfl w436 hk [.int x_23, .int 15420] rfl (n_X9_begin (a_24) x_23 15420) rfl (csum (Nat.le_of_ble_eq_true rfl)) (t_X9_begin (a_24) x_23 15420 h_19 _ hc) ?_
    obtain ⟨_, h_26⟩ := z_25
    refine go_aload_n dX11_deliver_64 rfl 1 rfl ?_
    refine go_getR dX11_deliver_65 fl_389_0 (fun _ _ => rfl) hf (fun r_27 hf => ?_)
    refine go_aload_n dX11_deliver_68 rfl 3 rfl ?_
    refine go_getJ dX11_deliver_69 fl_907_0 (fun _ _ => rfl) hf (fun x_28 hf => ?_)
    obtain ⟨a_29, rfl, hga_29⟩ := nn_some hf
    have hf := hga_29
    obtain ⟨hk, hf⟩ := kg_some hf
    obtain ⟨z_30, hc, hf⟩ := bd_some hf
    refine go_callV (y2 := M_X9_putName) (c2 := 10) dX11_deliver_72 mo_X9_putName ⟨Nat.le_of_ble_eq_true rfl, Nat.le_of_ble_eq_true rfl⟩ na_X9_putName w591 w592 (by decide) rfl w593 hk [.long x_28] rfl (n_X9_putName (a_29) x_28) rfl (csum (Nat.le_of_ble_eq_true rfl)) (t_X9_putName (a_29) x_28 h_26 _ hc) ?_
    obtain ⟨_, h_31⟩ := z_30
    refine go_aload_n dX11_deliver_75 rfl 1 rfl ?_
    refine go_getR dX11_deliver_76 fl_389_0 (fun _ _ => rfl) hf (fun r_32 hf => ?_)
    refine go_aload_n dX11_deliver_79 rfl 0 rfl ?_
    obtain ⟨a_33, rfl, hga_33⟩ := nn_some hf
    have hf := hga_33
    obtain ⟨hk, hf⟩ := kg_some hf
    obtain ⟨z_34, hc, hf⟩ := bd_some hf
    refine go_callV (y2 := M_X9_putLetter) (c2 := 10) dX11_deliver_80 mo_X9_putLetter ⟨Nat.le_of_ble_eq_true rfl, Nat.le_of_ble_eq_true rfl⟩ na_X9_putLetter w984 w985 (by decide) rfl w986 hk [vR Ω r_11] rfl (n_X9_putLetter (a_33) r_11) rfl (csum (Nat.le_of_ble_eq_true rfl)) (t_X9_putLetter (a_33) r_11 h_31 _ hc) ?_
    obtain ⟨_, h_35⟩ := z_34
    refine go_aload_n dX11_deliver_83 rfl 1 rfl ?_
    refine go_getR dX11_deliver_84 fl_389_0 (fun _ _ => rfl) hf (fun r_36 hf => ?_)
    obtain ⟨a_37, rfl, hga_37⟩ := nn_some hf
    have hf := hga_37
    obtain ⟨hk, hf⟩ := kg_some hf
    obtain ⟨z_38, hc, hf⟩ := bd_some hf
    refine go_callV (y2 := M_X9_end) (c2 := 10) dX11_deliver_87 mo_X9_end ⟨Nat.le_of_ble_eq_true rfl, Nat.le_of_ble_eq_true rfl⟩ na_X9_end w595 w443 (by decide) rfl w444 hk [] rfl (n_X9_end (a_37)) rfl (csum (Nat.le_of_ble_eq_true rfl)) (t_X9_end (a_37) h_35 _ hc) ?_
    obtain ⟨_, h_39⟩ := z_38
    refine go_aload_n dX11_deliver_90 rfl 1 rfl ?_
    refine go_getR dX11_deliver_91 fl_389_0 (fun _ _ => rfl) hf (fun r_40 hf => ?_)
    refine go_aload_n dX11_deliver_94 rfl 3 rfl ?_
    refine go_getR dX11_deliver_95 fl_904_0 (fun _ _ => rfl) hf (fun r_41 hf => ?_)
    obtain ⟨a_42, rfl, hga_42⟩ := nn_some hf
    have hf := hga_42
    refine go_getI dX11_deliver_98 fl_349_0 (fun _ _ => rfl) hf (fun x_43 hf => ?_)
    refine go_aload_n dX11_deliver_101 rfl 0 rfl ?_
    obtain ⟨a_44, rfl, hga_44⟩ := nn_some hf
    have hf := hga_44
    refine go_getR dX11_deliver_102 fl_612_0 (fun _ _ => rfl) hf (fun r_45 hf => ?_)
    obtain ⟨a_46, rfl, hga_46⟩ := nn_some hf
    have hf := hga_46
    obtain ⟨hk, hf⟩ := kg_some hf
    obtain ⟨z_47, hc, hf⟩ := bd_some hf
    refine go_callV (y2 := M_X9_putContent) (c2 := 10) dX11_deliver_105 mo_X9_putContent ⟨Nat.le_of_ble_eq_true rfl, Nat.le_of_ble_eq_true rfl⟩ na_X9_putContent w596 w597 (by decide) rfl w598 hk [.int x_43, vR Ω r_45] rfl (n_X9_putContent (a_46) x_43 r_45) rfl (csum (Nat.le_of_ble_eq_true rfl)) (t_X9_putContent (a_46) x_43 r_45 h_39 _ hc) ?_
    obtain ⟨_, h_48⟩ := z_47
    exact go_return dX11_deliver_108 rfl hf
  · exact go_return dX11_deliver_12 rfl hf
-- LetterBroker$Consumer.isWilling()Z
theorem dX2_isWilling_0 : decode cX2_isWilling 0 = .ok (.aload_n 0, 1) := by decide +kernel
theorem dX2_isWilling_1 : decode cX2_isWilling 1 = .ok (.getfield 13, 3) := by decide +kernel
theorem dX2_isWilling_4 : decode cX2_isWilling 4 = .ok (.getfield 29, 3) := by decide +kernel
theorem dX2_isWilling_7 : decode cX2_isWilling 7 = .ok (.ifCond .eq 46, 3) := by decide +kernel
theorem dX2_isWilling_10 : decode cX2_isWilling 10 = .ok (.aload_n 0, 1) := by decide +kernel
theorem dX2_isWilling_11 : decode cX2_isWilling 11 = .ok (.getfield 21, 3) := by decide +kernel
theorem dX2_isWilling_14 : decode cX2_isWilling 14 = .ok (.ifCond .ne 35, 3) := by decide +kernel
theorem dX2_isWilling_17 : decode cX2_isWilling 17 = .ok (.aload_n 0, 1) := by decide +kernel
theorem dX2_isWilling_18 : decode cX2_isWilling 18 = .ok (.getfield 13, 3) := by decide +kernel
theorem dX2_isWilling_21 : decode cX2_isWilling 21 = .ok (.getfield 34, 3) := by decide +kernel
theorem dX2_isWilling_24 : decode cX2_isWilling 24 = .ok (.ifCond .eq 25, 3) := by decide +kernel
theorem dX2_isWilling_27 : decode cX2_isWilling 27 = .ok (.aload_n 0, 1) := by decide +kernel
theorem dX2_isWilling_28 : decode cX2_isWilling 28 = .ok (.getfield 13, 3) := by decide +kernel
theorem dX2_isWilling_31 : decode cX2_isWilling 31 = .ok (.getfield 37, 3) := by decide +kernel
theorem dX2_isWilling_34 : decode cX2_isWilling 34 = .ok (.invokeinterface 41 1, 5) := by decide +kernel
theorem dX2_isWilling_39 : decode cX2_isWilling 39 = .ok (.aload_n 0, 1) := by decide +kernel
theorem dX2_isWilling_40 : decode cX2_isWilling 40 = .ok (.getfield 13, 3) := by decide +kernel
theorem dX2_isWilling_43 : decode cX2_isWilling 43 = .ok (.getfield 34, 3) := by decide +kernel
theorem dX2_isWilling_46 : decode cX2_isWilling 46 = .ok (.if_icmp .ge 7, 3) := by decide +kernel
theorem dX2_isWilling_49 : decode cX2_isWilling 49 = .ok (.iconst 1, 1) := by decide +kernel
theorem dX2_isWilling_50 : decode cX2_isWilling 50 = .ok (.goto 4, 3) := by decide +kernel
theorem dX2_isWilling_53 : decode cX2_isWilling 53 = .ok (.iconst 0, 1) := by decide +kernel
theorem dX2_isWilling_54 : decode cX2_isWilling 54 = .ok (.ireturn, 1) := by decide +kernel
def f_X2_isWilling (a0 : Nat) (h : AH) : Option (Int32 × AH) := rdR h a0 3 1 fun r_1 =>
  nn r_1 fun a_2 =>
  rdI h a_2 2 5 fun x_3 =>
  (if x_3 = 0 then
    rz 0 (some (0, h))
  else
    rdI h a0 3 3 fun x_4 =>
    (if x_4 = 0 then
      rdR h a0 3 1 fun r_5 =>
      nn r_5 fun a_6 =>
      rdI h a_6 2 4 fun x_7 =>
      (if x_7 = 0 then
        rz 1 (some (1, h))
      else
        rdR h a0 3 1 fun r_8 =>
        nn r_8 fun a_9 =>
        rdR h a_9 2 1 fun r_10 =>
        nn r_10 fun a_11 =>
        kg h a_11 0 (bd (f_Jx4a65c_size_8abf5 a_11 h) fun x_14 h_13 =>
        rdR h_13 a0 3 1 fun r_15 =>
        nn r_15 fun a_16 =>
        rdI h_13 a_16 2 4 fun x_17 =>
        (if x_17 ≤ x_14 then
          rz 0 (some (0, h_13))
        else
          rz 1 (some (1, h_13)))))
    else
      rz 1 (some (1, h))))
set_option maxRecDepth 20000 in
set_option maxHeartbeats 4000000 in
theorem t_X2_isWilling {Ω : Om} (a0 : Nat) (h : AH) (q : Int32 × AH) (hf : f_X2_isWilling a0 h = some q) : Go Ω M_X2_isWilling 0 (lv_args 0 [vR Ω (some a0)]) [] h (some (.int q.1)) q.2 := by
  unfold f_X2_isWilling at hf
  rw [la_R, la_0]
  refine go_sub (lv' := [(0, vR Ω (some a0))]) [0] rfl ?_
  refine go_aload_n dX2_isWilling_0 rfl 0 rfl ?_
  refine go_getR dX2_isWilling_1 fl_902_0 (fun _ _ => rfl) hf (fun r_1 hf => ?_)
  obtain ⟨a_2, rfl, hga_2⟩ := nn_some hf
  have hf := hga_2
  refine go_getI dX2_isWilling_4 fl_360_0 (fun _ _ => rfl) hf (fun x_3 hf => ?_)
  refine go_if_eq (tgt := 53) dX2_isWilling_7 (by decide) hf (fun hf => ?_) (fun hf => ?_)
  · refine go_iconst 0 dX2_isWilling_53 rfl ?_
    exact go_zreturn dX2_isWilling_54 rfl hf
  · refine go_aload_n dX2_isWilling_10 rfl 0 rfl ?_
    refine go_getI dX2_isWilling_11 fl_908_0 (fun _ _ => rfl) hf (fun x_4 hf => ?_)
    refine go_if_ne (tgt := 49) dX2_isWilling_14 (by decide) hf (fun hf => ?_) (fun hf => ?_)
    · refine go_iconst 1 dX2_isWilling_49 rfl ?_
      refine go_goto (tgt := 54) dX2_isWilling_50 (by decide) ?_
      exact go_zreturn dX2_isWilling_54 rfl hf
    · refine go_aload_n dX2_isWilling_17 rfl 0 rfl ?_
      refine go_getR dX2_isWilling_18 fl_902_0 (fun _ _ => rfl) hf (fun r_5 hf => ?_)
      obtain ⟨a_6, rfl, hga_6⟩ := nn_some hf
      have hf := hga_6
      refine go_getI dX2_isWilling_21 fl_358_0 (fun _ _ => rfl) hf (fun x_7 hf => ?_)
      refine go_if_eq (tgt := 49) dX2_isWilling_24 (by decide) hf (fun hf => ?_) (fun hf => ?_)
      · refine go_iconst 1 dX2_isWilling_49 rfl ?_
        refine go_goto (tgt := 54) dX2_isWilling_50 (by decide) ?_
        exact go_zreturn dX2_isWilling_54 rfl hf
      · refine go_aload_n dX2_isWilling_27 rfl 0 rfl ?_
        refine go_getR dX2_isWilling_28 fl_902_0 (fun _ _ => rfl) hf (fun r_8 hf => ?_)
        obtain ⟨a_9, rfl, hga_9⟩ := nn_some hf
        have hf := hga_9
        refine go_getR dX2_isWilling_31 fl_351_0 (fun _ _ => rfl) hf (fun r_10 hf => ?_)
        obtain ⟨a_11, rfl, hga_11⟩ := nn_some hf
        have hf := hga_11
        obtain ⟨hk, hf⟩ := kg_some hf
        obtain ⟨z_12, hc, hf⟩ := bd_some hf
        refine go_callF (y2 := M_Jx4a65c_size_8abf5) (x2 := ⟨"java/util/List", "size", "()I"⟩) dX2_isWilling_34 mo_Jx4a65c_size_8abf5 ⟨Nat.le_of_ble_eq_true rfl, Nat.le_of_ble_eq_true rfl⟩ na_Jx4a65c_size_8abf5 w1076 w522 w520 (by decide) (fun U hU => hU.2.2.2.2.1) hk [] rfl (n_Jx4a65c_size_8abf5 (a_11)) rfl (csum (Nat.le_of_ble_eq_true rfl)) (t_Jx4a65c_size_8abf5 (a_11) h _ hc) ?_
        obtain ⟨x_14, h_13⟩ := z_12
        refine go_aload_n dX2_isWilling_39 rfl 0 rfl ?_
        refine go_getR dX2_isWilling_40 fl_902_0 (fun _ _ => rfl) hf (fun r_15 hf => ?_)
        obtain ⟨a_16, rfl, hga_16⟩ := nn_some hf
        have hf := hga_16
        refine go_getI dX2_isWilling_43 fl_358_0 (fun _ _ => rfl) hf (fun x_17 hf => ?_)
        refine go_icmp_ge (tgt := 53) dX2_isWilling_46 (by decide) hf (fun hf => ?_) (fun hf => ?_)
        · refine go_iconst 0 dX2_isWilling_53 rfl ?_
          exact go_zreturn dX2_isWilling_54 rfl hf
        · refine go_iconst 1 dX2_isWilling_49 rfl ?_
          refine go_goto (tgt := 54) dX2_isWilling_50 (by decide) ?_
          exact go_zreturn dX2_isWilling_54 rfl hf
-- LetterBroker$Office.nextConsumerOf(LLetterBroker$Queue;)LLetterBroker$Consumer;
theorem dX8_nextConsumerOf_0 : decode cX8_nextConsumerOf 0 = .ok (.aconst_null, 1) := by decide +kernel
theorem dX8_nextConsumerOf_1 : decode cX8_nextConsumerOf 1 = .ok (.astore_n 2, 1) := by decide +kernel
theorem dX8_nextConsumerOf_2 : decode cX8_nextConsumerOf 2 = .ok (.iconst 0, 1) := by decide +kernel
theorem dX8_nextConsumerOf_3 : decode cX8_nextConsumerOf 3 = .ok (.istore_n 3, 1) := by decide +kernel
theorem dX8_nextConsumerOf_4 : decode cX8_nextConsumerOf 4 = .ok (.iload_n 3, 1) := by decide +kernel
theorem dX8_nextConsumerOf_5 : decode cX8_nextConsumerOf 5 = .ok (.aload_n 0, 1) := by decide +kernel
theorem dX8_nextConsumerOf_6 : decode cX8_nextConsumerOf 6 = .ok (.getfield 24, 3) := by decide +kernel
theorem dX8_nextConsumerOf_9 : decode cX8_nextConsumerOf 9 = .ok (.invokeinterface 38 1, 5) := by decide +kernel
theorem dX8_nextConsumerOf_14 : decode cX8_nextConsumerOf 14 = .ok (.if_icmp .ge 67, 3) := by decide +kernel
theorem dX8_nextConsumerOf_17 : decode cX8_nextConsumerOf 17 = .ok (.aload_n 0, 1) := by decide +kernel
theorem dX8_nextConsumerOf_18 : decode cX8_nextConsumerOf 18 = .ok (.getfield 24, 3) := by decide +kernel
theorem dX8_nextConsumerOf_21 : decode cX8_nextConsumerOf 21 = .ok (.iload_n 3, 1) := by decide +kernel
theorem dX8_nextConsumerOf_22 : decode cX8_nextConsumerOf 22 = .ok (.invokeinterface 42 2, 5) := by decide +kernel
theorem dX8_nextConsumerOf_27 : decode cX8_nextConsumerOf 27 = .ok (.checkcast 66, 3) := by decide +kernel
theorem dX8_nextConsumerOf_30 : decode cX8_nextConsumerOf 30 = .ok (.astore 4, 2) := by decide +kernel
theorem dX8_nextConsumerOf_32 : decode cX8_nextConsumerOf 32 = .ok (.aload 4, 2) := by decide +kernel
theorem dX8_nextConsumerOf_34 : decode cX8_nextConsumerOf 34 = .ok (.getfield 75, 3) := by decide +kernel
theorem dX8_nextConsumerOf_37 : decode cX8_nextConsumerOf 37 = .ok (.aload_n 1, 1) := by decide +kernel
theorem dX8_nextConsumerOf_38 : decode cX8_nextConsumerOf 38 = .ok (.if_acmp .ne 37, 3) := by decide +kernel
theorem dX8_nextConsumerOf_41 : decode cX8_nextConsumerOf 41 = .ok (.aload 4, 2) := by decide +kernel
theorem dX8_nextConsumerOf_43 : decode cX8_nextConsumerOf 43 = .ok (.invokevirtual 89, 3) := by decide +kernel
theorem dX8_nextConsumerOf_46 : decode cX8_nextConsumerOf 46 = .ok (.ifCond .eq 29, 3) := by decide +kernel
theorem dX8_nextConsumerOf_49 : decode cX8_nextConsumerOf 49 = .ok (.aload 4, 2) := by decide +kernel
theorem dX8_nextConsumerOf_51 : decode cX8_nextConsumerOf 51 = .ok (.getfield 93, 3) := by decide +kernel
theorem dX8_nextConsumerOf_54 : decode cX8_nextConsumerOf 54 = .ok (.aload_n 1, 1) := by decide +kernel
theorem dX8_nextConsumerOf_55 : decode cX8_nextConsumerOf 55 = .ok (.getfield 96, 3) := by decide +kernel
theorem dX8_nextConsumerOf_58 : decode cX8_nextConsumerOf 58 = .ok (.if_icmp .le 6, 3) := by decide +kernel
theorem dX8_nextConsumerOf_61 : decode cX8_nextConsumerOf 61 = .ok (.aload 4, 2) := by decide +kernel
theorem dX8_nextConsumerOf_63 : decode cX8_nextConsumerOf 63 = .ok (.areturn, 1) := by decide +kernel
theorem dX8_nextConsumerOf_64 : decode cX8_nextConsumerOf 64 = .ok (.aload_n 2, 1) := by decide +kernel
theorem dX8_nextConsumerOf_65 : decode cX8_nextConsumerOf 65 = .ok (.ifnonnull 8, 3) := by decide +kernel
theorem dX8_nextConsumerOf_68 : decode cX8_nextConsumerOf 68 = .ok (.aload 4, 2) := by decide +kernel
theorem dX8_nextConsumerOf_70 : decode cX8_nextConsumerOf 70 = .ok (.goto 4, 3) := by decide +kernel
theorem dX8_nextConsumerOf_73 : decode cX8_nextConsumerOf 73 = .ok (.aload_n 2, 1) := by decide +kernel
theorem dX8_nextConsumerOf_74 : decode cX8_nextConsumerOf 74 = .ok (.astore_n 2, 1) := by decide +kernel
theorem dX8_nextConsumerOf_75 : decode cX8_nextConsumerOf 75 = .ok (.iinc 3 1, 3) := by decide +kernel
theorem dX8_nextConsumerOf_78 : decode cX8_nextConsumerOf 78 = .ok (.goto (-74), 3) := by decide +kernel
theorem dX8_nextConsumerOf_81 : decode cX8_nextConsumerOf 81 = .ok (.aload_n 2, 1) := by decide +kernel
theorem dX8_nextConsumerOf_82 : decode cX8_nextConsumerOf 82 = .ok (.areturn, 1) := by decide +kernel
def f_X8_nextConsumerOf_75 (k4 : Nat → Option Nat → Option Nat → Int32 → AH → Option (Option Nat × AH)) (a0 : Nat) (r1 : Option Nat) (r2 : Option Nat) (x3 : Int32) (h : AH) : Option (Option Nat × AH) := k4 a0 r1 r2 (x3 + 1) h
set_option maxRecDepth 20000 in
set_option maxHeartbeats 4000000 in
theorem t_X8_nextConsumerOf_75 {Ω : Om} {k4 : Nat → Option Nat → Option Nat → Int32 → AH → Option (Option Nat × AH)} (c4 : ∀ (a0 : Nat) (r1 : Option Nat) (r2 : Option Nat) (x3 : Int32) (h : AH) (q : Option Nat × AH), k4 a0 r1 r2 x3 h = some q → Go Ω M_X8_nextConsumerOf 4 [(0, vR Ω (some a0)), (1, vR Ω r1), (2, vR Ω r2), (3, .int x3)] [] h (some (vR Ω q.1)) q.2) (a0 : Nat) (r1 : Option Nat) (r2 : Option Nat) (x3 : Int32) (h : AH) (q : Option Nat × AH) (hf : f_X8_nextConsumerOf_75 k4 a0 r1 r2 x3 h = some q) : Go Ω M_X8_nextConsumerOf 75 [(0, vR Ω (some a0)), (1, vR Ω r1), (2, vR Ω r2), (3, .int x3)] [] h (some (vR Ω q.1)) q.2 := by
  unfold f_X8_nextConsumerOf_75 at hf
  refine go_iinc (j := 3) (v := x3 + 1) (lv' := [(3, .int (x3 + 1)), (0, vR Ω (some a0)), (1, vR Ω r1), (2, vR Ω r2)]) dX8_nextConsumerOf_75 rfl rfl (by decide) (by first | rfl | simp [catR, catI, catJ]) ?_
  refine go_goto (tgt := 4) dX8_nextConsumerOf_78 (by decide) ?_
  refine go_sub (lv' := [(0, vR Ω (some a0)), (1, vR Ω r1), (2, vR Ω r2), (3, .int (x3 + 1))]) [1, 2, 3, 0] rfl ?_
  exact c4 a0 r1 r2 (x3 + 1) h q hf
def f_X8_nextConsumerOf_74 (k4 : Nat → Option Nat → Option Nat → Int32 → AH → Option (Option Nat × AH)) (a0 : Nat) (r1 : Option Nat) (x3 : Int32) (s0 : Option Nat) (h : AH) : Option (Option Nat × AH) := f_X8_nextConsumerOf_75 k4 a0 r1 s0 x3 h
set_option maxRecDepth 20000 in
set_option maxHeartbeats 4000000 in
theorem t_X8_nextConsumerOf_74 {Ω : Om} {k4 : Nat → Option Nat → Option Nat → Int32 → AH → Option (Option Nat × AH)} (c4 : ∀ (a0 : Nat) (r1 : Option Nat) (r2 : Option Nat) (x3 : Int32) (h : AH) (q : Option Nat × AH), k4 a0 r1 r2 x3 h = some q → Go Ω M_X8_nextConsumerOf 4 [(0, vR Ω (some a0)), (1, vR Ω r1), (2, vR Ω r2), (3, .int x3)] [] h (some (vR Ω q.1)) q.2) (a0 : Nat) (r1 : Option Nat) (x3 : Int32) (s0 : Option Nat) (h : AH) (q : Option Nat × AH) (hf : f_X8_nextConsumerOf_74 k4 a0 r1 x3 s0 h = some q) : Go Ω M_X8_nextConsumerOf 74 [(0, vR Ω (some a0)), (1, vR Ω r1), (3, .int x3)] [vR Ω s0] h (some (vR Ω q.1)) q.2 := by
  unfold f_X8_nextConsumerOf_74 at hf
  refine go_astore_n (i := 2) (lv' := [(2, vR Ω s0), (0, vR Ω (some a0)), (1, vR Ω r1), (3, .int x3)]) dX8_nextConsumerOf_74 rfl (by decide) (by first | rfl | simp [catR, catI, catJ]) ?_
  refine go_sub (lv' := [(0, vR Ω (some a0)), (1, vR Ω r1), (2, vR Ω s0), (3, .int x3)]) [1, 2, 0, 3] rfl ?_
  exact t_X8_nextConsumerOf_75 c4 a0 r1 s0 x3 h q hf
def f_X8_nextConsumerOf_4 : Nat → Nat → Option Nat → Option Nat → Int32 → AH → Option (Option Nat × AH)
  | 0, _, _, _, _, _ => none
  | n + 1, a0, r1, r2, x3, h => rdR h a0 9 3 fun r_1 =>
    nn r_1 fun a_2 =>
    kg h a_2 0 (bd (f_Jx4a65c_size_8abf5 a_2 h) fun x_5 h_4 =>
    (if x_5 ≤ x3 then
      some (r2, h_4)
    else
      rdR h_4 a0 9 3 fun r_6 =>
      nn r_6 fun a_7 =>
      kg h_4 a_7 0 (bd (f_Jx4a65c_get_915e3 a_7 x3 h_4) fun r_10 h_9 =>
      ckc h_9 r_10 3 (
      nn r_10 fun a_11 =>
      rdR h_9 a_11 3 0 fun r_12 =>
      aq r_12 r1
        (kg h_9 a_11 3 (bd (f_X2_isWilling a_11 h_9) fun x_15 h_14 =>
        (if x_15 = 0 then
          f_X8_nextConsumerOf_75 (fun a0 r1 r2 x3 h => f_X8_nextConsumerOf_4 n a0 r1 r2 x3 h) a0 r1 r2 x3 h_14
        else
          rdI h_14 a_11 3 4 fun x_16 =>
          nn r1 fun a_17 =>
          rdI h_14 a_17 11 2 fun x_18 =>
          (if x_16 ≤ x_18 then
            nb r2
              (f_X8_nextConsumerOf_74 (fun a0 r1 r2 x3 h => f_X8_nextConsumerOf_4 n a0 r1 r2 x3 h) a0 (some a_17) x3 (some a_11) h_14)
              (fun a_19 => f_X8_nextConsumerOf_74 (fun a0 r1 r2 x3 h => f_X8_nextConsumerOf_4 n a0 r1 r2 x3 h) a0 (some a_17) x3 (some a_19) h_14)
          else
            some ((some a_11), h_14)))))
        (f_X8_nextConsumerOf_75 (fun a0 r1 r2 x3 h => f_X8_nextConsumerOf_4 n a0 r1 r2 x3 h) a0 r1 r2 x3 h_9)))))
set_option maxRecDepth 20000 in
set_option maxHeartbeats 4000000 in
theorem t_X8_nextConsumerOf_4 {Ω : Om} : ∀ (n : Nat) (a0 : Nat) (r1 : Option Nat) (r2 : Option Nat) (x3 : Int32) (h : AH) (q : Option Nat × AH), f_X8_nextConsumerOf_4 n a0 r1 r2 x3 h = some q → Go Ω M_X8_nextConsumerOf 4 [(0, vR Ω (some a0)), (1, vR Ω r1), (2, vR Ω r2), (3, .int x3)] [] h (some (vR Ω q.1)) q.2 := by
  intro n
  induction n with
  | zero => intro a0 r1 r2 x3 h q hf; cases hf
  | succ n ih =>
    intro a0 r1 r2 x3 h q hf
    rw [f_X8_nextConsumerOf_4] at hf
    refine go_iload_n dX8_nextConsumerOf_4 rfl 3 rfl ?_
    refine go_aload_n dX8_nextConsumerOf_5 rfl 0 rfl ?_
    refine go_getR dX8_nextConsumerOf_6 fl_322_0 (fun _ _ => rfl) hf (fun r_1 hf => ?_)
    obtain ⟨a_2, rfl, hga_2⟩ := nn_some hf
    have hf := hga_2
    obtain ⟨hk, hf⟩ := kg_some hf
    obtain ⟨z_3, hc, hf⟩ := bd_some hf
    refine go_callF (y2 := M_Jx4a65c_size_8abf5) (x2 := ⟨"java/util/List", "size", "()I"⟩) dX8_nextConsumerOf_9 mo_Jx4a65c_size_8abf5 ⟨Nat.le_of_ble_eq_true rfl, Nat.le_of_ble_eq_true rfl⟩ na_Jx4a65c_size_8abf5 w536 w522 w520 (by decide) (fun U hU => hU.2.2.2.2.1) hk [] rfl (n_Jx4a65c_size_8abf5 (a_2)) rfl (csum (Nat.le_of_ble_eq_true rfl)) (t_Jx4a65c_size_8abf5 (a_2) h _ hc) ?_
    obtain ⟨x_5, h_4⟩ := z_3
    refine go_icmp_ge (tgt := 81) dX8_nextConsumerOf_14 (by decide) hf (fun hf => ?_) (fun hf => ?_)
    · refine go_aload_n dX8_nextConsumerOf_81 rfl 2 rfl ?_
      exact go_areturn dX8_nextConsumerOf_82 rfl (Or.inl ⟨_, rfl⟩) hf
    · refine go_aload_n dX8_nextConsumerOf_17 rfl 0 rfl ?_
      refine go_getR dX8_nextConsumerOf_18 fl_322_0 (fun _ _ => rfl) hf (fun r_6 hf => ?_)
      refine go_iload_n dX8_nextConsumerOf_21 rfl 3 rfl ?_
      obtain ⟨a_7, rfl, hga_7⟩ := nn_some hf
      have hf := hga_7
      obtain ⟨hk, hf⟩ := kg_some hf
      obtain ⟨z_8, hc, hf⟩ := bd_some hf
      refine go_callF (y2 := M_Jx4a65c_get_915e3) (x2 := ⟨"java/util/List", "get", "(I)Ljava/lang/Object;"⟩) dX8_nextConsumerOf_22 mo_Jx4a65c_get_915e3 ⟨Nat.le_of_ble_eq_true rfl, Nat.le_of_ble_eq_true rfl⟩ na_Jx4a65c_get_915e3 w538 w543 w541 (by decide) (fun U hU => hU.2.2.1) hk [.int x3] rfl (n_Jx4a65c_get_915e3 (a_7) x3) rfl (csum (Nat.le_of_ble_eq_true rfl)) (t_Jx4a65c_get_915e3 (a_7) x3 h_4 _ hc) ?_
      obtain ⟨r_10, h_9⟩ := z_8
      refine go_cast (c := 3) dX8_nextConsumerOf_27 (by decide) rfl w674 hf (fun hf => ?_)
      refine go_astore (i := 4) (lv' := [(4, vR Ω r_10), (0, vR Ω (some a0)), (1, vR Ω r1), (2, vR Ω r2), (3, .int x3)]) dX8_nextConsumerOf_30 (by decide) (by first | rfl | simp [catR, catI, catJ]) ?_
      refine go_aload dX8_nextConsumerOf_32 0 rfl ?_
      obtain ⟨a_11, rfl, hga_11⟩ := nn_some hf
      have hf := hga_11
      refine go_getR dX8_nextConsumerOf_34 fl_901_0 (fun _ _ => rfl) hf (fun r_12 hf => ?_)
      refine go_aload_n dX8_nextConsumerOf_37 rfl 2 rfl ?_
      refine go_acmp_ne (tgt := 75) dX8_nextConsumerOf_38 (by decide) hf (fun hf => ?_) (fun hf => ?_)
      · refine go_sub (lv' := [(0, vR Ω (some a0)), (1, vR Ω r1), (2, vR Ω r2), (3, .int x3)]) [1, 2, 3, 4] rfl ?_
        exact t_X8_nextConsumerOf_75 ih a0 r1 r2 x3 h_9 q hf
      · refine go_aload dX8_nextConsumerOf_41 0 rfl ?_
        obtain ⟨hk, hf⟩ := kg_some hf
        obtain ⟨z_13, hc, hf⟩ := bd_some hf
        refine go_callV (y2 := M_X2_isWilling) (c2 := 3) dX8_nextConsumerOf_43 mo_X2_isWilling ⟨Nat.le_of_ble_eq_true rfl, Nat.le_of_ble_eq_true rfl⟩ na_X2_isWilling w1071 w1072 (by decide) rfl w1073 hk [] rfl (n_X2_isWilling (a_11)) rfl (csum (Nat.le_of_ble_eq_true rfl)) (t_X2_isWilling (a_11) h_9 _ hc) ?_
        obtain ⟨x_15, h_14⟩ := z_13
        refine go_if_eq (tgt := 75) dX8_nextConsumerOf_46 (by decide) hf (fun hf => ?_) (fun hf => ?_)
        · refine go_sub (lv' := [(0, vR Ω (some a0)), (1, vR Ω r1), (2, vR Ω r2), (3, .int x3)]) [1, 2, 3, 4] rfl ?_
          exact t_X8_nextConsumerOf_75 ih a0 r1 r2 x3 h_14 q hf
        · refine go_aload dX8_nextConsumerOf_49 0 rfl ?_
          refine go_getI dX8_nextConsumerOf_51 fl_911_0 (fun _ _ => rfl) hf (fun x_16 hf => ?_)
          refine go_aload_n dX8_nextConsumerOf_54 rfl 2 rfl ?_
          obtain ⟨a_17, rfl, hga_17⟩ := nn_some hf
          have hf := hga_17
          refine go_getI dX8_nextConsumerOf_55 fl_805_0 (fun _ _ => rfl) hf (fun x_18 hf => ?_)
          refine go_icmp_le (tgt := 64) dX8_nextConsumerOf_58 (by decide) hf (fun hf => ?_) (fun hf => ?_)
          · refine go_aload_n dX8_nextConsumerOf_64 rfl 3 rfl ?_
            refine go_ifnonnull (x := r2) (tgt := 73) dX8_nextConsumerOf_65 (by decide) hf ?_ ?_
            · rintro rfl hf
              refine go_aload dX8_nextConsumerOf_68 0 rfl ?_
              refine go_goto (tgt := 74) dX8_nextConsumerOf_70 (by decide) ?_
              refine go_sub (lv' := [(0, vR Ω (some a0)), (1, vR Ω (some a_17)), (3, .int x3)]) [1, 2, 4] rfl ?_
              exact t_X8_nextConsumerOf_74 ih a0 (some a_17) x3 (some a_11) h_14 q hf
            · rintro a_19 rfl hf
              refine go_aload_n dX8_nextConsumerOf_73 rfl 3 rfl ?_
              refine go_sub (lv' := [(0, vR Ω (some a0)), (1, vR Ω (some a_17)), (3, .int x3)]) [1, 2, 4] rfl ?_
              exact t_X8_nextConsumerOf_74 ih a0 (some a_17) x3 (some a_19) h_14 q hf
          · refine go_aload dX8_nextConsumerOf_61 0 rfl ?_
            exact go_areturn dX8_nextConsumerOf_63 rfl (Or.inl ⟨_, rfl⟩) hf
def f_X8_nextConsumerOf (a0 : Nat) (r1 : Option Nat) (h : AH) : Option (Option Nat × AH) := f_X8_nextConsumerOf_4 FU a0 r1 none 0 h
set_option maxRecDepth 20000 in
set_option maxHeartbeats 4000000 in
theorem t_X8_nextConsumerOf {Ω : Om} (a0 : Nat) (r1 : Option Nat) (h : AH) (q : Option Nat × AH) (hf : f_X8_nextConsumerOf a0 r1 h = some q) : Go Ω M_X8_nextConsumerOf 0 (lv_args 0 [vR Ω (some a0), vR Ω r1]) [] h (some (vR Ω q.1)) q.2 := by
  unfold f_X8_nextConsumerOf at hf
  rw [la_R, la_R, la_0]
  refine go_sub (lv' := [(0, vR Ω (some a0)), (1, vR Ω r1)]) [0, 1] rfl ?_
  refine go_null dX8_nextConsumerOf_0 ?_
  refine go_astore_n (i := 2) (lv' := [(2, vR Ω none), (0, vR Ω (some a0)), (1, vR Ω r1)]) dX8_nextConsumerOf_1 rfl (by decide) (by first | rfl | simp [catR, catI, catJ]) ?_
  refine go_iconst 0 dX8_nextConsumerOf_2 rfl ?_
  refine go_istore_n (i := 3) (lv' := [(3, .int 0), (2, vR Ω none), (0, vR Ω (some a0)), (1, vR Ω r1)]) dX8_nextConsumerOf_3 rfl (by decide) (by first | rfl | simp [catR, catI, catJ]) ?_
  refine go_sub (lv' := [(0, vR Ω (some a0)), (1, vR Ω r1), (2, vR Ω none), (3, .int 0)]) [2, 3, 1, 0] rfl ?_
  exact t_X8_nextConsumerOf_4 FU a0 r1 none 0 h q hf
-- LetterBroker.deliverNext()Z
theorem dX11_deliverNext_0 : decode cX11_deliverNext 0 = .ok (.iconst 0, 1) := by decide +kernel
theorem dX11_deliverNext_1 : decode cX11_deliverNext 1 = .ok (.istore_n 1, 1) := by decide +kernel
theorem dX11_deliverNext_2 : decode cX11_deliverNext 2 = .ok (.iload_n 1, 1) := by decide +kernel
theorem dX11_deliverNext_3 : decode cX11_deliverNext 3 = .ok (.aload_n 0, 1) := by decide +kernel
theorem dX11_deliverNext_4 : decode cX11_deliverNext 4 = .ok (.getfield 26, 3) := by decide +kernel
theorem dX11_deliverNext_7 : decode cX11_deliverNext 7 = .ok (.getfield 97, 3) := by decide +kernel
theorem dX11_deliverNext_10 : decode cX11_deliverNext 10 = .ok (.invokeinterface 87 1, 5) := by decide +kernel
theorem dX11_deliverNext_15 : decode cX11_deliverNext 15 = .ok (.if_icmp .ge 63, 3) := by decide +kernel
theorem dX11_deliverNext_18 : decode cX11_deliverNext 18 = .ok (.aload_n 0, 1) := by decide +kernel
theorem dX11_deliverNext_19 : decode cX11_deliverNext 19 = .ok (.getfield 26, 3) := by decide +kernel
theorem dX11_deliverNext_22 : decode cX11_deliverNext 22 = .ok (.getfield 97, 3) := by decide +kernel
theorem dX11_deliverNext_25 : decode cX11_deliverNext 25 = .ok (.iload_n 1, 1) := by decide +kernel
theorem dX11_deliverNext_26 : decode cX11_deliverNext 26 = .ok (.invokeinterface 100 2, 5) := by decide +kernel
theorem dX11_deliverNext_31 : decode cX11_deliverNext 31 = .ok (.checkcast 104, 3) := by decide +kernel
theorem dX11_deliverNext_34 : decode cX11_deliverNext 34 = .ok (.astore_n 2, 1) := by decide +kernel
theorem dX11_deliverNext_35 : decode cX11_deliverNext 35 = .ok (.aload_n 2, 1) := by decide +kernel
theorem dX11_deliverNext_36 : decode cX11_deliverNext 36 = .ok (.getfield 106, 3) := by decide +kernel
theorem dX11_deliverNext_39 : decode cX11_deliverNext 39 = .ok (.invokeinterface 116 1, 5) := by decide +kernel
theorem dX11_deliverNext_44 : decode cX11_deliverNext 44 = .ok (.ifCond .eq 7, 3) := by decide +kernel
theorem dX11_deliverNext_47 : decode cX11_deliverNext 47 = .ok (.aconst_null, 1) := by decide +kernel
theorem dX11_deliverNext_48 : decode cX11_deliverNext 48 = .ok (.goto 11, 3) := by decide +kernel
theorem dX11_deliverNext_51 : decode cX11_deliverNext 51 = .ok (.aload_n 0, 1) := by decide +kernel
theorem dX11_deliverNext_52 : decode cX11_deliverNext 52 = .ok (.getfield 26, 3) := by decide +kernel
theorem dX11_deliverNext_55 : decode cX11_deliverNext 55 = .ok (.aload_n 2, 1) := by decide +kernel
theorem dX11_deliverNext_56 : decode cX11_deliverNext 56 = .ok (.invokevirtual 437, 3) := by decide +kernel
theorem dX11_deliverNext_59 : decode cX11_deliverNext 59 = .ok (.astore_n 3, 1) := by decide +kernel
theorem dX11_deliverNext_60 : decode cX11_deliverNext 60 = .ok (.aload_n 3, 1) := by decide +kernel
theorem dX11_deliverNext_61 : decode cX11_deliverNext 61 = .ok (.ifnull 11, 3) := by decide +kernel
theorem dX11_deliverNext_64 : decode cX11_deliverNext 64 = .ok (.aload_n 0, 1) := by decide +kernel
theorem dX11_deliverNext_65 : decode cX11_deliverNext 65 = .ok (.aload_n 2, 1) := by decide +kernel
theorem dX11_deliverNext_66 : decode cX11_deliverNext 66 = .ok (.aload_n 3, 1) := by decide +kernel
theorem dX11_deliverNext_67 : decode cX11_deliverNext 67 = .ok (.invokevirtual 441, 3) := by decide +kernel
theorem dX11_deliverNext_70 : decode cX11_deliverNext 70 = .ok (.iconst 1, 1) := by decide +kernel
theorem dX11_deliverNext_71 : decode cX11_deliverNext 71 = .ok (.ireturn, 1) := by decide +kernel
theorem dX11_deliverNext_72 : decode cX11_deliverNext 72 = .ok (.iinc 1 1, 3) := by decide +kernel
theorem dX11_deliverNext_75 : decode cX11_deliverNext 75 = .ok (.goto (-73), 3) := by decide +kernel
theorem dX11_deliverNext_78 : decode cX11_deliverNext 78 = .ok (.iconst 0, 1) := by decide +kernel
theorem dX11_deliverNext_79 : decode cX11_deliverNext 79 = .ok (.ireturn, 1) := by decide +kernel
def f_X11_deliverNext_64 (a0 : Nat) (r2 : Option Nat) (r3 : Option Nat) (h : AH) : Option (Int32 × AH) := kg h a0 12 (bd (f_X11_deliver a0 r2 r3 h) fun _ h_2 =>
  rz 1 (some (1, h_2)))
set_option maxRecDepth 20000 in
set_option maxHeartbeats 4000000 in
theorem t_X11_deliverNext_64 {Ω : Om} (a0 : Nat) (r2 : Option Nat) (r3 : Option Nat) (h : AH) (q : Int32 × AH) (hf : f_X11_deliverNext_64 a0 r2 r3 h = some q) : Go Ω M_X11_deliverNext 64 [(0, vR Ω (some a0)), (2, vR Ω r2), (3, vR Ω r3)] [] h (some (.int q.1)) q.2 := by
  unfold f_X11_deliverNext_64 at hf
  refine go_aload_n dX11_deliverNext_64 rfl 0 rfl ?_
  refine go_aload_n dX11_deliverNext_65 rfl 1 rfl ?_
  refine go_aload_n dX11_deliverNext_66 rfl 2 rfl ?_
  obtain ⟨hk, hf⟩ := kg_some hf
  obtain ⟨z_1, hc, hf⟩ := bd_some hf
  refine go_callV (y2 := M_X11_deliver) (c2 := 12) dX11_deliverNext_67 mo_X11_deliver ⟨Nat.le_of_ble_eq_true rfl, Nat.le_of_ble_eq_true rfl⟩ na_X11_deliver w1077 w1079 (by decide) rfl w47 hk [vR Ω r2, vR Ω r3] rfl (n_X11_deliver (a0) r2 r3) rfl (csum (Nat.le_of_ble_eq_true rfl)) (t_X11_deliver (a0) r2 r3 h _ hc) ?_
  obtain ⟨_, h_2⟩ := z_1
  refine go_iconst 1 dX11_deliverNext_70 rfl ?_
  exact go_zreturn dX11_deliverNext_71 rfl hf
def f_X11_deliverNext_59 (k2 : Nat → Int32 → AH → Option (Int32 × AH)) (a0 : Nat) (x1 : Int32) (r2 : Option Nat) (s0 : Option Nat) (h : AH) : Option (Int32 × AH) := nb s0
    (k2 a0 (x1 + 1) h)
    (fun a_1 => f_X11_deliverNext_64 a0 r2 (some a_1) h)
set_option maxRecDepth 20000 in
set_option maxHeartbeats 4000000 in
theorem t_X11_deliverNext_59 {Ω : Om} {k2 : Nat → Int32 → AH → Option (Int32 × AH)} (c2 : ∀ (a0 : Nat) (x1 : Int32) (h : AH) (q : Int32 × AH), k2 a0 x1 h = some q → Go Ω M_X11_deliverNext 2 [(0, vR Ω (some a0)), (1, .int x1)] [] h (some (.int q.1)) q.2) (a0 : Nat) (x1 : Int32) (r2 : Option Nat) (s0 : Option Nat) (h : AH) (q : Int32 × AH) (hf : f_X11_deliverNext_59 k2 a0 x1 r2 s0 h = some q) : Go Ω M_X11_deliverNext 59 [(0, vR Ω (some a0)), (1, .int x1), (2, vR Ω r2)] [vR Ω s0] h (some (.int q.1)) q.2 := by
  unfold f_X11_deliverNext_59 at hf
  refine go_astore_n (i := 3) (lv' := [(3, vR Ω s0), (0, vR Ω (some a0)), (1, .int x1), (2, vR Ω r2)]) dX11_deliverNext_59 rfl (by decide) (by first | rfl | simp [catR, catI, catJ]) ?_
  refine go_aload_n dX11_deliverNext_60 rfl 0 rfl ?_
  refine go_ifnull (x := s0) (tgt := 72) dX11_deliverNext_61 (by decide) hf ?_ ?_
  · rintro rfl hf
    refine go_iinc (j := 2) (v := x1 + 1) (lv' := [(1, .int (x1 + 1)), (3, vR Ω none), (0, vR Ω (some a0)), (2, vR Ω r2)]) dX11_deliverNext_72 rfl rfl (by decide) (by first | rfl | simp [catR, catI, catJ]) ?_
    refine go_goto (tgt := 2) dX11_deliverNext_75 (by decide) ?_
    refine go_sub (lv' := [(0, vR Ω (some a0)), (1, .int (x1 + 1))]) [2, 0] rfl ?_
    exact c2 a0 (x1 + 1) h q hf
  · rintro a_1 rfl hf
    refine go_sub (lv' := [(0, vR Ω (some a0)), (2, vR Ω r2), (3, vR Ω (some a_1))]) [1, 3, 0] rfl ?_
    exact t_X11_deliverNext_64 a0 r2 (some a_1) h q hf
def f_X11_deliverNext_2 : Nat → Nat → Int32 → AH → Option (Int32 × AH)
  | 0, _, _, _ => none
  | n + 1, a0, x1, h => rdR h a0 12 2 fun r_1 =>
    nn r_1 fun a_2 =>
    rdR h a_2 9 1 fun r_3 =>
    nn r_3 fun a_4 =>
    kg h a_4 0 (bd (f_Jx4a65c_size_8abf5 a_4 h) fun x_7 h_6 =>
    (if x_7 ≤ x1 then
      rz 0 (some (0, h_6))
    else
      rdR h_6 a0 12 2 fun r_8 =>
      nn r_8 fun a_9 =>
      rdR h_6 a_9 9 1 fun r_10 =>
      nn r_10 fun a_11 =>
      kg h_6 a_11 0 (bd (f_Jx4a65c_get_915e3 a_11 x1 h_6) fun r_14 h_13 =>
      ckc h_13 r_14 11 (
      nn r_14 fun a_15 =>
      rdR h_13 a_15 11 1 fun r_16 =>
      nn r_16 fun a_17 =>
      kg h_13 a_17 0 (bd (f_Jx4a65c_isEmpty_aae02 a_17 h_13) fun x_20 h_19 =>
      (if x_20 = 0 then
        rdR h_19 a0 12 2 fun r_21 =>
        nn r_21 fun a_22 =>
        kg h_19 a_22 9 (bd (f_X8_nextConsumerOf a_22 (some a_15) h_19) fun r_25 h_24 =>
        f_X11_deliverNext_59 (fun a0 x1 h => f_X11_deliverNext_2 n a0 x1 h) a0 x1 (some a_15) r_25 h_24)
      else
        f_X11_deliverNext_59 (fun a0 x1 h => f_X11_deliverNext_2 n a0 x1 h) a0 x1 (some a_15) none h_19))))))
set_option maxRecDepth 20000 in
set_option maxHeartbeats 4000000 in
theorem t_X11_deliverNext_2 {Ω : Om} : ∀ (n : Nat) (a0 : Nat) (x1 : Int32) (h : AH) (q : Int32 × AH), f_X11_deliverNext_2 n a0 x1 h = some q → Go Ω M_X11_deliverNext 2 [(0, vR Ω (some a0)), (1, .int x1)] [] h (some (.int q.1)) q.2 := by
  intro n
  induction n with
  | zero => intro a0 x1 h q hf; cases hf
  | succ n ih =>
    intro a0 x1 h q hf
    rw [f_X11_deliverNext_2] at hf
    refine go_iload_n dX11_deliverNext_2 rfl 1 rfl ?_
    refine go_aload_n dX11_deliverNext_3 rfl 0 rfl ?_
    refine go_getR dX11_deliverNext_4 fl_390_0 (fun _ _ => rfl) hf (fun r_1 hf => ?_)
    obtain ⟨a_2, rfl, hga_2⟩ := nn_some hf
    have hf := hga_2
    refine go_getR dX11_deliverNext_7 fl_319_0 (fun _ _ => rfl) hf (fun r_3 hf => ?_)
    obtain ⟨a_4, rfl, hga_4⟩ := nn_some hf
    have hf := hga_4
    obtain ⟨hk, hf⟩ := kg_some hf
    obtain ⟨z_5, hc, hf⟩ := bd_some hf
    refine go_callF (y2 := M_Jx4a65c_size_8abf5) (x2 := ⟨"java/util/List", "size", "()I"⟩) dX11_deliverNext_10 mo_Jx4a65c_size_8abf5 ⟨Nat.le_of_ble_eq_true rfl, Nat.le_of_ble_eq_true rfl⟩ na_Jx4a65c_size_8abf5 w517 w522 w520 (by decide) (fun U hU => hU.2.2.2.2.1) hk [] rfl (n_Jx4a65c_size_8abf5 (a_4)) rfl (csum (Nat.le_of_ble_eq_true rfl)) (t_Jx4a65c_size_8abf5 (a_4) h _ hc) ?_
    obtain ⟨x_7, h_6⟩ := z_5
    refine go_icmp_ge (tgt := 78) dX11_deliverNext_15 (by decide) hf (fun hf => ?_) (fun hf => ?_)
    · refine go_iconst 0 dX11_deliverNext_78 rfl ?_
      exact go_zreturn dX11_deliverNext_79 rfl hf
    · refine go_aload_n dX11_deliverNext_18 rfl 0 rfl ?_
      refine go_getR dX11_deliverNext_19 fl_390_0 (fun _ _ => rfl) hf (fun r_8 hf => ?_)
      obtain ⟨a_9, rfl, hga_9⟩ := nn_some hf
      have hf := hga_9
      refine go_getR dX11_deliverNext_22 fl_319_0 (fun _ _ => rfl) hf (fun r_10 hf => ?_)
      refine go_iload_n dX11_deliverNext_25 rfl 1 rfl ?_
      obtain ⟨a_11, rfl, hga_11⟩ := nn_some hf
      have hf := hga_11
      obtain ⟨hk, hf⟩ := kg_some hf
      obtain ⟨z_12, hc, hf⟩ := bd_some hf
      refine go_callF (y2 := M_Jx4a65c_get_915e3) (x2 := ⟨"java/util/List", "get", "(I)Ljava/lang/Object;"⟩) dX11_deliverNext_26 mo_Jx4a65c_get_915e3 ⟨Nat.le_of_ble_eq_true rfl, Nat.le_of_ble_eq_true rfl⟩ na_Jx4a65c_get_915e3 w1041 w543 w541 (by decide) (fun U hU => hU.2.2.1) hk [.int x1] rfl (n_Jx4a65c_get_915e3 (a_11) x1) rfl (csum (Nat.le_of_ble_eq_true rfl)) (t_Jx4a65c_get_915e3 (a_11) x1 h_6 _ hc) ?_
      obtain ⟨r_14, h_13⟩ := z_12
      refine go_cast (c := 11) dX11_deliverNext_31 (by decide) rfl w792 hf (fun hf => ?_)
      refine go_astore_n (i := 2) (lv' := [(2, vR Ω r_14), (0, vR Ω (some a0)), (1, .int x1)]) dX11_deliverNext_34 rfl (by decide) (by first | rfl | simp [catR, catI, catJ]) ?_
      refine go_aload_n dX11_deliverNext_35 rfl 0 rfl ?_
      obtain ⟨a_15, rfl, hga_15⟩ := nn_some hf
      have hf := hga_15
      refine go_getR dX11_deliverNext_36 fl_804_0 (fun _ _ => rfl) hf (fun r_16 hf => ?_)
      obtain ⟨a_17, rfl, hga_17⟩ := nn_some hf
      have hf := hga_17
      obtain ⟨hk, hf⟩ := kg_some hf
      obtain ⟨z_18, hc, hf⟩ := bd_some hf
      refine go_callF (y2 := M_Jx4a65c_isEmpty_aae02) (x2 := ⟨"java/util/List", "isEmpty", "()Z"⟩) dX11_deliverNext_39 mo_Jx4a65c_isEmpty_aae02 ⟨Nat.le_of_ble_eq_true rfl, Nat.le_of_ble_eq_true rfl⟩ na_Jx4a65c_isEmpty_aae02 w867 w872 w870 (by decide) (fun U hU => hU.2.2.2.2.2.1) hk [] rfl (n_Jx4a65c_isEmpty_aae02 (a_17)) rfl (csum (Nat.le_of_ble_eq_true rfl)) (t_Jx4a65c_isEmpty_aae02 (a_17) h_13 _ hc) ?_
      obtain ⟨x_20, h_19⟩ := z_18
      refine go_if_eq (tgt := 51) dX11_deliverNext_44 (by decide) hf (fun hf => ?_) (fun hf => ?_)
      · refine go_aload_n dX11_deliverNext_51 rfl 1 rfl ?_
        refine go_getR dX11_deliverNext_52 fl_390_0 (fun _ _ => rfl) hf (fun r_21 hf => ?_)
        refine go_aload_n dX11_deliverNext_55 rfl 0 rfl ?_
        obtain ⟨a_22, rfl, hga_22⟩ := nn_some hf
        have hf := hga_22
        obtain ⟨hk, hf⟩ := kg_some hf
        obtain ⟨z_23, hc, hf⟩ := bd_some hf
        refine go_callV (y2 := M_X8_nextConsumerOf) (c2 := 9) dX11_deliverNext_56 mo_X8_nextConsumerOf ⟨Nat.le_of_ble_eq_true rfl, Nat.le_of_ble_eq_true rfl⟩ na_X8_nextConsumerOf w1067 w1068 (by decide) rfl w1069 hk [vR Ω (some a_15)] rfl (n_X8_nextConsumerOf (a_22) (some a_15)) rfl (csum (Nat.le_of_ble_eq_true rfl)) (t_X8_nextConsumerOf (a_22) (some a_15) h_19 _ hc) ?_
        obtain ⟨r_25, h_24⟩ := z_23
        refine go_sub (lv' := [(0, vR Ω (some a0)), (1, .int x1), (2, vR Ω (some a_15))]) [1, 2, 0] rfl ?_
        exact t_X11_deliverNext_59 ih a0 x1 (some a_15) r_25 h_24 q hf
      · refine go_null dX11_deliverNext_47 ?_
        refine go_goto (tgt := 59) dX11_deliverNext_48 (by decide) ?_
        refine go_sub (lv' := [(0, vR Ω (some a0)), (1, .int x1), (2, vR Ω (some a_15))]) [1, 2, 0] rfl ?_
        exact t_X11_deliverNext_59 ih a0 x1 (some a_15) none h_19 q hf
def f_X11_deliverNext (a0 : Nat) (h : AH) : Option (Int32 × AH) := f_X11_deliverNext_2 FU a0 0 h
set_option maxRecDepth 20000 in
set_option maxHeartbeats 4000000 in
theorem t_X11_deliverNext {Ω : Om} (a0 : Nat) (h : AH) (q : Int32 × AH) (hf : f_X11_deliverNext a0 h = some q) : Go Ω M_X11_deliverNext 0 (lv_args 0 [vR Ω (some a0)]) [] h (some (.int q.1)) q.2 := by
  unfold f_X11_deliverNext at hf
  rw [la_R, la_0]
  refine go_sub (lv' := [(0, vR Ω (some a0))]) [0] rfl ?_
  refine go_iconst 0 dX11_deliverNext_0 rfl ?_
  refine go_istore_n (i := 1) (lv' := [(1, .int 0), (0, vR Ω (some a0))]) dX11_deliverNext_1 rfl (by decide) (by first | rfl | simp [catR, catI, catJ]) ?_
  refine go_sub (lv' := [(0, vR Ω (some a0)), (1, .int 0)]) [1, 0] rfl ?_
  exact t_X11_deliverNext_2 FU a0 0 h q hf
-- LetterBroker.deliverAll()V
theorem dX11_deliverAll_0 : decode cX11_deliverAll 0 = .ok (.aload_n 0, 1) := by decide +kernel
theorem dX11_deliverAll_1 : decode cX11_deliverAll 1 = .ok (.getfield 39, 3) := by decide +kernel
theorem dX11_deliverAll_4 : decode cX11_deliverAll 4 = .ok (.iconst 4, 1) := by decide +kernel
theorem dX11_deliverAll_5 : decode cX11_deliverAll 5 = .ok (.if_icmp .eq 4, 3) := by decide +kernel
theorem dX11_deliverAll_8 : decode cX11_deliverAll 8 = .ok (.return_, 1) := by decide +kernel
theorem dX11_deliverAll_9 : decode cX11_deliverAll 9 = .ok (.iconst 1, 1) := by decide +kernel
theorem dX11_deliverAll_10 : decode cX11_deliverAll 10 = .ok (.istore_n 1, 1) := by decide +kernel
theorem dX11_deliverAll_11 : decode cX11_deliverAll 11 = .ok (.iconst 0, 1) := by decide +kernel
theorem dX11_deliverAll_12 : decode cX11_deliverAll 12 = .ok (.istore_n 2, 1) := by decide +kernel
theorem dX11_deliverAll_13 : decode cX11_deliverAll 13 = .ok (.iload_n 2, 1) := by decide +kernel
theorem dX11_deliverAll_14 : decode cX11_deliverAll 14 = .ok (.bipush 24, 2) := by decide +kernel
theorem dX11_deliverAll_16 : decode cX11_deliverAll 16 = .ok (.if_icmp .ge 18, 3) := by decide +kernel
theorem dX11_deliverAll_19 : decode cX11_deliverAll 19 = .ok (.iload_n 1, 1) := by decide +kernel
theorem dX11_deliverAll_20 : decode cX11_deliverAll 20 = .ok (.ifCond .eq 14, 3) := by decide +kernel
theorem dX11_deliverAll_23 : decode cX11_deliverAll 23 = .ok (.aload_n 0, 1) := by decide +kernel
theorem dX11_deliverAll_24 : decode cX11_deliverAll 24 = .ok (.invokevirtual 434, 3) := by decide +kernel
theorem dX11_deliverAll_27 : decode cX11_deliverAll 27 = .ok (.istore_n 1, 1) := by decide +kernel
theorem dX11_deliverAll_28 : decode cX11_deliverAll 28 = .ok (.iinc 2 1, 3) := by decide +kernel
theorem dX11_deliverAll_31 : decode cX11_deliverAll 31 = .ok (.goto (-18), 3) := by decide +kernel
theorem dX11_deliverAll_34 : decode cX11_deliverAll 34 = .ok (.return_, 1) := by decide +kernel
def f_X11_deliverAll_13 : Nat → Nat → Int32 → Int32 → AH → Option (Unit × AH)
  | 0, _, _, _, _ => none
  | n + 1, a0, x1, x2, h => (if 24 ≤ x2 then
      some ((), h)
    else
      (if x1 = 0 then
        some ((), h)
      else
        kg h a0 12 (bd (f_X11_deliverNext a0 h) fun x_3 h_2 =>
        f_X11_deliverAll_13 n a0 x_3 (x2 + 1) h_2)))
set_option maxRecDepth 20000 in
set_option maxHeartbeats 4000000 in
theorem t_X11_deliverAll_13 {Ω : Om} : ∀ (n : Nat) (a0 : Nat) (x1 : Int32) (x2 : Int32) (h : AH) (q : Unit × AH), f_X11_deliverAll_13 n a0 x1 x2 h = some q → Go Ω M_X11_deliverAll 13 [(0, vR Ω (some a0)), (1, .int x1), (2, .int x2)] [] h none q.2 := by
  intro n
  induction n with
  | zero => intro a0 x1 x2 h q hf; cases hf
  | succ n ih =>
    intro a0 x1 x2 h q hf
    rw [f_X11_deliverAll_13] at hf
    refine go_iload_n dX11_deliverAll_13 rfl 2 rfl ?_
    refine go_bipush 24 dX11_deliverAll_14 (by decide) ?_
    refine go_icmp_ge (tgt := 34) dX11_deliverAll_16 (by decide) hf (fun hf => ?_) (fun hf => ?_)
    · exact go_return dX11_deliverAll_34 rfl hf
    · refine go_iload_n dX11_deliverAll_19 rfl 1 rfl ?_
      refine go_if_eq (tgt := 34) dX11_deliverAll_20 (by decide) hf (fun hf => ?_) (fun hf => ?_)
      · exact go_return dX11_deliverAll_34 rfl hf
      · refine go_aload_n dX11_deliverAll_23 rfl 0 rfl ?_
        obtain ⟨hk, hf⟩ := kg_some hf
        obtain ⟨z_1, hc, hf⟩ := bd_some hf
        refine go_callV (y2 := M_X11_deliverNext) (c2 := 12) dX11_deliverAll_24 mo_X11_deliverNext ⟨Nat.le_of_ble_eq_true rfl, Nat.le_of_ble_eq_true rfl⟩ na_X11_deliverNext w1063 w1065 (by decide) rfl w46 hk [] rfl (n_X11_deliverNext (a0)) rfl (csum (Nat.le_of_ble_eq_true rfl)) (t_X11_deliverNext (a0) h _ hc) ?_
        obtain ⟨x_3, h_2⟩ := z_1
        refine go_istore_n (i := 1) (lv' := [(1, .int x_3), (0, vR Ω (some a0)), (2, .int x2)]) dX11_deliverAll_27 rfl (by decide) (by first | rfl | simp [catR, catI, catJ]) ?_
        refine go_iinc (j := 2) (v := x2 + 1) (lv' := [(2, .int (x2 + 1)), (1, .int x_3), (0, vR Ω (some a0))]) dX11_deliverAll_28 rfl rfl (by decide) (by first | rfl | simp [catR, catI, catJ]) ?_
        refine go_goto (tgt := 13) dX11_deliverAll_31 (by decide) ?_
        refine go_sub (lv' := [(0, vR Ω (some a0)), (1, .int x_3), (2, .int (x2 + 1))]) [2, 1, 0] rfl ?_
        exact ih a0 x_3 (x2 + 1) h_2 q hf
def f_X11_deliverAll (a0 : Nat) (h : AH) : Option (Unit × AH) := rdI h a0 12 4 fun x_1 =>
  (if x_1 = 4 then
    f_X11_deliverAll_13 FU a0 1 0 h
  else
    some ((), h))
set_option maxRecDepth 20000 in
set_option maxHeartbeats 4000000 in
theorem t_X11_deliverAll {Ω : Om} (a0 : Nat) (h : AH) (q : Unit × AH) (hf : f_X11_deliverAll a0 h = some q) : Go Ω M_X11_deliverAll 0 (lv_args 0 [vR Ω (some a0)]) [] h none q.2 := by
  unfold f_X11_deliverAll at hf
  rw [la_R, la_0]
  refine go_sub (lv' := [(0, vR Ω (some a0))]) [0] rfl ?_
  refine go_aload_n dX11_deliverAll_0 rfl 0 rfl ?_
  refine go_getI dX11_deliverAll_1 fl_392_0 (fun _ _ => rfl) hf (fun x_1 hf => ?_)
  refine go_iconst 4 dX11_deliverAll_4 rfl ?_
  refine go_icmp_eq (tgt := 9) dX11_deliverAll_5 (by decide) hf (fun hf => ?_) (fun hf => ?_)
  · refine go_iconst 1 dX11_deliverAll_9 rfl ?_
    refine go_istore_n (i := 1) (lv' := [(1, .int 1), (0, vR Ω (some a0))]) dX11_deliverAll_10 rfl (by decide) (by first | rfl | simp [catR, catI, catJ]) ?_
    refine go_iconst 0 dX11_deliverAll_11 rfl ?_
    refine go_istore_n (i := 2) (lv' := [(2, .int 0), (1, .int 1), (0, vR Ω (some a0))]) dX11_deliverAll_12 rfl (by decide) (by first | rfl | simp [catR, catI, catJ]) ?_
    refine go_sub (lv' := [(0, vR Ω (some a0)), (1, .int 1), (2, .int 0)]) [2, 1, 0] rfl ?_
    exact t_X11_deliverAll_13 FU a0 1 0 h q hf
  · exact go_return dX11_deliverAll_8 rfl hf
-- LetterBroker$Outbox.tell(II)V
theorem dX9_tell_0 : decode cX9_tell 0 = .ok (.aload_n 0, 1) := by decide +kernel
theorem dX9_tell_1 : decode cX9_tell 1 = .ok (.iload_n 1, 1) := by decide +kernel
theorem dX9_tell_2 : decode cX9_tell 2 = .ok (.iload_n 2, 1) := by decide +kernel
theorem dX9_tell_3 : decode cX9_tell 3 = .ok (.invokevirtual 32, 3) := by decide +kernel
theorem dX9_tell_6 : decode cX9_tell 6 = .ok (.aload_n 0, 1) := by decide +kernel
theorem dX9_tell_7 : decode cX9_tell 7 = .ok (.invokevirtual 36, 3) := by decide +kernel
theorem dX9_tell_10 : decode cX9_tell 10 = .ok (.return_, 1) := by decide +kernel
def f_X9_tell (a0 : Nat) (x1 : Int32) (x2 : Int32) (h : AH) : Option (Unit × AH) := kg h a0 10 (bd (f_X9_begin a0 x1 x2 h) fun _ h_2 =>
  kg h_2 a0 10 (bd (f_X9_end a0 h_2) fun _ h_4 =>
  some ((), h_4)))
set_option maxRecDepth 20000 in
set_option maxHeartbeats 4000000 in
theorem t_X9_tell {Ω : Om} (a0 : Nat) (x1 : Int32) (x2 : Int32) (h : AH) (q : Unit × AH) (hf : f_X9_tell a0 x1 x2 h = some q) : Go Ω M_X9_tell 0 (lv_args 0 [vR Ω (some a0), .int x1, .int x2]) [] h none q.2 := by
  unfold f_X9_tell at hf
  rw [la_R, la_I, la_I, la_0]
  refine go_sub (lv' := [(0, vR Ω (some a0)), (1, .int x1), (2, .int x2)]) [0, 1, 2] rfl ?_
  refine go_aload_n dX9_tell_0 rfl 0 rfl ?_
  refine go_iload_n dX9_tell_1 rfl 1 rfl ?_
  refine go_iload_n dX9_tell_2 rfl 2 rfl ?_
  obtain ⟨hk, hf⟩ := kg_some hf
  obtain ⟨z_1, hc, hf⟩ := bd_some hf
  refine go_callV (y2 := M_X9_begin) (c2 := 10) dX9_tell_3 mo_X9_begin ⟨Nat.le_of_ble_eq_true rfl, Nat.le_of_ble_eq_true rfl⟩ na_X9_begin w434 w435 (by decide) rfl w436 hk [.int x1, .int x2] rfl (n_X9_begin (a0) x1 x2) rfl (csum (Nat.le_of_ble_eq_true rfl)) (t_X9_begin (a0) x1 x2 h _ hc) ?_
  obtain ⟨_, h_2⟩ := z_1
  refine go_aload_n dX9_tell_6 rfl 0 rfl ?_
  obtain ⟨hk, hf⟩ := kg_some hf
  obtain ⟨z_3, hc, hf⟩ := bd_some hf
  refine go_callV (y2 := M_X9_end) (c2 := 10) dX9_tell_7 mo_X9_end ⟨Nat.le_of_ble_eq_true rfl, Nat.le_of_ble_eq_true rfl⟩ na_X9_end w442 w443 (by decide) rfl w444 hk [] rfl (n_X9_end (a0)) rfl (csum (Nat.le_of_ble_eq_true rfl)) (t_X9_end (a0) h_2 _ hc) ?_
  obtain ⟨_, h_4⟩ := z_3
  exact go_return dX9_tell_10 rfl hf
-- LetterBroker.greet()I
theorem dX11_greet_0 : decode cX11_greet 0 = .ok (.aload_n 0, 1) := by decide +kernel
theorem dX11_greet_1 : decode cX11_greet 1 = .ok (.getfield 19, 3) := by decide +kernel
theorem dX11_greet_4 : decode cX11_greet 4 = .ok (.iconst 0, 1) := by decide +kernel
theorem dX11_greet_5 : decode cX11_greet 5 = .ok (.sipush 2570, 3) := by decide +kernel
theorem dX11_greet_8 : decode cX11_greet 8 = .ok (.invokevirtual 125, 3) := by decide +kernel
theorem dX11_greet_11 : decode cX11_greet 11 = .ok (.aload_n 0, 1) := by decide +kernel
theorem dX11_greet_12 : decode cX11_greet 12 = .ok (.iconst 1, 1) := by decide +kernel
theorem dX11_greet_13 : decode cX11_greet 13 = .ok (.putfield 39, 3) := by decide +kernel
theorem dX11_greet_16 : decode cX11_greet 16 = .ok (.iconst 0, 1) := by decide +kernel
theorem dX11_greet_17 : decode cX11_greet 17 = .ok (.ireturn, 1) := by decide +kernel
def f_X11_greet (a0 : Nat) (h : AH) : Option (Int32 × AH) := rdR h a0 12 1 fun r_1 =>
  nn r_1 fun a_2 =>
  kg h a_2 10 (bd (f_X9_tell a_2 0 2570 h) fun _ h_4 =>
  wrI h_4 a0 12 4 1 fun h_5 =>
  some (0, h_5))
set_option maxRecDepth 20000 in
set_option maxHeartbeats 4000000 in
theorem t_X11_greet {Ω : Om} (a0 : Nat) (h : AH) (q : Int32 × AH) (hf : f_X11_greet a0 h = some q) : Go Ω M_X11_greet 0 (lv_args 0 [vR Ω (some a0)]) [] h (some (.int q.1)) q.2 := by
  unfold f_X11_greet at hf
  rw [la_R, la_0]
  refine go_sub (lv' := [(0, vR Ω (some a0))]) [0] rfl ?_
  refine go_aload_n dX11_greet_0 rfl 0 rfl ?_
  refine go_getR dX11_greet_1 fl_389_0 (fun _ _ => rfl) hf (fun r_1 hf => ?_)
  refine go_iconst 0 dX11_greet_4 rfl ?_
  refine go_sipush 2570 dX11_greet_5 (by decide) ?_
  obtain ⟨a_2, rfl, hga_2⟩ := nn_some hf
  have hf := hga_2
  obtain ⟨hk, hf⟩ := kg_some hf
  obtain ⟨z_3, hc, hf⟩ := bd_some hf
  refine go_callV (y2 := M_X9_tell) (c2 := 10) dX11_greet_8 mo_X9_tell ⟨Nat.le_of_ble_eq_true rfl, Nat.le_of_ble_eq_true rfl⟩ na_X9_tell w430 w431 (by decide) rfl w432 hk [.int 0, .int 2570] rfl (n_X9_tell (a_2) 0 2570) rfl (csum (Nat.le_of_ble_eq_true rfl)) (t_X9_tell (a_2) 0 2570 h _ hc) ?_
  obtain ⟨_, h_4⟩ := z_3
  refine go_aload_n dX11_greet_11 rfl 0 rfl ?_
  refine go_iconst 1 dX11_greet_12 rfl ?_
  refine go_putI dX11_greet_13 fl_392_0 (fun q hq => by cases hq; exact Or.inl rfl) (fun _ _ => rfl) rfl hf (fun h_5 hf => ?_)
  refine go_iconst 0 dX11_greet_16 rfl ?_
  exact go_ireturn dX11_greet_17 rfl hf
-- LetterBroker.lineMethodInTurn()I
theorem dX11_lineMethodInTurn_0 : decode cX11_lineMethodInTurn 0 = .ok (.aload_n 0, 1) := by decide +kernel
theorem dX11_lineMethodInTurn_1 : decode cX11_lineMethodInTurn 1 = .ok (.getfield 39, 3) := by decide +kernel
theorem dX11_lineMethodInTurn_4 : decode cX11_lineMethodInTurn 4 = .ok (.tableswitch 40 1 3 #[28, 32, 36], 28) := by decide +kernel
theorem dX11_lineMethodInTurn_32 : decode cX11_lineMethodInTurn 32 = .ok (.sipush 2571, 3) := by decide +kernel
theorem dX11_lineMethodInTurn_35 : decode cX11_lineMethodInTurn 35 = .ok (.ireturn, 1) := by decide +kernel
theorem dX11_lineMethodInTurn_36 : decode cX11_lineMethodInTurn 36 = .ok (.sipush 2591, 3) := by decide +kernel
theorem dX11_lineMethodInTurn_39 : decode cX11_lineMethodInTurn 39 = .ok (.ireturn, 1) := by decide +kernel
theorem dX11_lineMethodInTurn_40 : decode cX11_lineMethodInTurn 40 = .ok (.sipush 2600, 3) := by decide +kernel
theorem dX11_lineMethodInTurn_43 : decode cX11_lineMethodInTurn 43 = .ok (.ireturn, 1) := by decide +kernel
theorem dX11_lineMethodInTurn_44 : decode cX11_lineMethodInTurn 44 = .ok (.sipush 2610, 3) := by decide +kernel
theorem dX11_lineMethodInTurn_47 : decode cX11_lineMethodInTurn 47 = .ok (.ireturn, 1) := by decide +kernel
def f_X11_lineMethodInTurn (a0 : Nat) (h : AH) : Option (Int32 × AH) := rdI h a0 12 4 fun x_1 =>
  (if x_1 = 1 then
    some (2571, h)
  else (if x_1 = 2 then
    some (2591, h)
  else (if x_1 = 3 then
    some (2600, h)
  else some (2610, h))))
set_option maxRecDepth 20000 in
set_option maxHeartbeats 4000000 in
theorem t_X11_lineMethodInTurn {Ω : Om} (a0 : Nat) (h : AH) (q : Int32 × AH) (hf : f_X11_lineMethodInTurn a0 h = some q) : Go Ω M_X11_lineMethodInTurn 0 (lv_args 0 [vR Ω (some a0)]) [] h (some (.int q.1)) q.2 := by
  unfold f_X11_lineMethodInTurn at hf
  rw [la_R, la_0]
  refine go_sub (lv' := [(0, vR Ω (some a0))]) [0] rfl ?_
  refine go_aload_n dX11_lineMethodInTurn_0 rfl 0 rfl ?_
  refine go_getI dX11_lineMethodInTurn_1 fl_392_0 (fun _ _ => rfl) hf (fun x_1 hf => ?_)
  by_cases e0 : x_1 = 1
  · rw [if_pos e0] at hf
    refine go_tsw1 (off := 28) (tgt := 32) dX11_lineMethodInTurn_4 (by rw [e0]; decide) (by rw [e0]; decide) (by rw [e0]; decide) (by decide) ?_
    refine go_sipush 2571 dX11_lineMethodInTurn_32 (by decide) ?_
    exact go_ireturn dX11_lineMethodInTurn_35 rfl hf
  rw [if_neg e0] at hf
  by_cases e1 : x_1 = 2
  · rw [if_pos e1] at hf
    refine go_tsw1 (off := 32) (tgt := 36) dX11_lineMethodInTurn_4 (by rw [e1]; decide) (by rw [e1]; decide) (by rw [e1]; decide) (by decide) ?_
    refine go_sipush 2591 dX11_lineMethodInTurn_36 (by decide) ?_
    exact go_ireturn dX11_lineMethodInTurn_39 rfl hf
  rw [if_neg e1] at hf
  by_cases e2 : x_1 = 3
  · rw [if_pos e2] at hf
    refine go_tsw1 (off := 36) (tgt := 40) dX11_lineMethodInTurn_4 (by rw [e2]; decide) (by rw [e2]; decide) (by rw [e2]; decide) (by decide) ?_
    refine go_sipush 2600 dX11_lineMethodInTurn_40 (by decide) ?_
    exact go_ireturn dX11_lineMethodInTurn_43 rfl hf
  rw [if_neg e2] at hf
  have n0 := ti (n := 1) (by decide) e0
  have n1 := ti (n := 2) (by decide) e1
  have n2 := ti (n := 3) (by decide) e2
  refine go_tsw0 (tgt := 44) dX11_lineMethodInTurn_4 (by omega) (by decide) ?_
  refine go_sipush 2610 dX11_lineMethodInTurn_44 (by decide) ?_
  exact go_ireturn dX11_lineMethodInTurn_47 rfl hf
-- java/util/ArrayList.clear()V
theorem dJx4a65c_clear_da8c8_0 : decode cJx4a65c_clear_da8c8 0 = .ok (.aload_n 0, 1) := by decide +kernel
theorem dJx4a65c_clear_da8c8_1 : decode cJx4a65c_clear_da8c8 1 = .ok (.dup, 1) := by decide +kernel
theorem dJx4a65c_clear_da8c8_2 : decode cJx4a65c_clear_da8c8 2 = .ok (.getfield 63, 3) := by decide +kernel
theorem dJx4a65c_clear_da8c8_5 : decode cJx4a65c_clear_da8c8 5 = .ok (.iconst 1, 1) := by decide +kernel
theorem dJx4a65c_clear_da8c8_6 : decode cJx4a65c_clear_da8c8 6 = .ok (.iadd, 1) := by decide +kernel
theorem dJx4a65c_clear_da8c8_7 : decode cJx4a65c_clear_da8c8 7 = .ok (.putfield 63, 3) := by decide +kernel
theorem dJx4a65c_clear_da8c8_10 : decode cJx4a65c_clear_da8c8 10 = .ok (.aload_n 0, 1) := by decide +kernel
theorem dJx4a65c_clear_da8c8_11 : decode cJx4a65c_clear_da8c8 11 = .ok (.getfield 9, 3) := by decide +kernel
theorem dJx4a65c_clear_da8c8_14 : decode cJx4a65c_clear_da8c8 14 = .ok (.astore_n 1, 1) := by decide +kernel
theorem dJx4a65c_clear_da8c8_15 : decode cJx4a65c_clear_da8c8 15 = .ok (.aload_n 0, 1) := by decide +kernel
theorem dJx4a65c_clear_da8c8_16 : decode cJx4a65c_clear_da8c8 16 = .ok (.getfield 48, 3) := by decide +kernel
theorem dJx4a65c_clear_da8c8_19 : decode cJx4a65c_clear_da8c8 19 = .ok (.istore_n 2, 1) := by decide +kernel
theorem dJx4a65c_clear_da8c8_20 : decode cJx4a65c_clear_da8c8 20 = .ok (.aload_n 0, 1) := by decide +kernel
theorem dJx4a65c_clear_da8c8_21 : decode cJx4a65c_clear_da8c8 21 = .ok (.iconst 0, 1) := by decide +kernel
theorem dJx4a65c_clear_da8c8_22 : decode cJx4a65c_clear_da8c8 22 = .ok (.dup_x1, 1) := by decide +kernel
theorem dJx4a65c_clear_da8c8_23 : decode cJx4a65c_clear_da8c8 23 = .ok (.putfield 48, 3) := by decide +kernel
theorem dJx4a65c_clear_da8c8_26 : decode cJx4a65c_clear_da8c8 26 = .ok (.istore_n 3, 1) := by decide +kernel
theorem dJx4a65c_clear_da8c8_27 : decode cJx4a65c_clear_da8c8 27 = .ok (.iload_n 3, 1) := by decide +kernel
theorem dJx4a65c_clear_da8c8_28 : decode cJx4a65c_clear_da8c8 28 = .ok (.iload_n 2, 1) := by decide +kernel
theorem dJx4a65c_clear_da8c8_29 : decode cJx4a65c_clear_da8c8 29 = .ok (.if_icmp .ge 13, 3) := by decide +kernel
theorem dJx4a65c_clear_da8c8_32 : decode cJx4a65c_clear_da8c8 32 = .ok (.aload_n 1, 1) := by decide +kernel
theorem dJx4a65c_clear_da8c8_33 : decode cJx4a65c_clear_da8c8 33 = .ok (.iload_n 3, 1) := by decide +kernel
theorem dJx4a65c_clear_da8c8_34 : decode cJx4a65c_clear_da8c8 34 = .ok (.aconst_null, 1) := by decide +kernel
theorem dJx4a65c_clear_da8c8_35 : decode cJx4a65c_clear_da8c8 35 = .ok (.aastore, 1) := by decide +kernel
theorem dJx4a65c_clear_da8c8_36 : decode cJx4a65c_clear_da8c8 36 = .ok (.iinc 3 1, 3) := by decide +kernel
theorem dJx4a65c_clear_da8c8_39 : decode cJx4a65c_clear_da8c8 39 = .ok (.goto (-12), 3) := by decide +kernel
theorem dJx4a65c_clear_da8c8_42 : decode cJx4a65c_clear_da8c8 42 = .ok (.return_, 1) := by decide +kernel
def f_Jx4a65c_clear_da8c8_27 : Nat → Option Nat → Int32 → Int32 → AH → Option (Unit × AH)
  | 0, _, _, _, _ => none
  | n + 1, r1, x2, x3, h => (if x2 ≤ x3 then
      some ((), h)
    else
      nn r1 fun a_1 =>
      asO h a_1 x3 none fun h_2 =>
      f_Jx4a65c_clear_da8c8_27 n (some a_1) x2 (x3 + 1) h_2)
set_option maxRecDepth 20000 in
set_option maxHeartbeats 4000000 in
theorem t_Jx4a65c_clear_da8c8_27 {Ω : Om} : ∀ (n : Nat) (r1 : Option Nat) (x2 : Int32) (x3 : Int32) (h : AH) (q : Unit × AH), f_Jx4a65c_clear_da8c8_27 n r1 x2 x3 h = some q → Go Ω M_Jx4a65c_clear_da8c8 27 [(1, vR Ω r1), (2, .int x2), (3, .int x3)] [] h none q.2 := by
  intro n
  induction n with
  | zero => intro r1 x2 x3 h q hf; cases hf
  | succ n ih =>
    intro r1 x2 x3 h q hf
    rw [f_Jx4a65c_clear_da8c8_27] at hf
    refine go_iload_n dJx4a65c_clear_da8c8_27 rfl 2 rfl ?_
    refine go_iload_n dJx4a65c_clear_da8c8_28 rfl 1 rfl ?_
    refine go_icmp_ge (tgt := 42) dJx4a65c_clear_da8c8_29 (by decide) hf (fun hf => ?_) (fun hf => ?_)
    · exact go_return dJx4a65c_clear_da8c8_42 rfl hf
    · refine go_aload_n dJx4a65c_clear_da8c8_32 rfl 0 rfl ?_
      refine go_iload_n dJx4a65c_clear_da8c8_33 rfl 2 rfl ?_
      refine go_null dJx4a65c_clear_da8c8_34 ?_
      obtain ⟨a_1, rfl, hga_1⟩ := nn_some hf
      have hf := hga_1
      refine go_oastore dJx4a65c_clear_da8c8_35 hf (fun h_2 hf => ?_)
      refine go_iinc (j := 2) (v := x3 + 1) (lv' := [(3, .int (x3 + 1)), (1, vR Ω (some a_1)), (2, .int x2)]) dJx4a65c_clear_da8c8_36 rfl rfl (by decide) (by first | rfl | simp [catR, catI, catJ]) ?_
      refine go_goto (tgt := 27) dJx4a65c_clear_da8c8_39 (by decide) ?_
      refine go_sub (lv' := [(1, vR Ω (some a_1)), (2, .int x2), (3, .int (x3 + 1))]) [1, 2, 0] rfl ?_
      exact ih (some a_1) x2 (x3 + 1) h_2 q hf
def f_Jx4a65c_clear_da8c8 (a0 : Nat) (h : AH) : Option (Unit × AH) := rdI h a0 0 0 fun x_1 =>
  wrI h a0 0 0 (x_1 + 1) fun h_2 =>
  rdR h_2 a0 0 1 fun r_3 =>
  rdI h_2 a0 0 2 fun x_4 =>
  wrI h_2 a0 0 2 0 fun h_5 =>
  f_Jx4a65c_clear_da8c8_27 FU r_3 x_4 0 h_5
set_option maxRecDepth 20000 in
set_option maxHeartbeats 4000000 in
theorem t_Jx4a65c_clear_da8c8 {Ω : Om} (a0 : Nat) (h : AH) (q : Unit × AH) (hf : f_Jx4a65c_clear_da8c8 a0 h = some q) : Go Ω M_Jx4a65c_clear_da8c8 0 (lv_args 0 [vR Ω (some a0)]) [] h none q.2 := by
  unfold f_Jx4a65c_clear_da8c8 at hf
  rw [la_R, la_0]
  refine go_sub (lv' := [(0, vR Ω (some a0))]) [0] rfl ?_
  refine go_aload_n dJx4a65c_clear_da8c8_0 rfl 0 rfl ?_
  refine go_dup dJx4a65c_clear_da8c8_1 catR ?_
  refine go_getI dJx4a65c_clear_da8c8_2 fl_223_0 (fun _ _ => rfl) hf (fun x_1 hf => ?_)
  refine go_iconst 1 dJx4a65c_clear_da8c8_5 rfl ?_
  refine go_iadd dJx4a65c_clear_da8c8_6 ?_
  refine go_putI dJx4a65c_clear_da8c8_7 fl_223_0 (fun q hq => by cases hq; exact Or.inl rfl) (fun _ _ => rfl) rfl hf (fun h_2 hf => ?_)
  refine go_aload_n dJx4a65c_clear_da8c8_10 rfl 0 rfl ?_
  refine go_getR dJx4a65c_clear_da8c8_11 fl_220_0 (fun _ _ => rfl) hf (fun r_3 hf => ?_)
  refine go_astore_n (i := 1) (lv' := [(1, vR Ω r_3), (0, vR Ω (some a0))]) dJx4a65c_clear_da8c8_14 rfl (by decide) (by first | rfl | simp [catR, catI, catJ]) ?_
  refine go_aload_n dJx4a65c_clear_da8c8_15 rfl 1 rfl ?_
  refine go_getI dJx4a65c_clear_da8c8_16 fl_221_0 (fun _ _ => rfl) hf (fun x_4 hf => ?_)
  refine go_istore_n (i := 2) (lv' := [(2, .int x_4), (1, vR Ω r_3), (0, vR Ω (some a0))]) dJx4a65c_clear_da8c8_19 rfl (by decide) (by first | rfl | simp [catR, catI, catJ]) ?_
  refine go_aload_n dJx4a65c_clear_da8c8_20 rfl 2 rfl ?_
  refine go_iconst 0 dJx4a65c_clear_da8c8_21 rfl ?_
  refine go_dup_x1 dJx4a65c_clear_da8c8_22 rfl catR ?_
  refine go_putI dJx4a65c_clear_da8c8_23 fl_221_0 (fun q hq => by cases hq; exact Or.inl rfl) (fun _ _ => rfl) rfl hf (fun h_5 hf => ?_)
  refine go_istore_n (i := 3) (lv' := [(3, .int 0), (2, .int x_4), (1, vR Ω r_3), (0, vR Ω (some a0))]) dJx4a65c_clear_da8c8_26 rfl (by decide) (by first | rfl | simp [catR, catI, catJ]) ?_
  refine go_sub (lv' := [(1, vR Ω r_3), (2, .int x_4), (3, .int 0)]) [2, 1, 0] rfl ?_
  exact t_Jx4a65c_clear_da8c8_27 FU r_3 x_4 0 h_5 q hf
-- java/util/ArrayList.rangeCheckForAdd(I)V
theorem dJx4a65c_rangeCheckForAdd_d00df_0 : decode cJx4a65c_rangeCheckForAdd_d00df 0 = .ok (.iload_n 1, 1) := by decide +kernel
theorem dJx4a65c_rangeCheckForAdd_d00df_1 : decode cJx4a65c_rangeCheckForAdd_d00df 1 = .ok (.aload_n 0, 1) := by decide +kernel
theorem dJx4a65c_rangeCheckForAdd_d00df_2 : decode cJx4a65c_rangeCheckForAdd_d00df 2 = .ok (.getfield 48, 3) := by decide +kernel
theorem dJx4a65c_rangeCheckForAdd_d00df_5 : decode cJx4a65c_rangeCheckForAdd_d00df 5 = .ok (.if_icmp .gt 7, 3) := by decide +kernel
theorem dJx4a65c_rangeCheckForAdd_d00df_8 : decode cJx4a65c_rangeCheckForAdd_d00df 8 = .ok (.iload_n 1, 1) := by decide +kernel
theorem dJx4a65c_rangeCheckForAdd_d00df_9 : decode cJx4a65c_rangeCheckForAdd_d00df 9 = .ok (.ifCond .ge 16, 3) := by decide +kernel
theorem dJx4a65c_rangeCheckForAdd_d00df_12 : decode cJx4a65c_rangeCheckForAdd_d00df 12 = .ok (.new 187, 3) := by decide +kernel
theorem dJx4a65c_rangeCheckForAdd_d00df_25 : decode cJx4a65c_rangeCheckForAdd_d00df 25 = .ok (.return_, 1) := by decide +kernel
def f_Jx4a65c_rangeCheckForAdd_d00df_12 (h : AH) : Option (Unit × AH) := none
set_option maxRecDepth 20000 in
set_option maxHeartbeats 4000000 in
theorem t_Jx4a65c_rangeCheckForAdd_d00df_12 {Ω : Om} (h : AH) (q : Unit × AH) (hf : f_Jx4a65c_rangeCheckForAdd_d00df_12 h = some q) : Go Ω M_Jx4a65c_rangeCheckForAdd_d00df 12 [] [] h none q.2 := by
  unfold f_Jx4a65c_rangeCheckForAdd_d00df_12 at hf
  cases hf
def f_Jx4a65c_rangeCheckForAdd_d00df (a0 : Nat) (x1 : Int32) (h : AH) : Option (Unit × AH) := rdI h a0 0 2 fun x_1 =>
  (if x_1 < x1 then
    f_Jx4a65c_rangeCheckForAdd_d00df_12  h
  else
    (if 0 ≤ x1 then
      some ((), h)
    else
      f_Jx4a65c_rangeCheckForAdd_d00df_12  h))
set_option maxRecDepth 20000 in
set_option maxHeartbeats 4000000 in
theorem t_Jx4a65c_rangeCheckForAdd_d00df {Ω : Om} (a0 : Nat) (x1 : Int32) (h : AH) (q : Unit × AH) (hf : f_Jx4a65c_rangeCheckForAdd_d00df a0 x1 h = some q) : Go Ω M_Jx4a65c_rangeCheckForAdd_d00df 0 (lv_args 0 [vR Ω (some a0), .int x1]) [] h none q.2 := by
  unfold f_Jx4a65c_rangeCheckForAdd_d00df at hf
  rw [la_R, la_I, la_0]
  refine go_sub (lv' := [(0, vR Ω (some a0)), (1, .int x1)]) [0, 1] rfl ?_
  refine go_iload_n dJx4a65c_rangeCheckForAdd_d00df_0 rfl 1 rfl ?_
  refine go_aload_n dJx4a65c_rangeCheckForAdd_d00df_1 rfl 0 rfl ?_
  refine go_getI dJx4a65c_rangeCheckForAdd_d00df_2 fl_221_0 (fun _ _ => rfl) hf (fun x_1 hf => ?_)
  refine go_icmp_gt (tgt := 12) dJx4a65c_rangeCheckForAdd_d00df_5 (by decide) hf (fun hf => ?_) (fun hf => ?_)
  · refine go_sub (lv' := []) [] rfl ?_
    exact t_Jx4a65c_rangeCheckForAdd_d00df_12  h q hf
  · refine go_iload_n dJx4a65c_rangeCheckForAdd_d00df_8 rfl 1 rfl ?_
    refine go_if_ge (tgt := 25) dJx4a65c_rangeCheckForAdd_d00df_9 (by decide) hf (fun hf => ?_) (fun hf => ?_)
    · exact go_return dJx4a65c_rangeCheckForAdd_d00df_25 rfl hf
    · refine go_sub (lv' := []) [] rfl ?_
      exact t_Jx4a65c_rangeCheckForAdd_d00df_12  h q hf
-- java/util/ArrayList.add(ILjava/lang/Object;)V
theorem dJx4a65c_add_7a177_0 : decode cJx4a65c_add_7a177 0 = .ok (.aload_n 0, 1) := by decide +kernel
theorem dJx4a65c_add_7a177_1 : decode cJx4a65c_add_7a177 1 = .ok (.iload_n 1, 1) := by decide +kernel
theorem dJx4a65c_add_7a177_2 : decode cJx4a65c_add_7a177 2 = .ok (.invokevirtual 135, 3) := by decide +kernel
theorem dJx4a65c_add_7a177_5 : decode cJx4a65c_add_7a177 5 = .ok (.aload_n 0, 1) := by decide +kernel
theorem dJx4a65c_add_7a177_6 : decode cJx4a65c_add_7a177 6 = .ok (.dup, 1) := by decide +kernel
theorem dJx4a65c_add_7a177_7 : decode cJx4a65c_add_7a177 7 = .ok (.getfield 63, 3) := by decide +kernel
theorem dJx4a65c_add_7a177_10 : decode cJx4a65c_add_7a177 10 = .ok (.iconst 1, 1) := by decide +kernel
theorem dJx4a65c_add_7a177_11 : decode cJx4a65c_add_7a177 11 = .ok (.iadd, 1) := by decide +kernel
theorem dJx4a65c_add_7a177_12 : decode cJx4a65c_add_7a177 12 = .ok (.putfield 63, 3) := by decide +kernel
theorem dJx4a65c_add_7a177_15 : decode cJx4a65c_add_7a177 15 = .ok (.aload_n 0, 1) := by decide +kernel
theorem dJx4a65c_add_7a177_16 : decode cJx4a65c_add_7a177 16 = .ok (.getfield 48, 3) := by decide +kernel
theorem dJx4a65c_add_7a177_19 : decode cJx4a65c_add_7a177 19 = .ok (.dup, 1) := by decide +kernel
theorem dJx4a65c_add_7a177_20 : decode cJx4a65c_add_7a177 20 = .ok (.istore_n 3, 1) := by decide +kernel
theorem dJx4a65c_add_7a177_21 : decode cJx4a65c_add_7a177 21 = .ok (.aload_n 0, 1) := by decide +kernel
theorem dJx4a65c_add_7a177_22 : decode cJx4a65c_add_7a177 22 = .ok (.getfield 9, 3) := by decide +kernel
theorem dJx4a65c_add_7a177_25 : decode cJx4a65c_add_7a177 25 = .ok (.dup, 1) := by decide +kernel
theorem dJx4a65c_add_7a177_26 : decode cJx4a65c_add_7a177 26 = .ok (.astore 4, 2) := by decide +kernel
theorem dJx4a65c_add_7a177_28 : decode cJx4a65c_add_7a177 28 = .ok (.arraylength, 1) := by decide +kernel
theorem dJx4a65c_add_7a177_29 : decode cJx4a65c_add_7a177 29 = .ok (.if_icmp .ne 9, 3) := by decide +kernel
theorem dJx4a65c_add_7a177_32 : decode cJx4a65c_add_7a177 32 = .ok (.aload_n 0, 1) := by decide +kernel
theorem dJx4a65c_add_7a177_33 : decode cJx4a65c_add_7a177 33 = .ok (.invokevirtual 129, 3) := by decide +kernel
theorem dJx4a65c_add_7a177_36 : decode cJx4a65c_add_7a177 36 = .ok (.astore 4, 2) := by decide +kernel
theorem dJx4a65c_add_7a177_38 : decode cJx4a65c_add_7a177 38 = .ok (.aload 4, 2) := by decide +kernel
theorem dJx4a65c_add_7a177_40 : decode cJx4a65c_add_7a177 40 = .ok (.iload_n 1, 1) := by decide +kernel
theorem dJx4a65c_add_7a177_41 : decode cJx4a65c_add_7a177 41 = .ok (.aload 4, 2) := by decide +kernel
theorem dJx4a65c_add_7a177_43 : decode cJx4a65c_add_7a177 43 = .ok (.iload_n 1, 1) := by decide +kernel
theorem dJx4a65c_add_7a177_44 : decode cJx4a65c_add_7a177 44 = .ok (.iconst 1, 1) := by decide +kernel
theorem dJx4a65c_add_7a177_45 : decode cJx4a65c_add_7a177 45 = .ok (.iadd, 1) := by decide +kernel
theorem dJx4a65c_add_7a177_46 : decode cJx4a65c_add_7a177 46 = .ok (.iload_n 3, 1) := by decide +kernel
theorem dJx4a65c_add_7a177_47 : decode cJx4a65c_add_7a177 47 = .ok (.iload_n 1, 1) := by decide +kernel
theorem dJx4a65c_add_7a177_48 : decode cJx4a65c_add_7a177 48 = .ok (.isub, 1) := by decide +kernel
theorem dJx4a65c_add_7a177_49 : decode cJx4a65c_add_7a177 49 = .ok (.invokestatic 112, 3) := by decide +kernel
theorem dJx4a65c_add_7a177_52 : decode cJx4a65c_add_7a177 52 = .ok (.aload 4, 2) := by decide +kernel
theorem dJx4a65c_add_7a177_54 : decode cJx4a65c_add_7a177 54 = .ok (.iload_n 1, 1) := by decide +kernel
theorem dJx4a65c_add_7a177_55 : decode cJx4a65c_add_7a177 55 = .ok (.aload_n 2, 1) := by decide +kernel
theorem dJx4a65c_add_7a177_56 : decode cJx4a65c_add_7a177 56 = .ok (.aastore, 1) := by decide +kernel
theorem dJx4a65c_add_7a177_57 : decode cJx4a65c_add_7a177 57 = .ok (.aload_n 0, 1) := by decide +kernel
theorem dJx4a65c_add_7a177_58 : decode cJx4a65c_add_7a177 58 = .ok (.iload_n 3, 1) := by decide +kernel
theorem dJx4a65c_add_7a177_59 : decode cJx4a65c_add_7a177 59 = .ok (.iconst 1, 1) := by decide +kernel
theorem dJx4a65c_add_7a177_60 : decode cJx4a65c_add_7a177 60 = .ok (.iadd, 1) := by decide +kernel
theorem dJx4a65c_add_7a177_61 : decode cJx4a65c_add_7a177 61 = .ok (.putfield 48, 3) := by decide +kernel
theorem dJx4a65c_add_7a177_64 : decode cJx4a65c_add_7a177 64 = .ok (.return_, 1) := by decide +kernel
def f_Jx4a65c_add_7a177_38 (a0 : Nat) (x1 : Int32) (r2 : Option Nat) (x3 : Int32) (r4 : Option Nat) (h : AH) : Option (Unit × AH) := nn r4 fun a_1 =>
  cpO h a_1 x1 a_1 (x1 + 1) (x3 - x1) fun h_2 =>
  asO h_2 a_1 x1 r2 fun h_3 =>
  wrI h_3 a0 0 2 (x3 + 1) fun h_4 =>
  some ((), h_4)
set_option maxRecDepth 20000 in
set_option maxHeartbeats 4000000 in
theorem t_Jx4a65c_add_7a177_38 {Ω : Om} (a0 : Nat) (x1 : Int32) (r2 : Option Nat) (x3 : Int32) (r4 : Option Nat) (h : AH) (q : Unit × AH) (hf : f_Jx4a65c_add_7a177_38 a0 x1 r2 x3 r4 h = some q) : Go Ω M_Jx4a65c_add_7a177 38 [(0, vR Ω (some a0)), (1, .int x1), (2, vR Ω r2), (3, .int x3), (4, vR Ω r4)] [] h none q.2 := by
  unfold f_Jx4a65c_add_7a177_38 at hf
  refine go_aload dJx4a65c_add_7a177_38 4 rfl ?_
  refine go_iload_n dJx4a65c_add_7a177_40 rfl 1 rfl ?_
  refine go_aload dJx4a65c_add_7a177_41 4 rfl ?_
  refine go_iload_n dJx4a65c_add_7a177_43 rfl 1 rfl ?_
  refine go_iconst 1 dJx4a65c_add_7a177_44 rfl ?_
  refine go_iadd dJx4a65c_add_7a177_45 ?_
  refine go_iload_n dJx4a65c_add_7a177_46 rfl 3 rfl ?_
  refine go_iload_n dJx4a65c_add_7a177_47 rfl 1 rfl ?_
  refine go_isub dJx4a65c_add_7a177_48 ?_
  obtain ⟨a_1, rfl, hga_1⟩ := nn_some hf
  have hf := hga_1
  refine go_cpO dJx4a65c_add_7a177_49 w688 ⟨by decide, cadd (csum (Nat.le_of_ble_eq_true rfl)) (by decide +kernel)⟩ hf (fun h_2 hf => ?_)
  refine go_aload dJx4a65c_add_7a177_52 4 rfl ?_
  refine go_iload_n dJx4a65c_add_7a177_54 rfl 1 rfl ?_
  refine go_aload_n dJx4a65c_add_7a177_55 rfl 2 rfl ?_
  refine go_oastore dJx4a65c_add_7a177_56 hf (fun h_3 hf => ?_)
  refine go_aload_n dJx4a65c_add_7a177_57 rfl 0 rfl ?_
  refine go_iload_n dJx4a65c_add_7a177_58 rfl 3 rfl ?_
  refine go_iconst 1 dJx4a65c_add_7a177_59 rfl ?_
  refine go_iadd dJx4a65c_add_7a177_60 ?_
  refine go_putI dJx4a65c_add_7a177_61 fl_221_0 (fun q hq => by cases hq; exact Or.inl rfl) (fun _ _ => rfl) rfl hf (fun h_4 hf => ?_)
  exact go_return dJx4a65c_add_7a177_64 rfl hf
def f_Jx4a65c_add_7a177 (a0 : Nat) (x1 : Int32) (r2 : Option Nat) (h : AH) : Option (Unit × AH) := kg h a0 0 (bd (f_Jx4a65c_rangeCheckForAdd_d00df a0 x1 h) fun _ h_2 =>
  rdI h_2 a0 0 0 fun x_3 =>
  wrI h_2 a0 0 0 (x_3 + 1) fun h_4 =>
  rdI h_4 a0 0 2 fun x_5 =>
  rdR h_4 a0 0 1 fun r_6 =>
  nn r_6 fun a_7 =>
  aln h_4 a_7 fun x_8 =>
  (if x_5 = x_8 then
    kg h_4 a0 0 (bd (f_Jx4a65c_grow_d5877 a0 h_4) fun r_11 h_10 =>
    f_Jx4a65c_add_7a177_38 a0 x1 r2 x_5 r_11 h_10)
  else
    f_Jx4a65c_add_7a177_38 a0 x1 r2 x_5 (some a_7) h_4))
set_option maxRecDepth 20000 in
set_option maxHeartbeats 4000000 in
theorem t_Jx4a65c_add_7a177 {Ω : Om} (a0 : Nat) (x1 : Int32) (r2 : Option Nat) (h : AH) (q : Unit × AH) (hf : f_Jx4a65c_add_7a177 a0 x1 r2 h = some q) : Go Ω M_Jx4a65c_add_7a177 0 (lv_args 0 [vR Ω (some a0), .int x1, vR Ω r2]) [] h none q.2 := by
  unfold f_Jx4a65c_add_7a177 at hf
  rw [la_R, la_I, la_R, la_0]
  refine go_sub (lv' := [(0, vR Ω (some a0)), (1, .int x1), (2, vR Ω r2)]) [0, 1, 2] rfl ?_
  refine go_aload_n dJx4a65c_add_7a177_0 rfl 0 rfl ?_
  refine go_iload_n dJx4a65c_add_7a177_1 rfl 1 rfl ?_
  obtain ⟨hk, hf⟩ := kg_some hf
  obtain ⟨z_1, hc, hf⟩ := bd_some hf
  refine go_callV (y2 := M_Jx4a65c_rangeCheckForAdd_d00df) (c2 := 0) dJx4a65c_add_7a177_2 mo_Jx4a65c_rangeCheckForAdd_d00df ⟨Nat.le_of_ble_eq_true rfl, Nat.le_of_ble_eq_true rfl⟩ na_Jx4a65c_rangeCheckForAdd_d00df w716 w718 (by decide) rfl w20 hk [.int x1] rfl (n_Jx4a65c_rangeCheckForAdd_d00df (a0) x1) rfl (csum (Nat.le_of_ble_eq_true rfl)) (t_Jx4a65c_rangeCheckForAdd_d00df (a0) x1 h _ hc) ?_
  obtain ⟨_, h_2⟩ := z_1
  refine go_aload_n dJx4a65c_add_7a177_5 rfl 0 rfl ?_
  refine go_dup dJx4a65c_add_7a177_6 catR ?_
  refine go_getI dJx4a65c_add_7a177_7 fl_223_0 (fun _ _ => rfl) hf (fun x_3 hf => ?_)
  refine go_iconst 1 dJx4a65c_add_7a177_10 rfl ?_
  refine go_iadd dJx4a65c_add_7a177_11 ?_
  refine go_putI dJx4a65c_add_7a177_12 fl_223_0 (fun q hq => by cases hq; exact Or.inl rfl) (fun _ _ => rfl) rfl hf (fun h_4 hf => ?_)
  refine go_aload_n dJx4a65c_add_7a177_15 rfl 0 rfl ?_
  refine go_getI dJx4a65c_add_7a177_16 fl_221_0 (fun _ _ => rfl) hf (fun x_5 hf => ?_)
  refine go_dup dJx4a65c_add_7a177_19 rfl ?_
  refine go_istore_n (i := 3) (lv' := [(3, .int x_5), (0, vR Ω (some a0)), (1, .int x1), (2, vR Ω r2)]) dJx4a65c_add_7a177_20 rfl (by decide) (by first | rfl | simp [catR, catI, catJ]) ?_
  refine go_aload_n dJx4a65c_add_7a177_21 rfl 1 rfl ?_
  refine go_getR dJx4a65c_add_7a177_22 fl_220_0 (fun _ _ => rfl) hf (fun r_6 hf => ?_)
  refine go_dup dJx4a65c_add_7a177_25 catR ?_
  refine go_astore (i := 4) (lv' := [(4, vR Ω r_6), (3, .int x_5), (0, vR Ω (some a0)), (1, .int x1), (2, vR Ω r2)]) dJx4a65c_add_7a177_26 (by decide) (by first | rfl | simp [catR, catI, catJ]) ?_
  obtain ⟨a_7, rfl, hga_7⟩ := nn_some hf
  have hf := hga_7
  refine go_alen dJx4a65c_add_7a177_28 hf (fun x_8 hf => ?_)
  refine go_icmp_ne (tgt := 38) dJx4a65c_add_7a177_29 (by decide) hf (fun hf => ?_) (fun hf => ?_)
  · refine go_sub (lv' := [(0, vR Ω (some a0)), (1, .int x1), (2, vR Ω r2), (3, .int x_5), (4, vR Ω (some a_7))]) [2, 3, 4, 1, 0] rfl ?_
    exact t_Jx4a65c_add_7a177_38 a0 x1 r2 x_5 (some a_7) h_4 q hf
  · refine go_aload_n dJx4a65c_add_7a177_32 rfl 2 rfl ?_
    obtain ⟨hk, hf⟩ := kg_some hf
    obtain ⟨z_9, hc, hf⟩ := bd_some hf
    refine go_callV (y2 := M_Jx4a65c_grow_d5877) (c2 := 0) dJx4a65c_add_7a177_33 mo_Jx4a65c_grow_d5877 ⟨Nat.le_of_ble_eq_true rfl, Nat.le_of_ble_eq_true rfl⟩ na_Jx4a65c_grow_d5877 w263 w265 (by decide) rfl w1 hk [] rfl (n_Jx4a65c_grow_d5877 (a0)) rfl (csum (Nat.le_of_ble_eq_true rfl)) (t_Jx4a65c_grow_d5877 (a0) h_4 _ hc) ?_
    obtain ⟨r_11, h_10⟩ := z_9
    refine go_astore (i := 4) (lv' := [(4, vR Ω r_11), (3, .int x_5), (0, vR Ω (some a0)), (1, .int x1), (2, vR Ω r2)]) dJx4a65c_add_7a177_36 (by decide) (by first | rfl | simp [catR, catI, catJ]) ?_
    refine go_sub (lv' := [(0, vR Ω (some a0)), (1, .int x1), (2, vR Ω r2), (3, .int x_5), (4, vR Ω r_11)]) [2, 3, 4, 1, 0] rfl ?_
    exact t_Jx4a65c_add_7a177_38 a0 x1 r2 x_5 r_11 h_10 q hf
-- LetterBroker$Queue.takeBack(LLetterBroker$Letter;)V
theorem dX10_takeBack_0 : decode cX10_takeBack 0 = .ok (.aload_n 1, 1) := by decide +kernel
theorem dX10_takeBack_1 : decode cX10_takeBack 1 = .ok (.iconst 1, 1) := by decide +kernel
theorem dX10_takeBack_2 : decode cX10_takeBack 2 = .ok (.putfield 20, 3) := by decide +kernel
theorem dX10_takeBack_5 : decode cX10_takeBack 5 = .ok (.iconst 0, 1) := by decide +kernel
theorem dX10_takeBack_6 : decode cX10_takeBack 6 = .ok (.istore_n 2, 1) := by decide +kernel
theorem dX10_takeBack_7 : decode cX10_takeBack 7 = .ok (.iload_n 2, 1) := by decide +kernel
theorem dX10_takeBack_8 : decode cX10_takeBack 8 = .ok (.aload_n 0, 1) := by decide +kernel
theorem dX10_takeBack_9 : decode cX10_takeBack 9 = .ok (.getfield 10, 3) := by decide +kernel
theorem dX10_takeBack_12 : decode cX10_takeBack 12 = .ok (.invokeinterface 26 1, 5) := by decide +kernel
theorem dX10_takeBack_17 : decode cX10_takeBack 17 = .ok (.if_icmp .ge 32, 3) := by decide +kernel
theorem dX10_takeBack_20 : decode cX10_takeBack 20 = .ok (.aload_n 0, 1) := by decide +kernel
theorem dX10_takeBack_21 : decode cX10_takeBack 21 = .ok (.getfield 10, 3) := by decide +kernel
theorem dX10_takeBack_24 : decode cX10_takeBack 24 = .ok (.iload_n 2, 1) := by decide +kernel
theorem dX10_takeBack_25 : decode cX10_takeBack 25 = .ok (.invokeinterface 32 2, 5) := by decide +kernel
theorem dX10_takeBack_30 : decode cX10_takeBack 30 = .ok (.checkcast 21, 3) := by decide +kernel
theorem dX10_takeBack_33 : decode cX10_takeBack 33 = .ok (.getfield 36, 3) := by decide +kernel
theorem dX10_takeBack_36 : decode cX10_takeBack 36 = .ok (.aload_n 1, 1) := by decide +kernel
theorem dX10_takeBack_37 : decode cX10_takeBack 37 = .ok (.getfield 36, 3) := by decide +kernel
theorem dX10_takeBack_40 : decode cX10_takeBack 40 = .ok (.if_icmp .ge 9, 3) := by decide +kernel
theorem dX10_takeBack_43 : decode cX10_takeBack 43 = .ok (.iinc 2 1, 3) := by decide +kernel
theorem dX10_takeBack_46 : decode cX10_takeBack 46 = .ok (.goto (-39), 3) := by decide +kernel
theorem dX10_takeBack_49 : decode cX10_takeBack 49 = .ok (.aload_n 0, 1) := by decide +kernel
theorem dX10_takeBack_50 : decode cX10_takeBack 50 = .ok (.getfield 10, 3) := by decide +kernel
theorem dX10_takeBack_53 : decode cX10_takeBack 53 = .ok (.iload_n 2, 1) := by decide +kernel
theorem dX10_takeBack_54 : decode cX10_takeBack 54 = .ok (.aload_n 1, 1) := by decide +kernel
theorem dX10_takeBack_55 : decode cX10_takeBack 55 = .ok (.invokeinterface 40 3, 5) := by decide +kernel
theorem dX10_takeBack_60 : decode cX10_takeBack 60 = .ok (.return_, 1) := by decide +kernel
def f_X10_takeBack_49 (a0 : Nat) (r1 : Option Nat) (x2 : Int32) (h : AH) : Option (Unit × AH) := rdR h a0 11 1 fun r_1 =>
  nn r_1 fun a_2 =>
  kg h a_2 0 (bd (f_Jx4a65c_add_7a177 a_2 x2 r1 h) fun _ h_4 =>
  some ((), h_4))
set_option maxRecDepth 20000 in
set_option maxHeartbeats 4000000 in
theorem t_X10_takeBack_49 {Ω : Om} (a0 : Nat) (r1 : Option Nat) (x2 : Int32) (h : AH) (q : Unit × AH) (hf : f_X10_takeBack_49 a0 r1 x2 h = some q) : Go Ω M_X10_takeBack 49 [(0, vR Ω (some a0)), (1, vR Ω r1), (2, .int x2)] [] h none q.2 := by
  unfold f_X10_takeBack_49 at hf
  refine go_aload_n dX10_takeBack_49 rfl 0 rfl ?_
  refine go_getR dX10_takeBack_50 fl_802_0 (fun _ _ => rfl) hf (fun r_1 hf => ?_)
  refine go_iload_n dX10_takeBack_53 rfl 2 rfl ?_
  refine go_aload_n dX10_takeBack_54 rfl 1 rfl ?_
  obtain ⟨a_2, rfl, hga_2⟩ := nn_some hf
  have hf := hga_2
  obtain ⟨hk, hf⟩ := kg_some hf
  obtain ⟨z_3, hc, hf⟩ := bd_some hf
  refine go_callF (y2 := M_Jx4a65c_add_7a177) (x2 := ⟨"java/util/List", "add", "(ILjava/lang/Object;)V"⟩) dX10_takeBack_55 mo_Jx4a65c_add_7a177 ⟨Nat.le_of_ble_eq_true rfl, Nat.le_of_ble_eq_true rfl⟩ na_Jx4a65c_add_7a177 w708 w713 w711 (by decide) (fun U hU => hU.2.1) hk [.int x2, vR Ω r1] rfl (n_Jx4a65c_add_7a177 (a_2) x2 r1) rfl (csum (Nat.le_of_ble_eq_true rfl)) (t_Jx4a65c_add_7a177 (a_2) x2 r1 h _ hc) ?_
  obtain ⟨_, h_4⟩ := z_3
  exact go_return dX10_takeBack_60 rfl hf
def f_X10_takeBack_7 : Nat → Nat → Option Nat → Int32 → AH → Option (Unit × AH)
  | 0, _, _, _, _ => none
  | n + 1, a0, r1, x2, h => rdR h a0 11 1 fun r_1 =>
    nn r_1 fun a_2 =>
    kg h a_2 0 (bd (f_Jx4a65c_size_8abf5 a_2 h) fun x_5 h_4 =>
    (if x_5 ≤ x2 then
      f_X10_takeBack_49 a0 r1 x2 h_4
    else
      rdR h_4 a0 11 1 fun r_6 =>
      nn r_6 fun a_7 =>
      kg h_4 a_7 0 (bd (f_Jx4a65c_get_915e3 a_7 x2 h_4) fun r_10 h_9 =>
      ckc h_9 r_10 8 (
      nn r_10 fun a_11 =>
      rdI h_9 a_11 8 2 fun x_12 =>
      nn r1 fun a_13 =>
      rdI h_9 a_13 8 2 fun x_14 =>
      (if x_14 ≤ x_12 then
        f_X10_takeBack_49 a0 (some a_13) x2 h_9
      else
        f_X10_takeBack_7 n a0 (some a_13) (x2 + 1) h_9)))))
set_option maxRecDepth 20000 in
set_option maxHeartbeats 4000000 in
theorem t_X10_takeBack_7 {Ω : Om} : ∀ (n : Nat) (a0 : Nat) (r1 : Option Nat) (x2 : Int32) (h : AH) (q : Unit × AH), f_X10_takeBack_7 n a0 r1 x2 h = some q → Go Ω M_X10_takeBack 7 [(0, vR Ω (some a0)), (1, vR Ω r1), (2, .int x2)] [] h none q.2 := by
  intro n
  induction n with
  | zero => intro a0 r1 x2 h q hf; cases hf
  | succ n ih =>
    intro a0 r1 x2 h q hf
    rw [f_X10_takeBack_7] at hf
    refine go_iload_n dX10_takeBack_7 rfl 2 rfl ?_
    refine go_aload_n dX10_takeBack_8 rfl 0 rfl ?_
    refine go_getR dX10_takeBack_9 fl_802_0 (fun _ _ => rfl) hf (fun r_1 hf => ?_)
    obtain ⟨a_2, rfl, hga_2⟩ := nn_some hf
    have hf := hga_2
    obtain ⟨hk, hf⟩ := kg_some hf
    obtain ⟨z_3, hc, hf⟩ := bd_some hf
    refine go_callF (y2 := M_Jx4a65c_size_8abf5) (x2 := ⟨"java/util/List", "size", "()I"⟩) dX10_takeBack_12 mo_Jx4a65c_size_8abf5 ⟨Nat.le_of_ble_eq_true rfl, Nat.le_of_ble_eq_true rfl⟩ na_Jx4a65c_size_8abf5 w703 w522 w520 (by decide) (fun U hU => hU.2.2.2.2.1) hk [] rfl (n_Jx4a65c_size_8abf5 (a_2)) rfl (csum (Nat.le_of_ble_eq_true rfl)) (t_Jx4a65c_size_8abf5 (a_2) h _ hc) ?_
    obtain ⟨x_5, h_4⟩ := z_3
    refine go_icmp_ge (tgt := 49) dX10_takeBack_17 (by decide) hf (fun hf => ?_) (fun hf => ?_)
    · refine go_sub (lv' := [(0, vR Ω (some a0)), (1, vR Ω r1), (2, .int x2)]) [0, 1, 2] rfl ?_
      exact t_X10_takeBack_49 a0 r1 x2 h_4 q hf
    · refine go_aload_n dX10_takeBack_20 rfl 0 rfl ?_
      refine go_getR dX10_takeBack_21 fl_802_0 (fun _ _ => rfl) hf (fun r_6 hf => ?_)
      refine go_iload_n dX10_takeBack_24 rfl 2 rfl ?_
      obtain ⟨a_7, rfl, hga_7⟩ := nn_some hf
      have hf := hga_7
      obtain ⟨hk, hf⟩ := kg_some hf
      obtain ⟨z_8, hc, hf⟩ := bd_some hf
      refine go_callF (y2 := M_Jx4a65c_get_915e3) (x2 := ⟨"java/util/List", "get", "(I)Ljava/lang/Object;"⟩) dX10_takeBack_25 mo_Jx4a65c_get_915e3 ⟨Nat.le_of_ble_eq_true rfl, Nat.le_of_ble_eq_true rfl⟩ na_Jx4a65c_get_915e3 w705 w543 w541 (by decide) (fun U hU => hU.2.2.1) hk [.int x2] rfl (n_Jx4a65c_get_915e3 (a_7) x2) rfl (csum (Nat.le_of_ble_eq_true rfl)) (t_Jx4a65c_get_915e3 (a_7) x2 h_4 _ hc) ?_
      obtain ⟨r_10, h_9⟩ := z_8
      refine go_cast (c := 8) dX10_takeBack_30 (by decide) rfl w706 hf (fun hf => ?_)
      obtain ⟨a_11, rfl, hga_11⟩ := nn_some hf
      have hf := hga_11
      refine go_getI dX10_takeBack_33 fl_616_0 (fun _ _ => rfl) hf (fun x_12 hf => ?_)
      refine go_aload_n dX10_takeBack_36 rfl 1 rfl ?_
      obtain ⟨a_13, rfl, hga_13⟩ := nn_some hf
      have hf := hga_13
      refine go_getI dX10_takeBack_37 fl_616_0 (fun _ _ => rfl) hf (fun x_14 hf => ?_)
      refine go_icmp_ge (tgt := 49) dX10_takeBack_40 (by decide) hf (fun hf => ?_) (fun hf => ?_)
      · refine go_sub (lv' := [(0, vR Ω (some a0)), (1, vR Ω (some a_13)), (2, .int x2)]) [0, 1, 2] rfl ?_
        exact t_X10_takeBack_49 a0 (some a_13) x2 h_9 q hf
      · refine go_iinc (j := 2) (v := x2 + 1) (lv' := [(2, .int (x2 + 1)), (0, vR Ω (some a0)), (1, vR Ω (some a_13))]) dX10_takeBack_43 rfl rfl (by decide) (by first | rfl | simp [catR, catI, catJ]) ?_
        refine go_goto (tgt := 7) dX10_takeBack_46 (by decide) ?_
        refine go_sub (lv' := [(0, vR Ω (some a0)), (1, vR Ω (some a_13)), (2, .int (x2 + 1))]) [1, 2, 0] rfl ?_
        exact ih a0 (some a_13) (x2 + 1) h_9 q hf
def f_X10_takeBack (a0 : Nat) (r1 : Option Nat) (h : AH) : Option (Unit × AH) := nn r1 fun a_1 =>
  wrZ h a_1 8 3 1 fun h_2 =>
  f_X10_takeBack_7 FU a0 (some a_1) 0 h_2
set_option maxRecDepth 20000 in
set_option maxHeartbeats 4000000 in
theorem t_X10_takeBack {Ω : Om} (a0 : Nat) (r1 : Option Nat) (h : AH) (q : Unit × AH) (hf : f_X10_takeBack a0 r1 h = some q) : Go Ω M_X10_takeBack 0 (lv_args 0 [vR Ω (some a0), vR Ω r1]) [] h none q.2 := by
  unfold f_X10_takeBack at hf
  rw [la_R, la_R, la_0]
  refine go_sub (lv' := [(0, vR Ω (some a0)), (1, vR Ω r1)]) [0, 1] rfl ?_
  refine go_aload_n dX10_takeBack_0 rfl 1 rfl ?_
  refine go_iconst 1 dX10_takeBack_1 rfl ?_
  obtain ⟨a_1, rfl, hga_1⟩ := nn_some hf
  have hf := hga_1
  refine go_putZ dX10_takeBack_2 fl_618_0 (fun q hq => by cases hq; exact Or.inl rfl) (fun _ _ => rfl) rfl hf (fun h_2 hf => ?_)
  refine go_iconst 0 dX10_takeBack_5 rfl ?_
  refine go_istore_n (i := 2) (lv' := [(2, .int 0), (0, vR Ω (some a0)), (1, vR Ω (some a_1))]) dX10_takeBack_6 rfl (by decide) (by first | rfl | simp [catR, catI, catJ]) ?_
  refine go_sub (lv' := [(0, vR Ω (some a0)), (1, vR Ω (some a_1)), (2, .int 0)]) [1, 2, 0] rfl ?_
  exact t_X10_takeBack_7 FU a0 (some a_1) 0 h_2 q hf
-- LetterBroker$Channel.giveAllBack()V
theorem dX1_giveAllBack_0 : decode cX1_giveAllBack 0 = .ok (.iconst 0, 1) := by decide +kernel
theorem dX1_giveAllBack_1 : decode cX1_giveAllBack 1 = .ok (.istore_n 1, 1) := by decide +kernel
theorem dX1_giveAllBack_2 : decode cX1_giveAllBack 2 = .ok (.iload_n 1, 1) := by decide +kernel
theorem dX1_giveAllBack_3 : decode cX1_giveAllBack 3 = .ok (.aload_n 0, 1) := by decide +kernel
theorem dX1_giveAllBack_4 : decode cX1_giveAllBack 4 = .ok (.getfield 12, 3) := by decide +kernel
theorem dX1_giveAllBack_7 : decode cX1_giveAllBack 7 = .ok (.invokeinterface 49 1, 5) := by decide +kernel
theorem dX1_giveAllBack_12 : decode cX1_giveAllBack 12 = .ok (.if_icmp .ge 41, 3) := by decide +kernel
theorem dX1_giveAllBack_15 : decode cX1_giveAllBack 15 = .ok (.aload_n 0, 1) := by decide +kernel
theorem dX1_giveAllBack_16 : decode cX1_giveAllBack 16 = .ok (.getfield 12, 3) := by decide +kernel
theorem dX1_giveAllBack_19 : decode cX1_giveAllBack 19 = .ok (.iload_n 1, 1) := by decide +kernel
theorem dX1_giveAllBack_20 : decode cX1_giveAllBack 20 = .ok (.invokeinterface 53 2, 5) := by decide +kernel
theorem dX1_giveAllBack_25 : decode cX1_giveAllBack 25 = .ok (.checkcast 39, 3) := by decide +kernel
theorem dX1_giveAllBack_28 : decode cX1_giveAllBack 28 = .ok (.getfield 69, 3) := by decide +kernel
theorem dX1_giveAllBack_31 : decode cX1_giveAllBack 31 = .ok (.aload_n 0, 1) := by decide +kernel
theorem dX1_giveAllBack_32 : decode cX1_giveAllBack 32 = .ok (.getfield 12, 3) := by decide +kernel
theorem dX1_giveAllBack_35 : decode cX1_giveAllBack 35 = .ok (.iload_n 1, 1) := by decide +kernel
theorem dX1_giveAllBack_36 : decode cX1_giveAllBack 36 = .ok (.invokeinterface 53 2, 5) := by decide +kernel
theorem dX1_giveAllBack_41 : decode cX1_giveAllBack 41 = .ok (.checkcast 39, 3) := by decide +kernel
theorem dX1_giveAllBack_44 : decode cX1_giveAllBack 44 = .ok (.invokevirtual 73, 3) := by decide +kernel
theorem dX1_giveAllBack_47 : decode cX1_giveAllBack 47 = .ok (.iinc 1 1, 3) := by decide +kernel
theorem dX1_giveAllBack_50 : decode cX1_giveAllBack 50 = .ok (.goto (-48), 3) := by decide +kernel
theorem dX1_giveAllBack_53 : decode cX1_giveAllBack 53 = .ok (.aload_n 0, 1) := by decide +kernel
theorem dX1_giveAllBack_54 : decode cX1_giveAllBack 54 = .ok (.getfield 12, 3) := by decide +kernel
theorem dX1_giveAllBack_57 : decode cX1_giveAllBack 57 = .ok (.invokeinterface 79 1, 5) := by decide +kernel
theorem dX1_giveAllBack_62 : decode cX1_giveAllBack 62 = .ok (.return_, 1) := by decide +kernel
def f_X1_giveAllBack_53 (a0 : Nat) (h : AH) : Option (Unit × AH) := rdR h a0 2 1 fun r_1 =>
  nn r_1 fun a_2 =>
  kg h a_2 0 (bd (f_Jx4a65c_clear_da8c8 a_2 h) fun _ h_4 =>
  some ((), h_4))
set_option maxRecDepth 20000 in
set_option maxHeartbeats 4000000 in
theorem t_X1_giveAllBack_53 {Ω : Om} (a0 : Nat) (h : AH) (q : Unit × AH) (hf : f_X1_giveAllBack_53 a0 h = some q) : Go Ω M_X1_giveAllBack 53 [(0, vR Ω (some a0))] [] h none q.2 := by
  unfold f_X1_giveAllBack_53 at hf
  refine go_aload_n dX1_giveAllBack_53 rfl 0 rfl ?_
  refine go_getR dX1_giveAllBack_54 fl_350_0 (fun _ _ => rfl) hf (fun r_1 hf => ?_)
  obtain ⟨a_2, rfl, hga_2⟩ := nn_some hf
  have hf := hga_2
  obtain ⟨hk, hf⟩ := kg_some hf
  obtain ⟨z_3, hc, hf⟩ := bd_some hf
  refine go_callF (y2 := M_Jx4a65c_clear_da8c8) (x2 := ⟨"java/util/List", "clear", "()V"⟩) dX1_giveAllBack_57 mo_Jx4a65c_clear_da8c8 ⟨Nat.le_of_ble_eq_true rfl, Nat.le_of_ble_eq_true rfl⟩ na_Jx4a65c_clear_da8c8 w721 w726 w724 (by decide) (fun U hU => hU.2.2.2.2.2.2) hk [] rfl (n_Jx4a65c_clear_da8c8 (a_2)) rfl (csum (Nat.le_of_ble_eq_true rfl)) (t_Jx4a65c_clear_da8c8 (a_2) h _ hc) ?_
  obtain ⟨_, h_4⟩ := z_3
  exact go_return dX1_giveAllBack_62 rfl hf
def f_X1_giveAllBack_2 : Nat → Nat → Int32 → AH → Option (Unit × AH)
  | 0, _, _, _ => none
  | n + 1, a0, x1, h => rdR h a0 2 1 fun r_1 =>
    nn r_1 fun a_2 =>
    kg h a_2 0 (bd (f_Jx4a65c_size_8abf5 a_2 h) fun x_5 h_4 =>
    (if x_5 ≤ x1 then
      f_X1_giveAllBack_53 a0 h_4
    else
      rdR h_4 a0 2 1 fun r_6 =>
      nn r_6 fun a_7 =>
      kg h_4 a_7 0 (bd (f_Jx4a65c_get_915e3 a_7 x1 h_4) fun r_10 h_9 =>
      ckc h_9 r_10 8 (
      nn r_10 fun a_11 =>
      rdR h_9 a_11 8 1 fun r_12 =>
      rdR h_9 a0 2 1 fun r_13 =>
      nn r_13 fun a_14 =>
      kg h_9 a_14 0 (bd (f_Jx4a65c_get_915e3 a_14 x1 h_9) fun r_17 h_16 =>
      ckc h_16 r_17 8 (
      nn r_12 fun a_18 =>
      kg h_16 a_18 11 (bd (f_X10_takeBack a_18 r_17 h_16) fun _ h_20 =>
      f_X1_giveAllBack_2 n a0 (x1 + 1) h_20)))))))
set_option maxRecDepth 20000 in
set_option maxHeartbeats 4000000 in
theorem t_X1_giveAllBack_2 {Ω : Om} : ∀ (n : Nat) (a0 : Nat) (x1 : Int32) (h : AH) (q : Unit × AH), f_X1_giveAllBack_2 n a0 x1 h = some q → Go Ω M_X1_giveAllBack 2 [(0, vR Ω (some a0)), (1, .int x1)] [] h none q.2 := by
  intro n
  induction n with
  | zero => intro a0 x1 h q hf; cases hf
  | succ n ih =>
    intro a0 x1 h q hf
    rw [f_X1_giveAllBack_2] at hf
    refine go_iload_n dX1_giveAllBack_2 rfl 1 rfl ?_
    refine go_aload_n dX1_giveAllBack_3 rfl 0 rfl ?_
    refine go_getR dX1_giveAllBack_4 fl_350_0 (fun _ _ => rfl) hf (fun r_1 hf => ?_)
    obtain ⟨a_2, rfl, hga_2⟩ := nn_some hf
    have hf := hga_2
    obtain ⟨hk, hf⟩ := kg_some hf
    obtain ⟨z_3, hc, hf⟩ := bd_some hf
    refine go_callF (y2 := M_Jx4a65c_size_8abf5) (x2 := ⟨"java/util/List", "size", "()I"⟩) dX1_giveAllBack_7 mo_Jx4a65c_size_8abf5 ⟨Nat.le_of_ble_eq_true rfl, Nat.le_of_ble_eq_true rfl⟩ na_Jx4a65c_size_8abf5 w694 w522 w520 (by decide) (fun U hU => hU.2.2.2.2.1) hk [] rfl (n_Jx4a65c_size_8abf5 (a_2)) rfl (csum (Nat.le_of_ble_eq_true rfl)) (t_Jx4a65c_size_8abf5 (a_2) h _ hc) ?_
    obtain ⟨x_5, h_4⟩ := z_3
    refine go_icmp_ge (tgt := 53) dX1_giveAllBack_12 (by decide) hf (fun hf => ?_) (fun hf => ?_)
    · refine go_sub (lv' := [(0, vR Ω (some a0))]) [0] rfl ?_
      exact t_X1_giveAllBack_53 a0 h_4 q hf
    · refine go_aload_n dX1_giveAllBack_15 rfl 0 rfl ?_
      refine go_getR dX1_giveAllBack_16 fl_350_0 (fun _ _ => rfl) hf (fun r_6 hf => ?_)
      refine go_iload_n dX1_giveAllBack_19 rfl 1 rfl ?_
      obtain ⟨a_7, rfl, hga_7⟩ := nn_some hf
      have hf := hga_7
      obtain ⟨hk, hf⟩ := kg_some hf
      obtain ⟨z_8, hc, hf⟩ := bd_some hf
      refine go_callF (y2 := M_Jx4a65c_get_915e3) (x2 := ⟨"java/util/List", "get", "(I)Ljava/lang/Object;"⟩) dX1_giveAllBack_20 mo_Jx4a65c_get_915e3 ⟨Nat.le_of_ble_eq_true rfl, Nat.le_of_ble_eq_true rfl⟩ na_Jx4a65c_get_915e3 w696 w543 w541 (by decide) (fun U hU => hU.2.2.1) hk [.int x1] rfl (n_Jx4a65c_get_915e3 (a_7) x1) rfl (csum (Nat.le_of_ble_eq_true rfl)) (t_Jx4a65c_get_915e3 (a_7) x1 h_4 _ hc) ?_
      obtain ⟨r_10, h_9⟩ := z_8
      refine go_cast (c := 8) dX1_giveAllBack_25 (by decide) rfl w697 hf (fun hf => ?_)
      obtain ⟨a_11, rfl, hga_11⟩ := nn_some hf
      have hf := hga_11
      refine go_getR dX1_giveAllBack_28 fl_614_0 (fun _ _ => rfl) hf (fun r_12 hf => ?_)
      refine go_aload_n dX1_giveAllBack_31 rfl 0 rfl ?_
      refine go_getR dX1_giveAllBack_32 fl_350_0 (fun _ _ => rfl) hf (fun r_13 hf => ?_)
      refine go_iload_n dX1_giveAllBack_35 rfl 1 rfl ?_
      obtain ⟨a_14, rfl, hga_14⟩ := nn_some hf
      have hf := hga_14
      obtain ⟨hk, hf⟩ := kg_some hf
      obtain ⟨z_15, hc, hf⟩ := bd_some hf
      refine go_callF (y2 := M_Jx4a65c_get_915e3) (x2 := ⟨"java/util/List", "get", "(I)Ljava/lang/Object;"⟩) dX1_giveAllBack_36 mo_Jx4a65c_get_915e3 ⟨Nat.le_of_ble_eq_true rfl, Nat.le_of_ble_eq_true rfl⟩ na_Jx4a65c_get_915e3 w696 w543 w541 (by decide) (fun U hU => hU.2.2.1) hk [.int x1] rfl (n_Jx4a65c_get_915e3 (a_14) x1) rfl (csum (Nat.le_of_ble_eq_true rfl)) (t_Jx4a65c_get_915e3 (a_14) x1 h_9 _ hc) ?_
      obtain ⟨r_17, h_16⟩ := z_15
      refine go_cast (c := 8) dX1_giveAllBack_41 (by decide) rfl w697 hf (fun hf => ?_)
      obtain ⟨a_18, rfl, hga_18⟩ := nn_some hf
      have hf := hga_18
      obtain ⟨hk, hf⟩ := kg_some hf
      obtain ⟨z_19, hc, hf⟩ := bd_some hf
      refine go_callV (y2 := M_X10_takeBack) (c2 := 11) dX1_giveAllBack_44 mo_X10_takeBack ⟨Nat.le_of_ble_eq_true rfl, Nat.le_of_ble_eq_true rfl⟩ na_X10_takeBack w698 w699 (by decide) rfl w700 hk [vR Ω r_17] rfl (n_X10_takeBack (a_18) r_17) rfl (csum (Nat.le_of_ble_eq_true rfl)) (t_X10_takeBack (a_18) r_17 h_16 _ hc) ?_
      obtain ⟨_, h_20⟩ := z_19
      refine go_iinc (j := 1) (v := x1 + 1) (lv' := [(1, .int (x1 + 1)), (0, vR Ω (some a0))]) dX1_giveAllBack_47 rfl rfl (by decide) (by first | rfl | simp [catR, catI, catJ]) ?_
      refine go_goto (tgt := 2) dX1_giveAllBack_50 (by decide) ?_
      refine go_sub (lv' := [(0, vR Ω (some a0)), (1, .int (x1 + 1))]) [1, 0] rfl ?_
      exact ih a0 (x1 + 1) h_20 q hf
def f_X1_giveAllBack (a0 : Nat) (h : AH) : Option (Unit × AH) := f_X1_giveAllBack_2 FU a0 0 h
set_option maxRecDepth 20000 in
set_option maxHeartbeats 4000000 in
theorem t_X1_giveAllBack {Ω : Om} (a0 : Nat) (h : AH) (q : Unit × AH) (hf : f_X1_giveAllBack a0 h = some q) : Go Ω M_X1_giveAllBack 0 (lv_args 0 [vR Ω (some a0)]) [] h none q.2 := by
  unfold f_X1_giveAllBack at hf
  rw [la_R, la_0]
  refine go_sub (lv' := [(0, vR Ω (some a0))]) [0] rfl ?_
  refine go_iconst 0 dX1_giveAllBack_0 rfl ?_
  refine go_istore_n (i := 1) (lv' := [(1, .int 0), (0, vR Ω (some a0))]) dX1_giveAllBack_1 rfl (by decide) (by first | rfl | simp [catR, catI, catJ]) ?_
  refine go_sub (lv' := [(0, vR Ω (some a0)), (1, .int 0)]) [1, 0] rfl ?_
  exact t_X1_giveAllBack_2 FU a0 0 h q hf
-- LetterBroker$Channel.leave(I)V
theorem dX1_leave_0 : decode cX1_leave 0 = .ok (.aload_n 0, 1) := by decide +kernel
theorem dX1_leave_1 : decode cX1_leave 1 = .ok (.iload_n 1, 1) := by decide +kernel
theorem dX1_leave_2 : decode cX1_leave 2 = .ok (.putfield 21, 3) := by decide +kernel
theorem dX1_leave_5 : decode cX1_leave 5 = .ok (.aload_n 0, 1) := by decide +kernel
theorem dX1_leave_6 : decode cX1_leave 6 = .ok (.getfield 18, 3) := by decide +kernel
theorem dX1_leave_9 : decode cX1_leave 9 = .ok (.invokeinterface 79 1, 5) := by decide +kernel
theorem dX1_leave_14 : decode cX1_leave 14 = .ok (.aload_n 0, 1) := by decide +kernel
theorem dX1_leave_15 : decode cX1_leave 15 = .ok (.iconst 0, 1) := by decide +kernel
theorem dX1_leave_16 : decode cX1_leave 16 = .ok (.putfield 82, 3) := by decide +kernel
theorem dX1_leave_19 : decode cX1_leave 19 = .ok (.aload_n 0, 1) := by decide +kernel
theorem dX1_leave_20 : decode cX1_leave 20 = .ok (.aconst_null, 1) := by decide +kernel
theorem dX1_leave_21 : decode cX1_leave 21 = .ok (.putfield 85, 3) := by decide +kernel
theorem dX1_leave_24 : decode cX1_leave 24 = .ok (.return_, 1) := by decide +kernel
def f_X1_leave (a0 : Nat) (x1 : Int32) (h : AH) : Option (Unit × AH) := wrI h a0 2 3 x1 fun h_1 =>
  rdR h_1 a0 2 2 fun r_2 =>
  nn r_2 fun a_3 =>
  kg h_1 a_3 0 (bd (f_Jx4a65c_clear_da8c8 a_3 h_1) fun _ h_5 =>
  wrZ h_5 a0 2 6 0 fun h_6 =>
  wrR h_6 a0 2 8 none fun h_7 =>
  some ((), h_7))
set_option maxRecDepth 20000 in
set_option maxHeartbeats 4000000 in
theorem t_X1_leave {Ω : Om} (a0 : Nat) (x1 : Int32) (h : AH) (q : Unit × AH) (hf : f_X1_leave a0 x1 h = some q) : Go Ω M_X1_leave 0 (lv_args 0 [vR Ω (some a0), .int x1]) [] h none q.2 := by
  unfold f_X1_leave at hf
  rw [la_R, la_I, la_0]
  refine go_sub (lv' := [(0, vR Ω (some a0)), (1, .int x1)]) [0, 1] rfl ?_
  refine go_aload_n dX1_leave_0 rfl 0 rfl ?_
  refine go_iload_n dX1_leave_1 rfl 1 rfl ?_
  refine go_putI dX1_leave_2 fl_355_0 (fun q hq => by cases hq; exact Or.inl rfl) (fun _ _ => rfl) rfl hf (fun h_1 hf => ?_)
  refine go_aload_n dX1_leave_5 rfl 0 rfl ?_
  refine go_getR dX1_leave_6 fl_353_0 (fun _ _ => rfl) hf (fun r_2 hf => ?_)
  obtain ⟨a_3, rfl, hga_3⟩ := nn_some hf
  have hf := hga_3
  obtain ⟨hk, hf⟩ := kg_some hf
  obtain ⟨z_4, hc, hf⟩ := bd_some hf
  refine go_callF (y2 := M_Jx4a65c_clear_da8c8) (x2 := ⟨"java/util/List", "clear", "()V"⟩) dX1_leave_9 mo_Jx4a65c_clear_da8c8 ⟨Nat.le_of_ble_eq_true rfl, Nat.le_of_ble_eq_true rfl⟩ na_Jx4a65c_clear_da8c8 w721 w726 w724 (by decide) (fun U hU => hU.2.2.2.2.2.2) hk [] rfl (n_Jx4a65c_clear_da8c8 (a_3)) rfl (csum (Nat.le_of_ble_eq_true rfl)) (t_Jx4a65c_clear_da8c8 (a_3) h_1 _ hc) ?_
  obtain ⟨_, h_5⟩ := z_4
  refine go_aload_n dX1_leave_14 rfl 0 rfl ?_
  refine go_iconst 0 dX1_leave_15 rfl ?_
  refine go_putZ dX1_leave_16 fl_363_0 (fun q hq => by cases hq; exact Or.inl rfl) (fun _ _ => rfl) rfl hf (fun h_6 hf => ?_)
  refine go_aload_n dX1_leave_19 rfl 0 rfl ?_
  refine go_null dX1_leave_20 ?_
  refine go_putR dX1_leave_21 fl_367_0 (fun q hq => by cases hq; exact Or.inl rfl) (fun _ _ => rfl) (Or.inl ⟨_, rfl⟩) hf (fun h_7 hf => ?_)
  exact go_return dX1_leave_24 rfl hf
-- LetterBroker$Office.removeConsumersOn(LLetterBroker$Channel;)V
theorem dX8_removeConsumersOn_0 : decode cX8_removeConsumersOn 0 = .ok (.aload_n 0, 1) := by decide +kernel
theorem dX8_removeConsumersOn_1 : decode cX8_removeConsumersOn 1 = .ok (.getfield 24, 3) := by decide +kernel
theorem dX8_removeConsumersOn_4 : decode cX8_removeConsumersOn 4 = .ok (.invokeinterface 38 1, 5) := by decide +kernel
theorem dX8_removeConsumersOn_9 : decode cX8_removeConsumersOn 9 = .ok (.iconst 1, 1) := by decide +kernel
theorem dX8_removeConsumersOn_10 : decode cX8_removeConsumersOn 10 = .ok (.isub, 1) := by decide +kernel
theorem dX8_removeConsumersOn_11 : decode cX8_removeConsumersOn 11 = .ok (.istore_n 2, 1) := by decide +kernel
theorem dX8_removeConsumersOn_12 : decode cX8_removeConsumersOn 12 = .ok (.iload_n 2, 1) := by decide +kernel
theorem dX8_removeConsumersOn_13 : decode cX8_removeConsumersOn 13 = .ok (.ifCond .lt 40, 3) := by decide +kernel
theorem dX8_removeConsumersOn_16 : decode cX8_removeConsumersOn 16 = .ok (.aload_n 0, 1) := by decide +kernel
theorem dX8_removeConsumersOn_17 : decode cX8_removeConsumersOn 17 = .ok (.getfield 24, 3) := by decide +kernel
theorem dX8_removeConsumersOn_20 : decode cX8_removeConsumersOn 20 = .ok (.iload_n 2, 1) := by decide +kernel
theorem dX8_removeConsumersOn_21 : decode cX8_removeConsumersOn 21 = .ok (.invokeinterface 42 2, 5) := by decide +kernel
theorem dX8_removeConsumersOn_26 : decode cX8_removeConsumersOn 26 = .ok (.checkcast 66, 3) := by decide +kernel
theorem dX8_removeConsumersOn_29 : decode cX8_removeConsumersOn 29 = .ok (.getfield 68, 3) := by decide +kernel
theorem dX8_removeConsumersOn_32 : decode cX8_removeConsumersOn 32 = .ok (.aload_n 1, 1) := by decide +kernel
theorem dX8_removeConsumersOn_33 : decode cX8_removeConsumersOn 33 = .ok (.if_acmp .ne 14, 3) := by decide +kernel
theorem dX8_removeConsumersOn_36 : decode cX8_removeConsumersOn 36 = .ok (.aload_n 0, 1) := by decide +kernel
theorem dX8_removeConsumersOn_37 : decode cX8_removeConsumersOn 37 = .ok (.getfield 24, 3) := by decide +kernel
theorem dX8_removeConsumersOn_40 : decode cX8_removeConsumersOn 40 = .ok (.iload_n 2, 1) := by decide +kernel
theorem dX8_removeConsumersOn_41 : decode cX8_removeConsumersOn 41 = .ok (.invokeinterface 86 2, 5) := by decide +kernel
theorem dX8_removeConsumersOn_46 : decode cX8_removeConsumersOn 46 = .ok (.pop, 1) := by decide +kernel
theorem dX8_removeConsumersOn_47 : decode cX8_removeConsumersOn 47 = .ok (.iinc 2 (-1), 3) := by decide +kernel
theorem dX8_removeConsumersOn_50 : decode cX8_removeConsumersOn 50 = .ok (.goto (-38), 3) := by decide +kernel
theorem dX8_removeConsumersOn_53 : decode cX8_removeConsumersOn 53 = .ok (.return_, 1) := by decide +kernel
def f_X8_removeConsumersOn_47 (k12 : Nat → Option Nat → Int32 → AH → Option (Unit × AH)) (a0 : Nat) (r1 : Option Nat) (x2 : Int32) (h : AH) : Option (Unit × AH) := k12 a0 r1 (x2 + (-1)) h
set_option maxRecDepth 20000 in
set_option maxHeartbeats 4000000 in
theorem t_X8_removeConsumersOn_47 {Ω : Om} {k12 : Nat → Option Nat → Int32 → AH → Option (Unit × AH)} (c12 : ∀ (a0 : Nat) (r1 : Option Nat) (x2 : Int32) (h : AH) (q : Unit × AH), k12 a0 r1 x2 h = some q → Go Ω M_X8_removeConsumersOn 12 [(0, vR Ω (some a0)), (1, vR Ω r1), (2, .int x2)] [] h none q.2) (a0 : Nat) (r1 : Option Nat) (x2 : Int32) (h : AH) (q : Unit × AH) (hf : f_X8_removeConsumersOn_47 k12 a0 r1 x2 h = some q) : Go Ω M_X8_removeConsumersOn 47 [(0, vR Ω (some a0)), (1, vR Ω r1), (2, .int x2)] [] h none q.2 := by
  unfold f_X8_removeConsumersOn_47 at hf
  refine go_iinc (j := 2) (v := x2 + (-1)) (lv' := [(2, .int (x2 + (-1))), (0, vR Ω (some a0)), (1, vR Ω r1)]) dX8_removeConsumersOn_47 rfl rfl (by decide) (by first | rfl | simp [catR, catI, catJ]) ?_
  refine go_goto (tgt := 12) dX8_removeConsumersOn_50 (by decide) ?_
  refine go_sub (lv' := [(0, vR Ω (some a0)), (1, vR Ω r1), (2, .int (x2 + (-1)))]) [1, 2, 0] rfl ?_
  exact c12 a0 r1 (x2 + (-1)) h q hf
def f_X8_removeConsumersOn_12 : Nat → Nat → Option Nat → Int32 → AH → Option (Unit × AH)
  | 0, _, _, _, _ => none
  | n + 1, a0, r1, x2, h => (if x2 < 0 then
      some ((), h)
    else
      rdR h a0 9 3 fun r_1 =>
      nn r_1 fun a_2 =>
      kg h a_2 0 (bd (f_Jx4a65c_get_915e3 a_2 x2 h) fun r_5 h_4 =>
      ckc h_4 r_5 3 (
      nn r_5 fun a_6 =>
      rdR h_4 a_6 3 1 fun r_7 =>
      aq r_7 r1
        (rdR h_4 a0 9 3 fun r_8 =>
        nn r_8 fun a_9 =>
        kg h_4 a_9 0 (bd (f_Jx4a65c_remove_915e3 a_9 x2 h_4) fun r_12 h_11 =>
        f_X8_removeConsumersOn_47 (fun a0 r1 x2 h => f_X8_removeConsumersOn_12 n a0 r1 x2 h) a0 r1 x2 h_11))
        (f_X8_removeConsumersOn_47 (fun a0 r1 x2 h => f_X8_removeConsumersOn_12 n a0 r1 x2 h) a0 r1 x2 h_4))))
set_option maxRecDepth 20000 in
set_option maxHeartbeats 4000000 in
theorem t_X8_removeConsumersOn_12 {Ω : Om} : ∀ (n : Nat) (a0 : Nat) (r1 : Option Nat) (x2 : Int32) (h : AH) (q : Unit × AH), f_X8_removeConsumersOn_12 n a0 r1 x2 h = some q → Go Ω M_X8_removeConsumersOn 12 [(0, vR Ω (some a0)), (1, vR Ω r1), (2, .int x2)] [] h none q.2 := by
  intro n
  induction n with
  | zero => intro a0 r1 x2 h q hf; cases hf
  | succ n ih =>
    intro a0 r1 x2 h q hf
    rw [f_X8_removeConsumersOn_12] at hf
    refine go_iload_n dX8_removeConsumersOn_12 rfl 2 rfl ?_
    refine go_if_lt (tgt := 53) dX8_removeConsumersOn_13 (by decide) hf (fun hf => ?_) (fun hf => ?_)
    · exact go_return dX8_removeConsumersOn_53 rfl hf
    · refine go_aload_n dX8_removeConsumersOn_16 rfl 0 rfl ?_
      refine go_getR dX8_removeConsumersOn_17 fl_322_0 (fun _ _ => rfl) hf (fun r_1 hf => ?_)
      refine go_iload_n dX8_removeConsumersOn_20 rfl 2 rfl ?_
      obtain ⟨a_2, rfl, hga_2⟩ := nn_some hf
      have hf := hga_2
      obtain ⟨hk, hf⟩ := kg_some hf
      obtain ⟨z_3, hc, hf⟩ := bd_some hf
      refine go_callF (y2 := M_Jx4a65c_get_915e3) (x2 := ⟨"java/util/List", "get", "(I)Ljava/lang/Object;"⟩) dX8_removeConsumersOn_21 mo_Jx4a65c_get_915e3 ⟨Nat.le_of_ble_eq_true rfl, Nat.le_of_ble_eq_true rfl⟩ na_Jx4a65c_get_915e3 w538 w543 w541 (by decide) (fun U hU => hU.2.2.1) hk [.int x2] rfl (n_Jx4a65c_get_915e3 (a_2) x2) rfl (csum (Nat.le_of_ble_eq_true rfl)) (t_Jx4a65c_get_915e3 (a_2) x2 h _ hc) ?_
      obtain ⟨r_5, h_4⟩ := z_3
      refine go_cast (c := 3) dX8_removeConsumersOn_26 (by decide) rfl w674 hf (fun hf => ?_)
      obtain ⟨a_6, rfl, hga_6⟩ := nn_some hf
      have hf := hga_6
      refine go_getR dX8_removeConsumersOn_29 fl_903_0 (fun _ _ => rfl) hf (fun r_7 hf => ?_)
      refine go_aload_n dX8_removeConsumersOn_32 rfl 1 rfl ?_
      refine go_acmp_ne (tgt := 47) dX8_removeConsumersOn_33 (by decide) hf (fun hf => ?_) (fun hf => ?_)
      · refine go_sub (lv' := [(0, vR Ω (some a0)), (1, vR Ω r1), (2, .int x2)]) [0, 1, 2] rfl ?_
        exact t_X8_removeConsumersOn_47 ih a0 r1 x2 h_4 q hf
      · refine go_aload_n dX8_removeConsumersOn_36 rfl 0 rfl ?_
        refine go_getR dX8_removeConsumersOn_37 fl_322_0 (fun _ _ => rfl) hf (fun r_8 hf => ?_)
        refine go_iload_n dX8_removeConsumersOn_40 rfl 2 rfl ?_
        obtain ⟨a_9, rfl, hga_9⟩ := nn_some hf
        have hf := hga_9
        obtain ⟨hk, hf⟩ := kg_some hf
        obtain ⟨z_10, hc, hf⟩ := bd_some hf
        refine go_callF (y2 := M_Jx4a65c_remove_915e3) (x2 := ⟨"java/util/List", "remove", "(I)Ljava/lang/Object;"⟩) dX8_removeConsumersOn_41 mo_Jx4a65c_remove_915e3 ⟨Nat.le_of_ble_eq_true rfl, Nat.le_of_ble_eq_true rfl⟩ na_Jx4a65c_remove_915e3 w676 w681 w679 (by decide) (fun U hU => hU.2.2.2.1) hk [.int x2] rfl (n_Jx4a65c_remove_915e3 (a_9) x2) rfl (csum (Nat.le_of_ble_eq_true rfl)) (t_Jx4a65c_remove_915e3 (a_9) x2 h_4 _ hc) ?_
        obtain ⟨r_12, h_11⟩ := z_10
        refine go_pop dX8_removeConsumersOn_46 catR ?_
        refine go_sub (lv' := [(0, vR Ω (some a0)), (1, vR Ω r1), (2, .int x2)]) [0, 1, 2] rfl ?_
        exact t_X8_removeConsumersOn_47 ih a0 r1 x2 h_11 q hf
def f_X8_removeConsumersOn (a0 : Nat) (r1 : Option Nat) (h : AH) : Option (Unit × AH) := rdR h a0 9 3 fun r_1 =>
  nn r_1 fun a_2 =>
  kg h a_2 0 (bd (f_Jx4a65c_size_8abf5 a_2 h) fun x_5 h_4 =>
  lt (x_5 - 1) fun x_6 =>
  f_X8_removeConsumersOn_12 FU a0 r1 x_6 h_4)
set_option maxRecDepth 20000 in
set_option maxHeartbeats 4000000 in
theorem t_X8_removeConsumersOn {Ω : Om} (a0 : Nat) (r1 : Option Nat) (h : AH) (q : Unit × AH) (hf : f_X8_removeConsumersOn a0 r1 h = some q) : Go Ω M_X8_removeConsumersOn 0 (lv_args 0 [vR Ω (some a0), vR Ω r1]) [] h none q.2 := by
  unfold f_X8_removeConsumersOn at hf
  rw [la_R, la_R, la_0]
  refine go_sub (lv' := [(0, vR Ω (some a0)), (1, vR Ω r1)]) [0, 1] rfl ?_
  refine go_aload_n dX8_removeConsumersOn_0 rfl 0 rfl ?_
  refine go_getR dX8_removeConsumersOn_1 fl_322_0 (fun _ _ => rfl) hf (fun r_1 hf => ?_)
  obtain ⟨a_2, rfl, hga_2⟩ := nn_some hf
  have hf := hga_2
  obtain ⟨hk, hf⟩ := kg_some hf
  obtain ⟨z_3, hc, hf⟩ := bd_some hf
  refine go_callF (y2 := M_Jx4a65c_size_8abf5) (x2 := ⟨"java/util/List", "size", "()I"⟩) dX8_removeConsumersOn_4 mo_Jx4a65c_size_8abf5 ⟨Nat.le_of_ble_eq_true rfl, Nat.le_of_ble_eq_true rfl⟩ na_Jx4a65c_size_8abf5 w536 w522 w520 (by decide) (fun U hU => hU.2.2.2.2.1) hk [] rfl (n_Jx4a65c_size_8abf5 (a_2)) rfl (csum (Nat.le_of_ble_eq_true rfl)) (t_Jx4a65c_size_8abf5 (a_2) h _ hc) ?_
  obtain ⟨x_5, h_4⟩ := z_3
  refine go_iconst 1 dX8_removeConsumersOn_9 rfl ?_
  refine go_isub dX8_removeConsumersOn_10 ?_
  refine lt_I hf (fun x_6 hf => ?_)
  refine go_istore_n (i := 2) (lv' := [(2, .int x_6), (0, vR Ω (some a0)), (1, vR Ω r1)]) dX8_removeConsumersOn_11 rfl (by decide) (by first | rfl | simp [catR, catI, catJ]) ?_
  refine go_sub (lv' := [(0, vR Ω (some a0)), (1, vR Ω r1), (2, .int x_6)]) [1, 2, 0] rfl ?_
  exact t_X8_removeConsumersOn_12 FU a0 r1 x_6 h_4 q hf
-- LetterBroker.leaveChannel(LLetterBroker$Channel;I)V
theorem dX11_leaveChannel_0 : decode cX11_leaveChannel 0 = .ok (.aload_n 0, 1) := by decide +kernel
theorem dX11_leaveChannel_1 : decode cX11_leaveChannel 1 = .ok (.getfield 26, 3) := by decide +kernel
theorem dX11_leaveChannel_4 : decode cX11_leaveChannel 4 = .ok (.aload_n 1, 1) := by decide +kernel
theorem dX11_leaveChannel_5 : decode cX11_leaveChannel 5 = .ok (.invokevirtual 153, 3) := by decide +kernel
theorem dX11_leaveChannel_8 : decode cX11_leaveChannel 8 = .ok (.aload_n 1, 1) := by decide +kernel
theorem dX11_leaveChannel_9 : decode cX11_leaveChannel 9 = .ok (.invokevirtual 157, 3) := by decide +kernel
theorem dX11_leaveChannel_12 : decode cX11_leaveChannel 12 = .ok (.aload_n 1, 1) := by decide +kernel
theorem dX11_leaveChannel_13 : decode cX11_leaveChannel 13 = .ok (.iload_n 2, 1) := by decide +kernel
theorem dX11_leaveChannel_14 : decode cX11_leaveChannel 14 = .ok (.invokevirtual 160, 3) := by decide +kernel
theorem dX11_leaveChannel_17 : decode cX11_leaveChannel 17 = .ok (.return_, 1) := by decide +kernel
def f_X11_leaveChannel (a0 : Nat) (r1 : Option Nat) (x2 : Int32) (h : AH) : Option (Unit × AH) := rdR h a0 12 2 fun r_1 =>
  nn r_1 fun a_2 =>
  kg h a_2 9 (bd (f_X8_removeConsumersOn a_2 r1 h) fun _ h_4 =>
  nn r1 fun a_5 =>
  kg h_4 a_5 2 (bd (f_X1_giveAllBack a_5 h_4) fun _ h_7 =>
  kg h_7 a_5 2 (bd (f_X1_leave a_5 x2 h_7) fun _ h_9 =>
  some ((), h_9))))
set_option maxRecDepth 20000 in
set_option maxHeartbeats 4000000 in
theorem t_X11_leaveChannel {Ω : Om} (a0 : Nat) (r1 : Option Nat) (x2 : Int32) (h : AH) (q : Unit × AH) (hf : f_X11_leaveChannel a0 r1 x2 h = some q) : Go Ω M_X11_leaveChannel 0 (lv_args 0 [vR Ω (some a0), vR Ω r1, .int x2]) [] h none q.2 := by
  unfold f_X11_leaveChannel at hf
  rw [la_R, la_R, la_I, la_0]
  refine go_sub (lv' := [(0, vR Ω (some a0)), (1, vR Ω r1), (2, .int x2)]) [0, 1, 2] rfl ?_
  refine go_aload_n dX11_leaveChannel_0 rfl 0 rfl ?_
  refine go_getR dX11_leaveChannel_1 fl_390_0 (fun _ _ => rfl) hf (fun r_1 hf => ?_)
  refine go_aload_n dX11_leaveChannel_4 rfl 1 rfl ?_
  obtain ⟨a_2, rfl, hga_2⟩ := nn_some hf
  have hf := hga_2
  obtain ⟨hk, hf⟩ := kg_some hf
  obtain ⟨z_3, hc, hf⟩ := bd_some hf
  refine go_callV (y2 := M_X8_removeConsumersOn) (c2 := 9) dX11_leaveChannel_5 mo_X8_removeConsumersOn ⟨Nat.le_of_ble_eq_true rfl, Nat.le_of_ble_eq_true rfl⟩ na_X8_removeConsumersOn w670 w671 (by decide) rfl w672 hk [vR Ω r1] rfl (n_X8_removeConsumersOn (a_2) r1) rfl (csum (Nat.le_of_ble_eq_true rfl)) (t_X8_removeConsumersOn (a_2) r1 h _ hc) ?_
  obtain ⟨_, h_4⟩ := z_3
  refine go_aload_n dX11_leaveChannel_8 rfl 1 rfl ?_
  obtain ⟨a_5, rfl, hga_5⟩ := nn_some hf
  have hf := hga_5
  obtain ⟨hk, hf⟩ := kg_some hf
  obtain ⟨z_6, hc, hf⟩ := bd_some hf
  refine go_callV (y2 := M_X1_giveAllBack) (c2 := 2) dX11_leaveChannel_9 mo_X1_giveAllBack ⟨Nat.le_of_ble_eq_true rfl, Nat.le_of_ble_eq_true rfl⟩ na_X1_giveAllBack w689 w690 (by decide) rfl w691 hk [] rfl (n_X1_giveAllBack (a_5)) rfl (csum (Nat.le_of_ble_eq_true rfl)) (t_X1_giveAllBack (a_5) h_4 _ hc) ?_
  obtain ⟨_, h_7⟩ := z_6
  refine go_aload_n dX11_leaveChannel_12 rfl 1 rfl ?_
  refine go_iload_n dX11_leaveChannel_13 rfl 2 rfl ?_
  obtain ⟨hk, hf⟩ := kg_some hf
  obtain ⟨z_8, hc, hf⟩ := bd_some hf
  refine go_callV (y2 := M_X1_leave) (c2 := 2) dX11_leaveChannel_14 mo_X1_leave ⟨Nat.le_of_ble_eq_true rfl, Nat.le_of_ble_eq_true rfl⟩ na_X1_leave w729 w730 (by decide) rfl w731 hk [.int x2] rfl (n_X1_leave (a_5) x2) rfl (csum (Nat.le_of_ble_eq_true rfl)) (t_X1_leave (a_5) x2 h_7 _ hc) ?_
  obtain ⟨_, h_9⟩ := z_8
  exact go_return dX11_leaveChannel_17 rfl hf
-- LetterBroker$Inbox.clear()V
theorem dX6_clear_0 : decode cX6_clear 0 = .ok (.aload_n 0, 1) := by decide +kernel
theorem dX6_clear_1 : decode cX6_clear 1 = .ok (.iconst 0, 1) := by decide +kernel
theorem dX6_clear_2 : decode cX6_clear 2 = .ok (.putfield 15, 3) := by decide +kernel
theorem dX6_clear_5 : decode cX6_clear 5 = .ok (.return_, 1) := by decide +kernel
def f_X6_clear (a0 : Nat) (h : AH) : Option (Unit × AH) := wrI h a0 7 0 0 fun h_1 =>
  some ((), h_1)
set_option maxRecDepth 20000 in
set_option maxHeartbeats 4000000 in
theorem t_X6_clear {Ω : Om} (a0 : Nat) (h : AH) (q : Unit × AH) (hf : f_X6_clear a0 h = some q) : Go Ω M_X6_clear 0 (lv_args 0 [vR Ω (some a0)]) [] h none q.2 := by
  unfold f_X6_clear at hf
  rw [la_R, la_0]
  refine go_sub (lv' := [(0, vR Ω (some a0))]) [0] rfl ?_
  refine go_aload_n dX6_clear_0 rfl 0 rfl ?_
  refine go_iconst 0 dX6_clear_1 rfl ?_
  refine go_putI dX6_clear_2 fl_156_0 (fun q hq => by cases hq; exact Or.inl rfl) (fun _ _ => rfl) rfl hf (fun h_1 hf => ?_)
  exact go_return dX6_clear_5 rfl hf

/-! printed by wip/whole/gen: functions and their walks -/
-- java/util/ArrayList.size()I
theorem dJx4a65c_size_8abf5_0 : decode cJx4a65c_size_8abf5 0 = .ok (.aload_n 0, 1) := by decide +kernel
theorem dJx4a65c_size_8abf5_1 : decode cJx4a65c_size_8abf5 1 = .ok (.getfield 48, 3) := by decide +kernel
theorem dJx4a65c_size_8abf5_4 : decode cJx4a65c_size_8abf5 4 = .ok (.ireturn, 1) := by decide +kernel
def f_Jx4a65c_size_8abf5 (a0 : Nat) (h : AH) : Option (Int32 × AH) := rdI h a0 0 2 fun x_1 =>
  some (x_1, h)
set_option maxRecDepth 20000 in
set_option maxHeartbeats 4000000 in
theorem t_Jx4a65c_size_8abf5 {Ω : Om} (a0 : Nat) (h : AH) (q : Int32 × AH) (hf : f_Jx4a65c_size_8abf5 a0 h = some q) : Go Ω M_Jx4a65c_size_8abf5 0 (lv_args 0 [vR Ω (some a0)]) [] h (some (.int q.1)) q.2 := by
  unfold f_Jx4a65c_size_8abf5 at hf
  rw [la_R, la_0]
  refine go_sub (lv' := [(0, vR Ω (some a0))]) [0] rfl ?_
  refine go_aload_n dJx4a65c_size_8abf5_0 rfl 0 rfl ?_
  refine go_getI dJx4a65c_size_8abf5_1 fl_221_0 (fun _ _ => rfl) hf (fun x_1 hf => ?_)
  exact go_ireturn dJx4a65c_size_8abf5_4 rfl hf
-- LetterBroker.channelNumbered(I)LLetterBroker$Channel;
theorem dX11_channelNumbered_0 : decode cX11_channelNumbered 0 = .ok (.iload_n 1, 1) := by decide +kernel
theorem dX11_channelNumbered_1 : decode cX11_channelNumbered 1 = .ok (.iconst 1, 1) := by decide +kernel
theorem dX11_channelNumbered_2 : decode cX11_channelNumbered 2 = .ok (.if_icmp .lt 8, 3) := by decide +kernel
theorem dX11_channelNumbered_5 : decode cX11_channelNumbered 5 = .ok (.iload_n 1, 1) := by decide +kernel
theorem dX11_channelNumbered_6 : decode cX11_channelNumbered 6 = .ok (.iconst 3, 1) := by decide +kernel
theorem dX11_channelNumbered_7 : decode cX11_channelNumbered 7 = .ok (.if_icmp .le 7, 3) := by decide +kernel
theorem dX11_channelNumbered_10 : decode cX11_channelNumbered 10 = .ok (.aconst_null, 1) := by decide +kernel
theorem dX11_channelNumbered_11 : decode cX11_channelNumbered 11 = .ok (.goto 11, 3) := by decide +kernel
theorem dX11_channelNumbered_14 : decode cX11_channelNumbered 14 = .ok (.aload_n 0, 1) := by decide +kernel
theorem dX11_channelNumbered_15 : decode cX11_channelNumbered 15 = .ok (.getfield 32, 3) := by decide +kernel
theorem dX11_channelNumbered_18 : decode cX11_channelNumbered 18 = .ok (.iload_n 1, 1) := by decide +kernel
theorem dX11_channelNumbered_19 : decode cX11_channelNumbered 19 = .ok (.iconst 1, 1) := by decide +kernel
theorem dX11_channelNumbered_20 : decode cX11_channelNumbered 20 = .ok (.isub, 1) := by decide +kernel
theorem dX11_channelNumbered_21 : decode cX11_channelNumbered 21 = .ok (.aaload, 1) := by decide +kernel
theorem dX11_channelNumbered_22 : decode cX11_channelNumbered 22 = .ok (.areturn, 1) := by decide +kernel
def f_X11_channelNumbered (a0 : Nat) (x1 : Int32) (h : AH) : Option (Option Nat × AH) := (if x1 < 1 then
    some (none, h)
  else
    (if x1 ≤ 3 then
      rdR h a0 12 3 fun r_1 =>
      nn r_1 fun a_2 =>
      arC h a_2 (x1 - 1) fun r_3 =>
      some (r_3, h)
    else
      some (none, h)))
set_option maxRecDepth 20000 in
set_option maxHeartbeats 4000000 in
theorem t_X11_channelNumbered {Ω : Om} (a0 : Nat) (x1 : Int32) (h : AH) (q : Option Nat × AH) (hf : f_X11_channelNumbered a0 x1 h = some q) : Go Ω M_X11_channelNumbered 0 (lv_args 0 [vR Ω (some a0), .int x1]) [] h (some (vR Ω q.1)) q.2 := by
  unfold f_X11_channelNumbered at hf
  rw [la_R, la_I, la_0]
  refine go_sub (lv' := [(0, vR Ω (some a0)), (1, .int x1)]) [0, 1] rfl ?_
  refine go_iload_n dX11_channelNumbered_0 rfl 1 rfl ?_
  refine go_iconst 1 dX11_channelNumbered_1 rfl ?_
  refine go_icmp_lt (tgt := 10) dX11_channelNumbered_2 (by decide) hf (fun hf => ?_) (fun hf => ?_)
  · refine go_null dX11_channelNumbered_10 ?_
    refine go_goto (tgt := 22) dX11_channelNumbered_11 (by decide) ?_
    exact go_areturn dX11_channelNumbered_22 rfl (Or.inl ⟨_, rfl⟩) hf
  · refine go_iload_n dX11_channelNumbered_5 rfl 1 rfl ?_
    refine go_iconst 3 dX11_channelNumbered_6 rfl ?_
    refine go_icmp_le (tgt := 14) dX11_channelNumbered_7 (by decide) hf (fun hf => ?_) (fun hf => ?_)
    · refine go_aload_n dX11_channelNumbered_14 rfl 0 rfl ?_
      refine go_getR dX11_channelNumbered_15 fl_391_0 (fun _ _ => rfl) hf (fun r_1 hf => ?_)
      refine go_iload_n dX11_channelNumbered_18 rfl 1 rfl ?_
      refine go_iconst 1 dX11_channelNumbered_19 rfl ?_
      refine go_isub dX11_channelNumbered_20 ?_
      obtain ⟨a_2, rfl, hga_2⟩ := nn_some hf
      have hf := hga_2
      refine go_caload dX11_channelNumbered_21 hf (fun r_3 hf => ?_)
      exact go_areturn dX11_channelNumbered_22 rfl (Or.inl ⟨_, rfl⟩) hf
    · refine go_null dX11_channelNumbered_10 ?_
      refine go_goto (tgt := 22) dX11_channelNumbered_11 (by decide) ?_
      exact go_areturn dX11_channelNumbered_22 rfl (Or.inl ⟨_, rfl⟩) hf
-- LetterBroker.channel(II)I
theorem dX11_channel_0 : decode cX11_channel 0 = .ok (.aload_n 0, 1) := by decide +kernel
theorem dX11_channel_1 : decode cX11_channel 1 = .ok (.iload_n 1, 1) := by decide +kernel
theorem dX11_channel_2 : decode cX11_channel 2 = .ok (.invokevirtual 76, 3) := by decide +kernel
theorem dX11_channel_5 : decode cX11_channel 5 = .ok (.astore_n 3, 1) := by decide +kernel
theorem dX11_channel_6 : decode cX11_channel 6 = .ok (.aload_n 3, 1) := by decide +kernel
theorem dX11_channel_7 : decode cX11_channel 7 = .ok (.ifnonnull 5, 3) := by decide +kernel
theorem dX11_channel_10 : decode cX11_channel 10 = .ok (.iconst (-1), 1) := by decide +kernel
theorem dX11_channel_11 : decode cX11_channel 11 = .ok (.ireturn, 1) := by decide +kernel
theorem dX11_channel_12 : decode cX11_channel 12 = .ok (.iload_n 2, 1) := by decide +kernel
theorem dX11_channel_13 : decode cX11_channel 13 = .ok (.tableswitch 61 0 3 #[31, 36, 46, 51], 31) := by decide +kernel
theorem dX11_channel_44 : decode cX11_channel 44 = .ok (.aload_n 3, 1) := by decide +kernel
theorem dX11_channel_45 : decode cX11_channel 45 = .ok (.getfield 80, 3) := by decide +kernel
theorem dX11_channel_48 : decode cX11_channel 48 = .ok (.ireturn, 1) := by decide +kernel
theorem dX11_channel_49 : decode cX11_channel 49 = .ok (.aload_n 3, 1) := by decide +kernel
theorem dX11_channel_50 : decode cX11_channel 50 = .ok (.getfield 83, 3) := by decide +kernel
theorem dX11_channel_53 : decode cX11_channel 53 = .ok (.invokeinterface 87 1, 5) := by decide +kernel
theorem dX11_channel_58 : decode cX11_channel 58 = .ok (.ireturn, 1) := by decide +kernel
theorem dX11_channel_59 : decode cX11_channel 59 = .ok (.aload_n 3, 1) := by decide +kernel
theorem dX11_channel_60 : decode cX11_channel 60 = .ok (.getfield 91, 3) := by decide +kernel
theorem dX11_channel_63 : decode cX11_channel 63 = .ok (.ireturn, 1) := by decide +kernel
theorem dX11_channel_64 : decode cX11_channel 64 = .ok (.aload_n 3, 1) := by decide +kernel
theorem dX11_channel_65 : decode cX11_channel 65 = .ok (.getfield 94, 3) := by decide +kernel
theorem dX11_channel_68 : decode cX11_channel 68 = .ok (.invokeinterface 87 1, 5) := by decide +kernel
theorem dX11_channel_73 : decode cX11_channel 73 = .ok (.ireturn, 1) := by decide +kernel
theorem dX11_channel_74 : decode cX11_channel 74 = .ok (.iconst (-1), 1) := by decide +kernel
theorem dX11_channel_75 : decode cX11_channel 75 = .ok (.ireturn, 1) := by decide +kernel
def f_X11_channel (a0 : Nat) (x1 : Int32) (x2 : Int32) (h : AH) : Option (Int32 × AH) := kg h a0 12 (bd (f_X11_channelNumbered a0 x1 h) fun r_3 h_2 =>
  nb r_3
    (some (((-1)), h_2))
    (fun a_4 => (if x2 = 0 then
      rdI h_2 a_4 2 3 fun x_5 =>
      some (x_5, h_2)
    else (if x2 = 1 then
      rdR h_2 a_4 2 1 fun r_6 =>
      nn r_6 fun a_7 =>
      kg h_2 a_7 0 (bd (f_Jx4a65c_size_8abf5 a_7 h_2) fun x_10 h_9 =>
      some (x_10, h_9))
    else (if x2 = 2 then
      rdI h_2 a_4 2 7 fun x_11 =>
      some (x_11, h_2)
    else (if x2 = 3 then
      rdR h_2 a_4 2 2 fun r_12 =>
      nn r_12 fun a_13 =>
      kg h_2 a_13 0 (bd (f_Jx4a65c_size_8abf5 a_13 h_2) fun x_16 h_15 =>
      some (x_16, h_15))
    else some (((-1)), h_2)))))))
set_option maxRecDepth 20000 in
set_option maxHeartbeats 4000000 in
theorem t_X11_channel {Ω : Om} (a0 : Nat) (x1 : Int32) (x2 : Int32) (h : AH) (q : Int32 × AH) (hf : f_X11_channel a0 x1 x2 h = some q) : Go Ω M_X11_channel 0 (lv_args 0 [vR Ω (some a0), .int x1, .int x2]) [] h (some (.int q.1)) q.2 := by
  unfold f_X11_channel at hf
  rw [la_R, la_I, la_I, la_0]
  refine go_sub (lv' := [(0, vR Ω (some a0)), (1, .int x1), (2, .int x2)]) [0, 1, 2] rfl ?_
  refine go_aload_n dX11_channel_0 rfl 0 rfl ?_
  refine go_iload_n dX11_channel_1 rfl 1 rfl ?_
  obtain ⟨hk, hf⟩ := kg_some hf
  obtain ⟨z_1, hc, hf⟩ := bd_some hf
  refine go_callV (y2 := M_X11_channelNumbered) (c2 := 12) dX11_channel_2 mo_X11_channelNumbered ⟨Nat.le_of_ble_eq_true rfl, Nat.le_of_ble_eq_true rfl⟩ na_X11_channelNumbered w458 w460 (by decide) rfl w5 hk [.int x1] rfl (n_X11_channelNumbered (a0) x1) rfl (csum (Nat.le_of_ble_eq_true rfl)) (t_X11_channelNumbered (a0) x1 h _ hc) ?_
  obtain ⟨r_3, h_2⟩ := z_1
  refine go_astore_n (i := 3) (lv' := [(3, vR Ω r_3), (0, vR Ω (some a0)), (1, .int x1), (2, .int x2)]) dX11_channel_5 rfl (by decide) (by first | rfl | simp [catR, catI, catJ]) ?_
  refine go_aload_n dX11_channel_6 rfl 0 rfl ?_
  refine go_ifnonnull (x := r_3) (tgt := 12) dX11_channel_7 (by decide) hf ?_ ?_
  · rintro rfl hf
    refine go_iconst (-1) dX11_channel_10 rfl ?_
    exact go_ireturn dX11_channel_11 rfl hf
  · rintro a_4 rfl hf
    refine go_iload_n dX11_channel_12 rfl 3 rfl ?_
    by_cases e0 : x2 = 0
    · rw [if_pos e0] at hf
      refine go_tsw1 (off := 31) (tgt := 44) dX11_channel_13 (by rw [e0]; decide) (by rw [e0]; decide) (by rw [e0]; decide) (by decide) ?_
      refine go_aload_n dX11_channel_44 rfl 0 rfl ?_
      refine go_getI dX11_channel_45 fl_356_0 (fun _ _ => rfl) hf (fun x_5 hf => ?_)
      exact go_ireturn dX11_channel_48 rfl hf
    rw [if_neg e0] at hf
    by_cases e1 : x2 = 1
    · rw [if_pos e1] at hf
      refine go_tsw1 (off := 36) (tgt := 49) dX11_channel_13 (by rw [e1]; decide) (by rw [e1]; decide) (by rw [e1]; decide) (by decide) ?_
      refine go_aload_n dX11_channel_49 rfl 0 rfl ?_
      refine go_getR dX11_channel_50 fl_352_0 (fun _ _ => rfl) hf (fun r_6 hf => ?_)
      obtain ⟨a_7, rfl, hga_7⟩ := nn_some hf
      have hf := hga_7
      obtain ⟨hk, hf⟩ := kg_some hf
      obtain ⟨z_8, hc, hf⟩ := bd_some hf
      refine go_callF (y2 := M_Jx4a65c_size_8abf5) (x2 := ⟨"java/util/List", "size", "()I"⟩) dX11_channel_53 mo_Jx4a65c_size_8abf5 ⟨Nat.le_of_ble_eq_true rfl, Nat.le_of_ble_eq_true rfl⟩ na_Jx4a65c_size_8abf5 w517 w522 w520 (by decide) (fun U hU => hU.2.2.2.2.1) hk [] rfl (n_Jx4a65c_size_8abf5 (a_7)) rfl (csum (Nat.le_of_ble_eq_true rfl)) (t_Jx4a65c_size_8abf5 (a_7) h_2 _ hc) ?_
      obtain ⟨x_10, h_9⟩ := z_8
      exact go_ireturn dX11_channel_58 rfl hf
    rw [if_neg e1] at hf
    by_cases e2 : x2 = 2
    · rw [if_pos e2] at hf
      refine go_tsw1 (off := 46) (tgt := 59) dX11_channel_13 (by rw [e2]; decide) (by rw [e2]; decide) (by rw [e2]; decide) (by decide) ?_
      refine go_aload_n dX11_channel_59 rfl 0 rfl ?_
      refine go_getI dX11_channel_60 fl_366_0 (fun _ _ => rfl) hf (fun x_11 hf => ?_)
      exact go_ireturn dX11_channel_63 rfl hf
    rw [if_neg e2] at hf
    by_cases e3 : x2 = 3
    · rw [if_pos e3] at hf
      refine go_tsw1 (off := 51) (tgt := 64) dX11_channel_13 (by rw [e3]; decide) (by rw [e3]; decide) (by rw [e3]; decide) (by decide) ?_
      refine go_aload_n dX11_channel_64 rfl 0 rfl ?_
      refine go_getR dX11_channel_65 fl_354_0 (fun _ _ => rfl) hf (fun r_12 hf => ?_)
      obtain ⟨a_13, rfl, hga_13⟩ := nn_some hf
      have hf := hga_13
      obtain ⟨hk, hf⟩ := kg_some hf
      obtain ⟨z_14, hc, hf⟩ := bd_some hf
      refine go_callF (y2 := M_Jx4a65c_size_8abf5) (x2 := ⟨"java/util/List", "size", "()I"⟩) dX11_channel_68 mo_Jx4a65c_size_8abf5 ⟨Nat.le_of_ble_eq_true rfl, Nat.le_of_ble_eq_true rfl⟩ na_Jx4a65c_size_8abf5 w517 w522 w520 (by decide) (fun U hU => hU.2.2.2.2.1) hk [] rfl (n_Jx4a65c_size_8abf5 (a_13)) rfl (csum (Nat.le_of_ble_eq_true rfl)) (t_Jx4a65c_size_8abf5 (a_13) h_2 _ hc) ?_
      obtain ⟨x_16, h_15⟩ := z_14
      exact go_ireturn dX11_channel_73 rfl hf
    rw [if_neg e3] at hf
    have n0 := ti (n := 0) (by decide) e0
    have n1 := ti (n := 1) (by decide) e1
    have n2 := ti (n := 2) (by decide) e2
    have n3 := ti (n := 3) (by decide) e3
    refine go_tsw0 (tgt := 74) dX11_channel_13 (by omega) (by decide) ?_
    refine go_iconst (-1) dX11_channel_74 rfl ?_
    exact go_ireturn dX11_channel_75 rfl hf
-- LetterBroker.connect()Z
theorem dX11_connect_0 : decode cX11_connect 0 = .ok (.aload_n 0, 1) := by decide +kernel
theorem dX11_connect_1 : decode cX11_connect 1 = .ok (.getfield 39, 3) := by decide +kernel
theorem dX11_connect_4 : decode cX11_connect 4 = .ok (.iconst 5, 1) := by decide +kernel
theorem dX11_connect_5 : decode cX11_connect 5 = .ok (.if_icmp .eq 5, 3) := by decide +kernel
theorem dX11_connect_8 : decode cX11_connect 8 = .ok (.iconst 0, 1) := by decide +kernel
theorem dX11_connect_9 : decode cX11_connect 9 = .ok (.ireturn, 1) := by decide +kernel
theorem dX11_connect_10 : decode cX11_connect 10 = .ok (.aload_n 0, 1) := by decide +kernel
theorem dX11_connect_11 : decode cX11_connect 11 = .ok (.iconst 0, 1) := by decide +kernel
theorem dX11_connect_12 : decode cX11_connect 12 = .ok (.putfield 39, 3) := by decide +kernel
theorem dX11_connect_15 : decode cX11_connect 15 = .ok (.iconst 1, 1) := by decide +kernel
theorem dX11_connect_16 : decode cX11_connect 16 = .ok (.ireturn, 1) := by decide +kernel
def f_X11_connect (a0 : Nat) (h : AH) : Option (Int32 × AH) := rdI h a0 12 4 fun x_1 =>
  (if x_1 = 5 then
    wrI h a0 12 4 0 fun h_2 =>
    rz 1 (some (1, h_2))
  else
    rz 0 (some (0, h)))
set_option maxRecDepth 20000 in
set_option maxHeartbeats 4000000 in
theorem t_X11_connect {Ω : Om} (a0 : Nat) (h : AH) (q : Int32 × AH) (hf : f_X11_connect a0 h = some q) : Go Ω M_X11_connect 0 (lv_args 0 [vR Ω (some a0)]) [] h (some (.int q.1)) q.2 := by
  unfold f_X11_connect at hf
  rw [la_R, la_0]
  refine go_sub (lv' := [(0, vR Ω (some a0))]) [0] rfl ?_
  refine go_aload_n dX11_connect_0 rfl 0 rfl ?_
  refine go_getI dX11_connect_1 fl_392_0 (fun _ _ => rfl) hf (fun x_1 hf => ?_)
  refine go_iconst 5 dX11_connect_4 rfl ?_
  refine go_icmp_eq (tgt := 10) dX11_connect_5 (by decide) hf (fun hf => ?_) (fun hf => ?_)
  · refine go_aload_n dX11_connect_10 rfl 0 rfl ?_
    refine go_iconst 0 dX11_connect_11 rfl ?_
    refine go_putI dX11_connect_12 fl_392_0 (fun q hq => by cases hq; exact Or.inl rfl) (fun _ _ => rfl) rfl hf (fun h_2 hf => ?_)
    refine go_iconst 1 dX11_connect_15 rfl ?_
    exact go_zreturn dX11_connect_16 rfl hf
  · refine go_iconst 0 dX11_connect_8 rfl ?_
    exact go_zreturn dX11_connect_9 rfl hf
-- java/util/AbstractCollection.<init>()V
theorem dJxa1e45_init_da8c8_0 : decode cJxa1e45_init_da8c8 0 = .ok (.aload_n 0, 1) := by decide +kernel
theorem dJxa1e45_init_da8c8_1 : decode cJxa1e45_init_da8c8 1 = .ok (.invokespecial 1, 3) := by decide +kernel
theorem dJxa1e45_init_da8c8_4 : decode cJxa1e45_init_da8c8 4 = .ok (.return_, 1) := by decide +kernel
def f_Jxa1e45_init_da8c8 (a0 : Nat) (h : AH) : Option (Unit × AH) := some ((), h)
set_option maxRecDepth 20000 in
set_option maxHeartbeats 4000000 in
theorem t_Jxa1e45_init_da8c8 {Ω : Om} (a0 : Nat) (h : AH) (q : Unit × AH) (hf : f_Jxa1e45_init_da8c8 a0 h = some q) : Go Ω M_Jxa1e45_init_da8c8 0 (lv_args 0 [vR Ω (some a0)]) [] h none q.2 := by
  unfold f_Jxa1e45_init_da8c8 at hf
  rw [la_R, la_0]
  refine go_sub (lv' := [(0, vR Ω (some a0))]) [0] rfl ?_
  refine go_aload_n dJxa1e45_init_da8c8_0 rfl 0 rfl ?_
  refine go_objInit dJxa1e45_init_da8c8_1 w217 ⟨by decide, cadd (csum (Nat.le_of_ble_eq_true rfl)) (by decide +kernel)⟩ ?_
  exact go_return dJxa1e45_init_da8c8_4 rfl hf
-- java/util/AbstractList.<init>()V
theorem dJxc12de_init_da8c8_0 : decode cJxc12de_init_da8c8 0 = .ok (.aload_n 0, 1) := by decide +kernel
theorem dJxc12de_init_da8c8_1 : decode cJxc12de_init_da8c8 1 = .ok (.invokespecial 1, 3) := by decide +kernel
theorem dJxc12de_init_da8c8_4 : decode cJxc12de_init_da8c8 4 = .ok (.aload_n 0, 1) := by decide +kernel
theorem dJxc12de_init_da8c8_5 : decode cJxc12de_init_da8c8 5 = .ok (.iconst 0, 1) := by decide +kernel
theorem dJxc12de_init_da8c8_6 : decode cJxc12de_init_da8c8 6 = .ok (.putfield 7, 3) := by decide +kernel
theorem dJxc12de_init_da8c8_9 : decode cJxc12de_init_da8c8 9 = .ok (.return_, 1) := by decide +kernel
def f_Jxc12de_init_da8c8 (a0 : Nat) (h : AH) : Option (Unit × AH) := bd (f_Jxa1e45_init_da8c8 a0 h) fun _ h_2 =>
  wrI h_2 a0 0 0 0 fun h_3 =>
  some ((), h_3)
set_option maxRecDepth 20000 in
set_option maxHeartbeats 4000000 in
theorem t_Jxc12de_init_da8c8 {Ω : Om} (a0 : Nat) (h : AH) (q : Unit × AH) (hf : f_Jxc12de_init_da8c8 a0 h = some q) : Go Ω M_Jxc12de_init_da8c8 0 (lv_args 0 [vR Ω (some a0)]) [] h none q.2 := by
  unfold f_Jxc12de_init_da8c8 at hf
  rw [la_R, la_0]
  refine go_sub (lv' := [(0, vR Ω (some a0))]) [0] rfl ?_
  refine go_aload_n dJxc12de_init_da8c8_0 rfl 0 rfl ?_
  obtain ⟨z_1, hc, hf⟩ := bd_some hf
  refine go_callI (y2 := M_Jxa1e45_init_da8c8) dJxc12de_init_da8c8_1 mo_Jxa1e45_init_da8c8 ⟨Nat.le_of_ble_eq_true rfl, Nat.le_of_ble_eq_true rfl⟩ na_Jxa1e45_init_da8c8 w214 w215 rfl rfl [] rfl (n_Jxa1e45_init_da8c8 (a0)) rfl (csum (Nat.le_of_ble_eq_true rfl)) (t_Jxa1e45_init_da8c8 (a0) h _ hc) ?_
  obtain ⟨_, h_2⟩ := z_1
  refine go_aload_n dJxc12de_init_da8c8_4 rfl 0 rfl ?_
  refine go_iconst 0 dJxc12de_init_da8c8_5 rfl ?_
  refine go_putI dJxc12de_init_da8c8_6 fl_222_0 (fun q hq => by cases hq; exact Or.inl rfl) (fun _ _ => rfl) rfl hf (fun h_3 hf => ?_)
  exact go_return dJxc12de_init_da8c8_9 rfl hf
-- java/util/ArrayList.<init>()V
theorem dJx4a65c_init_da8c8_0 : decode cJx4a65c_init_da8c8 0 = .ok (.aload_n 0, 1) := by decide +kernel
theorem dJx4a65c_init_da8c8_1 : decode cJx4a65c_init_da8c8 1 = .ok (.invokespecial 1, 3) := by decide +kernel
theorem dJx4a65c_init_da8c8_4 : decode cJx4a65c_init_da8c8 4 = .ok (.aload_n 0, 1) := by decide +kernel
theorem dJx4a65c_init_da8c8_5 : decode cJx4a65c_init_da8c8 5 = .ok (.getstatic 39, 3) := by decide +kernel
theorem dJx4a65c_init_da8c8_8 : decode cJx4a65c_init_da8c8 8 = .ok (.putfield 9, 3) := by decide +kernel
theorem dJx4a65c_init_da8c8_11 : decode cJx4a65c_init_da8c8 11 = .ok (.return_, 1) := by decide +kernel
def f_Jx4a65c_init_da8c8 (a0 : Nat) (h : AH) : Option (Unit × AH) := bd (f_Jxc12de_init_da8c8 a0 h) fun _ h_2 =>
  wrR h_2 a0 0 1 (some 0) fun h_3 =>
  some ((), h_3)
set_option maxRecDepth 20000 in
set_option maxHeartbeats 4000000 in
theorem t_Jx4a65c_init_da8c8 {Ω : Om} (a0 : Nat) (h : AH) (q : Unit × AH) (hf : f_Jx4a65c_init_da8c8 a0 h = some q) : Go Ω M_Jx4a65c_init_da8c8 0 (lv_args 0 [vR Ω (some a0)]) [] h none q.2 := by
  unfold f_Jx4a65c_init_da8c8 at hf
  rw [la_R, la_0]
  refine go_sub (lv' := [(0, vR Ω (some a0))]) [0] rfl ?_
  refine go_aload_n dJx4a65c_init_da8c8_0 rfl 0 rfl ?_
  obtain ⟨z_1, hc, hf⟩ := bd_some hf
  refine go_callI (y2 := M_Jxc12de_init_da8c8) dJx4a65c_init_da8c8_1 mo_Jxc12de_init_da8c8 ⟨Nat.le_of_ble_eq_true rfl, Nat.le_of_ble_eq_true rfl⟩ na_Jxc12de_init_da8c8 w211 w212 rfl rfl [] rfl (n_Jxc12de_init_da8c8 (a0)) rfl (csum (Nat.le_of_ble_eq_true rfl)) (t_Jxc12de_init_da8c8 (a0) h _ hc) ?_
  obtain ⟨_, h_2⟩ := z_1
  refine go_aload_n dJx4a65c_init_da8c8_4 rfl 0 rfl ?_
  refine go_getsE dJx4a65c_init_da8c8_5 w218 ?_
  refine go_putR dJx4a65c_init_da8c8_8 fl_220_0 (fun q hq => by cases hq; exact Or.inl rfl) (fun _ _ => rfl) (Or.inr ⟨_, rfl⟩) hf (fun h_3 hf => ?_)
  exact go_return dJx4a65c_init_da8c8_11 rfl hf
-- LetterBroker$Channel.<init>(I)V
theorem dX1_init_0 : decode cX1_init 0 = .ok (.aload_n 0, 1) := by decide +kernel
theorem dX1_init_1 : decode cX1_init 1 = .ok (.invokespecial 3, 3) := by decide +kernel
theorem dX1_init_4 : decode cX1_init 4 = .ok (.aload_n 0, 1) := by decide +kernel
theorem dX1_init_5 : decode cX1_init 5 = .ok (.new 9, 3) := by decide +kernel
theorem dX1_init_8 : decode cX1_init 8 = .ok (.dup, 1) := by decide +kernel
theorem dX1_init_9 : decode cX1_init 9 = .ok (.invokespecial 11, 3) := by decide +kernel
theorem dX1_init_12 : decode cX1_init 12 = .ok (.putfield 12, 3) := by decide +kernel
theorem dX1_init_15 : decode cX1_init 15 = .ok (.aload_n 0, 1) := by decide +kernel
theorem dX1_init_16 : decode cX1_init 16 = .ok (.new 9, 3) := by decide +kernel
theorem dX1_init_19 : decode cX1_init 19 = .ok (.dup, 1) := by decide +kernel
theorem dX1_init_20 : decode cX1_init 20 = .ok (.invokespecial 11, 3) := by decide +kernel
theorem dX1_init_23 : decode cX1_init 23 = .ok (.putfield 18, 3) := by decide +kernel
theorem dX1_init_26 : decode cX1_init 26 = .ok (.aload_n 0, 1) := by decide +kernel
theorem dX1_init_27 : decode cX1_init 27 = .ok (.iconst 0, 1) := by decide +kernel
theorem dX1_init_28 : decode cX1_init 28 = .ok (.putfield 21, 3) := by decide +kernel
theorem dX1_init_31 : decode cX1_init 31 = .ok (.aload_n 0, 1) := by decide +kernel
theorem dX1_init_32 : decode cX1_init 32 = .ok (.iload_n 1, 1) := by decide +kernel
theorem dX1_init_33 : decode cX1_init 33 = .ok (.putfield 25, 3) := by decide +kernel
theorem dX1_init_36 : decode cX1_init 36 = .ok (.return_, 1) := by decide +kernel
def f_X1_init (a0 : Nat) (x1 : Int32) (h : AH) : Option (Unit × AH) := nwO h 0 fun a_1 h_2 =>
  bd (f_Jx4a65c_init_da8c8 a_1 h_2) fun _ h_4 =>
  wrR h_4 a0 2 1 (some a_1) fun h_5 =>
  nwO h_5 0 fun a_6 h_7 =>
  bd (f_Jx4a65c_init_da8c8 a_6 h_7) fun _ h_9 =>
  wrR h_9 a0 2 2 (some a_6) fun h_10 =>
  wrI h_10 a0 2 3 0 fun h_11 =>
  wrI h_11 a0 2 0 x1 fun h_12 =>
  some ((), h_12)
set_option maxRecDepth 20000 in
set_option maxHeartbeats 4000000 in
theorem t_X1_init {Ω : Om} (a0 : Nat) (x1 : Int32) (h : AH) (q : Unit × AH) (hf : f_X1_init a0 x1 h = some q) : Go Ω M_X1_init 0 (lv_args 0 [vR Ω (some a0), .int x1]) [] h none q.2 := by
  unfold f_X1_init at hf
  rw [la_R, la_I, la_0]
  refine go_sub (lv' := [(0, vR Ω (some a0)), (1, .int x1)]) [0, 1] rfl ?_
  refine go_aload_n dX1_init_0 rfl 0 rfl ?_
  refine go_objInit dX1_init_1 w345 ⟨by decide, cadd (csum (Nat.le_of_ble_eq_true rfl)) (by decide +kernel)⟩ ?_
  refine go_aload_n dX1_init_4 rfl 0 rfl ?_
  refine go_new (c := 0) dX1_init_5 (by decide) rfl w346 hf (fun a_1 h_2 hf => ?_)
  refine go_dup dX1_init_8 catR ?_
  obtain ⟨z_3, hc, hf⟩ := bd_some hf
  refine go_callI (y2 := M_Jx4a65c_init_da8c8) dX1_init_9 mo_Jx4a65c_init_da8c8 ⟨Nat.le_of_ble_eq_true rfl, Nat.le_of_ble_eq_true rfl⟩ na_Jx4a65c_init_da8c8 w347 w209 rfl rfl [] rfl (n_Jx4a65c_init_da8c8 (a_1)) rfl (csum (Nat.le_of_ble_eq_true rfl)) (t_Jx4a65c_init_da8c8 (a_1) h_2 _ hc) ?_
  obtain ⟨_, h_4⟩ := z_3
  refine go_putR dX1_init_12 fl_350_0 (fun q hq => by cases hq; exact Or.inr ⟨rfl, rfl, rfl⟩) (fun _ _ => rfl) (Or.inl ⟨_, rfl⟩) hf (fun h_5 hf => ?_)
  refine go_aload_n dX1_init_15 rfl 0 rfl ?_
  refine go_new (c := 0) dX1_init_16 (by decide) rfl w346 hf (fun a_6 h_7 hf => ?_)
  refine go_dup dX1_init_19 catR ?_
  obtain ⟨z_8, hc, hf⟩ := bd_some hf
  refine go_callI (y2 := M_Jx4a65c_init_da8c8) dX1_init_20 mo_Jx4a65c_init_da8c8 ⟨Nat.le_of_ble_eq_true rfl, Nat.le_of_ble_eq_true rfl⟩ na_Jx4a65c_init_da8c8 w347 w209 rfl rfl [] rfl (n_Jx4a65c_init_da8c8 (a_6)) rfl (csum (Nat.le_of_ble_eq_true rfl)) (t_Jx4a65c_init_da8c8 (a_6) h_7 _ hc) ?_
  obtain ⟨_, h_9⟩ := z_8
  refine go_putR dX1_init_23 fl_353_0 (fun q hq => by cases hq; exact Or.inr ⟨rfl, rfl, rfl⟩) (fun _ _ => rfl) (Or.inl ⟨_, rfl⟩) hf (fun h_10 hf => ?_)
  refine go_aload_n dX1_init_26 rfl 0 rfl ?_
  refine go_iconst 0 dX1_init_27 rfl ?_
  refine go_putI dX1_init_28 fl_355_0 (fun q hq => by cases hq; exact Or.inl rfl) (fun _ _ => rfl) rfl hf (fun h_11 hf => ?_)
  refine go_aload_n dX1_init_31 rfl 0 rfl ?_
  refine go_iload_n dX1_init_32 rfl 1 rfl ?_
  refine go_putI dX1_init_33 fl_348_0 (fun q hq => by cases hq; exact Or.inr ⟨rfl, rfl, rfl⟩) (fun _ _ => rfl) rfl hf (fun h_12 hf => ?_)
  exact go_return dX1_init_36 rfl hf
-- LetterBroker$Inbox.<init>()V
theorem dX6_init_0 : decode cX6_init 0 = .ok (.aload_n 0, 1) := by decide +kernel
theorem dX6_init_1 : decode cX6_init 1 = .ok (.invokespecial 3, 3) := by decide +kernel
theorem dX6_init_4 : decode cX6_init 4 = .ok (.aload_n 0, 1) := by decide +kernel
theorem dX6_init_5 : decode cX6_init 5 = .ok (.sipush 300, 3) := by decide +kernel
theorem dX6_init_8 : decode cX6_init 8 = .ok (.newarray .int, 2) := by decide +kernel
theorem dX6_init_10 : decode cX6_init 10 = .ok (.putfield 9, 3) := by decide +kernel
theorem dX6_init_13 : decode cX6_init 13 = .ok (.return_, 1) := by decide +kernel
def f_X6_init (a0 : Nat) (h : AH) : Option (Unit × AH) := nwA h 100 300 fun a_1 h_2 =>
  wrR h_2 a0 7 1 (some a_1) fun h_3 =>
  some ((), h_3)
set_option maxRecDepth 20000 in
set_option maxHeartbeats 4000000 in
theorem t_X6_init {Ω : Om} (a0 : Nat) (h : AH) (q : Unit × AH) (hf : f_X6_init a0 h = some q) : Go Ω M_X6_init 0 (lv_args 0 [vR Ω (some a0)]) [] h none q.2 := by
  unfold f_X6_init at hf
  rw [la_R, la_0]
  refine go_sub (lv' := [(0, vR Ω (some a0))]) [0] rfl ?_
  refine go_aload_n dX6_init_0 rfl 0 rfl ?_
  refine go_objInit dX6_init_1 w155 ⟨by decide, cadd (csum (Nat.le_of_ble_eq_true rfl)) (by decide +kernel)⟩ ?_
  refine go_aload_n dX6_init_4 rfl 0 rfl ?_
  refine go_sipush 300 dX6_init_5 (by decide) ?_
  refine go_newI dX6_init_8 hf (fun a_1 h_2 hf => ?_)
  refine go_putR dX6_init_10 fl_158_0 (fun q hq => by cases hq; exact Or.inr ⟨rfl, rfl, rfl⟩) (fun _ _ => rfl) (Or.inr ⟨_, rfl⟩) hf (fun h_3 hf => ?_)
  exact go_return dX6_init_13 rfl hf
-- java/util/Arrays.copyOf([Ljava/lang/Object;ILjava/lang/Class;)[Ljava/lang/Object;
theorem dJ7_copyOf_6403c_0 : decode cJ7_copyOf_6403c 0 = .ok (.aload_n 2, 1) := by decide +kernel
theorem dJ7_copyOf_6403c_1 : decode cJ7_copyOf_6403c 1 = .ok (.ldc 110, 2) := by decide +kernel
theorem dJ7_copyOf_6403c_3 : decode cJ7_copyOf_6403c 3 = .ok (.if_acmp .ne 10, 3) := by decide +kernel
theorem dJ7_copyOf_6403c_6 : decode cJ7_copyOf_6403c 6 = .ok (.iload_n 1, 1) := by decide +kernel
theorem dJ7_copyOf_6403c_7 : decode cJ7_copyOf_6403c 7 = .ok (.anewarray 2, 3) := by decide +kernel
theorem dJ7_copyOf_6403c_10 : decode cJ7_copyOf_6403c 10 = .ok (.goto 14, 3) := by decide +kernel
theorem dJ7_copyOf_6403c_13 : decode cJ7_copyOf_6403c 13 = .ok (.aload_n 2, 1) := by decide +kernel
theorem dJ7_copyOf_6403c_14 : decode cJ7_copyOf_6403c 14 = .ok (.invokevirtual 90, 3) := by decide +kernel
theorem dJ7_copyOf_6403c_24 : decode cJ7_copyOf_6403c 24 = .ok (.astore_n 3, 1) := by decide +kernel
theorem dJ7_copyOf_6403c_25 : decode cJ7_copyOf_6403c 25 = .ok (.aload_n 0, 1) := by decide +kernel
theorem dJ7_copyOf_6403c_26 : decode cJ7_copyOf_6403c 26 = .ok (.iconst 0, 1) := by decide +kernel
theorem dJ7_copyOf_6403c_27 : decode cJ7_copyOf_6403c 27 = .ok (.aload_n 3, 1) := by decide +kernel
theorem dJ7_copyOf_6403c_28 : decode cJ7_copyOf_6403c 28 = .ok (.iconst 0, 1) := by decide +kernel
theorem dJ7_copyOf_6403c_29 : decode cJ7_copyOf_6403c 29 = .ok (.aload_n 0, 1) := by decide +kernel
theorem dJ7_copyOf_6403c_30 : decode cJ7_copyOf_6403c 30 = .ok (.arraylength, 1) := by decide +kernel
theorem dJ7_copyOf_6403c_31 : decode cJ7_copyOf_6403c 31 = .ok (.iload_n 1, 1) := by decide +kernel
theorem dJ7_copyOf_6403c_32 : decode cJ7_copyOf_6403c 32 = .ok (.invokestatic 304, 3) := by decide +kernel
theorem dJ7_copyOf_6403c_35 : decode cJ7_copyOf_6403c 35 = .ok (.invokestatic 150, 3) := by decide +kernel
theorem dJ7_copyOf_6403c_38 : decode cJ7_copyOf_6403c 38 = .ok (.aload_n 3, 1) := by decide +kernel
theorem dJ7_copyOf_6403c_39 : decode cJ7_copyOf_6403c 39 = .ok (.areturn, 1) := by decide +kernel
def f_J7_copyOf_6403c (r0 : Option Nat) (x1 : Int32) (r2 : Option Nat) (h : AH) : Option (Option Nat × AH) := aq r2 (some 2)
    (nwA h 103 x1 fun a_1 h_2 =>
    nn r0 fun a_3 =>
    aln h_2 a_3 fun x_4 =>
    cpO h_2 a_3 0 a_1 0 ((if x1 < x_4 then x1 else x_4 : Int32)) fun h_5 =>
    some ((some a_1), h_5))
    (none)
set_option maxRecDepth 20000 in
set_option maxHeartbeats 4000000 in
theorem t_J7_copyOf_6403c {Ω : Om} (r0 : Option Nat) (x1 : Int32) (r2 : Option Nat) (h : AH) (q : Option Nat × AH) (hf : f_J7_copyOf_6403c r0 x1 r2 h = some q) : Go Ω M_J7_copyOf_6403c 0 (lv_args 0 [vR Ω r0, .int x1, vR Ω r2]) [] h (some (vR Ω q.1)) q.2 := by
  unfold f_J7_copyOf_6403c at hf
  rw [la_R, la_I, la_R, la_0]
  refine go_sub (lv' := [(0, vR Ω r0), (1, .int x1), (2, vR Ω r2)]) [0, 1, 2] rfl ?_
  refine go_aload_n dJ7_copyOf_6403c_0 rfl 2 rfl ?_
  refine go_ldcM dJ7_copyOf_6403c_1 w305 ?_
  refine go_acmp_ne (tgt := 13) dJ7_copyOf_6403c_3 (by decide) hf (fun hf => ?_) (fun hf => ?_)
  · refine go_aload_n dJ7_copyOf_6403c_13 rfl 2 rfl ?_
    cases hf
  · refine go_iload_n dJ7_copyOf_6403c_6 rfl 1 rfl ?_
    refine go_anew (kk0 := 103) (E := "java/lang/Object") dJ7_copyOf_6403c_7 (by decide) rfl w307 (by decide +kernel) hf (fun a_1 h_2 hf => ?_)
    refine go_goto (tgt := 24) dJ7_copyOf_6403c_10 (by decide) ?_
    refine go_astore_n (i := 3) (lv' := [(3, vR Ω (some a_1)), (0, vR Ω r0), (1, .int x1), (2, vR Ω r2)]) dJ7_copyOf_6403c_24 rfl (by decide) (by first | rfl | simp [catR, catI, catJ]) ?_
    refine go_aload_n dJ7_copyOf_6403c_25 rfl 1 rfl ?_
    refine go_iconst 0 dJ7_copyOf_6403c_26 rfl ?_
    refine go_aload_n dJ7_copyOf_6403c_27 rfl 0 rfl ?_
    refine go_iconst 0 dJ7_copyOf_6403c_28 rfl ?_
    refine go_aload_n dJ7_copyOf_6403c_29 rfl 1 rfl ?_
    obtain ⟨a_3, rfl, hga_3⟩ := nn_some hf
    have hf := hga_3
    refine go_alen dJ7_copyOf_6403c_30 hf (fun x_4 hf => ?_)
    refine go_iload_n dJ7_copyOf_6403c_31 rfl 2 rfl ?_
    refine go_min dJ7_copyOf_6403c_32 w308 ⟨by decide, cadd (csum (Nat.le_of_ble_eq_true rfl)) (by decide +kernel)⟩ ?_
    refine go_cpO dJ7_copyOf_6403c_35 w311 ⟨by decide, cadd (csum (Nat.le_of_ble_eq_true rfl)) (by decide +kernel)⟩ hf (fun h_5 hf => ?_)
    refine go_aload_n dJ7_copyOf_6403c_38 rfl 0 rfl ?_
    exact go_areturn dJ7_copyOf_6403c_39 rfl (Or.inr ⟨_, rfl⟩) hf
-- java/util/Arrays.copyOf([Ljava/lang/Object;I)[Ljava/lang/Object;
theorem dJ7_copyOf_1904c_0 : decode cJ7_copyOf_1904c 0 = .ok (.aload_n 0, 1) := by decide +kernel
theorem dJ7_copyOf_1904c_1 : decode cJ7_copyOf_1904c 1 = .ok (.iload_n 1, 1) := by decide +kernel
theorem dJ7_copyOf_1904c_2 : decode cJ7_copyOf_1904c 2 = .ok (.aload_n 0, 1) := by decide +kernel
theorem dJ7_copyOf_1904c_3 : decode cJ7_copyOf_1904c 3 = .ok (.invokevirtual 86, 3) := by decide +kernel
theorem dJ7_copyOf_1904c_6 : decode cJ7_copyOf_1904c 6 = .ok (.invokestatic 300, 3) := by decide +kernel
theorem dJ7_copyOf_1904c_9 : decode cJ7_copyOf_1904c 9 = .ok (.areturn, 1) := by decide +kernel
def f_J7_copyOf_1904c (r0 : Option Nat) (x1 : Int32) (h : AH) : Option (Option Nat × AH) := nn r0 fun a_1 =>
  kg h a_1 103 (
  bd (f_J7_copyOf_6403c (some a_1) x1 (some 2) h) fun r_4 h_3 =>
  some (r_4, h_3))
set_option maxRecDepth 20000 in
set_option maxHeartbeats 4000000 in
theorem t_J7_copyOf_1904c {Ω : Om} (r0 : Option Nat) (x1 : Int32) (h : AH) (q : Option Nat × AH) (hf : f_J7_copyOf_1904c r0 x1 h = some q) : Go Ω M_J7_copyOf_1904c 0 (lv_args 0 [vR Ω r0, .int x1]) [] h (some (vR Ω q.1)) q.2 := by
  unfold f_J7_copyOf_1904c at hf
  rw [la_R, la_I, la_0]
  refine go_sub (lv' := [(0, vR Ω r0), (1, .int x1)]) [0, 1] rfl ?_
  refine go_aload_n dJ7_copyOf_1904c_0 rfl 0 rfl ?_
  refine go_iload_n dJ7_copyOf_1904c_1 rfl 1 rfl ?_
  refine go_aload_n dJ7_copyOf_1904c_2 rfl 0 rfl ?_
  obtain ⟨a_1, rfl, hga_1⟩ := nn_some hf
  have hf := hga_1
  refine go_getC dJ7_copyOf_1904c_3 w284 ⟨by decide, cadd (csum (Nat.le_of_ble_eq_true rfl)) (by decide +kernel)⟩ hf (fun hf => ?_)
  obtain ⟨z_2, hc, hf⟩ := bd_some hf
  refine go_callS (y2 := M_J7_copyOf_6403c) dJ7_copyOf_1904c_6 mo_J7_copyOf_6403c ⟨Nat.le_of_ble_eq_true rfl, Nat.le_of_ble_eq_true rfl⟩ na_J7_copyOf_6403c w302 w303 [vR Ω (some a_1), .int x1, vR Ω (some 2)] rfl (n_J7_copyOf_6403c (some a_1) x1 (some 2)) rfl (csum (Nat.le_of_ble_eq_true rfl)) (t_J7_copyOf_6403c (some a_1) x1 (some 2) h _ hc) ?_
  obtain ⟨r_4, h_3⟩ := z_2
  exact go_areturn dJ7_copyOf_1904c_9 rfl (Or.inr ⟨_, rfl⟩) hf
-- jdk/internal/util/ArraysSupport.hugeLength(II)I
theorem dJ8_hugeLength_7cf53_0 : decode cJ8_hugeLength_7cf53 0 = .ok (.iload_n 0, 1) := by decide +kernel
theorem dJ8_hugeLength_7cf53_1 : decode cJ8_hugeLength_7cf53 1 = .ok (.iload_n 1, 1) := by decide +kernel
theorem dJ8_hugeLength_7cf53_2 : decode cJ8_hugeLength_7cf53 2 = .ok (.iadd, 1) := by decide +kernel
theorem dJ8_hugeLength_7cf53_3 : decode cJ8_hugeLength_7cf53 3 = .ok (.istore_n 2, 1) := by decide +kernel
theorem dJ8_hugeLength_7cf53_4 : decode cJ8_hugeLength_7cf53 4 = .ok (.iload_n 2, 1) := by decide +kernel
theorem dJ8_hugeLength_7cf53_5 : decode cJ8_hugeLength_7cf53 5 = .ok (.ifCond .ge 44, 3) := by decide +kernel
theorem dJ8_hugeLength_7cf53_8 : decode cJ8_hugeLength_7cf53 8 = .ok (.new 204, 3) := by decide +kernel
theorem dJ8_hugeLength_7cf53_49 : decode cJ8_hugeLength_7cf53 49 = .ok (.iload_n 2, 1) := by decide +kernel
theorem dJ8_hugeLength_7cf53_50 : decode cJ8_hugeLength_7cf53 50 = .ok (.ldc 200, 2) := by decide +kernel
theorem dJ8_hugeLength_7cf53_52 : decode cJ8_hugeLength_7cf53 52 = .ok (.if_icmp .gt 6, 3) := by decide +kernel
theorem dJ8_hugeLength_7cf53_55 : decode cJ8_hugeLength_7cf53 55 = .ok (.ldc 200, 2) := by decide +kernel
theorem dJ8_hugeLength_7cf53_57 : decode cJ8_hugeLength_7cf53 57 = .ok (.ireturn, 1) := by decide +kernel
theorem dJ8_hugeLength_7cf53_58 : decode cJ8_hugeLength_7cf53 58 = .ok (.iload_n 2, 1) := by decide +kernel
theorem dJ8_hugeLength_7cf53_59 : decode cJ8_hugeLength_7cf53 59 = .ok (.ireturn, 1) := by decide +kernel
def f_J8_hugeLength_7cf53 (x0 : Int32) (x1 : Int32) (h : AH) : Option (Int32 × AH) := lt (x0 + x1) fun x_1 =>
  (if 0 ≤ x_1 then
    (if 2147483639 < x_1 then
      some (x_1, h)
    else
      some (2147483639, h))
  else
    none)
set_option maxRecDepth 20000 in
set_option maxHeartbeats 4000000 in
theorem t_J8_hugeLength_7cf53 {Ω : Om} (x0 : Int32) (x1 : Int32) (h : AH) (q : Int32 × AH) (hf : f_J8_hugeLength_7cf53 x0 x1 h = some q) : Go Ω M_J8_hugeLength_7cf53 0 (lv_args 0 [.int x0, .int x1]) [] h (some (.int q.1)) q.2 := by
  unfold f_J8_hugeLength_7cf53 at hf
  rw [la_I, la_I, la_0]
  refine go_sub (lv' := [(0, .int x0), (1, .int x1)]) [0, 1] rfl ?_
  refine go_iload_n dJ8_hugeLength_7cf53_0 rfl 0 rfl ?_
  refine go_iload_n dJ8_hugeLength_7cf53_1 rfl 1 rfl ?_
  refine go_iadd dJ8_hugeLength_7cf53_2 ?_
  refine lt_I hf (fun x_1 hf => ?_)
  refine go_istore_n (i := 2) (lv' := [(2, .int x_1), (0, .int x0), (1, .int x1)]) dJ8_hugeLength_7cf53_3 rfl (by decide) (by first | rfl | simp [catR, catI, catJ]) ?_
  refine go_iload_n dJ8_hugeLength_7cf53_4 rfl 0 rfl ?_
  refine go_if_ge (tgt := 49) dJ8_hugeLength_7cf53_5 (by decide) hf (fun hf => ?_) (fun hf => ?_)
  · refine go_iload_n dJ8_hugeLength_7cf53_49 rfl 0 rfl ?_
    refine go_ldc 2147483639 dJ8_hugeLength_7cf53_50 w277 ?_
    refine go_icmp_gt (tgt := 58) dJ8_hugeLength_7cf53_52 (by decide) hf (fun hf => ?_) (fun hf => ?_)
    · refine go_iload_n dJ8_hugeLength_7cf53_58 rfl 0 rfl ?_
      exact go_ireturn dJ8_hugeLength_7cf53_59 rfl hf
    · refine go_ldc 2147483639 dJ8_hugeLength_7cf53_55 w277 ?_
      exact go_ireturn dJ8_hugeLength_7cf53_57 rfl hf
  · cases hf
-- jdk/internal/util/ArraysSupport.newLength(III)I
theorem dJ8_newLength_cabcc_0 : decode cJ8_newLength_cabcc 0 = .ok (.iload_n 0, 1) := by decide +kernel
theorem dJ8_newLength_cabcc_1 : decode cJ8_newLength_cabcc 1 = .ok (.iload_n 1, 1) := by decide +kernel
theorem dJ8_newLength_cabcc_2 : decode cJ8_newLength_cabcc 2 = .ok (.iload_n 2, 1) := by decide +kernel
theorem dJ8_newLength_cabcc_3 : decode cJ8_newLength_cabcc 3 = .ok (.invokestatic 194, 3) := by decide +kernel
theorem dJ8_newLength_cabcc_6 : decode cJ8_newLength_cabcc 6 = .ok (.iadd, 1) := by decide +kernel
theorem dJ8_newLength_cabcc_7 : decode cJ8_newLength_cabcc 7 = .ok (.istore_n 3, 1) := by decide +kernel
theorem dJ8_newLength_cabcc_8 : decode cJ8_newLength_cabcc 8 = .ok (.iconst 0, 1) := by decide +kernel
theorem dJ8_newLength_cabcc_9 : decode cJ8_newLength_cabcc 9 = .ok (.iload_n 3, 1) := by decide +kernel
theorem dJ8_newLength_cabcc_10 : decode cJ8_newLength_cabcc 10 = .ok (.if_icmp .ge 11, 3) := by decide +kernel
theorem dJ8_newLength_cabcc_13 : decode cJ8_newLength_cabcc 13 = .ok (.iload_n 3, 1) := by decide +kernel
theorem dJ8_newLength_cabcc_14 : decode cJ8_newLength_cabcc 14 = .ok (.ldc 200, 2) := by decide +kernel
theorem dJ8_newLength_cabcc_16 : decode cJ8_newLength_cabcc 16 = .ok (.if_icmp .gt 5, 3) := by decide +kernel
theorem dJ8_newLength_cabcc_19 : decode cJ8_newLength_cabcc 19 = .ok (.iload_n 3, 1) := by decide +kernel
theorem dJ8_newLength_cabcc_20 : decode cJ8_newLength_cabcc 20 = .ok (.ireturn, 1) := by decide +kernel
theorem dJ8_newLength_cabcc_21 : decode cJ8_newLength_cabcc 21 = .ok (.iload_n 0, 1) := by decide +kernel
theorem dJ8_newLength_cabcc_22 : decode cJ8_newLength_cabcc 22 = .ok (.iload_n 1, 1) := by decide +kernel
theorem dJ8_newLength_cabcc_23 : decode cJ8_newLength_cabcc 23 = .ok (.invokestatic 201, 3) := by decide +kernel
theorem dJ8_newLength_cabcc_26 : decode cJ8_newLength_cabcc 26 = .ok (.ireturn, 1) := by decide +kernel
def f_J8_newLength_cabcc_21 (x0 : Int32) (x1 : Int32) (h : AH) : Option (Int32 × AH) := bd (f_J8_hugeLength_7cf53 x0 x1 h) fun x_3 h_2 =>
  some (x_3, h_2)
set_option maxRecDepth 20000 in
set_option maxHeartbeats 4000000 in
theorem t_J8_newLength_cabcc_21 {Ω : Om} (x0 : Int32) (x1 : Int32) (h : AH) (q : Int32 × AH) (hf : f_J8_newLength_cabcc_21 x0 x1 h = some q) : Go Ω M_J8_newLength_cabcc 21 [(0, .int x0), (1, .int x1)] [] h (some (.int q.1)) q.2 := by
  unfold f_J8_newLength_cabcc_21 at hf
  refine go_iload_n dJ8_newLength_cabcc_21 rfl 0 rfl ?_
  refine go_iload_n dJ8_newLength_cabcc_22 rfl 1 rfl ?_
  obtain ⟨z_1, hc, hf⟩ := bd_some hf
  refine go_callS (y2 := M_J8_hugeLength_7cf53) dJ8_newLength_cabcc_23 mo_J8_hugeLength_7cf53 ⟨Nat.le_of_ble_eq_true rfl, Nat.le_of_ble_eq_true rfl⟩ na_J8_hugeLength_7cf53 w278 w279 [.int x0, .int x1] rfl (n_J8_hugeLength_7cf53 x0 x1) rfl (csum (Nat.le_of_ble_eq_true rfl)) (t_J8_hugeLength_7cf53 x0 x1 h _ hc) ?_
  obtain ⟨x_3, h_2⟩ := z_1
  exact go_ireturn dJ8_newLength_cabcc_26 rfl hf
def f_J8_newLength_cabcc (x0 : Int32) (x1 : Int32) (x2 : Int32) (h : AH) : Option (Int32 × AH) := lt (x0 + ((if x1 < x2 then x2 else x1 : Int32))) fun x_1 =>
  (if x_1 ≤ 0 then
    f_J8_newLength_cabcc_21 x0 x1 h
  else
    (if 2147483639 < x_1 then
      f_J8_newLength_cabcc_21 x0 x1 h
    else
      some (x_1, h)))
set_option maxRecDepth 20000 in
set_option maxHeartbeats 4000000 in
theorem t_J8_newLength_cabcc {Ω : Om} (x0 : Int32) (x1 : Int32) (x2 : Int32) (h : AH) (q : Int32 × AH) (hf : f_J8_newLength_cabcc x0 x1 x2 h = some q) : Go Ω M_J8_newLength_cabcc 0 (lv_args 0 [.int x0, .int x1, .int x2]) [] h (some (.int q.1)) q.2 := by
  unfold f_J8_newLength_cabcc at hf
  rw [la_I, la_I, la_I, la_0]
  refine go_sub (lv' := [(0, .int x0), (1, .int x1), (2, .int x2)]) [0, 1, 2] rfl ?_
  refine go_iload_n dJ8_newLength_cabcc_0 rfl 0 rfl ?_
  refine go_iload_n dJ8_newLength_cabcc_1 rfl 1 rfl ?_
  refine go_iload_n dJ8_newLength_cabcc_2 rfl 2 rfl ?_
  refine go_max dJ8_newLength_cabcc_3 w274 ⟨by decide, cadd (csum (Nat.le_of_ble_eq_true rfl)) (by decide +kernel)⟩ ?_
  refine go_iadd dJ8_newLength_cabcc_6 ?_
  refine lt_I hf (fun x_1 hf => ?_)
  refine go_istore_n (i := 3) (lv' := [(3, .int x_1), (0, .int x0), (1, .int x1), (2, .int x2)]) dJ8_newLength_cabcc_7 rfl (by decide) (by first | rfl | simp [catR, catI, catJ]) ?_
  refine go_iconst 0 dJ8_newLength_cabcc_8 rfl ?_
  refine go_iload_n dJ8_newLength_cabcc_9 rfl 0 rfl ?_
  refine go_icmp_ge (tgt := 21) dJ8_newLength_cabcc_10 (by decide) hf (fun hf => ?_) (fun hf => ?_)
  · refine go_sub (lv' := [(0, .int x0), (1, .int x1)]) [1, 2] rfl ?_
    exact t_J8_newLength_cabcc_21 x0 x1 h q hf
  · refine go_iload_n dJ8_newLength_cabcc_13 rfl 0 rfl ?_
    refine go_ldc 2147483639 dJ8_newLength_cabcc_14 w277 ?_
    refine go_icmp_gt (tgt := 21) dJ8_newLength_cabcc_16 (by decide) hf (fun hf => ?_) (fun hf => ?_)
    · refine go_sub (lv' := [(0, .int x0), (1, .int x1)]) [1, 2] rfl ?_
      exact t_J8_newLength_cabcc_21 x0 x1 h q hf
    · refine go_iload_n dJ8_newLength_cabcc_19 rfl 0 rfl ?_
      exact go_ireturn dJ8_newLength_cabcc_20 rfl hf
-- java/util/ArrayList.grow(I)[Ljava/lang/Object;
theorem dJx4a65c_grow_92f84_0 : decode cJx4a65c_grow_92f84 0 = .ok (.aload_n 0, 1) := by decide +kernel
theorem dJx4a65c_grow_92f84_1 : decode cJx4a65c_grow_92f84 1 = .ok (.getfield 9, 3) := by decide +kernel
theorem dJx4a65c_grow_92f84_4 : decode cJx4a65c_grow_92f84 4 = .ok (.arraylength, 1) := by decide +kernel
theorem dJx4a65c_grow_92f84_5 : decode cJx4a65c_grow_92f84 5 = .ok (.istore_n 2, 1) := by decide +kernel
theorem dJx4a65c_grow_92f84_6 : decode cJx4a65c_grow_92f84 6 = .ok (.iload_n 2, 1) := by decide +kernel
theorem dJx4a65c_grow_92f84_7 : decode cJx4a65c_grow_92f84 7 = .ok (.ifCond .gt 13, 3) := by decide +kernel
theorem dJx4a65c_grow_92f84_10 : decode cJx4a65c_grow_92f84 10 = .ok (.aload_n 0, 1) := by decide +kernel
theorem dJx4a65c_grow_92f84_11 : decode cJx4a65c_grow_92f84 11 = .ok (.getfield 9, 3) := by decide +kernel
theorem dJx4a65c_grow_92f84_14 : decode cJx4a65c_grow_92f84 14 = .ok (.getstatic 39, 3) := by decide +kernel
theorem dJx4a65c_grow_92f84_17 : decode cJx4a65c_grow_92f84 17 = .ok (.if_acmp .eq 28, 3) := by decide +kernel
theorem dJx4a65c_grow_92f84_20 : decode cJx4a65c_grow_92f84 20 = .ok (.iload_n 2, 1) := by decide +kernel
theorem dJx4a65c_grow_92f84_21 : decode cJx4a65c_grow_92f84 21 = .ok (.iload_n 1, 1) := by decide +kernel
theorem dJx4a65c_grow_92f84_22 : decode cJx4a65c_grow_92f84 22 = .ok (.iload_n 2, 1) := by decide +kernel
theorem dJx4a65c_grow_92f84_23 : decode cJx4a65c_grow_92f84 23 = .ok (.isub, 1) := by decide +kernel
theorem dJx4a65c_grow_92f84_24 : decode cJx4a65c_grow_92f84 24 = .ok (.iload_n 2, 1) := by decide +kernel
theorem dJx4a65c_grow_92f84_25 : decode cJx4a65c_grow_92f84 25 = .ok (.iconst 1, 1) := by decide +kernel
theorem dJx4a65c_grow_92f84_26 : decode cJx4a65c_grow_92f84 26 = .ok (.ishr, 1) := by decide +kernel
theorem dJx4a65c_grow_92f84_27 : decode cJx4a65c_grow_92f84 27 = .ok (.invokestatic 73, 3) := by decide +kernel
theorem dJx4a65c_grow_92f84_30 : decode cJx4a65c_grow_92f84 30 = .ok (.istore_n 3, 1) := by decide +kernel
theorem dJx4a65c_grow_92f84_31 : decode cJx4a65c_grow_92f84 31 = .ok (.aload_n 0, 1) := by decide +kernel
theorem dJx4a65c_grow_92f84_32 : decode cJx4a65c_grow_92f84 32 = .ok (.aload_n 0, 1) := by decide +kernel
theorem dJx4a65c_grow_92f84_33 : decode cJx4a65c_grow_92f84 33 = .ok (.getfield 9, 3) := by decide +kernel
theorem dJx4a65c_grow_92f84_36 : decode cJx4a65c_grow_92f84 36 = .ok (.iload_n 3, 1) := by decide +kernel
theorem dJx4a65c_grow_92f84_37 : decode cJx4a65c_grow_92f84 37 = .ok (.invokestatic 66, 3) := by decide +kernel
theorem dJx4a65c_grow_92f84_40 : decode cJx4a65c_grow_92f84 40 = .ok (.dup_x1, 1) := by decide +kernel
theorem dJx4a65c_grow_92f84_41 : decode cJx4a65c_grow_92f84 41 = .ok (.putfield 9, 3) := by decide +kernel
theorem dJx4a65c_grow_92f84_44 : decode cJx4a65c_grow_92f84 44 = .ok (.areturn, 1) := by decide +kernel
theorem dJx4a65c_grow_92f84_45 : decode cJx4a65c_grow_92f84 45 = .ok (.aload_n 0, 1) := by decide +kernel
theorem dJx4a65c_grow_92f84_46 : decode cJx4a65c_grow_92f84 46 = .ok (.bipush 10, 2) := by decide +kernel
theorem dJx4a65c_grow_92f84_48 : decode cJx4a65c_grow_92f84 48 = .ok (.iload_n 1, 1) := by decide +kernel
theorem dJx4a65c_grow_92f84_49 : decode cJx4a65c_grow_92f84 49 = .ok (.invokestatic 79, 3) := by decide +kernel
theorem dJx4a65c_grow_92f84_52 : decode cJx4a65c_grow_92f84 52 = .ok (.anewarray 7, 3) := by decide +kernel
theorem dJx4a65c_grow_92f84_55 : decode cJx4a65c_grow_92f84 55 = .ok (.dup_x1, 1) := by decide +kernel
theorem dJx4a65c_grow_92f84_56 : decode cJx4a65c_grow_92f84 56 = .ok (.putfield 9, 3) := by decide +kernel
theorem dJx4a65c_grow_92f84_59 : decode cJx4a65c_grow_92f84 59 = .ok (.areturn, 1) := by decide +kernel
def f_Jx4a65c_grow_92f84_20 (a0 : Nat) (x1 : Int32) (x2 : Int32) (h : AH) : Option (Option Nat × AH) := bd (f_J8_newLength_cabcc x2 (x1 - x2) (x2 >>> ((1 : Int32) &&& 31)) h) fun x_3 h_2 =>
  rdR h_2 a0 0 1 fun r_4 =>
  bd (f_J7_copyOf_1904c r_4 x_3 h_2) fun r_7 h_6 =>
  wrR h_6 a0 0 1 r_7 fun h_8 =>
  some (r_7, h_8)
set_option maxRecDepth 20000 in
set_option maxHeartbeats 4000000 in
theorem t_Jx4a65c_grow_92f84_20 {Ω : Om} (a0 : Nat) (x1 : Int32) (x2 : Int32) (h : AH) (q : Option Nat × AH) (hf : f_Jx4a65c_grow_92f84_20 a0 x1 x2 h = some q) : Go Ω M_Jx4a65c_grow_92f84 20 [(0, vR Ω (some a0)), (1, .int x1), (2, .int x2)] [] h (some (vR Ω q.1)) q.2 := by
  unfold f_Jx4a65c_grow_92f84_20 at hf
  refine go_iload_n dJx4a65c_grow_92f84_20 rfl 2 rfl ?_
  refine go_iload_n dJx4a65c_grow_92f84_21 rfl 1 rfl ?_
  refine go_iload_n dJx4a65c_grow_92f84_22 rfl 2 rfl ?_
  refine go_isub dJx4a65c_grow_92f84_23 ?_
  refine go_iload_n dJx4a65c_grow_92f84_24 rfl 2 rfl ?_
  refine go_iconst 1 dJx4a65c_grow_92f84_25 rfl ?_
  refine go_ishr dJx4a65c_grow_92f84_26 ?_
  obtain ⟨z_1, hc, hf⟩ := bd_some hf
  refine go_callS (y2 := M_J8_newLength_cabcc) dJx4a65c_grow_92f84_27 mo_J8_newLength_cabcc ⟨Nat.le_of_ble_eq_true rfl, Nat.le_of_ble_eq_true rfl⟩ na_J8_newLength_cabcc w271 w272 [.int x2, .int (x1 - x2), .int (x2 >>> ((1 : Int32) &&& 31))] rfl (n_J8_newLength_cabcc x2 (x1 - x2) (x2 >>> ((1 : Int32) &&& 31))) rfl (csum (Nat.le_of_ble_eq_true rfl)) (t_J8_newLength_cabcc x2 (x1 - x2) (x2 >>> ((1 : Int32) &&& 31)) h _ hc) ?_
  obtain ⟨x_3, h_2⟩ := z_1
  refine go_istore_n (i := 3) (lv' := [(3, .int x_3), (0, vR Ω (some a0)), (1, .int x1), (2, .int x2)]) dJx4a65c_grow_92f84_30 rfl (by decide) (by first | rfl | simp [catR, catI, catJ]) ?_
  refine go_aload_n dJx4a65c_grow_92f84_31 rfl 1 rfl ?_
  refine go_aload_n dJx4a65c_grow_92f84_32 rfl 1 rfl ?_
  refine go_getR dJx4a65c_grow_92f84_33 fl_220_0 (fun _ _ => rfl) hf (fun r_4 hf => ?_)
  refine go_iload_n dJx4a65c_grow_92f84_36 rfl 0 rfl ?_
  obtain ⟨z_5, hc, hf⟩ := bd_some hf
  refine go_callS (y2 := M_J7_copyOf_1904c) dJx4a65c_grow_92f84_37 mo_J7_copyOf_1904c ⟨Nat.le_of_ble_eq_true rfl, Nat.le_of_ble_eq_true rfl⟩ na_J7_copyOf_1904c w281 w282 [vR Ω r_4, .int x_3] rfl (n_J7_copyOf_1904c r_4 x_3) rfl (csum (Nat.le_of_ble_eq_true rfl)) (t_J7_copyOf_1904c r_4 x_3 h_2 _ hc) ?_
  obtain ⟨r_7, h_6⟩ := z_5
  refine go_dup_x1 dJx4a65c_grow_92f84_40 catR catR ?_
  refine go_putR dJx4a65c_grow_92f84_41 fl_220_0 (fun q hq => by cases hq; exact Or.inl rfl) (fun _ _ => rfl) (Or.inr ⟨_, rfl⟩) hf (fun h_8 hf => ?_)
  exact go_areturn dJx4a65c_grow_92f84_44 rfl (Or.inr ⟨_, rfl⟩) hf
def f_Jx4a65c_grow_92f84 (a0 : Nat) (x1 : Int32) (h : AH) : Option (Option Nat × AH) := rdR h a0 0 1 fun r_1 =>
  nn r_1 fun a_2 =>
  aln h a_2 fun x_3 =>
  (if 0 < x_3 then
    f_Jx4a65c_grow_92f84_20 a0 x1 x_3 h
  else
    rdR h a0 0 1 fun r_4 =>
    aq r_4 (some 0)
      (nwA h 103 ((if 10 < x1 then x1 else 10 : Int32)) fun a_5 h_6 =>
      wrR h_6 a0 0 1 (some a_5) fun h_7 =>
      some ((some a_5), h_7))
      (f_Jx4a65c_grow_92f84_20 a0 x1 x_3 h))
set_option maxRecDepth 20000 in
set_option maxHeartbeats 4000000 in
theorem t_Jx4a65c_grow_92f84 {Ω : Om} (a0 : Nat) (x1 : Int32) (h : AH) (q : Option Nat × AH) (hf : f_Jx4a65c_grow_92f84 a0 x1 h = some q) : Go Ω M_Jx4a65c_grow_92f84 0 (lv_args 0 [vR Ω (some a0), .int x1]) [] h (some (vR Ω q.1)) q.2 := by
  unfold f_Jx4a65c_grow_92f84 at hf
  rw [la_R, la_I, la_0]
  refine go_sub (lv' := [(0, vR Ω (some a0)), (1, .int x1)]) [0, 1] rfl ?_
  refine go_aload_n dJx4a65c_grow_92f84_0 rfl 0 rfl ?_
  refine go_getR dJx4a65c_grow_92f84_1 fl_220_0 (fun _ _ => rfl) hf (fun r_1 hf => ?_)
  obtain ⟨a_2, rfl, hga_2⟩ := nn_some hf
  have hf := hga_2
  refine go_alen dJx4a65c_grow_92f84_4 hf (fun x_3 hf => ?_)
  refine go_istore_n (i := 2) (lv' := [(2, .int x_3), (0, vR Ω (some a0)), (1, .int x1)]) dJx4a65c_grow_92f84_5 rfl (by decide) (by first | rfl | simp [catR, catI, catJ]) ?_
  refine go_iload_n dJx4a65c_grow_92f84_6 rfl 0 rfl ?_
  refine go_if_gt (tgt := 20) dJx4a65c_grow_92f84_7 (by decide) hf (fun hf => ?_) (fun hf => ?_)
  · refine go_sub (lv' := [(0, vR Ω (some a0)), (1, .int x1), (2, .int x_3)]) [1, 2, 0] rfl ?_
    exact t_Jx4a65c_grow_92f84_20 a0 x1 x_3 h q hf
  · refine go_aload_n dJx4a65c_grow_92f84_10 rfl 1 rfl ?_
    refine go_getR dJx4a65c_grow_92f84_11 fl_220_0 (fun _ _ => rfl) hf (fun r_4 hf => ?_)
    refine go_getsE dJx4a65c_grow_92f84_14 w218 ?_
    refine go_acmp_eq (tgt := 45) dJx4a65c_grow_92f84_17 (by decide) hf (fun hf => ?_) (fun hf => ?_)
    · refine go_aload_n dJx4a65c_grow_92f84_45 rfl 1 rfl ?_
      refine go_bipush 10 dJx4a65c_grow_92f84_46 (by decide) ?_
      refine go_iload_n dJx4a65c_grow_92f84_48 rfl 2 rfl ?_
      refine go_max dJx4a65c_grow_92f84_49 w314 ⟨by decide, cadd (csum (Nat.le_of_ble_eq_true rfl)) (by decide +kernel)⟩ ?_
      refine go_anew (kk0 := 103) (E := "java/lang/Object") dJx4a65c_grow_92f84_52 (by decide) rfl w315 (by decide +kernel) hf (fun a_5 h_6 hf => ?_)
      refine go_dup_x1 dJx4a65c_grow_92f84_55 catR catR ?_
      refine go_putR dJx4a65c_grow_92f84_56 fl_220_0 (fun q hq => by cases hq; exact Or.inl rfl) (fun _ _ => rfl) (Or.inr ⟨_, rfl⟩) hf (fun h_7 hf => ?_)
      exact go_areturn dJx4a65c_grow_92f84_59 rfl (Or.inr ⟨_, rfl⟩) hf
    · refine go_sub (lv' := [(0, vR Ω (some a0)), (1, .int x1), (2, .int x_3)]) [1, 2, 0] rfl ?_
      exact t_Jx4a65c_grow_92f84_20 a0 x1 x_3 h q hf
-- java/util/ArrayList.grow()[Ljava/lang/Object;
theorem dJx4a65c_grow_d5877_0 : decode cJx4a65c_grow_d5877 0 = .ok (.aload_n 0, 1) := by decide +kernel
theorem dJx4a65c_grow_d5877_1 : decode cJx4a65c_grow_d5877 1 = .ok (.aload_n 0, 1) := by decide +kernel
theorem dJx4a65c_grow_d5877_2 : decode cJx4a65c_grow_d5877 2 = .ok (.getfield 48, 3) := by decide +kernel
theorem dJx4a65c_grow_d5877_5 : decode cJx4a65c_grow_d5877 5 = .ok (.iconst 1, 1) := by decide +kernel
theorem dJx4a65c_grow_d5877_6 : decode cJx4a65c_grow_d5877 6 = .ok (.iadd, 1) := by decide +kernel
theorem dJx4a65c_grow_d5877_7 : decode cJx4a65c_grow_d5877 7 = .ok (.invokevirtual 69, 3) := by decide +kernel
theorem dJx4a65c_grow_d5877_10 : decode cJx4a65c_grow_d5877 10 = .ok (.areturn, 1) := by decide +kernel
def f_Jx4a65c_grow_d5877 (a0 : Nat) (h : AH) : Option (Option Nat × AH) := rdI h a0 0 2 fun x_1 =>
  kg h a0 0 (bd (f_Jx4a65c_grow_92f84 a0 (x_1 + 1) h) fun r_4 h_3 =>
  some (r_4, h_3))
set_option maxRecDepth 20000 in
set_option maxHeartbeats 4000000 in
theorem t_Jx4a65c_grow_d5877 {Ω : Om} (a0 : Nat) (h : AH) (q : Option Nat × AH) (hf : f_Jx4a65c_grow_d5877 a0 h = some q) : Go Ω M_Jx4a65c_grow_d5877 0 (lv_args 0 [vR Ω (some a0)]) [] h (some (vR Ω q.1)) q.2 := by
  unfold f_Jx4a65c_grow_d5877 at hf
  rw [la_R, la_0]
  refine go_sub (lv' := [(0, vR Ω (some a0))]) [0] rfl ?_
  refine go_aload_n dJx4a65c_grow_d5877_0 rfl 0 rfl ?_
  refine go_aload_n dJx4a65c_grow_d5877_1 rfl 0 rfl ?_
  refine go_getI dJx4a65c_grow_d5877_2 fl_221_0 (fun _ _ => rfl) hf (fun x_1 hf => ?_)
  refine go_iconst 1 dJx4a65c_grow_d5877_5 rfl ?_
  refine go_iadd dJx4a65c_grow_d5877_6 ?_
  obtain ⟨hk, hf⟩ := kg_some hf
  obtain ⟨z_2, hc, hf⟩ := bd_some hf
  refine go_callV (y2 := M_Jx4a65c_grow_92f84) (c2 := 0) dJx4a65c_grow_d5877_7 mo_Jx4a65c_grow_92f84 ⟨Nat.le_of_ble_eq_true rfl, Nat.le_of_ble_eq_true rfl⟩ na_Jx4a65c_grow_92f84 w267 w269 (by decide) rfl w2 hk [.int (x_1 + 1)] rfl (n_Jx4a65c_grow_92f84 (a0) (x_1 + 1)) rfl (csum (Nat.le_of_ble_eq_true rfl)) (t_Jx4a65c_grow_92f84 (a0) (x_1 + 1) h _ hc) ?_
  obtain ⟨r_4, h_3⟩ := z_2
  exact go_areturn dJx4a65c_grow_d5877_10 rfl (Or.inr ⟨_, rfl⟩) hf
-- java/util/ArrayList.add(Ljava/lang/Object;[Ljava/lang/Object;I)V
theorem dJx4a65c_add_72be8_0 : decode cJx4a65c_add_72be8 0 = .ok (.iload_n 3, 1) := by decide +kernel
theorem dJx4a65c_add_72be8_1 : decode cJx4a65c_add_72be8 1 = .ok (.aload_n 2, 1) := by decide +kernel
theorem dJx4a65c_add_72be8_2 : decode cJx4a65c_add_72be8 2 = .ok (.arraylength, 1) := by decide +kernel
theorem dJx4a65c_add_72be8_3 : decode cJx4a65c_add_72be8 3 = .ok (.if_icmp .ne 8, 3) := by decide +kernel
theorem dJx4a65c_add_72be8_6 : decode cJx4a65c_add_72be8 6 = .ok (.aload_n 0, 1) := by decide +kernel
theorem dJx4a65c_add_72be8_7 : decode cJx4a65c_add_72be8 7 = .ok (.invokevirtual 129, 3) := by decide +kernel
theorem dJx4a65c_add_72be8_10 : decode cJx4a65c_add_72be8 10 = .ok (.astore_n 2, 1) := by decide +kernel
theorem dJx4a65c_add_72be8_11 : decode cJx4a65c_add_72be8 11 = .ok (.aload_n 2, 1) := by decide +kernel
theorem dJx4a65c_add_72be8_12 : decode cJx4a65c_add_72be8 12 = .ok (.iload_n 3, 1) := by decide +kernel
theorem dJx4a65c_add_72be8_13 : decode cJx4a65c_add_72be8 13 = .ok (.aload_n 1, 1) := by decide +kernel
theorem dJx4a65c_add_72be8_14 : decode cJx4a65c_add_72be8 14 = .ok (.aastore, 1) := by decide +kernel
theorem dJx4a65c_add_72be8_15 : decode cJx4a65c_add_72be8 15 = .ok (.aload_n 0, 1) := by decide +kernel
theorem dJx4a65c_add_72be8_16 : decode cJx4a65c_add_72be8 16 = .ok (.iload_n 3, 1) := by decide +kernel
theorem dJx4a65c_add_72be8_17 : decode cJx4a65c_add_72be8 17 = .ok (.iconst 1, 1) := by decide +kernel
theorem dJx4a65c_add_72be8_18 : decode cJx4a65c_add_72be8 18 = .ok (.iadd, 1) := by decide +kernel
theorem dJx4a65c_add_72be8_19 : decode cJx4a65c_add_72be8 19 = .ok (.putfield 48, 3) := by decide +kernel
theorem dJx4a65c_add_72be8_22 : decode cJx4a65c_add_72be8 22 = .ok (.return_, 1) := by decide +kernel
def f_Jx4a65c_add_72be8_11 (a0 : Nat) (r1 : Option Nat) (r2 : Option Nat) (x3 : Int32) (h : AH) : Option (Unit × AH) := nn r2 fun a_1 =>
  asO h a_1 x3 r1 fun h_2 =>
  wrI h_2 a0 0 2 (x3 + 1) fun h_3 =>
  some ((), h_3)
set_option maxRecDepth 20000 in
set_option maxHeartbeats 4000000 in
theorem t_Jx4a65c_add_72be8_11 {Ω : Om} (a0 : Nat) (r1 : Option Nat) (r2 : Option Nat) (x3 : Int32) (h : AH) (q : Unit × AH) (hf : f_Jx4a65c_add_72be8_11 a0 r1 r2 x3 h = some q) : Go Ω M_Jx4a65c_add_72be8 11 [(0, vR Ω (some a0)), (1, vR Ω r1), (2, vR Ω r2), (3, .int x3)] [] h none q.2 := by
  unfold f_Jx4a65c_add_72be8_11 at hf
  refine go_aload_n dJx4a65c_add_72be8_11 rfl 2 rfl ?_
  refine go_iload_n dJx4a65c_add_72be8_12 rfl 3 rfl ?_
  refine go_aload_n dJx4a65c_add_72be8_13 rfl 1 rfl ?_
  obtain ⟨a_1, rfl, hga_1⟩ := nn_some hf
  have hf := hga_1
  refine go_oastore dJx4a65c_add_72be8_14 hf (fun h_2 hf => ?_)
  refine go_aload_n dJx4a65c_add_72be8_15 rfl 0 rfl ?_
  refine go_iload_n dJx4a65c_add_72be8_16 rfl 3 rfl ?_
  refine go_iconst 1 dJx4a65c_add_72be8_17 rfl ?_
  refine go_iadd dJx4a65c_add_72be8_18 ?_
  refine go_putI dJx4a65c_add_72be8_19 fl_221_0 (fun q hq => by cases hq; exact Or.inl rfl) (fun _ _ => rfl) rfl hf (fun h_3 hf => ?_)
  exact go_return dJx4a65c_add_72be8_22 rfl hf
def f_Jx4a65c_add_72be8 (a0 : Nat) (r1 : Option Nat) (r2 : Option Nat) (x3 : Int32) (h : AH) : Option (Unit × AH) := nn r2 fun a_1 =>
  aln h a_1 fun x_2 =>
  (if x3 = x_2 then
    kg h a0 0 (bd (f_Jx4a65c_grow_d5877 a0 h) fun r_5 h_4 =>
    f_Jx4a65c_add_72be8_11 a0 r1 r_5 x3 h_4)
  else
    f_Jx4a65c_add_72be8_11 a0 r1 (some a_1) x3 h)
set_option maxRecDepth 20000 in
set_option maxHeartbeats 4000000 in
theorem t_Jx4a65c_add_72be8 {Ω : Om} (a0 : Nat) (r1 : Option Nat) (r2 : Option Nat) (x3 : Int32) (h : AH) (q : Unit × AH) (hf : f_Jx4a65c_add_72be8 a0 r1 r2 x3 h = some q) : Go Ω M_Jx4a65c_add_72be8 0 (lv_args 0 [vR Ω (some a0), vR Ω r1, vR Ω r2, .int x3]) [] h none q.2 := by
  unfold f_Jx4a65c_add_72be8 at hf
  rw [la_R, la_R, la_R, la_I, la_0]
  refine go_sub (lv' := [(0, vR Ω (some a0)), (1, vR Ω r1), (2, vR Ω r2), (3, .int x3)]) [0, 1, 2, 3] rfl ?_
  refine go_iload_n dJx4a65c_add_72be8_0 rfl 3 rfl ?_
  refine go_aload_n dJx4a65c_add_72be8_1 rfl 2 rfl ?_
  obtain ⟨a_1, rfl, hga_1⟩ := nn_some hf
  have hf := hga_1
  refine go_alen dJx4a65c_add_72be8_2 hf (fun x_2 hf => ?_)
  refine go_icmp_ne (tgt := 11) dJx4a65c_add_72be8_3 (by decide) hf (fun hf => ?_) (fun hf => ?_)
  · refine go_sub (lv' := [(0, vR Ω (some a0)), (1, vR Ω r1), (2, vR Ω (some a_1)), (3, .int x3)]) [0, 1, 2, 3] rfl ?_
    exact t_Jx4a65c_add_72be8_11 a0 r1 (some a_1) x3 h q hf
  · refine go_aload_n dJx4a65c_add_72be8_6 rfl 0 rfl ?_
    obtain ⟨hk, hf⟩ := kg_some hf
    obtain ⟨z_3, hc, hf⟩ := bd_some hf
    refine go_callV (y2 := M_Jx4a65c_grow_d5877) (c2 := 0) dJx4a65c_add_72be8_7 mo_Jx4a65c_grow_d5877 ⟨Nat.le_of_ble_eq_true rfl, Nat.le_of_ble_eq_true rfl⟩ na_Jx4a65c_grow_d5877 w263 w265 (by decide) rfl w1 hk [] rfl (n_Jx4a65c_grow_d5877 (a0)) rfl (csum (Nat.le_of_ble_eq_true rfl)) (t_Jx4a65c_grow_d5877 (a0) h _ hc) ?_
    obtain ⟨r_5, h_4⟩ := z_3
    refine go_astore_n (i := 2) (lv' := [(2, vR Ω r_5), (0, vR Ω (some a0)), (1, vR Ω r1), (3, .int x3)]) dJx4a65c_add_72be8_10 rfl (by decide) (by first | rfl | simp [catR, catI, catJ]) ?_
    refine go_sub (lv' := [(0, vR Ω (some a0)), (1, vR Ω r1), (2, vR Ω r_5), (3, .int x3)]) [1, 2, 0, 3] rfl ?_
    exact t_Jx4a65c_add_72be8_11 a0 r1 r_5 x3 h_4 q hf
-- java/util/ArrayList.add(Ljava/lang/Object;)Z
theorem dJx4a65c_add_9ea2d_0 : decode cJx4a65c_add_9ea2d 0 = .ok (.aload_n 0, 1) := by decide +kernel
theorem dJx4a65c_add_9ea2d_1 : decode cJx4a65c_add_9ea2d 1 = .ok (.dup, 1) := by decide +kernel
theorem dJx4a65c_add_9ea2d_2 : decode cJx4a65c_add_9ea2d 2 = .ok (.getfield 63, 3) := by decide +kernel
theorem dJx4a65c_add_9ea2d_5 : decode cJx4a65c_add_9ea2d 5 = .ok (.iconst 1, 1) := by decide +kernel
theorem dJx4a65c_add_9ea2d_6 : decode cJx4a65c_add_9ea2d 6 = .ok (.iadd, 1) := by decide +kernel
theorem dJx4a65c_add_9ea2d_7 : decode cJx4a65c_add_9ea2d 7 = .ok (.putfield 63, 3) := by decide +kernel
theorem dJx4a65c_add_9ea2d_10 : decode cJx4a65c_add_9ea2d 10 = .ok (.aload_n 0, 1) := by decide +kernel
theorem dJx4a65c_add_9ea2d_11 : decode cJx4a65c_add_9ea2d 11 = .ok (.aload_n 1, 1) := by decide +kernel
theorem dJx4a65c_add_9ea2d_12 : decode cJx4a65c_add_9ea2d 12 = .ok (.aload_n 0, 1) := by decide +kernel
theorem dJx4a65c_add_9ea2d_13 : decode cJx4a65c_add_9ea2d 13 = .ok (.getfield 9, 3) := by decide +kernel
theorem dJx4a65c_add_9ea2d_16 : decode cJx4a65c_add_9ea2d 16 = .ok (.aload_n 0, 1) := by decide +kernel
theorem dJx4a65c_add_9ea2d_17 : decode cJx4a65c_add_9ea2d 17 = .ok (.getfield 48, 3) := by decide +kernel
theorem dJx4a65c_add_9ea2d_20 : decode cJx4a65c_add_9ea2d 20 = .ok (.invokevirtual 131, 3) := by decide +kernel
theorem dJx4a65c_add_9ea2d_23 : decode cJx4a65c_add_9ea2d 23 = .ok (.iconst 1, 1) := by decide +kernel
theorem dJx4a65c_add_9ea2d_24 : decode cJx4a65c_add_9ea2d 24 = .ok (.ireturn, 1) := by decide +kernel
def f_Jx4a65c_add_9ea2d (a0 : Nat) (r1 : Option Nat) (h : AH) : Option (Int32 × AH) := rdI h a0 0 0 fun x_1 =>
  wrI h a0 0 0 (x_1 + 1) fun h_2 =>
  rdR h_2 a0 0 1 fun r_3 =>
  rdI h_2 a0 0 2 fun x_4 =>
  kg h_2 a0 0 (bd (f_Jx4a65c_add_72be8 a0 r1 r_3 x_4 h_2) fun _ h_6 =>
  rz 1 (some (1, h_6)))
set_option maxRecDepth 20000 in
set_option maxHeartbeats 4000000 in
theorem t_Jx4a65c_add_9ea2d {Ω : Om} (a0 : Nat) (r1 : Option Nat) (h : AH) (q : Int32 × AH) (hf : f_Jx4a65c_add_9ea2d a0 r1 h = some q) : Go Ω M_Jx4a65c_add_9ea2d 0 (lv_args 0 [vR Ω (some a0), vR Ω r1]) [] h (some (.int q.1)) q.2 := by
  unfold f_Jx4a65c_add_9ea2d at hf
  rw [la_R, la_R, la_0]
  refine go_sub (lv' := [(0, vR Ω (some a0)), (1, vR Ω r1)]) [0, 1] rfl ?_
  refine go_aload_n dJx4a65c_add_9ea2d_0 rfl 0 rfl ?_
  refine go_dup dJx4a65c_add_9ea2d_1 catR ?_
  refine go_getI dJx4a65c_add_9ea2d_2 fl_223_0 (fun _ _ => rfl) hf (fun x_1 hf => ?_)
  refine go_iconst 1 dJx4a65c_add_9ea2d_5 rfl ?_
  refine go_iadd dJx4a65c_add_9ea2d_6 ?_
  refine go_putI dJx4a65c_add_9ea2d_7 fl_223_0 (fun q hq => by cases hq; exact Or.inl rfl) (fun _ _ => rfl) rfl hf (fun h_2 hf => ?_)
  refine go_aload_n dJx4a65c_add_9ea2d_10 rfl 0 rfl ?_
  refine go_aload_n dJx4a65c_add_9ea2d_11 rfl 1 rfl ?_
  refine go_aload_n dJx4a65c_add_9ea2d_12 rfl 0 rfl ?_
  refine go_getR dJx4a65c_add_9ea2d_13 fl_220_0 (fun _ _ => rfl) hf (fun r_3 hf => ?_)
  refine go_aload_n dJx4a65c_add_9ea2d_16 rfl 0 rfl ?_
  refine go_getI dJx4a65c_add_9ea2d_17 fl_221_0 (fun _ _ => rfl) hf (fun x_4 hf => ?_)
  obtain ⟨hk, hf⟩ := kg_some hf
  obtain ⟨z_5, hc, hf⟩ := bd_some hf
  refine go_callV (y2 := M_Jx4a65c_add_72be8) (c2 := 0) dJx4a65c_add_9ea2d_20 mo_Jx4a65c_add_72be8 ⟨Nat.le_of_ble_eq_true rfl, Nat.le_of_ble_eq_true rfl⟩ na_Jx4a65c_add_72be8 w259 w261 (by decide) rfl w0 hk [vR Ω r1, vR Ω r_3, .int x_4] rfl (n_Jx4a65c_add_72be8 (a0) r1 r_3 x_4) rfl (csum (Nat.le_of_ble_eq_true rfl)) (t_Jx4a65c_add_72be8 (a0) r1 r_3 x_4 h_2 _ hc) ?_
  obtain ⟨_, h_6⟩ := z_5
  refine go_iconst 1 dJx4a65c_add_9ea2d_23 rfl ?_
  exact go_zreturn dJx4a65c_add_9ea2d_24 rfl hf
-- LetterBroker$Exchange.<init>(JI)V
theorem dX5_init_0 : decode cX5_init 0 = .ok (.aload_n 0, 1) := by decide +kernel
theorem dX5_init_1 : decode cX5_init 1 = .ok (.invokespecial 1, 3) := by decide +kernel
theorem dX5_init_4 : decode cX5_init 4 = .ok (.aload_n 0, 1) := by decide +kernel
theorem dX5_init_5 : decode cX5_init 5 = .ok (.lload_n 1, 1) := by decide +kernel
theorem dX5_init_6 : decode cX5_init 6 = .ok (.putfield 7, 3) := by decide +kernel
theorem dX5_init_9 : decode cX5_init 9 = .ok (.aload_n 0, 1) := by decide +kernel
theorem dX5_init_10 : decode cX5_init 10 = .ok (.iload_n 3, 1) := by decide +kernel
theorem dX5_init_11 : decode cX5_init 11 = .ok (.putfield 13, 3) := by decide +kernel
theorem dX5_init_14 : decode cX5_init 14 = .ok (.return_, 1) := by decide +kernel
def f_X5_init (a0 : Nat) (x1 : Int64) (x3 : Int32) (h : AH) : Option (Unit × AH) := wrJ h a0 6 0 x1 fun h_1 =>
  wrI h_1 a0 6 1 x3 fun h_2 =>
  some ((), h_2)
set_option maxRecDepth 20000 in
set_option maxHeartbeats 4000000 in
theorem t_X5_init {Ω : Om} (a0 : Nat) (x1 : Int64) (x3 : Int32) (h : AH) (q : Unit × AH) (hf : f_X5_init a0 x1 x3 h = some q) : Go Ω M_X5_init 0 (lv_args 0 [vR Ω (some a0), .long x1, .int x3]) [] h none q.2 := by
  unfold f_X5_init at hf
  rw [la_R, la_J, la_I, la_0]
  refine go_sub (lv' := [(0, vR Ω (some a0)), (1, .long x1), (3, .int x3)]) [0, 1, 2] rfl ?_
  refine go_aload_n dX5_init_0 rfl 0 rfl ?_
  refine go_objInit dX5_init_1 w237 ⟨by decide, cadd (csum (Nat.le_of_ble_eq_true rfl)) (by decide +kernel)⟩ ?_
  refine go_aload_n dX5_init_4 rfl 0 rfl ?_
  refine go_lload_n dX5_init_5 rfl 1 rfl ?_
  refine go_putJ dX5_init_6 fl_238_0 (fun q hq => by cases hq; exact Or.inr ⟨rfl, rfl, rfl⟩) (fun _ _ => rfl) rfl hf (fun h_1 hf => ?_)
  refine go_aload_n dX5_init_9 rfl 0 rfl ?_
  refine go_iload_n dX5_init_10 rfl 2 rfl ?_
  refine go_putI dX5_init_11 fl_241_0 (fun q hq => by cases hq; exact Or.inr ⟨rfl, rfl, rfl⟩) (fun _ _ => rfl) rfl hf (fun h_2 hf => ?_)
  exact go_return dX5_init_14 rfl hf
-- LetterBroker$Office.<init>()V
theorem dX8_init_0 : decode cX8_init 0 = .ok (.aload_n 0, 1) := by decide +kernel
theorem dX8_init_1 : decode cX8_init 1 = .ok (.invokespecial 3, 3) := by decide +kernel
theorem dX8_init_4 : decode cX8_init 4 = .ok (.aload_n 0, 1) := by decide +kernel
theorem dX8_init_5 : decode cX8_init 5 = .ok (.new 9, 3) := by decide +kernel
theorem dX8_init_8 : decode cX8_init 8 = .ok (.dup, 1) := by decide +kernel
theorem dX8_init_9 : decode cX8_init 9 = .ok (.invokespecial 11, 3) := by decide +kernel
theorem dX8_init_12 : decode cX8_init 12 = .ok (.putfield 12, 3) := by decide +kernel
theorem dX8_init_15 : decode cX8_init 15 = .ok (.aload_n 0, 1) := by decide +kernel
theorem dX8_init_16 : decode cX8_init 16 = .ok (.new 9, 3) := by decide +kernel
theorem dX8_init_19 : decode cX8_init 19 = .ok (.dup, 1) := by decide +kernel
theorem dX8_init_20 : decode cX8_init 20 = .ok (.invokespecial 11, 3) := by decide +kernel
theorem dX8_init_23 : decode cX8_init 23 = .ok (.putfield 18, 3) := by decide +kernel
theorem dX8_init_26 : decode cX8_init 26 = .ok (.aload_n 0, 1) := by decide +kernel
theorem dX8_init_27 : decode cX8_init 27 = .ok (.new 9, 3) := by decide +kernel
theorem dX8_init_30 : decode cX8_init 30 = .ok (.dup, 1) := by decide +kernel
theorem dX8_init_31 : decode cX8_init 31 = .ok (.invokespecial 11, 3) := by decide +kernel
theorem dX8_init_34 : decode cX8_init 34 = .ok (.putfield 21, 3) := by decide +kernel
theorem dX8_init_37 : decode cX8_init 37 = .ok (.aload_n 0, 1) := by decide +kernel
theorem dX8_init_38 : decode cX8_init 38 = .ok (.new 9, 3) := by decide +kernel
theorem dX8_init_41 : decode cX8_init 41 = .ok (.dup, 1) := by decide +kernel
theorem dX8_init_42 : decode cX8_init 42 = .ok (.invokespecial 11, 3) := by decide +kernel
theorem dX8_init_45 : decode cX8_init 45 = .ok (.putfield 24, 3) := by decide +kernel
theorem dX8_init_48 : decode cX8_init 48 = .ok (.aload_n 0, 1) := by decide +kernel
theorem dX8_init_49 : decode cX8_init 49 = .ok (.getfield 12, 3) := by decide +kernel
theorem dX8_init_52 : decode cX8_init 52 = .ok (.new 27, 3) := by decide +kernel
theorem dX8_init_55 : decode cX8_init 55 = .ok (.dup, 1) := by decide +kernel
theorem dX8_init_56 : decode cX8_init 56 = .ok (.lconst 0, 1) := by decide +kernel
theorem dX8_init_57 : decode cX8_init 57 = .ok (.iconst 0, 1) := by decide +kernel
theorem dX8_init_58 : decode cX8_init 58 = .ok (.invokespecial 29, 3) := by decide +kernel
theorem dX8_init_61 : decode cX8_init 61 = .ok (.invokeinterface 32 2, 5) := by decide +kernel
theorem dX8_init_66 : decode cX8_init 66 = .ok (.pop, 1) := by decide +kernel
theorem dX8_init_67 : decode cX8_init 67 = .ok (.return_, 1) := by decide +kernel
def f_X8_init (a0 : Nat) (h : AH) : Option (Unit × AH) := nwO h 0 fun a_1 h_2 =>
  bd (f_Jx4a65c_init_da8c8 a_1 h_2) fun _ h_4 =>
  wrR h_4 a0 9 0 (some a_1) fun h_5 =>
  nwO h_5 0 fun a_6 h_7 =>
  bd (f_Jx4a65c_init_da8c8 a_6 h_7) fun _ h_9 =>
  wrR h_9 a0 9 1 (some a_6) fun h_10 =>
  nwO h_10 0 fun a_11 h_12 =>
  bd (f_Jx4a65c_init_da8c8 a_11 h_12) fun _ h_14 =>
  wrR h_14 a0 9 2 (some a_11) fun h_15 =>
  nwO h_15 0 fun a_16 h_17 =>
  bd (f_Jx4a65c_init_da8c8 a_16 h_17) fun _ h_19 =>
  wrR h_19 a0 9 3 (some a_16) fun h_20 =>
  rdR h_20 a0 9 0 fun r_21 =>
  nwO h_20 6 fun a_22 h_23 =>
  bd (f_X5_init a_22 0 0 h_23) fun _ h_25 =>
  nn r_21 fun a_26 =>
  kg h_25 a_26 0 (bd (f_Jx4a65c_add_9ea2d a_26 (some a_22) h_25) fun x_29 h_28 =>
  some ((), h_28))
set_option maxRecDepth 20000 in
set_option maxHeartbeats 4000000 in
theorem t_X8_init {Ω : Om} (a0 : Nat) (h : AH) (q : Unit × AH) (hf : f_X8_init a0 h = some q) : Go Ω M_X8_init 0 (lv_args 0 [vR Ω (some a0)]) [] h none q.2 := by
  unfold f_X8_init at hf
  rw [la_R, la_0]
  refine go_sub (lv' := [(0, vR Ω (some a0))]) [0] rfl ?_
  refine go_aload_n dX8_init_0 rfl 0 rfl ?_
  refine go_objInit dX8_init_1 w205 ⟨by decide, cadd (csum (Nat.le_of_ble_eq_true rfl)) (by decide +kernel)⟩ ?_
  refine go_aload_n dX8_init_4 rfl 0 rfl ?_
  refine go_new (c := 0) dX8_init_5 (by decide) rfl w206 hf (fun a_1 h_2 hf => ?_)
  refine go_dup dX8_init_8 catR ?_
  obtain ⟨z_3, hc, hf⟩ := bd_some hf
  refine go_callI (y2 := M_Jx4a65c_init_da8c8) dX8_init_9 mo_Jx4a65c_init_da8c8 ⟨Nat.le_of_ble_eq_true rfl, Nat.le_of_ble_eq_true rfl⟩ na_Jx4a65c_init_da8c8 w208 w209 rfl rfl [] rfl (n_Jx4a65c_init_da8c8 (a_1)) rfl (csum (Nat.le_of_ble_eq_true rfl)) (t_Jx4a65c_init_da8c8 (a_1) h_2 _ hc) ?_
  obtain ⟨_, h_4⟩ := z_3
  refine go_putR dX8_init_12 fl_316_0 (fun q hq => by cases hq; exact Or.inr ⟨rfl, rfl, rfl⟩) (fun _ _ => rfl) (Or.inl ⟨_, rfl⟩) hf (fun h_5 hf => ?_)
  refine go_aload_n dX8_init_15 rfl 0 rfl ?_
  refine go_new (c := 0) dX8_init_16 (by decide) rfl w206 hf (fun a_6 h_7 hf => ?_)
  refine go_dup dX8_init_19 catR ?_
  obtain ⟨z_8, hc, hf⟩ := bd_some hf
  refine go_callI (y2 := M_Jx4a65c_init_da8c8) dX8_init_20 mo_Jx4a65c_init_da8c8 ⟨Nat.le_of_ble_eq_true rfl, Nat.le_of_ble_eq_true rfl⟩ na_Jx4a65c_init_da8c8 w208 w209 rfl rfl [] rfl (n_Jx4a65c_init_da8c8 (a_6)) rfl (csum (Nat.le_of_ble_eq_true rfl)) (t_Jx4a65c_init_da8c8 (a_6) h_7 _ hc) ?_
  obtain ⟨_, h_9⟩ := z_8
  refine go_putR dX8_init_23 fl_318_0 (fun q hq => by cases hq; exact Or.inr ⟨rfl, rfl, rfl⟩) (fun _ _ => rfl) (Or.inl ⟨_, rfl⟩) hf (fun h_10 hf => ?_)
  refine go_aload_n dX8_init_26 rfl 0 rfl ?_
  refine go_new (c := 0) dX8_init_27 (by decide) rfl w206 hf (fun a_11 h_12 hf => ?_)
  refine go_dup dX8_init_30 catR ?_
  obtain ⟨z_13, hc, hf⟩ := bd_some hf
  refine go_callI (y2 := M_Jx4a65c_init_da8c8) dX8_init_31 mo_Jx4a65c_init_da8c8 ⟨Nat.le_of_ble_eq_true rfl, Nat.le_of_ble_eq_true rfl⟩ na_Jx4a65c_init_da8c8 w208 w209 rfl rfl [] rfl (n_Jx4a65c_init_da8c8 (a_11)) rfl (csum (Nat.le_of_ble_eq_true rfl)) (t_Jx4a65c_init_da8c8 (a_11) h_12 _ hc) ?_
  obtain ⟨_, h_14⟩ := z_13
  refine go_putR dX8_init_34 fl_320_0 (fun q hq => by cases hq; exact Or.inr ⟨rfl, rfl, rfl⟩) (fun _ _ => rfl) (Or.inl ⟨_, rfl⟩) hf (fun h_15 hf => ?_)
  refine go_aload_n dX8_init_37 rfl 0 rfl ?_
  refine go_new (c := 0) dX8_init_38 (by decide) rfl w206 hf (fun a_16 h_17 hf => ?_)
  refine go_dup dX8_init_41 catR ?_
  obtain ⟨z_18, hc, hf⟩ := bd_some hf
  refine go_callI (y2 := M_Jx4a65c_init_da8c8) dX8_init_42 mo_Jx4a65c_init_da8c8 ⟨Nat.le_of_ble_eq_true rfl, Nat.le_of_ble_eq_true rfl⟩ na_Jx4a65c_init_da8c8 w208 w209 rfl rfl [] rfl (n_Jx4a65c_init_da8c8 (a_16)) rfl (csum (Nat.le_of_ble_eq_true rfl)) (t_Jx4a65c_init_da8c8 (a_16) h_17 _ hc) ?_
  obtain ⟨_, h_19⟩ := z_18
  refine go_putR dX8_init_45 fl_322_0 (fun q hq => by cases hq; exact Or.inr ⟨rfl, rfl, rfl⟩) (fun _ _ => rfl) (Or.inl ⟨_, rfl⟩) hf (fun h_20 hf => ?_)
  refine go_aload_n dX8_init_48 rfl 0 rfl ?_
  refine go_getR dX8_init_49 fl_316_0 (fun _ _ => rfl) hf (fun r_21 hf => ?_)
  refine go_new (c := 6) dX8_init_52 (by decide) rfl w232 hf (fun a_22 h_23 hf => ?_)
  refine go_dup dX8_init_55 catR ?_
  refine go_lconst 0 dX8_init_56 rfl ?_
  refine go_iconst 0 dX8_init_57 rfl ?_
  obtain ⟨z_24, hc, hf⟩ := bd_some hf
  refine go_callI (y2 := M_X5_init) dX8_init_58 mo_X5_init ⟨Nat.le_of_ble_eq_true rfl, Nat.le_of_ble_eq_true rfl⟩ na_X5_init w234 w235 rfl rfl [.long 0, .int 0] rfl (n_X5_init (a_22) 0 0) rfl (csum (Nat.le_of_ble_eq_true rfl)) (t_X5_init (a_22) 0 0 h_23 _ hc) ?_
  obtain ⟨_, h_25⟩ := z_24
  obtain ⟨a_26, rfl, hga_26⟩ := nn_some hf
  have hf := hga_26
  obtain ⟨hk, hf⟩ := kg_some hf
  obtain ⟨z_27, hc, hf⟩ := bd_some hf
  refine go_callF (y2 := M_Jx4a65c_add_9ea2d) (x2 := ⟨"java/util/List", "add", "(Ljava/lang/Object;)Z"⟩) dX8_init_61 mo_Jx4a65c_add_9ea2d ⟨Nat.le_of_ble_eq_true rfl, Nat.le_of_ble_eq_true rfl⟩ na_Jx4a65c_add_9ea2d w250 w256 w254 (by decide) (fun U hU => hU.1) hk [vR Ω (some a_22)] rfl (n_Jx4a65c_add_9ea2d (a_26) (some a_22)) rfl (csum (Nat.le_of_ble_eq_true rfl)) (t_Jx4a65c_add_9ea2d (a_26) (some a_22) h_25 _ hc) ?_
  obtain ⟨x_29, h_28⟩ := z_27
  refine go_pop dX8_init_66 rfl ?_
  exact go_return dX8_init_67 rfl hf
-- LetterBroker$Outbox.<init>()V
theorem dX9_init_0 : decode cX9_init 0 = .ok (.aload_n 0, 1) := by decide +kernel
theorem dX9_init_1 : decode cX9_init 1 = .ok (.invokespecial 3, 3) := by decide +kernel
theorem dX9_init_4 : decode cX9_init 4 = .ok (.aload_n 0, 1) := by decide +kernel
theorem dX9_init_5 : decode cX9_init 5 = .ok (.sipush 2400, 3) := by decide +kernel
theorem dX9_init_8 : decode cX9_init 8 = .ok (.newarray .int, 2) := by decide +kernel
theorem dX9_init_10 : decode cX9_init 10 = .ok (.putfield 11, 3) := by decide +kernel
theorem dX9_init_13 : decode cX9_init 13 = .ok (.return_, 1) := by decide +kernel
def f_X9_init (a0 : Nat) (h : AH) : Option (Unit × AH) := nwA h 100 2400 fun a_1 h_2 =>
  wrR h_2 a0 10 1 (some a_1) fun h_3 =>
  some ((), h_3)
set_option maxRecDepth 20000 in
set_option maxHeartbeats 4000000 in
theorem t_X9_init {Ω : Om} (a0 : Nat) (h : AH) (q : Unit × AH) (hf : f_X9_init a0 h = some q) : Go Ω M_X9_init 0 (lv_args 0 [vR Ω (some a0)]) [] h none q.2 := by
  unfold f_X9_init at hf
  rw [la_R, la_0]
  refine go_sub (lv' := [(0, vR Ω (some a0))]) [0] rfl ?_
  refine go_aload_n dX9_init_0 rfl 0 rfl ?_
  refine go_objInit dX9_init_1 w182 ⟨by decide, cadd (csum (Nat.le_of_ble_eq_true rfl)) (by decide +kernel)⟩ ?_
  refine go_aload_n dX9_init_4 rfl 0 rfl ?_
  refine go_sipush 2400 dX9_init_5 (by decide) ?_
  refine go_newI dX9_init_8 hf (fun a_1 h_2 hf => ?_)
  refine go_putR dX9_init_10 fl_185_0 (fun q hq => by cases hq; exact Or.inr ⟨rfl, rfl, rfl⟩) (fun _ _ => rfl) (Or.inr ⟨_, rfl⟩) hf (fun h_3 hf => ?_)
  exact go_return dX9_init_13 rfl hf
-- LetterBroker.<init>()V
theorem dX11_init_0 : decode cX11_init 0 = .ok (.aload_n 0, 1) := by decide +kernel
theorem dX11_init_1 : decode cX11_init 1 = .ok (.invokespecial 1, 3) := by decide +kernel
theorem dX11_init_4 : decode cX11_init 4 = .ok (.aload_n 0, 1) := by decide +kernel
theorem dX11_init_5 : decode cX11_init 5 = .ok (.new 7, 3) := by decide +kernel
theorem dX11_init_8 : decode cX11_init 8 = .ok (.dup, 1) := by decide +kernel
theorem dX11_init_9 : decode cX11_init 9 = .ok (.invokespecial 9, 3) := by decide +kernel
theorem dX11_init_12 : decode cX11_init 12 = .ok (.putfield 10, 3) := by decide +kernel
theorem dX11_init_15 : decode cX11_init 15 = .ok (.aload_n 0, 1) := by decide +kernel
theorem dX11_init_16 : decode cX11_init 16 = .ok (.new 16, 3) := by decide +kernel
theorem dX11_init_19 : decode cX11_init 19 = .ok (.dup, 1) := by decide +kernel
theorem dX11_init_20 : decode cX11_init 20 = .ok (.invokespecial 18, 3) := by decide +kernel
theorem dX11_init_23 : decode cX11_init 23 = .ok (.putfield 19, 3) := by decide +kernel
theorem dX11_init_26 : decode cX11_init 26 = .ok (.aload_n 0, 1) := by decide +kernel
theorem dX11_init_27 : decode cX11_init 27 = .ok (.new 23, 3) := by decide +kernel
theorem dX11_init_30 : decode cX11_init 30 = .ok (.dup, 1) := by decide +kernel
theorem dX11_init_31 : decode cX11_init 31 = .ok (.invokespecial 25, 3) := by decide +kernel
theorem dX11_init_34 : decode cX11_init 34 = .ok (.putfield 26, 3) := by decide +kernel
theorem dX11_init_37 : decode cX11_init 37 = .ok (.aload_n 0, 1) := by decide +kernel
theorem dX11_init_38 : decode cX11_init 38 = .ok (.iconst 3, 1) := by decide +kernel
theorem dX11_init_39 : decode cX11_init 39 = .ok (.anewarray 30, 3) := by decide +kernel
theorem dX11_init_42 : decode cX11_init 42 = .ok (.putfield 32, 3) := by decide +kernel
theorem dX11_init_45 : decode cX11_init 45 = .ok (.iconst 0, 1) := by decide +kernel
theorem dX11_init_46 : decode cX11_init 46 = .ok (.istore_n 1, 1) := by decide +kernel
theorem dX11_init_47 : decode cX11_init 47 = .ok (.iload_n 1, 1) := by decide +kernel
theorem dX11_init_48 : decode cX11_init 48 = .ok (.iconst 3, 1) := by decide +kernel
theorem dX11_init_49 : decode cX11_init 49 = .ok (.if_icmp .ge 25, 3) := by decide +kernel
theorem dX11_init_52 : decode cX11_init 52 = .ok (.aload_n 0, 1) := by decide +kernel
theorem dX11_init_53 : decode cX11_init 53 = .ok (.getfield 32, 3) := by decide +kernel
theorem dX11_init_56 : decode cX11_init 56 = .ok (.iload_n 1, 1) := by decide +kernel
theorem dX11_init_57 : decode cX11_init 57 = .ok (.new 30, 3) := by decide +kernel
theorem dX11_init_60 : decode cX11_init 60 = .ok (.dup, 1) := by decide +kernel
theorem dX11_init_61 : decode cX11_init 61 = .ok (.iload_n 1, 1) := by decide +kernel
theorem dX11_init_62 : decode cX11_init 62 = .ok (.iconst 1, 1) := by decide +kernel
theorem dX11_init_63 : decode cX11_init 63 = .ok (.iadd, 1) := by decide +kernel
theorem dX11_init_64 : decode cX11_init 64 = .ok (.invokespecial 36, 3) := by decide +kernel
theorem dX11_init_67 : decode cX11_init 67 = .ok (.aastore, 1) := by decide +kernel
theorem dX11_init_68 : decode cX11_init 68 = .ok (.iinc 1 1, 3) := by decide +kernel
theorem dX11_init_71 : decode cX11_init 71 = .ok (.goto (-24), 3) := by decide +kernel
theorem dX11_init_74 : decode cX11_init 74 = .ok (.aload_n 0, 1) := by decide +kernel
theorem dX11_init_75 : decode cX11_init 75 = .ok (.iconst 0, 1) := by decide +kernel
theorem dX11_init_76 : decode cX11_init 76 = .ok (.putfield 39, 3) := by decide +kernel
theorem dX11_init_79 : decode cX11_init 79 = .ok (.return_, 1) := by decide +kernel
def f_X11_init_74 (a0 : Nat) (h : AH) : Option (Unit × AH) := wrI h a0 12 4 0 fun h_1 =>
  some ((), h_1)
set_option maxRecDepth 20000 in
set_option maxHeartbeats 4000000 in
theorem t_X11_init_74 {Ω : Om} (a0 : Nat) (h : AH) (q : Unit × AH) (hf : f_X11_init_74 a0 h = some q) : Go Ω M_X11_init 74 [(0, vR Ω (some a0))] [] h none q.2 := by
  unfold f_X11_init_74 at hf
  refine go_aload_n dX11_init_74 rfl 0 rfl ?_
  refine go_iconst 0 dX11_init_75 rfl ?_
  refine go_putI dX11_init_76 fl_392_0 (fun q hq => by cases hq; exact Or.inl rfl) (fun _ _ => rfl) rfl hf (fun h_1 hf => ?_)
  exact go_return dX11_init_79 rfl hf
def f_X11_init_47 : Nat → Nat → Int32 → AH → Option (Unit × AH)
  | 0, _, _, _ => none
  | n + 1, a0, x1, h => (if 3 ≤ x1 then
      f_X11_init_74 a0 h
    else
      rdR h a0 12 3 fun r_1 =>
      nwO h 2 fun a_2 h_3 =>
      bd (f_X1_init a_2 (x1 + 1) h_3) fun _ h_5 =>
      nn r_1 fun a_6 =>
      asC h_5 a_6 x1 (some a_2) fun h_7 =>
      f_X11_init_47 n a0 (x1 + 1) h_7)
set_option maxRecDepth 20000 in
set_option maxHeartbeats 4000000 in
theorem t_X11_init_47 {Ω : Om} : ∀ (n : Nat) (a0 : Nat) (x1 : Int32) (h : AH) (q : Unit × AH), f_X11_init_47 n a0 x1 h = some q → Go Ω M_X11_init 47 [(0, vR Ω (some a0)), (1, .int x1)] [] h none q.2 := by
  intro n
  induction n with
  | zero => intro a0 x1 h q hf; cases hf
  | succ n ih =>
    intro a0 x1 h q hf
    rw [f_X11_init_47] at hf
    refine go_iload_n dX11_init_47 rfl 1 rfl ?_
    refine go_iconst 3 dX11_init_48 rfl ?_
    refine go_icmp_ge (tgt := 74) dX11_init_49 (by decide) hf (fun hf => ?_) (fun hf => ?_)
    · refine go_sub (lv' := [(0, vR Ω (some a0))]) [0] rfl ?_
      exact t_X11_init_74 a0 h q hf
    · refine go_aload_n dX11_init_52 rfl 0 rfl ?_
      refine go_getR dX11_init_53 fl_391_0 (fun _ _ => rfl) hf (fun r_1 hf => ?_)
      refine go_iload_n dX11_init_56 rfl 1 rfl ?_
      refine go_new (c := 2) dX11_init_57 (by decide) rfl w339 hf (fun a_2 h_3 hf => ?_)
      refine go_dup dX11_init_60 catR ?_
      refine go_iload_n dX11_init_61 rfl 1 rfl ?_
      refine go_iconst 1 dX11_init_62 rfl ?_
      refine go_iadd dX11_init_63 ?_
      obtain ⟨z_4, hc, hf⟩ := bd_some hf
      refine go_callI (y2 := M_X1_init) dX11_init_64 mo_X1_init ⟨Nat.le_of_ble_eq_true rfl, Nat.le_of_ble_eq_true rfl⟩ na_X1_init w342 w343 rfl rfl [.int (x1 + 1)] rfl (n_X1_init (a_2) (x1 + 1)) rfl (csum (Nat.le_of_ble_eq_true rfl)) (t_X1_init (a_2) (x1 + 1) h_3 _ hc) ?_
      obtain ⟨_, h_5⟩ := z_4
      obtain ⟨a_6, rfl, hga_6⟩ := nn_some hf
      have hf := hga_6
      refine go_castore dX11_init_67 hf (fun h_7 hf => ?_)
      refine go_iinc (j := 1) (v := x1 + 1) (lv' := [(1, .int (x1 + 1)), (0, vR Ω (some a0))]) dX11_init_68 rfl rfl (by decide) (by first | rfl | simp [catR, catI, catJ]) ?_
      refine go_goto (tgt := 47) dX11_init_71 (by decide) ?_
      refine go_sub (lv' := [(0, vR Ω (some a0)), (1, .int (x1 + 1))]) [1, 0] rfl ?_
      exact ih a0 (x1 + 1) h_7 q hf
def f_X11_init (a0 : Nat) (h : AH) : Option (Unit × AH) := nwO h 7 fun a_1 h_2 =>
  bd (f_X6_init a_1 h_2) fun _ h_4 =>
  wrR h_4 a0 12 0 (some a_1) fun h_5 =>
  nwO h_5 10 fun a_6 h_7 =>
  bd (f_X9_init a_6 h_7) fun _ h_9 =>
  wrR h_9 a0 12 1 (some a_6) fun h_10 =>
  nwO h_10 9 fun a_11 h_12 =>
  bd (f_X8_init a_11 h_12) fun _ h_14 =>
  wrR h_14 a0 12 2 (some a_11) fun h_15 =>
  nwA h_15 104 3 fun a_16 h_17 =>
  wrR h_17 a0 12 3 (some a_16) fun h_18 =>
  f_X11_init_47 FU a0 0 h_18
set_option maxRecDepth 20000 in
set_option maxHeartbeats 4000000 in
theorem t_X11_init {Ω : Om} (a0 : Nat) (h : AH) (q : Unit × AH) (hf : f_X11_init a0 h = some q) : Go Ω M_X11_init 0 (lv_args 0 [vR Ω (some a0)]) [] h none q.2 := by
  unfold f_X11_init at hf
  rw [la_R, la_0]
  refine go_sub (lv' := [(0, vR Ω (some a0))]) [0] rfl ?_
  refine go_aload_n dX11_init_0 rfl 0 rfl ?_
  refine go_objInit dX11_init_1 w147 ⟨by decide, cadd (csum (Nat.le_of_ble_eq_true rfl)) (by decide +kernel)⟩ ?_
  refine go_aload_n dX11_init_4 rfl 0 rfl ?_
  refine go_new (c := 7) dX11_init_5 (by decide) rfl w150 hf (fun a_1 h_2 hf => ?_)
  refine go_dup dX11_init_8 catR ?_
  obtain ⟨z_3, hc, hf⟩ := bd_some hf
  refine go_callIN (y2 := M_X6_init) dX11_init_9 mo_X6_init ⟨Nat.le_of_ble_eq_true rfl, Nat.le_of_ble_eq_true rfl⟩ na_X6_init w152 w153 rfl rfl [] rfl (n_X6_init (a_1)) rfl (csum (Nat.le_of_ble_eq_true rfl)) (t_X6_init (a_1) h_2 _ hc) ?_
  obtain ⟨_, h_4⟩ := z_3
  refine go_putR dX11_init_12 fl_388_0 (fun q hq => by cases hq; exact Or.inr ⟨rfl, rfl, rfl⟩) (fun _ _ => rfl) (Or.inl ⟨_, rfl⟩) hf (fun h_5 hf => ?_)
  refine go_aload_n dX11_init_15 rfl 0 rfl ?_
  refine go_new (c := 10) dX11_init_16 (by decide) rfl w177 hf (fun a_6 h_7 hf => ?_)
  refine go_dup dX11_init_19 catR ?_
  obtain ⟨z_8, hc, hf⟩ := bd_some hf
  refine go_callIN (y2 := M_X9_init) dX11_init_20 mo_X9_init ⟨Nat.le_of_ble_eq_true rfl, Nat.le_of_ble_eq_true rfl⟩ na_X9_init w179 w180 rfl rfl [] rfl (n_X9_init (a_6)) rfl (csum (Nat.le_of_ble_eq_true rfl)) (t_X9_init (a_6) h_7 _ hc) ?_
  obtain ⟨_, h_9⟩ := z_8
  refine go_putR dX11_init_23 fl_389_0 (fun q hq => by cases hq; exact Or.inr ⟨rfl, rfl, rfl⟩) (fun _ _ => rfl) (Or.inl ⟨_, rfl⟩) hf (fun h_10 hf => ?_)
  refine go_aload_n dX11_init_26 rfl 0 rfl ?_
  refine go_new (c := 9) dX11_init_27 (by decide) rfl w200 hf (fun a_11 h_12 hf => ?_)
  refine go_dup dX11_init_30 catR ?_
  obtain ⟨z_13, hc, hf⟩ := bd_some hf
  refine go_callI (y2 := M_X8_init) dX11_init_31 mo_X8_init ⟨Nat.le_of_ble_eq_true rfl, Nat.le_of_ble_eq_true rfl⟩ na_X8_init w202 w203 rfl rfl [] rfl (n_X8_init (a_11)) rfl (csum (Nat.le_of_ble_eq_true rfl)) (t_X8_init (a_11) h_12 _ hc) ?_
  obtain ⟨_, h_14⟩ := z_13
  refine go_putR dX11_init_34 fl_390_0 (fun q hq => by cases hq; exact Or.inr ⟨rfl, rfl, rfl⟩) (fun _ _ => rfl) (Or.inl ⟨_, rfl⟩) hf (fun h_15 hf => ?_)
  refine go_aload_n dX11_init_37 rfl 0 rfl ?_
  refine go_iconst 3 dX11_init_38 rfl ?_
  refine go_anew (kk0 := 104) (E := "LetterBroker$Channel") dX11_init_39 (by decide) rfl w339 (by decide +kernel) hf (fun a_16 h_17 hf => ?_)
  refine go_putR dX11_init_42 fl_391_0 (fun q hq => by cases hq; exact Or.inr ⟨rfl, rfl, rfl⟩) (fun _ _ => rfl) (Or.inr ⟨_, rfl⟩) hf (fun h_18 hf => ?_)
  refine go_iconst 0 dX11_init_45 rfl ?_
  refine go_istore_n (i := 1) (lv' := [(1, .int 0), (0, vR Ω (some a0))]) dX11_init_46 rfl (by decide) (by first | rfl | simp [catR, catI, catJ]) ?_
  refine go_sub (lv' := [(0, vR Ω (some a0)), (1, .int 0)]) [1, 0] rfl ?_
  exact t_X11_init_47 FU a0 0 h_18 q hf
-- LetterBroker.line()I
theorem dX11_line_0 : decode cX11_line 0 = .ok (.aload_n 0, 1) := by decide +kernel
theorem dX11_line_1 : decode cX11_line 1 = .ok (.getfield 39, 3) := by decide +kernel
theorem dX11_line_4 : decode cX11_line 4 = .ok (.ireturn, 1) := by decide +kernel
def f_X11_line (a0 : Nat) (h : AH) : Option (Int32 × AH) := rdI h a0 12 4 fun x_1 =>
  some (x_1, h)
set_option maxRecDepth 20000 in
set_option maxHeartbeats 4000000 in
theorem t_X11_line {Ω : Om} (a0 : Nat) (h : AH) (q : Int32 × AH) (hf : f_X11_line a0 h = some q) : Go Ω M_X11_line 0 (lv_args 0 [vR Ω (some a0)]) [] h (some (.int q.1)) q.2 := by
  unfold f_X11_line at hf
  rw [la_R, la_0]
  refine go_sub (lv' := [(0, vR Ω (some a0))]) [0] rfl ?_
  refine go_aload_n dX11_line_0 rfl 0 rfl ?_
  refine go_getI dX11_line_1 fl_392_0 (fun _ _ => rfl) hf (fun x_1 hf => ?_)
  exact go_ireturn dX11_line_4 rfl hf
-- jdk/internal/util/Preconditions.checkIndex(IILjava/util/function/BiFunction;)I
theorem dJ3_checkIndex_8e157_0 : decode cJ3_checkIndex_8e157 0 = .ok (.iload_n 0, 1) := by decide +kernel
theorem dJ3_checkIndex_8e157_1 : decode cJ3_checkIndex_8e157 1 = .ok (.ifCond .lt 8, 3) := by decide +kernel
theorem dJ3_checkIndex_8e157_4 : decode cJ3_checkIndex_8e157 4 = .ok (.iload_n 0, 1) := by decide +kernel
theorem dJ3_checkIndex_8e157_5 : decode cJ3_checkIndex_8e157 5 = .ok (.iload_n 1, 1) := by decide +kernel
theorem dJ3_checkIndex_8e157_6 : decode cJ3_checkIndex_8e157 6 = .ok (.if_icmp .lt 10, 3) := by decide +kernel
theorem dJ3_checkIndex_8e157_9 : decode cJ3_checkIndex_8e157 9 = .ok (.aload_n 2, 1) := by decide +kernel
theorem dJ3_checkIndex_8e157_10 : decode cJ3_checkIndex_8e157 10 = .ok (.iload_n 0, 1) := by decide +kernel
theorem dJ3_checkIndex_8e157_11 : decode cJ3_checkIndex_8e157 11 = .ok (.iload_n 1, 1) := by decide +kernel
theorem dJ3_checkIndex_8e157_12 : decode cJ3_checkIndex_8e157 12 = .ok (.invokestatic 95, 3) := by decide +kernel
theorem dJ3_checkIndex_8e157_16 : decode cJ3_checkIndex_8e157 16 = .ok (.iload_n 0, 1) := by decide +kernel
theorem dJ3_checkIndex_8e157_17 : decode cJ3_checkIndex_8e157 17 = .ok (.ireturn, 1) := by decide +kernel
def f_J3_checkIndex_8e157_9 (x0 : Int32) (x1 : Int32) (r2 : Option Nat) (h : AH) : Option (Int32 × AH) := none
set_option maxRecDepth 20000 in
set_option maxHeartbeats 4000000 in
theorem t_J3_checkIndex_8e157_9 {Ω : Om} (x0 : Int32) (x1 : Int32) (r2 : Option Nat) (h : AH) (q : Int32 × AH) (hf : f_J3_checkIndex_8e157_9 x0 x1 r2 h = some q) : Go Ω M_J3_checkIndex_8e157 9 [(0, .int x0), (1, .int x1), (2, vR Ω r2)] [] h (some (.int q.1)) q.2 := by
  unfold f_J3_checkIndex_8e157_9 at hf
  refine go_aload_n dJ3_checkIndex_8e157_9 rfl 2 rfl ?_
  refine go_iload_n dJ3_checkIndex_8e157_10 rfl 0 rfl ?_
  refine go_iload_n dJ3_checkIndex_8e157_11 rfl 1 rfl ?_
  cases hf
def f_J3_checkIndex_8e157 (x0 : Int32) (x1 : Int32) (r2 : Option Nat) (h : AH) : Option (Int32 × AH) := (if x0 < 0 then
    f_J3_checkIndex_8e157_9 x0 x1 r2 h
  else
    (if x0 < x1 then
      some (x0, h)
    else
      f_J3_checkIndex_8e157_9 x0 x1 r2 h))
set_option maxRecDepth 20000 in
set_option maxHeartbeats 4000000 in
theorem t_J3_checkIndex_8e157 {Ω : Om} (x0 : Int32) (x1 : Int32) (r2 : Option Nat) (h : AH) (q : Int32 × AH) (hf : f_J3_checkIndex_8e157 x0 x1 r2 h = some q) : Go Ω M_J3_checkIndex_8e157 0 (lv_args 0 [.int x0, .int x1, vR Ω r2]) [] h (some (.int q.1)) q.2 := by
  unfold f_J3_checkIndex_8e157 at hf
  rw [la_I, la_I, la_R, la_0]
  refine go_sub (lv' := [(0, .int x0), (1, .int x1), (2, vR Ω r2)]) [0, 1, 2] rfl ?_
  refine go_iload_n dJ3_checkIndex_8e157_0 rfl 0 rfl ?_
  refine go_if_lt (tgt := 9) dJ3_checkIndex_8e157_1 (by decide) hf (fun hf => ?_) (fun hf => ?_)
  · refine go_sub (lv' := [(0, .int x0), (1, .int x1), (2, vR Ω r2)]) [0, 1, 2] rfl ?_
    exact t_J3_checkIndex_8e157_9 x0 x1 r2 h q hf
  · refine go_iload_n dJ3_checkIndex_8e157_4 rfl 0 rfl ?_
    refine go_iload_n dJ3_checkIndex_8e157_5 rfl 1 rfl ?_
    refine go_icmp_lt (tgt := 16) dJ3_checkIndex_8e157_6 (by decide) hf (fun hf => ?_) (fun hf => ?_)
    · refine go_iload_n dJ3_checkIndex_8e157_16 rfl 0 rfl ?_
      exact go_ireturn dJ3_checkIndex_8e157_17 rfl hf
    · refine go_sub (lv' := [(0, .int x0), (1, .int x1), (2, vR Ω r2)]) [0, 1, 2] rfl ?_
      exact t_J3_checkIndex_8e157_9 x0 x1 r2 h q hf
-- java/util/Objects.checkIndex(II)I
theorem dJ15_checkIndex_7cf53_0 : decode cJ15_checkIndex_7cf53 0 = .ok (.iload_n 0, 1) := by decide +kernel
theorem dJ15_checkIndex_7cf53_1 : decode cJ15_checkIndex_7cf53 1 = .ok (.iload_n 1, 1) := by decide +kernel
theorem dJ15_checkIndex_7cf53_2 : decode cJ15_checkIndex_7cf53 2 = .ok (.aconst_null, 1) := by decide +kernel
theorem dJ15_checkIndex_7cf53_3 : decode cJ15_checkIndex_7cf53 3 = .ok (.invokestatic 105, 3) := by decide +kernel
theorem dJ15_checkIndex_7cf53_6 : decode cJ15_checkIndex_7cf53 6 = .ok (.ireturn, 1) := by decide +kernel
def f_J15_checkIndex_7cf53 (x0 : Int32) (x1 : Int32) (h : AH) : Option (Int32 × AH) := bd (f_J3_checkIndex_8e157 x0 x1 none h) fun x_3 h_2 =>
  some (x_3, h_2)
set_option maxRecDepth 20000 in
set_option maxHeartbeats 4000000 in
theorem t_J15_checkIndex_7cf53 {Ω : Om} (x0 : Int32) (x1 : Int32) (h : AH) (q : Int32 × AH) (hf : f_J15_checkIndex_7cf53 x0 x1 h = some q) : Go Ω M_J15_checkIndex_7cf53 0 (lv_args 0 [.int x0, .int x1]) [] h (some (.int q.1)) q.2 := by
  unfold f_J15_checkIndex_7cf53 at hf
  rw [la_I, la_I, la_0]
  refine go_sub (lv' := [(0, .int x0), (1, .int x1)]) [0, 1] rfl ?_
  refine go_iload_n dJ15_checkIndex_7cf53_0 rfl 0 rfl ?_
  refine go_iload_n dJ15_checkIndex_7cf53_1 rfl 1 rfl ?_
  refine go_null dJ15_checkIndex_7cf53_2 ?_
  obtain ⟨z_1, hc, hf⟩ := bd_some hf
  refine go_callS (y2 := M_J3_checkIndex_8e157) dJ15_checkIndex_7cf53_3 mo_J3_checkIndex_8e157 ⟨Nat.le_of_ble_eq_true rfl, Nat.le_of_ble_eq_true rfl⟩ na_J3_checkIndex_8e157 w549 w550 [.int x0, .int x1, vR Ω none] rfl (n_J3_checkIndex_8e157 x0 x1 none) rfl (csum (Nat.le_of_ble_eq_true rfl)) (t_J3_checkIndex_8e157 x0 x1 none h _ hc) ?_
  obtain ⟨x_3, h_2⟩ := z_1
  exact go_ireturn dJ15_checkIndex_7cf53_6 rfl hf
-- java/util/ArrayList.elementData(I)Ljava/lang/Object;
theorem dJx4a65c_elementData_915e3_0 : decode cJx4a65c_elementData_915e3 0 = .ok (.aload_n 0, 1) := by decide +kernel
theorem dJx4a65c_elementData_915e3_1 : decode cJx4a65c_elementData_915e3 1 = .ok (.getfield 9, 3) := by decide +kernel
theorem dJx4a65c_elementData_915e3_4 : decode cJx4a65c_elementData_915e3 4 = .ok (.iload_n 1, 1) := by decide +kernel
theorem dJx4a65c_elementData_915e3_5 : decode cJx4a65c_elementData_915e3 5 = .ok (.aaload, 1) := by decide +kernel
theorem dJx4a65c_elementData_915e3_6 : decode cJx4a65c_elementData_915e3 6 = .ok (.areturn, 1) := by decide +kernel
def f_Jx4a65c_elementData_915e3 (a0 : Nat) (x1 : Int32) (h : AH) : Option (Option Nat × AH) := rdR h a0 0 1 fun r_1 =>
  nn r_1 fun a_2 =>
  arO h a_2 x1 fun r_3 =>
  some (r_3, h)
set_option maxRecDepth 20000 in
set_option maxHeartbeats 4000000 in
theorem t_Jx4a65c_elementData_915e3 {Ω : Om} (a0 : Nat) (x1 : Int32) (h : AH) (q : Option Nat × AH) (hf : f_Jx4a65c_elementData_915e3 a0 x1 h = some q) : Go Ω M_Jx4a65c_elementData_915e3 0 (lv_args 0 [vR Ω (some a0), .int x1]) [] h (some (vR Ω q.1)) q.2 := by
  unfold f_Jx4a65c_elementData_915e3 at hf
  rw [la_R, la_I, la_0]
  refine go_sub (lv' := [(0, vR Ω (some a0)), (1, .int x1)]) [0, 1] rfl ?_
  refine go_aload_n dJx4a65c_elementData_915e3_0 rfl 0 rfl ?_
  refine go_getR dJx4a65c_elementData_915e3_1 fl_220_0 (fun _ _ => rfl) hf (fun r_1 hf => ?_)
  refine go_iload_n dJx4a65c_elementData_915e3_4 rfl 1 rfl ?_
  obtain ⟨a_2, rfl, hga_2⟩ := nn_some hf
  have hf := hga_2
  refine go_oaload dJx4a65c_elementData_915e3_5 hf (fun r_3 hf => ?_)
  exact go_areturn dJx4a65c_elementData_915e3_6 rfl (Or.inl ⟨_, rfl⟩) hf
-- java/util/ArrayList.get(I)Ljava/lang/Object;
theorem dJx4a65c_get_915e3_0 : decode cJx4a65c_get_915e3 0 = .ok (.iload_n 1, 1) := by decide +kernel
theorem dJx4a65c_get_915e3_1 : decode cJx4a65c_get_915e3 1 = .ok (.aload_n 0, 1) := by decide +kernel
theorem dJx4a65c_get_915e3_2 : decode cJx4a65c_get_915e3 2 = .ok (.getfield 48, 3) := by decide +kernel
theorem dJx4a65c_get_915e3_5 : decode cJx4a65c_get_915e3 5 = .ok (.invokestatic 118, 3) := by decide +kernel
theorem dJx4a65c_get_915e3_8 : decode cJx4a65c_get_915e3 8 = .ok (.pop, 1) := by decide +kernel
theorem dJx4a65c_get_915e3_9 : decode cJx4a65c_get_915e3 9 = .ok (.aload_n 0, 1) := by decide +kernel
theorem dJx4a65c_get_915e3_10 : decode cJx4a65c_get_915e3 10 = .ok (.iload_n 1, 1) := by decide +kernel
theorem dJx4a65c_get_915e3_11 : decode cJx4a65c_get_915e3 11 = .ok (.invokevirtual 123, 3) := by decide +kernel
theorem dJx4a65c_get_915e3_14 : decode cJx4a65c_get_915e3 14 = .ok (.areturn, 1) := by decide +kernel
def f_Jx4a65c_get_915e3 (a0 : Nat) (x1 : Int32) (h : AH) : Option (Option Nat × AH) := rdI h a0 0 2 fun x_1 =>
  bd (f_J15_checkIndex_7cf53 x1 x_1 h) fun x_4 h_3 =>
  kg h_3 a0 0 (bd (f_Jx4a65c_elementData_915e3 a0 x1 h_3) fun r_7 h_6 =>
  some (r_7, h_6))
set_option maxRecDepth 20000 in
set_option maxHeartbeats 4000000 in
theorem t_Jx4a65c_get_915e3 {Ω : Om} (a0 : Nat) (x1 : Int32) (h : AH) (q : Option Nat × AH) (hf : f_Jx4a65c_get_915e3 a0 x1 h = some q) : Go Ω M_Jx4a65c_get_915e3 0 (lv_args 0 [vR Ω (some a0), .int x1]) [] h (some (vR Ω q.1)) q.2 := by
  unfold f_Jx4a65c_get_915e3 at hf
  rw [la_R, la_I, la_0]
  refine go_sub (lv' := [(0, vR Ω (some a0)), (1, .int x1)]) [0, 1] rfl ?_
  refine go_iload_n dJx4a65c_get_915e3_0 rfl 1 rfl ?_
  refine go_aload_n dJx4a65c_get_915e3_1 rfl 0 rfl ?_
  refine go_getI dJx4a65c_get_915e3_2 fl_221_0 (fun _ _ => rfl) hf (fun x_1 hf => ?_)
  obtain ⟨z_2, hc, hf⟩ := bd_some hf
  refine go_callS (y2 := M_J15_checkIndex_7cf53) dJx4a65c_get_915e3_5 mo_J15_checkIndex_7cf53 ⟨Nat.le_of_ble_eq_true rfl, Nat.le_of_ble_eq_true rfl⟩ na_J15_checkIndex_7cf53 w546 w547 [.int x1, .int x_1] rfl (n_J15_checkIndex_7cf53 x1 x_1) rfl (csum (Nat.le_of_ble_eq_true rfl)) (t_J15_checkIndex_7cf53 x1 x_1 h _ hc) ?_
  obtain ⟨x_4, h_3⟩ := z_2
  refine go_pop dJx4a65c_get_915e3_8 rfl ?_
  refine go_aload_n dJx4a65c_get_915e3_9 rfl 0 rfl ?_
  refine go_iload_n dJx4a65c_get_915e3_10 rfl 1 rfl ?_
  obtain ⟨hk, hf⟩ := kg_some hf
  obtain ⟨z_5, hc, hf⟩ := bd_some hf
  refine go_callV (y2 := M_Jx4a65c_elementData_915e3) (c2 := 0) dJx4a65c_get_915e3_11 mo_Jx4a65c_elementData_915e3 ⟨Nat.le_of_ble_eq_true rfl, Nat.le_of_ble_eq_true rfl⟩ na_Jx4a65c_elementData_915e3 w552 w553 (by decide) rfl w554 hk [.int x1] rfl (n_Jx4a65c_elementData_915e3 (a0) x1) rfl (csum (Nat.le_of_ble_eq_true rfl)) (t_Jx4a65c_elementData_915e3 (a0) x1 h_3 _ hc) ?_
  obtain ⟨r_7, h_6⟩ := z_5
  exact go_areturn dJx4a65c_get_915e3_14 rfl (Or.inl ⟨_, rfl⟩) hf
-- java/util/ArrayList.isEmpty()Z
theorem dJx4a65c_isEmpty_aae02_0 : decode cJx4a65c_isEmpty_aae02 0 = .ok (.aload_n 0, 1) := by decide +kernel
theorem dJx4a65c_isEmpty_aae02_1 : decode cJx4a65c_isEmpty_aae02 1 = .ok (.getfield 48, 3) := by decide +kernel
theorem dJx4a65c_isEmpty_aae02_4 : decode cJx4a65c_isEmpty_aae02 4 = .ok (.ifCond .ne 7, 3) := by decide +kernel
theorem dJx4a65c_isEmpty_aae02_7 : decode cJx4a65c_isEmpty_aae02 7 = .ok (.iconst 1, 1) := by decide +kernel
theorem dJx4a65c_isEmpty_aae02_8 : decode cJx4a65c_isEmpty_aae02 8 = .ok (.goto 4, 3) := by decide +kernel
theorem dJx4a65c_isEmpty_aae02_11 : decode cJx4a65c_isEmpty_aae02 11 = .ok (.iconst 0, 1) := by decide +kernel
theorem dJx4a65c_isEmpty_aae02_12 : decode cJx4a65c_isEmpty_aae02 12 = .ok (.ireturn, 1) := by decide +kernel
def f_Jx4a65c_isEmpty_aae02 (a0 : Nat) (h : AH) : Option (Int32 × AH) := rdI h a0 0 2 fun x_1 =>
  (if x_1 = 0 then
    rz 1 (some (1, h))
  else
    rz 0 (some (0, h)))
set_option maxRecDepth 20000 in
set_option maxHeartbeats 4000000 in
theorem t_Jx4a65c_isEmpty_aae02 {Ω : Om} (a0 : Nat) (h : AH) (q : Int32 × AH) (hf : f_Jx4a65c_isEmpty_aae02 a0 h = some q) : Go Ω M_Jx4a65c_isEmpty_aae02 0 (lv_args 0 [vR Ω (some a0)]) [] h (some (.int q.1)) q.2 := by
  unfold f_Jx4a65c_isEmpty_aae02 at hf
  rw [la_R, la_0]
  refine go_sub (lv' := [(0, vR Ω (some a0))]) [0] rfl ?_
  refine go_aload_n dJx4a65c_isEmpty_aae02_0 rfl 0 rfl ?_
  refine go_getI dJx4a65c_isEmpty_aae02_1 fl_221_0 (fun _ _ => rfl) hf (fun x_1 hf => ?_)
  refine go_if_ne (tgt := 11) dJx4a65c_isEmpty_aae02_4 (by decide) hf (fun hf => ?_) (fun hf => ?_)
  · refine go_iconst 0 dJx4a65c_isEmpty_aae02_11 rfl ?_
    exact go_zreturn dJx4a65c_isEmpty_aae02_12 rfl hf
  · refine go_iconst 1 dJx4a65c_isEmpty_aae02_7 rfl ?_
    refine go_goto (tgt := 12) dJx4a65c_isEmpty_aae02_8 (by decide) ?_
    exact go_zreturn dJx4a65c_isEmpty_aae02_12 rfl hf
-- LetterBroker$Office.bindingsOf(LLetterBroker$Queue;)I
theorem dX8_bindingsOf_0 : decode cX8_bindingsOf 0 = .ok (.iconst 0, 1) := by decide +kernel
theorem dX8_bindingsOf_1 : decode cX8_bindingsOf 1 = .ok (.istore_n 2, 1) := by decide +kernel
theorem dX8_bindingsOf_2 : decode cX8_bindingsOf 2 = .ok (.iconst 0, 1) := by decide +kernel
theorem dX8_bindingsOf_3 : decode cX8_bindingsOf 3 = .ok (.istore_n 3, 1) := by decide +kernel
theorem dX8_bindingsOf_4 : decode cX8_bindingsOf 4 = .ok (.iload_n 3, 1) := by decide +kernel
theorem dX8_bindingsOf_5 : decode cX8_bindingsOf 5 = .ok (.aload_n 0, 1) := by decide +kernel
theorem dX8_bindingsOf_6 : decode cX8_bindingsOf 6 = .ok (.getfield 21, 3) := by decide +kernel
theorem dX8_bindingsOf_9 : decode cX8_bindingsOf 9 = .ok (.invokeinterface 38 1, 5) := by decide +kernel
theorem dX8_bindingsOf_14 : decode cX8_bindingsOf 14 = .ok (.if_icmp .ge 37, 3) := by decide +kernel
theorem dX8_bindingsOf_17 : decode cX8_bindingsOf 17 = .ok (.iload_n 2, 1) := by decide +kernel
theorem dX8_bindingsOf_18 : decode cX8_bindingsOf 18 = .ok (.aload_n 0, 1) := by decide +kernel
theorem dX8_bindingsOf_19 : decode cX8_bindingsOf 19 = .ok (.getfield 21, 3) := by decide +kernel
theorem dX8_bindingsOf_22 : decode cX8_bindingsOf 22 = .ok (.iload_n 3, 1) := by decide +kernel
theorem dX8_bindingsOf_23 : decode cX8_bindingsOf 23 = .ok (.invokeinterface 42 2, 5) := by decide +kernel
theorem dX8_bindingsOf_28 : decode cX8_bindingsOf 28 = .ok (.checkcast 53, 3) := by decide +kernel
theorem dX8_bindingsOf_31 : decode cX8_bindingsOf 31 = .ok (.getfield 55, 3) := by decide +kernel
theorem dX8_bindingsOf_34 : decode cX8_bindingsOf 34 = .ok (.aload_n 1, 1) := by decide +kernel
theorem dX8_bindingsOf_35 : decode cX8_bindingsOf 35 = .ok (.if_acmp .ne 7, 3) := by decide +kernel
theorem dX8_bindingsOf_38 : decode cX8_bindingsOf 38 = .ok (.iconst 1, 1) := by decide +kernel
theorem dX8_bindingsOf_39 : decode cX8_bindingsOf 39 = .ok (.goto 4, 3) := by decide +kernel
theorem dX8_bindingsOf_42 : decode cX8_bindingsOf 42 = .ok (.iconst 0, 1) := by decide +kernel
theorem dX8_bindingsOf_43 : decode cX8_bindingsOf 43 = .ok (.iadd, 1) := by decide +kernel
theorem dX8_bindingsOf_44 : decode cX8_bindingsOf 44 = .ok (.istore_n 2, 1) := by decide +kernel
theorem dX8_bindingsOf_45 : decode cX8_bindingsOf 45 = .ok (.iinc 3 1, 3) := by decide +kernel
theorem dX8_bindingsOf_48 : decode cX8_bindingsOf 48 = .ok (.goto (-44), 3) := by decide +kernel
theorem dX8_bindingsOf_51 : decode cX8_bindingsOf 51 = .ok (.iload_n 2, 1) := by decide +kernel
theorem dX8_bindingsOf_52 : decode cX8_bindingsOf 52 = .ok (.ireturn, 1) := by decide +kernel
def f_X8_bindingsOf_43 (k4 : Nat → Option Nat → Int32 → Int32 → AH → Option (Int32 × AH)) (a0 : Nat) (r1 : Option Nat) (x3 : Int32) (s0 : Int32) (s1 : Int32) (h : AH) : Option (Int32 × AH) := lt (s1 + s0) fun x_1 =>
  k4 a0 r1 x_1 (x3 + 1) h
set_option maxRecDepth 20000 in
set_option maxHeartbeats 4000000 in
theorem t_X8_bindingsOf_43 {Ω : Om} {k4 : Nat → Option Nat → Int32 → Int32 → AH → Option (Int32 × AH)} (c4 : ∀ (a0 : Nat) (r1 : Option Nat) (x2 : Int32) (x3 : Int32) (h : AH) (q : Int32 × AH), k4 a0 r1 x2 x3 h = some q → Go Ω M_X8_bindingsOf 4 [(0, vR Ω (some a0)), (1, vR Ω r1), (2, .int x2), (3, .int x3)] [] h (some (.int q.1)) q.2) (a0 : Nat) (r1 : Option Nat) (x3 : Int32) (s0 : Int32) (s1 : Int32) (h : AH) (q : Int32 × AH) (hf : f_X8_bindingsOf_43 k4 a0 r1 x3 s0 s1 h = some q) : Go Ω M_X8_bindingsOf 43 [(0, vR Ω (some a0)), (1, vR Ω r1), (3, .int x3)] [.int s0, .int s1] h (some (.int q.1)) q.2 := by
  unfold f_X8_bindingsOf_43 at hf
  refine go_iadd dX8_bindingsOf_43 ?_
  refine lt_I hf (fun x_1 hf => ?_)
  refine go_istore_n (i := 2) (lv' := [(2, .int x_1), (0, vR Ω (some a0)), (1, vR Ω r1), (3, .int x3)]) dX8_bindingsOf_44 rfl (by decide) (by first | rfl | simp [catR, catI, catJ]) ?_
  refine go_iinc (j := 3) (v := x3 + 1) (lv' := [(3, .int (x3 + 1)), (2, .int x_1), (0, vR Ω (some a0)), (1, vR Ω r1)]) dX8_bindingsOf_45 rfl rfl (by decide) (by first | rfl | simp [catR, catI, catJ]) ?_
  refine go_goto (tgt := 4) dX8_bindingsOf_48 (by decide) ?_
  refine go_sub (lv' := [(0, vR Ω (some a0)), (1, vR Ω r1), (2, .int x_1), (3, .int (x3 + 1))]) [2, 3, 1, 0] rfl ?_
  exact c4 a0 r1 x_1 (x3 + 1) h q hf
def f_X8_bindingsOf_4 : Nat → Nat → Option Nat → Int32 → Int32 → AH → Option (Int32 × AH)
  | 0, _, _, _, _, _ => none
  | n + 1, a0, r1, x2, x3, h => rdR h a0 9 2 fun r_1 =>
    nn r_1 fun a_2 =>
    kg h a_2 0 (bd (f_Jx4a65c_size_8abf5 a_2 h) fun x_5 h_4 =>
    (if x_5 ≤ x3 then
      some (x2, h_4)
    else
      rdR h_4 a0 9 2 fun r_6 =>
      nn r_6 fun a_7 =>
      kg h_4 a_7 0 (bd (f_Jx4a65c_get_915e3 a_7 x3 h_4) fun r_10 h_9 =>
      ckc h_9 r_10 1 (
      nn r_10 fun a_11 =>
      rdR h_9 a_11 1 0 fun r_12 =>
      aq r_12 r1
        (f_X8_bindingsOf_43 (fun a0 r1 x2 x3 h => f_X8_bindingsOf_4 n a0 r1 x2 x3 h) a0 r1 x3 1 x2 h_9)
        (f_X8_bindingsOf_43 (fun a0 r1 x2 x3 h => f_X8_bindingsOf_4 n a0 r1 x2 x3 h) a0 r1 x3 0 x2 h_9)))))
set_option maxRecDepth 20000 in
set_option maxHeartbeats 4000000 in
theorem t_X8_bindingsOf_4 {Ω : Om} : ∀ (n : Nat) (a0 : Nat) (r1 : Option Nat) (x2 : Int32) (x3 : Int32) (h : AH) (q : Int32 × AH), f_X8_bindingsOf_4 n a0 r1 x2 x3 h = some q → Go Ω M_X8_bindingsOf 4 [(0, vR Ω (some a0)), (1, vR Ω r1), (2, .int x2), (3, .int x3)] [] h (some (.int q.1)) q.2 := by
  intro n
  induction n with
  | zero => intro a0 r1 x2 x3 h q hf; cases hf
  | succ n ih =>
    intro a0 r1 x2 x3 h q hf
    rw [f_X8_bindingsOf_4] at hf
    refine go_iload_n dX8_bindingsOf_4 rfl 3 rfl ?_
    refine go_aload_n dX8_bindingsOf_5 rfl 0 rfl ?_
    refine go_getR dX8_bindingsOf_6 fl_320_0 (fun _ _ => rfl) hf (fun r_1 hf => ?_)
    obtain ⟨a_2, rfl, hga_2⟩ := nn_some hf
    have hf := hga_2
    obtain ⟨hk, hf⟩ := kg_some hf
    obtain ⟨z_3, hc, hf⟩ := bd_some hf
    refine go_callF (y2 := M_Jx4a65c_size_8abf5) (x2 := ⟨"java/util/List", "size", "()I"⟩) dX8_bindingsOf_9 mo_Jx4a65c_size_8abf5 ⟨Nat.le_of_ble_eq_true rfl, Nat.le_of_ble_eq_true rfl⟩ na_Jx4a65c_size_8abf5 w536 w522 w520 (by decide) (fun U hU => hU.2.2.2.2.1) hk [] rfl (n_Jx4a65c_size_8abf5 (a_2)) rfl (csum (Nat.le_of_ble_eq_true rfl)) (t_Jx4a65c_size_8abf5 (a_2) h _ hc) ?_
    obtain ⟨x_5, h_4⟩ := z_3
    refine go_icmp_ge (tgt := 51) dX8_bindingsOf_14 (by decide) hf (fun hf => ?_) (fun hf => ?_)
    · refine go_iload_n dX8_bindingsOf_51 rfl 2 rfl ?_
      exact go_ireturn dX8_bindingsOf_52 rfl hf
    · refine go_iload_n dX8_bindingsOf_17 rfl 2 rfl ?_
      refine go_aload_n dX8_bindingsOf_18 rfl 0 rfl ?_
      refine go_getR dX8_bindingsOf_19 fl_320_0 (fun _ _ => rfl) hf (fun r_6 hf => ?_)
      refine go_iload_n dX8_bindingsOf_22 rfl 3 rfl ?_
      obtain ⟨a_7, rfl, hga_7⟩ := nn_some hf
      have hf := hga_7
      obtain ⟨hk, hf⟩ := kg_some hf
      obtain ⟨z_8, hc, hf⟩ := bd_some hf
      refine go_callF (y2 := M_Jx4a65c_get_915e3) (x2 := ⟨"java/util/List", "get", "(I)Ljava/lang/Object;"⟩) dX8_bindingsOf_23 mo_Jx4a65c_get_915e3 ⟨Nat.le_of_ble_eq_true rfl, Nat.le_of_ble_eq_true rfl⟩ na_Jx4a65c_get_915e3 w538 w543 w541 (by decide) (fun U hU => hU.2.2.1) hk [.int x3] rfl (n_Jx4a65c_get_915e3 (a_7) x3) rfl (csum (Nat.le_of_ble_eq_true rfl)) (t_Jx4a65c_get_915e3 (a_7) x3 h_4 _ hc) ?_
      obtain ⟨r_10, h_9⟩ := z_8
      refine go_cast (c := 1) dX8_bindingsOf_28 (by decide) rfl w561 hf (fun hf => ?_)
      obtain ⟨a_11, rfl, hga_11⟩ := nn_some hf
      have hf := hga_11
      refine go_getR dX8_bindingsOf_31 fl_840_0 (fun _ _ => rfl) hf (fun r_12 hf => ?_)
      refine go_aload_n dX8_bindingsOf_34 rfl 1 rfl ?_
      refine go_acmp_ne (tgt := 42) dX8_bindingsOf_35 (by decide) hf (fun hf => ?_) (fun hf => ?_)
      · refine go_iconst 0 dX8_bindingsOf_42 rfl ?_
        refine go_sub (lv' := [(0, vR Ω (some a0)), (1, vR Ω r1), (3, .int x3)]) [0, 1, 3] rfl ?_
        exact t_X8_bindingsOf_43 ih a0 r1 x3 0 x2 h_9 q hf
      · refine go_iconst 1 dX8_bindingsOf_38 rfl ?_
        refine go_goto (tgt := 43) dX8_bindingsOf_39 (by decide) ?_
        refine go_sub (lv' := [(0, vR Ω (some a0)), (1, vR Ω r1), (3, .int x3)]) [0, 1, 3] rfl ?_
        exact t_X8_bindingsOf_43 ih a0 r1 x3 1 x2 h_9 q hf
def f_X8_bindingsOf (a0 : Nat) (r1 : Option Nat) (h : AH) : Option (Int32 × AH) := f_X8_bindingsOf_4 FU a0 r1 0 0 h
set_option maxRecDepth 20000 in
set_option maxHeartbeats 4000000 in
theorem t_X8_bindingsOf {Ω : Om} (a0 : Nat) (r1 : Option Nat) (h : AH) (q : Int32 × AH) (hf : f_X8_bindingsOf a0 r1 h = some q) : Go Ω M_X8_bindingsOf 0 (lv_args 0 [vR Ω (some a0), vR Ω r1]) [] h (some (.int q.1)) q.2 := by
  unfold f_X8_bindingsOf at hf
  rw [la_R, la_R, la_0]
  refine go_sub (lv' := [(0, vR Ω (some a0)), (1, vR Ω r1)]) [0, 1] rfl ?_
  refine go_iconst 0 dX8_bindingsOf_0 rfl ?_
  refine go_istore_n (i := 2) (lv' := [(2, .int 0), (0, vR Ω (some a0)), (1, vR Ω r1)]) dX8_bindingsOf_1 rfl (by decide) (by first | rfl | simp [catR, catI, catJ]) ?_
  refine go_iconst 0 dX8_bindingsOf_2 rfl ?_
  refine go_istore_n (i := 3) (lv' := [(3, .int 0), (2, .int 0), (0, vR Ω (some a0)), (1, vR Ω r1)]) dX8_bindingsOf_3 rfl (by decide) (by first | rfl | simp [catR, catI, catJ]) ?_
  refine go_sub (lv' := [(0, vR Ω (some a0)), (1, vR Ω r1), (2, .int 0), (3, .int 0)]) [2, 3, 1, 0] rfl ?_
  exact t_X8_bindingsOf_4 FU a0 r1 0 0 h q hf

/-! printed by wip/whole/gen: functions and their walks -/
-- LetterBrokerModel.declareQueue()V
theorem dX12_declareQueue_0 : decode cX12_declareQueue 0 = .ok (.aload_n 0, 1) := by decide +kernel
theorem dX12_declareQueue_1 : decode cX12_declareQueue 1 = .ok (.getfield 318, 3) := by decide +kernel
theorem dX12_declareQueue_4 : decode cX12_declareQueue 4 = .ok (.istore_n 1, 1) := by decide +kernel
theorem dX12_declareQueue_5 : decode cX12_declareQueue 5 = .ok (.aload_n 0, 1) := by decide +kernel
theorem dX12_declareQueue_6 : decode cX12_declareQueue 6 = .ok (.invokevirtual 321, 3) := by decide +kernel
theorem dX12_declareQueue_9 : decode cX12_declareQueue 9 = .ok (.lstore_n 2, 1) := by decide +kernel
theorem dX12_declareQueue_10 : decode cX12_declareQueue 10 = .ok (.aload_n 0, 1) := by decide +kernel
theorem dX12_declareQueue_11 : decode cX12_declareQueue 11 = .ok (.invokevirtual 325, 3) := by decide +kernel
theorem dX12_declareQueue_14 : decode cX12_declareQueue 14 = .ok (.istore 4, 2) := by decide +kernel
theorem dX12_declareQueue_16 : decode cX12_declareQueue 16 = .ok (.aload_n 0, 1) := by decide +kernel
theorem dX12_declareQueue_17 : decode cX12_declareQueue 17 = .ok (.invokevirtual 329, 3) := by decide +kernel
theorem dX12_declareQueue_20 : decode cX12_declareQueue 20 = .ok (.ifCond .ne 4, 3) := by decide +kernel
theorem dX12_declareQueue_23 : decode cX12_declareQueue 23 = .ok (.return_, 1) := by decide +kernel
theorem dX12_declareQueue_24 : decode cX12_declareQueue 24 = .ok (.aload_n 0, 1) := by decide +kernel
theorem dX12_declareQueue_25 : decode cX12_declareQueue 25 = .ok (.lload_n 2, 1) := by decide +kernel
theorem dX12_declareQueue_26 : decode cX12_declareQueue 26 = .ok (.invokevirtual 342, 3) := by decide +kernel
theorem dX12_declareQueue_29 : decode cX12_declareQueue 29 = .ok (.istore 5, 2) := by decide +kernel
theorem dX12_declareQueue_31 : decode cX12_declareQueue 31 = .ok (.iload 4, 2) := by decide +kernel
theorem dX12_declareQueue_33 : decode cX12_declareQueue 33 = .ok (.ifCond .eq 19, 3) := by decide +kernel
theorem dX12_declareQueue_36 : decode cX12_declareQueue 36 = .ok (.iload 5, 2) := by decide +kernel
theorem dX12_declareQueue_38 : decode cX12_declareQueue 38 = .ok (.ifCond .ge 14, 3) := by decide +kernel
theorem dX12_declareQueue_41 : decode cX12_declareQueue 41 = .ok (.aload_n 0, 1) := by decide +kernel
theorem dX12_declareQueue_42 : decode cX12_declareQueue 42 = .ok (.iload_n 1, 1) := by decide +kernel
theorem dX12_declareQueue_43 : decode cX12_declareQueue 43 = .ok (.sipush 404, 3) := by decide +kernel
theorem dX12_declareQueue_46 : decode cX12_declareQueue 46 = .ok (.invokevirtual 252, 3) := by decide +kernel
theorem dX12_declareQueue_49 : decode cX12_declareQueue 49 = .ok (.goto 150, 3) := by decide +kernel
theorem dX12_declareQueue_52 : decode cX12_declareQueue 52 = .ok (.lload_n 2, 1) := by decide +kernel
theorem dX12_declareQueue_53 : decode cX12_declareQueue 53 = .ok (.lconst 0, 1) := by decide +kernel
theorem dX12_declareQueue_54 : decode cX12_declareQueue 54 = .ok (.lcmp, 1) := by decide +kernel
theorem dX12_declareQueue_55 : decode cX12_declareQueue 55 = .ok (.ifCond .ne 14, 3) := by decide +kernel
theorem dX12_declareQueue_58 : decode cX12_declareQueue 58 = .ok (.aload_n 0, 1) := by decide +kernel
theorem dX12_declareQueue_59 : decode cX12_declareQueue 59 = .ok (.iload_n 1, 1) := by decide +kernel
theorem dX12_declareQueue_60 : decode cX12_declareQueue 60 = .ok (.sipush 403, 3) := by decide +kernel
theorem dX12_declareQueue_63 : decode cX12_declareQueue 63 = .ok (.invokevirtual 252, 3) := by decide +kernel
theorem dX12_declareQueue_66 : decode cX12_declareQueue 66 = .ok (.goto 133, 3) := by decide +kernel
theorem dX12_declareQueue_69 : decode cX12_declareQueue 69 = .ok (.iload 5, 2) := by decide +kernel
theorem dX12_declareQueue_71 : decode cX12_declareQueue 71 = .ok (.ifCond .ge 22, 3) := by decide +kernel
theorem dX12_declareQueue_74 : decode cX12_declareQueue 74 = .ok (.aload_n 0, 1) := by decide +kernel
theorem dX12_declareQueue_75 : decode cX12_declareQueue 75 = .ok (.getfield 185, 3) := by decide +kernel
theorem dX12_declareQueue_78 : decode cX12_declareQueue 78 = .ok (.iconst 5, 1) := by decide +kernel
theorem dX12_declareQueue_79 : decode cX12_declareQueue 79 = .ok (.if_icmp .ne 14, 3) := by decide +kernel
theorem dX12_declareQueue_82 : decode cX12_declareQueue 82 = .ok (.aload_n 0, 1) := by decide +kernel
theorem dX12_declareQueue_83 : decode cX12_declareQueue 83 = .ok (.iload_n 1, 1) := by decide +kernel
theorem dX12_declareQueue_84 : decode cX12_declareQueue 84 = .ok (.sipush 506, 3) := by decide +kernel
theorem dX12_declareQueue_87 : decode cX12_declareQueue 87 = .ok (.invokevirtual 252, 3) := by decide +kernel
theorem dX12_declareQueue_90 : decode cX12_declareQueue 90 = .ok (.goto 109, 3) := by decide +kernel
theorem dX12_declareQueue_93 : decode cX12_declareQueue 93 = .ok (.iload 5, 2) := by decide +kernel
theorem dX12_declareQueue_95 : decode cX12_declareQueue 95 = .ok (.ifCond .ge 56, 3) := by decide +kernel
theorem dX12_declareQueue_98 : decode cX12_declareQueue 98 = .ok (.aload_n 0, 1) := by decide +kernel
theorem dX12_declareQueue_99 : decode cX12_declareQueue 99 = .ok (.getfield 185, 3) := by decide +kernel
theorem dX12_declareQueue_102 : decode cX12_declareQueue 102 = .ok (.istore 5, 2) := by decide +kernel
theorem dX12_declareQueue_104 : decode cX12_declareQueue 104 = .ok (.aload_n 0, 1) := by decide +kernel
theorem dX12_declareQueue_105 : decode cX12_declareQueue 105 = .ok (.dup, 1) := by decide +kernel
theorem dX12_declareQueue_106 : decode cX12_declareQueue 106 = .ok (.getfield 345, 3) := by decide +kernel
theorem dX12_declareQueue_109 : decode cX12_declareQueue 109 = .ok (.iconst 1, 1) := by decide +kernel
theorem dX12_declareQueue_110 : decode cX12_declareQueue 110 = .ok (.iadd, 1) := by decide +kernel
theorem dX12_declareQueue_111 : decode cX12_declareQueue 111 = .ok (.putfield 345, 3) := by decide +kernel
theorem dX12_declareQueue_114 : decode cX12_declareQueue 114 = .ok (.aload_n 0, 1) := by decide +kernel
theorem dX12_declareQueue_115 : decode cX12_declareQueue 115 = .ok (.getfield 27, 3) := by decide +kernel
theorem dX12_declareQueue_118 : decode cX12_declareQueue 118 = .ok (.iload 5, 2) := by decide +kernel
theorem dX12_declareQueue_120 : decode cX12_declareQueue 120 = .ok (.lload_n 2, 1) := by decide +kernel
theorem dX12_declareQueue_121 : decode cX12_declareQueue 121 = .ok (.lastore, 1) := by decide +kernel
theorem dX12_declareQueue_122 : decode cX12_declareQueue 122 = .ok (.aload_n 0, 1) := by decide +kernel
theorem dX12_declareQueue_123 : decode cX12_declareQueue 123 = .ok (.getfield 30, 3) := by decide +kernel
theorem dX12_declareQueue_126 : decode cX12_declareQueue 126 = .ok (.iload 5, 2) := by decide +kernel
theorem dX12_declareQueue_128 : decode cX12_declareQueue 128 = .ok (.aload_n 0, 1) := by decide +kernel
theorem dX12_declareQueue_129 : decode cX12_declareQueue 129 = .ok (.getfield 345, 3) := by decide +kernel
theorem dX12_declareQueue_132 : decode cX12_declareQueue 132 = .ok (.iastore, 1) := by decide +kernel
theorem dX12_declareQueue_133 : decode cX12_declareQueue 133 = .ok (.aload_n 0, 1) := by decide +kernel
theorem dX12_declareQueue_134 : decode cX12_declareQueue 134 = .ok (.getfield 33, 3) := by decide +kernel
theorem dX12_declareQueue_137 : decode cX12_declareQueue 137 = .ok (.iload 5, 2) := by decide +kernel
theorem dX12_declareQueue_139 : decode cX12_declareQueue 139 = .ok (.iconst 0, 1) := by decide +kernel
theorem dX12_declareQueue_140 : decode cX12_declareQueue 140 = .ok (.iastore, 1) := by decide +kernel
theorem dX12_declareQueue_141 : decode cX12_declareQueue 141 = .ok (.aload_n 0, 1) := by decide +kernel
theorem dX12_declareQueue_142 : decode cX12_declareQueue 142 = .ok (.dup, 1) := by decide +kernel
theorem dX12_declareQueue_143 : decode cX12_declareQueue 143 = .ok (.getfield 185, 3) := by decide +kernel
theorem dX12_declareQueue_146 : decode cX12_declareQueue 146 = .ok (.iconst 1, 1) := by decide +kernel
theorem dX12_declareQueue_147 : decode cX12_declareQueue 147 = .ok (.iadd, 1) := by decide +kernel
theorem dX12_declareQueue_148 : decode cX12_declareQueue 148 = .ok (.putfield 185, 3) := by decide +kernel
theorem dX12_declareQueue_151 : decode cX12_declareQueue 151 = .ok (.aload_n 0, 1) := by decide +kernel
theorem dX12_declareQueue_152 : decode cX12_declareQueue 152 = .ok (.iload_n 1, 1) := by decide +kernel
theorem dX12_declareQueue_153 : decode cX12_declareQueue 153 = .ok (.bipush 50, 2) := by decide +kernel
theorem dX12_declareQueue_155 : decode cX12_declareQueue 155 = .ok (.bipush 11, 2) := by decide +kernel
theorem dX12_declareQueue_157 : decode cX12_declareQueue 157 = .ok (.invokevirtual 168, 3) := by decide +kernel
theorem dX12_declareQueue_160 : decode cX12_declareQueue 160 = .ok (.aload_n 0, 1) := by decide +kernel
theorem dX12_declareQueue_161 : decode cX12_declareQueue 161 = .ok (.lload_n 2, 1) := by decide +kernel
theorem dX12_declareQueue_162 : decode cX12_declareQueue 162 = .ok (.invokevirtual 258, 3) := by decide +kernel
theorem dX12_declareQueue_165 : decode cX12_declareQueue 165 = .ok (.aload_n 0, 1) := by decide +kernel
theorem dX12_declareQueue_166 : decode cX12_declareQueue 166 = .ok (.aload_n 0, 1) := by decide +kernel
theorem dX12_declareQueue_167 : decode cX12_declareQueue 167 = .ok (.aload_n 0, 1) := by decide +kernel
theorem dX12_declareQueue_168 : decode cX12_declareQueue 168 = .ok (.getfield 30, 3) := by decide +kernel
theorem dX12_declareQueue_171 : decode cX12_declareQueue 171 = .ok (.iload 5, 2) := by decide +kernel
theorem dX12_declareQueue_173 : decode cX12_declareQueue 173 = .ok (.iaload, 1) := by decide +kernel
theorem dX12_declareQueue_174 : decode cX12_declareQueue 174 = .ok (.invokevirtual 348, 3) := by decide +kernel
theorem dX12_declareQueue_177 : decode cX12_declareQueue 177 = .ok (.invokevirtual 157, 3) := by decide +kernel
theorem dX12_declareQueue_180 : decode cX12_declareQueue 180 = .ok (.aload_n 0, 1) := by decide +kernel
theorem dX12_declareQueue_181 : decode cX12_declareQueue 181 = .ok (.aload_n 0, 1) := by decide +kernel
theorem dX12_declareQueue_182 : decode cX12_declareQueue 182 = .ok (.aload_n 0, 1) := by decide +kernel
theorem dX12_declareQueue_183 : decode cX12_declareQueue 183 = .ok (.getfield 30, 3) := by decide +kernel
theorem dX12_declareQueue_186 : decode cX12_declareQueue 186 = .ok (.iload 5, 2) := by decide +kernel
theorem dX12_declareQueue_188 : decode cX12_declareQueue 188 = .ok (.iaload, 1) := by decide +kernel
theorem dX12_declareQueue_189 : decode cX12_declareQueue 189 = .ok (.invokevirtual 351, 3) := by decide +kernel
theorem dX12_declareQueue_192 : decode cX12_declareQueue 192 = .ok (.invokevirtual 157, 3) := by decide +kernel
theorem dX12_declareQueue_195 : decode cX12_declareQueue 195 = .ok (.aload_n 0, 1) := by decide +kernel
theorem dX12_declareQueue_196 : decode cX12_declareQueue 196 = .ok (.invokevirtual 172, 3) := by decide +kernel
theorem dX12_declareQueue_199 : decode cX12_declareQueue 199 = .ok (.return_, 1) := by decide +kernel
def f_X12_declareQueue_151 (a0 : Nat) (x1 : Int32) (x2 : Int64) (x5 : Int32) (h : AH) : Option (Unit × AH) := kg h a0 13 (bd (f_X12_method a0 x1 50 11 h) fun _ h_2 =>
  kg h_2 a0 13 (bd (f_X12_putName a0 x2 h_2) fun _ h_4 =>
  rdR h_4 a0 13 11 fun r_5 =>
  nn r_5 fun a_6 =>
  arI h_4 a_6 x5 fun x_7 =>
  kg h_4 a0 13 (bd (f_X12_waiting a0 x_7 h_4) fun x_10 h_9 =>
  kg h_9 a0 13 (bd (f_X12_put a0 x_10 h_9) fun _ h_12 =>
  rdR h_12 a0 13 11 fun r_13 =>
  nn r_13 fun a_14 =>
  arI h_12 a_14 x5 fun x_15 =>
  kg h_12 a0 13 (bd (f_X12_consumersOf a0 x_15 h_12) fun x_18 h_17 =>
  kg h_17 a0 13 (bd (f_X12_put a0 x_18 h_17) fun _ h_20 =>
  kg h_20 a0 13 (bd (f_X12_finish a0 h_20) fun _ h_22 =>
  some ((), h_22))))))))
set_option maxRecDepth 20000 in
set_option maxHeartbeats 4000000 in
theorem t_X12_declareQueue_151 {Ω : Om} (a0 : Nat) (x1 : Int32) (x2 : Int64) (x5 : Int32) (h : AH) (q : Unit × AH) (hf : f_X12_declareQueue_151 a0 x1 x2 x5 h = some q) : Go Ω M_X12_declareQueue 151 [(0, vR Ω (some a0)), (1, .int x1), (2, .long x2), (5, .int x5)] [] h none q.2 := by
  unfold f_X12_declareQueue_151 at hf
  refine go_aload_n dX12_declareQueue_151 rfl 0 rfl ?_
  refine go_iload_n dX12_declareQueue_152 rfl 1 rfl ?_
  refine go_bipush 50 dX12_declareQueue_153 (by decide) ?_
  refine go_bipush 11 dX12_declareQueue_155 (by decide) ?_
  obtain ⟨hk, hf⟩ := kg_some hf
  obtain ⟨z_1, hc, hf⟩ := bd_some hf
  refine go_callV (y2 := M_X12_method) (c2 := 13) dX12_declareQueue_157 mo_X12_method ⟨Nat.le_of_ble_eq_true rfl, Nat.le_of_ble_eq_true rfl⟩ na_X12_method w1325 w1327 (by decide) rfl w50 hk [.int x1, .int 50, .int 11] rfl (n_X12_method (a0) x1 50 11) rfl (csum (Nat.le_of_ble_eq_true rfl)) (t_X12_method (a0) x1 50 11 h _ hc) ?_
  obtain ⟨_, h_2⟩ := z_1
  refine go_aload_n dX12_declareQueue_160 rfl 0 rfl ?_
  refine go_lload_n dX12_declareQueue_161 rfl 2 rfl ?_
  obtain ⟨hk, hf⟩ := kg_some hf
  obtain ⟨z_3, hc, hf⟩ := bd_some hf
  refine go_callV (y2 := M_X12_putName) (c2 := 13) dX12_declareQueue_162 mo_X12_putName ⟨Nat.le_of_ble_eq_true rfl, Nat.le_of_ble_eq_true rfl⟩ na_X12_putName w1460 w1462 (by decide) rfl w83 hk [.long x2] rfl (n_X12_putName (a0) x2) rfl (csum (Nat.le_of_ble_eq_true rfl)) (t_X12_putName (a0) x2 h_2 _ hc) ?_
  obtain ⟨_, h_4⟩ := z_3
  refine go_aload_n dX12_declareQueue_165 rfl 0 rfl ?_
  refine go_aload_n dX12_declareQueue_166 rfl 0 rfl ?_
  refine go_aload_n dX12_declareQueue_167 rfl 0 rfl ?_
  refine go_getR dX12_declareQueue_168 fl_1130_0 (fun _ _ => rfl) hf (fun r_5 hf => ?_)
  refine go_iload dX12_declareQueue_171 3 rfl ?_
  obtain ⟨a_6, rfl, hga_6⟩ := nn_some hf
  have hf := hga_6
  refine go_iaload dX12_declareQueue_173 hf (fun x_7 hf => ?_)
  obtain ⟨hk, hf⟩ := kg_some hf
  obtain ⟨z_8, hc, hf⟩ := bd_some hf
  refine go_callV (y2 := M_X12_waiting) (c2 := 13) dX12_declareQueue_174 mo_X12_waiting ⟨Nat.le_of_ble_eq_true rfl, Nat.le_of_ble_eq_true rfl⟩ na_X12_waiting w1467 w1469 (by decide) rfl w84 hk [.int x_7] rfl (n_X12_waiting (a0) x_7) rfl (csum (Nat.le_of_ble_eq_true rfl)) (t_X12_waiting (a0) x_7 h_4 _ hc) ?_
  obtain ⟨x_10, h_9⟩ := z_8
  obtain ⟨hk, hf⟩ := kg_some hf
  obtain ⟨z_11, hc, hf⟩ := bd_some hf
  refine go_callV (y2 := M_X12_put) (c2 := 13) dX12_declareQueue_177 mo_X12_put ⟨Nat.le_of_ble_eq_true rfl, Nat.le_of_ble_eq_true rfl⟩ na_X12_put w1333 w1335 (by decide) rfl w52 hk [.int x_10] rfl (n_X12_put (a0) x_10) rfl (csum (Nat.le_of_ble_eq_true rfl)) (t_X12_put (a0) x_10 h_9 _ hc) ?_
  obtain ⟨_, h_12⟩ := z_11
  refine go_aload_n dX12_declareQueue_180 rfl 0 rfl ?_
  refine go_aload_n dX12_declareQueue_181 rfl 0 rfl ?_
  refine go_aload_n dX12_declareQueue_182 rfl 0 rfl ?_
  refine go_getR dX12_declareQueue_183 fl_1130_0 (fun _ _ => rfl) hf (fun r_13 hf => ?_)
  refine go_iload dX12_declareQueue_186 3 rfl ?_
  obtain ⟨a_14, rfl, hga_14⟩ := nn_some hf
  have hf := hga_14
  refine go_iaload dX12_declareQueue_188 hf (fun x_15 hf => ?_)
  obtain ⟨hk, hf⟩ := kg_some hf
  obtain ⟨z_16, hc, hf⟩ := bd_some hf
  refine go_callV (y2 := M_X12_consumersOf) (c2 := 13) dX12_declareQueue_189 mo_X12_consumersOf ⟨Nat.le_of_ble_eq_true rfl, Nat.le_of_ble_eq_true rfl⟩ na_X12_consumersOf w1471 w1473 (by decide) rfl w85 hk [.int x_15] rfl (n_X12_consumersOf (a0) x_15) rfl (csum (Nat.le_of_ble_eq_true rfl)) (t_X12_consumersOf (a0) x_15 h_12 _ hc) ?_
  obtain ⟨x_18, h_17⟩ := z_16
  obtain ⟨hk, hf⟩ := kg_some hf
  obtain ⟨z_19, hc, hf⟩ := bd_some hf
  refine go_callV (y2 := M_X12_put) (c2 := 13) dX12_declareQueue_192 mo_X12_put ⟨Nat.le_of_ble_eq_true rfl, Nat.le_of_ble_eq_true rfl⟩ na_X12_put w1333 w1335 (by decide) rfl w52 hk [.int x_18] rfl (n_X12_put (a0) x_18) rfl (csum (Nat.le_of_ble_eq_true rfl)) (t_X12_put (a0) x_18 h_17 _ hc) ?_
  obtain ⟨_, h_20⟩ := z_19
  refine go_aload_n dX12_declareQueue_195 rfl 0 rfl ?_
  obtain ⟨hk, hf⟩ := kg_some hf
  obtain ⟨z_21, hc, hf⟩ := bd_some hf
  refine go_callV (y2 := M_X12_finish) (c2 := 13) dX12_declareQueue_196 mo_X12_finish ⟨Nat.le_of_ble_eq_true rfl, Nat.le_of_ble_eq_true rfl⟩ na_X12_finish w1341 w1343 (by decide) rfl w54 hk [] rfl (n_X12_finish (a0)) rfl (csum (Nat.le_of_ble_eq_true rfl)) (t_X12_finish (a0) h_20 _ hc) ?_
  obtain ⟨_, h_22⟩ := z_21
  exact go_return dX12_declareQueue_199 rfl hf
def f_X12_declareQueue_93 (a0 : Nat) (x1 : Int32) (x2 : Int64) (x5 : Int32) (h : AH) : Option (Unit × AH) := (if 0 ≤ x5 then
    f_X12_declareQueue_151 a0 x1 x2 x5 h
  else
    rdI h a0 13 8 fun x_1 =>
    rdI h a0 13 9 fun x_2 =>
    wrI h a0 13 9 (x_2 + 1) fun h_3 =>
    rdR h_3 a0 13 10 fun r_4 =>
    nn r_4 fun a_5 =>
    asJ h_3 a_5 x_1 x2 fun h_6 =>
    rdR h_6 a0 13 11 fun r_7 =>
    rdI h_6 a0 13 9 fun x_8 =>
    nn r_7 fun a_9 =>
    asI h_6 a_9 x_1 x_8 fun h_10 =>
    rdR h_10 a0 13 12 fun r_11 =>
    nn r_11 fun a_12 =>
    asI h_10 a_12 x_1 0 fun h_13 =>
    rdI h_13 a0 13 8 fun x_14 =>
    wrI h_13 a0 13 8 (x_14 + 1) fun h_15 =>
    f_X12_declareQueue_151 a0 x1 x2 x_1 h_15)
set_option maxRecDepth 20000 in
set_option maxHeartbeats 4000000 in
theorem t_X12_declareQueue_93 {Ω : Om} (a0 : Nat) (x1 : Int32) (x2 : Int64) (x5 : Int32) (h : AH) (q : Unit × AH) (hf : f_X12_declareQueue_93 a0 x1 x2 x5 h = some q) : Go Ω M_X12_declareQueue 93 [(0, vR Ω (some a0)), (1, .int x1), (2, .long x2), (5, .int x5)] [] h none q.2 := by
  unfold f_X12_declareQueue_93 at hf
  refine go_iload dX12_declareQueue_93 3 rfl ?_
  refine go_if_ge (tgt := 151) dX12_declareQueue_95 (by decide) hf (fun hf => ?_) (fun hf => ?_)
  · refine go_sub (lv' := [(0, vR Ω (some a0)), (1, .int x1), (2, .long x2), (5, .int x5)]) [0, 1, 2, 3] rfl ?_
    exact t_X12_declareQueue_151 a0 x1 x2 x5 h q hf
  · refine go_aload_n dX12_declareQueue_98 rfl 0 rfl ?_
    refine go_getI dX12_declareQueue_99 fl_1127_0 (fun _ _ => rfl) hf (fun x_1 hf => ?_)
    refine go_istore (i := 5) (lv' := [(5, .int x_1), (0, vR Ω (some a0)), (1, .int x1), (2, .long x2)]) dX12_declareQueue_102 (by decide) (by first | rfl | simp [catR, catI, catJ]) ?_
    refine go_aload_n dX12_declareQueue_104 rfl 1 rfl ?_
    refine go_dup dX12_declareQueue_105 catR ?_
    refine go_getI dX12_declareQueue_106 fl_1128_0 (fun _ _ => rfl) hf (fun x_2 hf => ?_)
    refine go_iconst 1 dX12_declareQueue_109 rfl ?_
    refine go_iadd dX12_declareQueue_110 ?_
    refine go_putI dX12_declareQueue_111 fl_1128_0 (fun q hq => by cases hq; exact Or.inl rfl) (fun _ _ => rfl) rfl hf (fun h_3 hf => ?_)
    refine go_aload_n dX12_declareQueue_114 rfl 1 rfl ?_
    refine go_getR dX12_declareQueue_115 fl_1129_0 (fun _ _ => rfl) hf (fun r_4 hf => ?_)
    refine go_iload dX12_declareQueue_118 0 rfl ?_
    refine go_lload_n dX12_declareQueue_120 rfl 3 rfl ?_
    obtain ⟨a_5, rfl, hga_5⟩ := nn_some hf
    have hf := hga_5
    refine go_lastore dX12_declareQueue_121 hf (fun h_6 hf => ?_)
    refine go_aload_n dX12_declareQueue_122 rfl 1 rfl ?_
    refine go_getR dX12_declareQueue_123 fl_1130_0 (fun _ _ => rfl) hf (fun r_7 hf => ?_)
    refine go_iload dX12_declareQueue_126 0 rfl ?_
    refine go_aload_n dX12_declareQueue_128 rfl 1 rfl ?_
    refine go_getI dX12_declareQueue_129 fl_1128_0 (fun _ _ => rfl) hf (fun x_8 hf => ?_)
    obtain ⟨a_9, rfl, hga_9⟩ := nn_some hf
    have hf := hga_9
    refine go_iastore dX12_declareQueue_132 hf (fun h_10 hf => ?_)
    refine go_aload_n dX12_declareQueue_133 rfl 1 rfl ?_
    refine go_getR dX12_declareQueue_134 fl_1131_0 (fun _ _ => rfl) hf (fun r_11 hf => ?_)
    refine go_iload dX12_declareQueue_137 0 rfl ?_
    refine go_iconst 0 dX12_declareQueue_139 rfl ?_
    obtain ⟨a_12, rfl, hga_12⟩ := nn_some hf
    have hf := hga_12
    refine go_iastore dX12_declareQueue_140 hf (fun h_13 hf => ?_)
    refine go_aload_n dX12_declareQueue_141 rfl 1 rfl ?_
    refine go_dup dX12_declareQueue_142 catR ?_
    refine go_getI dX12_declareQueue_143 fl_1127_0 (fun _ _ => rfl) hf (fun x_14 hf => ?_)
    refine go_iconst 1 dX12_declareQueue_146 rfl ?_
    refine go_iadd dX12_declareQueue_147 ?_
    refine go_putI dX12_declareQueue_148 fl_1127_0 (fun q hq => by cases hq; exact Or.inl rfl) (fun _ _ => rfl) rfl hf (fun h_15 hf => ?_)
    refine go_sub (lv' := [(0, vR Ω (some a0)), (1, .int x1), (2, .long x2), (5, .int x_1)]) [1, 2, 3, 0] rfl ?_
    exact t_X12_declareQueue_151 a0 x1 x2 x_1 h_15 q hf
def f_X12_declareQueue_52 (a0 : Nat) (x1 : Int32) (x2 : Int64) (x5 : Int32) (h : AH) : Option (Unit × AH) := (if (lg_cmp x2 0) = 0 then
    kg h a0 13 (bd (f_X12_soft a0 x1 403 h) fun _ h_5 =>
    some ((), h_5))
  else
    (if 0 ≤ x5 then
      f_X12_declareQueue_93 a0 x1 x2 x5 h
    else
      rdI h a0 13 8 fun x_1 =>
      (if x_1 = 5 then
        kg h a0 13 (bd (f_X12_soft a0 x1 506 h) fun _ h_3 =>
        some ((), h_3))
      else
        f_X12_declareQueue_93 a0 x1 x2 x5 h)))
set_option maxRecDepth 20000 in
set_option maxHeartbeats 4000000 in
theorem t_X12_declareQueue_52 {Ω : Om} (a0 : Nat) (x1 : Int32) (x2 : Int64) (x5 : Int32) (h : AH) (q : Unit × AH) (hf : f_X12_declareQueue_52 a0 x1 x2 x5 h = some q) : Go Ω M_X12_declareQueue 52 [(0, vR Ω (some a0)), (1, .int x1), (2, .long x2), (5, .int x5)] [] h none q.2 := by
  unfold f_X12_declareQueue_52 at hf
  refine go_lload_n dX12_declareQueue_52 rfl 2 rfl ?_
  refine go_lconst 0 dX12_declareQueue_53 rfl ?_
  refine go_lcmp dX12_declareQueue_54 ?_
  refine go_if_ne (tgt := 69) dX12_declareQueue_55 (by decide) hf (fun hf => ?_) (fun hf => ?_)
  · refine go_iload dX12_declareQueue_69 3 rfl ?_
    refine go_if_ge (tgt := 93) dX12_declareQueue_71 (by decide) hf (fun hf => ?_) (fun hf => ?_)
    · refine go_sub (lv' := [(0, vR Ω (some a0)), (1, .int x1), (2, .long x2), (5, .int x5)]) [0, 1, 2, 3] rfl ?_
      exact t_X12_declareQueue_93 a0 x1 x2 x5 h q hf
    · refine go_aload_n dX12_declareQueue_74 rfl 0 rfl ?_
      refine go_getI dX12_declareQueue_75 fl_1127_0 (fun _ _ => rfl) hf (fun x_1 hf => ?_)
      refine go_iconst 5 dX12_declareQueue_78 rfl ?_
      refine go_icmp_ne (tgt := 93) dX12_declareQueue_79 (by decide) hf (fun hf => ?_) (fun hf => ?_)
      · refine go_sub (lv' := [(0, vR Ω (some a0)), (1, .int x1), (2, .long x2), (5, .int x5)]) [0, 1, 2, 3] rfl ?_
        exact t_X12_declareQueue_93 a0 x1 x2 x5 h q hf
      · refine go_aload_n dX12_declareQueue_82 rfl 0 rfl ?_
        refine go_iload_n dX12_declareQueue_83 rfl 1 rfl ?_
        refine go_sipush 506 dX12_declareQueue_84 (by decide) ?_
        obtain ⟨hk, hf⟩ := kg_some hf
        obtain ⟨z_2, hc, hf⟩ := bd_some hf
        refine go_callV (y2 := M_X12_soft) (c2 := 13) dX12_declareQueue_87 mo_X12_soft ⟨Nat.le_of_ble_eq_true rfl, Nat.le_of_ble_eq_true rfl⟩ na_X12_soft w1432 w1434 (by decide) rfl w76 hk [.int x1, .int 506] rfl (n_X12_soft (a0) x1 506) rfl (csum (Nat.le_of_ble_eq_true rfl)) (t_X12_soft (a0) x1 506 h _ hc) ?_
        obtain ⟨_, h_3⟩ := z_2
        refine go_goto (tgt := 199) dX12_declareQueue_90 (by decide) ?_
        exact go_return dX12_declareQueue_199 rfl hf
  · refine go_aload_n dX12_declareQueue_58 rfl 0 rfl ?_
    refine go_iload_n dX12_declareQueue_59 rfl 1 rfl ?_
    refine go_sipush 403 dX12_declareQueue_60 (by decide) ?_
    obtain ⟨hk, hf⟩ := kg_some hf
    obtain ⟨z_4, hc, hf⟩ := bd_some hf
    refine go_callV (y2 := M_X12_soft) (c2 := 13) dX12_declareQueue_63 mo_X12_soft ⟨Nat.le_of_ble_eq_true rfl, Nat.le_of_ble_eq_true rfl⟩ na_X12_soft w1432 w1434 (by decide) rfl w76 hk [.int x1, .int 403] rfl (n_X12_soft (a0) x1 403) rfl (csum (Nat.le_of_ble_eq_true rfl)) (t_X12_soft (a0) x1 403 h _ hc) ?_
    obtain ⟨_, h_5⟩ := z_4
    refine go_goto (tgt := 199) dX12_declareQueue_66 (by decide) ?_
    exact go_return dX12_declareQueue_199 rfl hf
def f_X12_declareQueue (a0 : Nat) (h : AH) : Option (Unit × AH) := rdI h a0 13 54 fun x_1 =>
  kg h a0 13 (bd (f_X12_nextName a0 h) fun x_4 h_3 =>
  kg h_3 a0 13 (bd (f_X12_nextTruth a0 h_3) fun x_7 h_6 =>
  kg h_6 a0 13 (bd (f_X12_isJust a0 h_6) fun x_10 h_9 =>
  (if x_10 = 0 then
    some ((), h_9)
  else
    kg h_9 a0 13 (bd (f_X12_queueOf a0 x_4 h_9) fun x_13 h_12 =>
    (if x_7 = 0 then
      f_X12_declareQueue_52 a0 x_1 x_4 x_13 h_12
    else
      (if 0 ≤ x_13 then
        f_X12_declareQueue_52 a0 x_1 x_4 x_13 h_12
      else
        kg h_12 a0 13 (bd (f_X12_soft a0 x_1 404 h_12) fun _ h_15 =>
        some ((), h_15)))))))))
set_option maxRecDepth 20000 in
set_option maxHeartbeats 4000000 in
theorem t_X12_declareQueue {Ω : Om} (a0 : Nat) (h : AH) (q : Unit × AH) (hf : f_X12_declareQueue a0 h = some q) : Go Ω M_X12_declareQueue 0 (lv_args 0 [vR Ω (some a0)]) [] h none q.2 := by
  unfold f_X12_declareQueue at hf
  rw [la_R, la_0]
  refine go_sub (lv' := [(0, vR Ω (some a0))]) [0] rfl ?_
  refine go_aload_n dX12_declareQueue_0 rfl 0 rfl ?_
  refine go_getI dX12_declareQueue_1 fl_1173_0 (fun _ _ => rfl) hf (fun x_1 hf => ?_)
  refine go_istore_n (i := 1) (lv' := [(1, .int x_1), (0, vR Ω (some a0))]) dX12_declareQueue_4 rfl (by decide) (by first | rfl | simp [catR, catI, catJ]) ?_
  refine go_aload_n dX12_declareQueue_5 rfl 1 rfl ?_
  obtain ⟨hk, hf⟩ := kg_some hf
  obtain ⟨z_2, hc, hf⟩ := bd_some hf
  refine go_callV (y2 := M_X12_nextName) (c2 := 13) dX12_declareQueue_6 mo_X12_nextName ⟨Nat.le_of_ble_eq_true rfl, Nat.le_of_ble_eq_true rfl⟩ na_X12_nextName w1420 w1422 (by decide) rfl w73 hk [] rfl (n_X12_nextName (a0)) rfl (csum (Nat.le_of_ble_eq_true rfl)) (t_X12_nextName (a0) h _ hc) ?_
  obtain ⟨x_4, h_3⟩ := z_2
  refine go_lstore_n (i := 2) (lv' := [(2, .long x_4), (1, .int x_1), (0, vR Ω (some a0))]) dX12_declareQueue_9 rfl (by decide) (by first | rfl | simp [catR, catI, catJ]) ?_
  refine go_aload_n dX12_declareQueue_10 rfl 2 rfl ?_
  obtain ⟨hk, hf⟩ := kg_some hf
  obtain ⟨z_5, hc, hf⟩ := bd_some hf
  refine go_callV (y2 := M_X12_nextTruth) (c2 := 13) dX12_declareQueue_11 mo_X12_nextTruth ⟨Nat.le_of_ble_eq_true rfl, Nat.le_of_ble_eq_true rfl⟩ na_X12_nextTruth w1424 w1426 (by decide) rfl w74 hk [] rfl (n_X12_nextTruth (a0)) rfl (csum (Nat.le_of_ble_eq_true rfl)) (t_X12_nextTruth (a0) h_3 _ hc) ?_
  obtain ⟨x_7, h_6⟩ := z_5
  refine go_istore (i := 4) (lv' := [(4, .int x_7), (2, .long x_4), (1, .int x_1), (0, vR Ω (some a0))]) dX12_declareQueue_14 (by decide) (by first | rfl | simp [catR, catI, catJ]) ?_
  refine go_aload_n dX12_declareQueue_16 rfl 3 rfl ?_
  obtain ⟨hk, hf⟩ := kg_some hf
  obtain ⟨z_8, hc, hf⟩ := bd_some hf
  refine go_callV (y2 := M_X12_isJust) (c2 := 13) dX12_declareQueue_17 mo_X12_isJust ⟨Nat.le_of_ble_eq_true rfl, Nat.le_of_ble_eq_true rfl⟩ na_X12_isJust w1405 w1407 (by decide) rfl w70 hk [] rfl (n_X12_isJust (a0)) rfl (csum (Nat.le_of_ble_eq_true rfl)) (t_X12_isJust (a0) h_6 _ hc) ?_
  obtain ⟨x_10, h_9⟩ := z_8
  refine go_if_ne (tgt := 24) dX12_declareQueue_20 (by decide) hf (fun hf => ?_) (fun hf => ?_)
  · refine go_aload_n dX12_declareQueue_24 rfl 3 rfl ?_
    refine go_lload_n dX12_declareQueue_25 rfl 1 rfl ?_
    obtain ⟨hk, hf⟩ := kg_some hf
    obtain ⟨z_11, hc, hf⟩ := bd_some hf
    refine go_callV (y2 := M_X12_queueOf) (c2 := 13) dX12_declareQueue_26 mo_X12_queueOf ⟨Nat.le_of_ble_eq_true rfl, Nat.le_of_ble_eq_true rfl⟩ na_X12_queueOf w1456 w1458 (by decide) rfl w82 hk [.long x_4] rfl (n_X12_queueOf (a0) x_4) rfl (csum (Nat.le_of_ble_eq_true rfl)) (t_X12_queueOf (a0) x_4 h_9 _ hc) ?_
    obtain ⟨x_13, h_12⟩ := z_11
    refine go_istore (i := 5) (lv' := [(5, .int x_13), (4, .int x_7), (2, .long x_4), (1, .int x_1), (0, vR Ω (some a0))]) dX12_declareQueue_29 (by decide) (by first | rfl | simp [catR, catI, catJ]) ?_
    refine go_iload dX12_declareQueue_31 1 rfl ?_
    refine go_if_eq (tgt := 52) dX12_declareQueue_33 (by decide) hf (fun hf => ?_) (fun hf => ?_)
    · refine go_sub (lv' := [(0, vR Ω (some a0)), (1, .int x_1), (2, .long x_4), (5, .int x_13)]) [4, 3, 2, 0] rfl ?_
      exact t_X12_declareQueue_52 a0 x_1 x_4 x_13 h_12 q hf
    · refine go_iload dX12_declareQueue_36 0 rfl ?_
      refine go_if_ge (tgt := 52) dX12_declareQueue_38 (by decide) hf (fun hf => ?_) (fun hf => ?_)
      · refine go_sub (lv' := [(0, vR Ω (some a0)), (1, .int x_1), (2, .long x_4), (5, .int x_13)]) [4, 3, 2, 0] rfl ?_
        exact t_X12_declareQueue_52 a0 x_1 x_4 x_13 h_12 q hf
      · refine go_aload_n dX12_declareQueue_41 rfl 4 rfl ?_
        refine go_iload_n dX12_declareQueue_42 rfl 3 rfl ?_
        refine go_sipush 404 dX12_declareQueue_43 (by decide) ?_
        obtain ⟨hk, hf⟩ := kg_some hf
        obtain ⟨z_14, hc, hf⟩ := bd_some hf
        refine go_callV (y2 := M_X12_soft) (c2 := 13) dX12_declareQueue_46 mo_X12_soft ⟨Nat.le_of_ble_eq_true rfl, Nat.le_of_ble_eq_true rfl⟩ na_X12_soft w1432 w1434 (by decide) rfl w76 hk [.int x_1, .int 404] rfl (n_X12_soft (a0) x_1 404) rfl (csum (Nat.le_of_ble_eq_true rfl)) (t_X12_soft (a0) x_1 404 h_12 _ hc) ?_
        obtain ⟨_, h_15⟩ := z_14
        refine go_goto (tgt := 199) dX12_declareQueue_49 (by decide) ?_
        exact go_return dX12_declareQueue_199 rfl hf
  · exact go_return dX12_declareQueue_23 rfl hf
-- LetterBrokerModel.purge(I)I
theorem dX12_purge_0 : decode cX12_purge 0 = .ok (.iconst 0, 1) := by decide +kernel
theorem dX12_purge_1 : decode cX12_purge 1 = .ok (.istore_n 2, 1) := by decide +kernel
theorem dX12_purge_2 : decode cX12_purge 2 = .ok (.aload_n 0, 1) := by decide +kernel
theorem dX12_purge_3 : decode cX12_purge 3 = .ok (.iload_n 1, 1) := by decide +kernel
theorem dX12_purge_4 : decode cX12_purge 4 = .ok (.invokevirtual 288, 3) := by decide +kernel
theorem dX12_purge_7 : decode cX12_purge 7 = .ok (.istore_n 3, 1) := by decide +kernel
theorem dX12_purge_8 : decode cX12_purge 8 = .ok (.iload_n 3, 1) := by decide +kernel
theorem dX12_purge_9 : decode cX12_purge 9 = .ok (.ifCond .lt 20, 3) := by decide +kernel
theorem dX12_purge_12 : decode cX12_purge 12 = .ok (.aload_n 0, 1) := by decide +kernel
theorem dX12_purge_13 : decode cX12_purge 13 = .ok (.iload_n 3, 1) := by decide +kernel
theorem dX12_purge_14 : decode cX12_purge 14 = .ok (.invokevirtual 192, 3) := by decide +kernel
theorem dX12_purge_17 : decode cX12_purge 17 = .ok (.iinc 2 1, 3) := by decide +kernel
theorem dX12_purge_20 : decode cX12_purge 20 = .ok (.aload_n 0, 1) := by decide +kernel
theorem dX12_purge_21 : decode cX12_purge 21 = .ok (.iload_n 1, 1) := by decide +kernel
theorem dX12_purge_22 : decode cX12_purge 22 = .ok (.invokevirtual 288, 3) := by decide +kernel
theorem dX12_purge_25 : decode cX12_purge 25 = .ok (.istore_n 3, 1) := by decide +kernel
theorem dX12_purge_26 : decode cX12_purge 26 = .ok (.goto (-18), 3) := by decide +kernel
theorem dX12_purge_29 : decode cX12_purge 29 = .ok (.iload_n 2, 1) := by decide +kernel
theorem dX12_purge_30 : decode cX12_purge 30 = .ok (.ireturn, 1) := by decide +kernel
def f_X12_purge_8 : Nat → Nat → Int32 → Int32 → Int32 → AH → Option (Int32 × AH)
  | 0, _, _, _, _, _ => none
  | n + 1, a0, x1, x2, x3, h => (if x3 < 0 then
      some (x2, h)
    else
      kg h a0 13 (bd (f_X12_removeLetter a0 x3 h) fun _ h_2 =>
      kg h_2 a0 13 (bd (f_X12_firstOf a0 x1 h_2) fun x_5 h_4 =>
      f_X12_purge_8 n a0 x1 (x2 + 1) x_5 h_4)))
set_option maxRecDepth 20000 in
set_option maxHeartbeats 4000000 in
theorem t_X12_purge_8 {Ω : Om} : ∀ (n : Nat) (a0 : Nat) (x1 : Int32) (x2 : Int32) (x3 : Int32) (h : AH) (q : Int32 × AH), f_X12_purge_8 n a0 x1 x2 x3 h = some q → Go Ω M_X12_purge 8 [(0, vR Ω (some a0)), (1, .int x1), (2, .int x2), (3, .int x3)] [] h (some (.int q.1)) q.2 := by
  intro n
  induction n with
  | zero => intro a0 x1 x2 x3 h q hf; cases hf
  | succ n ih =>
    intro a0 x1 x2 x3 h q hf
    rw [f_X12_purge_8] at hf
    refine go_iload_n dX12_purge_8 rfl 3 rfl ?_
    refine go_if_lt (tgt := 29) dX12_purge_9 (by decide) hf (fun hf => ?_) (fun hf => ?_)
    · refine go_iload_n dX12_purge_29 rfl 2 rfl ?_
      exact go_ireturn dX12_purge_30 rfl hf
    · refine go_aload_n dX12_purge_12 rfl 0 rfl ?_
      refine go_iload_n dX12_purge_13 rfl 3 rfl ?_
      obtain ⟨hk, hf⟩ := kg_some hf
      obtain ⟨z_1, hc, hf⟩ := bd_some hf
      refine go_callV (y2 := M_X12_removeLetter) (c2 := 13) dX12_purge_14 mo_X12_removeLetter ⟨Nat.le_of_ble_eq_true rfl, Nat.le_of_ble_eq_true rfl⟩ na_X12_removeLetter w1369 w1371 (by decide) rfl w61 hk [.int x3] rfl (n_X12_removeLetter (a0) x3) rfl (csum (Nat.le_of_ble_eq_true rfl)) (t_X12_removeLetter (a0) x3 h _ hc) ?_
      obtain ⟨_, h_2⟩ := z_1
      refine go_iinc (j := 2) (v := x2 + 1) (lv' := [(2, .int (x2 + 1)), (0, vR Ω (some a0)), (1, .int x1), (3, .int x3)]) dX12_purge_17 rfl rfl (by decide) (by first | rfl | simp [catR, catI, catJ]) ?_
      refine go_aload_n dX12_purge_20 rfl 1 rfl ?_
      refine go_iload_n dX12_purge_21 rfl 2 rfl ?_
      obtain ⟨hk, hf⟩ := kg_some hf
      obtain ⟨z_3, hc, hf⟩ := bd_some hf
      refine go_callV (y2 := M_X12_firstOf) (c2 := 13) dX12_purge_22 mo_X12_firstOf ⟨Nat.le_of_ble_eq_true rfl, Nat.le_of_ble_eq_true rfl⟩ na_X12_firstOf w1491 w1493 (by decide) rfl w90 hk [.int x1] rfl (n_X12_firstOf (a0) x1) rfl (csum (Nat.le_of_ble_eq_true rfl)) (t_X12_firstOf (a0) x1 h_2 _ hc) ?_
      obtain ⟨x_5, h_4⟩ := z_3
      refine go_istore_n (i := 3) (lv' := [(3, .int x_5), (2, .int (x2 + 1)), (0, vR Ω (some a0)), (1, .int x1)]) dX12_purge_25 rfl (by decide) (by first | rfl | simp [catR, catI, catJ]) ?_
      refine go_goto (tgt := 8) dX12_purge_26 (by decide) ?_
      refine go_sub (lv' := [(0, vR Ω (some a0)), (1, .int x1), (2, .int (x2 + 1)), (3, .int x_5)]) [2, 3, 1, 0] rfl ?_
      exact ih a0 x1 (x2 + 1) x_5 h_4 q hf
def f_X12_purge (a0 : Nat) (x1 : Int32) (h : AH) : Option (Int32 × AH) := kg h a0 13 (bd (f_X12_firstOf a0 x1 h) fun x_3 h_2 =>
  f_X12_purge_8 FU a0 x1 0 x_3 h_2)
set_option maxRecDepth 20000 in
set_option maxHeartbeats 4000000 in
theorem t_X12_purge {Ω : Om} (a0 : Nat) (x1 : Int32) (h : AH) (q : Int32 × AH) (hf : f_X12_purge a0 x1 h = some q) : Go Ω M_X12_purge 0 (lv_args 0 [vR Ω (some a0), .int x1]) [] h (some (.int q.1)) q.2 := by
  unfold f_X12_purge at hf
  rw [la_R, la_I, la_0]
  refine go_sub (lv' := [(0, vR Ω (some a0)), (1, .int x1)]) [0, 1] rfl ?_
  refine go_iconst 0 dX12_purge_0 rfl ?_
  refine go_istore_n (i := 2) (lv' := [(2, .int 0), (0, vR Ω (some a0)), (1, .int x1)]) dX12_purge_1 rfl (by decide) (by first | rfl | simp [catR, catI, catJ]) ?_
  refine go_aload_n dX12_purge_2 rfl 1 rfl ?_
  refine go_iload_n dX12_purge_3 rfl 2 rfl ?_
  obtain ⟨hk, hf⟩ := kg_some hf
  obtain ⟨z_1, hc, hf⟩ := bd_some hf
  refine go_callV (y2 := M_X12_firstOf) (c2 := 13) dX12_purge_4 mo_X12_firstOf ⟨Nat.le_of_ble_eq_true rfl, Nat.le_of_ble_eq_true rfl⟩ na_X12_firstOf w1491 w1493 (by decide) rfl w90 hk [.int x1] rfl (n_X12_firstOf (a0) x1) rfl (csum (Nat.le_of_ble_eq_true rfl)) (t_X12_firstOf (a0) x1 h _ hc) ?_
  obtain ⟨x_3, h_2⟩ := z_1
  refine go_istore_n (i := 3) (lv' := [(3, .int x_3), (2, .int 0), (0, vR Ω (some a0)), (1, .int x1)]) dX12_purge_7 rfl (by decide) (by first | rfl | simp [catR, catI, catJ]) ?_
  refine go_sub (lv' := [(0, vR Ω (some a0)), (1, .int x1), (2, .int 0), (3, .int x_3)]) [2, 3, 1, 0] rfl ?_
  exact t_X12_purge_8 FU a0 x1 0 x_3 h_2 q hf
-- LetterBrokerModel.removeQueue(I)V
theorem dX12_removeQueue_0 : decode cX12_removeQueue 0 = .ok (.aload_n 0, 1) := by decide +kernel
theorem dX12_removeQueue_1 : decode cX12_removeQueue 1 = .ok (.getfield 222, 3) := by decide +kernel
theorem dX12_removeQueue_4 : decode cX12_removeQueue 4 = .ok (.iconst 1, 1) := by decide +kernel
theorem dX12_removeQueue_5 : decode cX12_removeQueue 5 = .ok (.isub, 1) := by decide +kernel
theorem dX12_removeQueue_6 : decode cX12_removeQueue 6 = .ok (.istore_n 2, 1) := by decide +kernel
theorem dX12_removeQueue_7 : decode cX12_removeQueue 7 = .ok (.iload_n 2, 1) := by decide +kernel
theorem dX12_removeQueue_8 : decode cX12_removeQueue 8 = .ok (.ifCond .lt 30, 3) := by decide +kernel
theorem dX12_removeQueue_11 : decode cX12_removeQueue 11 = .ok (.aload_n 0, 1) := by decide +kernel
theorem dX12_removeQueue_12 : decode cX12_removeQueue 12 = .ok (.getfield 36, 3) := by decide +kernel
theorem dX12_removeQueue_15 : decode cX12_removeQueue 15 = .ok (.iload_n 2, 1) := by decide +kernel
theorem dX12_removeQueue_16 : decode cX12_removeQueue 16 = .ok (.laload, 1) := by decide +kernel
theorem dX12_removeQueue_17 : decode cX12_removeQueue 17 = .ok (.aload_n 0, 1) := by decide +kernel
theorem dX12_removeQueue_18 : decode cX12_removeQueue 18 = .ok (.getfield 27, 3) := by decide +kernel
theorem dX12_removeQueue_21 : decode cX12_removeQueue 21 = .ok (.iload_n 1, 1) := by decide +kernel
theorem dX12_removeQueue_22 : decode cX12_removeQueue 22 = .ok (.laload, 1) := by decide +kernel
theorem dX12_removeQueue_23 : decode cX12_removeQueue 23 = .ok (.lcmp, 1) := by decide +kernel
theorem dX12_removeQueue_24 : decode cX12_removeQueue 24 = .ok (.ifCond .ne 8, 3) := by decide +kernel
theorem dX12_removeQueue_27 : decode cX12_removeQueue 27 = .ok (.aload_n 0, 1) := by decide +kernel
theorem dX12_removeQueue_28 : decode cX12_removeQueue 28 = .ok (.iload_n 2, 1) := by decide +kernel
theorem dX12_removeQueue_29 : decode cX12_removeQueue 29 = .ok (.invokevirtual 339, 3) := by decide +kernel
theorem dX12_removeQueue_32 : decode cX12_removeQueue 32 = .ok (.iinc 2 (-1), 3) := by decide +kernel
theorem dX12_removeQueue_35 : decode cX12_removeQueue 35 = .ok (.goto (-28), 3) := by decide +kernel
theorem dX12_removeQueue_38 : decode cX12_removeQueue 38 = .ok (.aload_n 0, 1) := by decide +kernel
theorem dX12_removeQueue_39 : decode cX12_removeQueue 39 = .ok (.getfield 198, 3) := by decide +kernel
theorem dX12_removeQueue_42 : decode cX12_removeQueue 42 = .ok (.iconst 1, 1) := by decide +kernel
theorem dX12_removeQueue_43 : decode cX12_removeQueue 43 = .ok (.isub, 1) := by decide +kernel
theorem dX12_removeQueue_44 : decode cX12_removeQueue 44 = .ok (.istore_n 2, 1) := by decide +kernel
theorem dX12_removeQueue_45 : decode cX12_removeQueue 45 = .ok (.iload_n 2, 1) := by decide +kernel
theorem dX12_removeQueue_46 : decode cX12_removeQueue 46 = .ok (.ifCond .lt 29, 3) := by decide +kernel
theorem dX12_removeQueue_49 : decode cX12_removeQueue 49 = .ok (.aload_n 0, 1) := by decide +kernel
theorem dX12_removeQueue_50 : decode cX12_removeQueue 50 = .ok (.getfield 54, 3) := by decide +kernel
theorem dX12_removeQueue_53 : decode cX12_removeQueue 53 = .ok (.iload_n 2, 1) := by decide +kernel
theorem dX12_removeQueue_54 : decode cX12_removeQueue 54 = .ok (.iaload, 1) := by decide +kernel
theorem dX12_removeQueue_55 : decode cX12_removeQueue 55 = .ok (.aload_n 0, 1) := by decide +kernel
theorem dX12_removeQueue_56 : decode cX12_removeQueue 56 = .ok (.getfield 30, 3) := by decide +kernel
theorem dX12_removeQueue_59 : decode cX12_removeQueue 59 = .ok (.iload_n 1, 1) := by decide +kernel
theorem dX12_removeQueue_60 : decode cX12_removeQueue 60 = .ok (.iaload, 1) := by decide +kernel
theorem dX12_removeQueue_61 : decode cX12_removeQueue 61 = .ok (.if_icmp .ne 8, 3) := by decide +kernel
theorem dX12_removeQueue_64 : decode cX12_removeQueue 64 = .ok (.aload_n 0, 1) := by decide +kernel
theorem dX12_removeQueue_65 : decode cX12_removeQueue 65 = .ok (.iload_n 2, 1) := by decide +kernel
theorem dX12_removeQueue_66 : decode cX12_removeQueue 66 = .ok (.invokevirtual 201, 3) := by decide +kernel
theorem dX12_removeQueue_69 : decode cX12_removeQueue 69 = .ok (.iinc 2 (-1), 3) := by decide +kernel
theorem dX12_removeQueue_72 : decode cX12_removeQueue 72 = .ok (.goto (-27), 3) := by decide +kernel
theorem dX12_removeQueue_75 : decode cX12_removeQueue 75 = .ok (.aload_n 0, 1) := by decide +kernel
theorem dX12_removeQueue_76 : decode cX12_removeQueue 76 = .ok (.dup, 1) := by decide +kernel
theorem dX12_removeQueue_77 : decode cX12_removeQueue 77 = .ok (.getfield 185, 3) := by decide +kernel
theorem dX12_removeQueue_80 : decode cX12_removeQueue 80 = .ok (.iconst 1, 1) := by decide +kernel
theorem dX12_removeQueue_81 : decode cX12_removeQueue 81 = .ok (.isub, 1) := by decide +kernel
theorem dX12_removeQueue_82 : decode cX12_removeQueue 82 = .ok (.putfield 185, 3) := by decide +kernel
theorem dX12_removeQueue_85 : decode cX12_removeQueue 85 = .ok (.iload_n 1, 1) := by decide +kernel
theorem dX12_removeQueue_86 : decode cX12_removeQueue 86 = .ok (.istore_n 2, 1) := by decide +kernel
theorem dX12_removeQueue_87 : decode cX12_removeQueue 87 = .ok (.iload_n 2, 1) := by decide +kernel
theorem dX12_removeQueue_88 : decode cX12_removeQueue 88 = .ok (.aload_n 0, 1) := by decide +kernel
theorem dX12_removeQueue_89 : decode cX12_removeQueue 89 = .ok (.getfield 185, 3) := by decide +kernel
theorem dX12_removeQueue_92 : decode cX12_removeQueue 92 = .ok (.if_icmp .ge 51, 3) := by decide +kernel
theorem dX12_removeQueue_95 : decode cX12_removeQueue 95 = .ok (.aload_n 0, 1) := by decide +kernel
theorem dX12_removeQueue_96 : decode cX12_removeQueue 96 = .ok (.getfield 27, 3) := by decide +kernel
theorem dX12_removeQueue_99 : decode cX12_removeQueue 99 = .ok (.iload_n 2, 1) := by decide +kernel
theorem dX12_removeQueue_100 : decode cX12_removeQueue 100 = .ok (.aload_n 0, 1) := by decide +kernel
theorem dX12_removeQueue_101 : decode cX12_removeQueue 101 = .ok (.getfield 27, 3) := by decide +kernel
theorem dX12_removeQueue_104 : decode cX12_removeQueue 104 = .ok (.iload_n 2, 1) := by decide +kernel
theorem dX12_removeQueue_105 : decode cX12_removeQueue 105 = .ok (.iconst 1, 1) := by decide +kernel
theorem dX12_removeQueue_106 : decode cX12_removeQueue 106 = .ok (.iadd, 1) := by decide +kernel
theorem dX12_removeQueue_107 : decode cX12_removeQueue 107 = .ok (.laload, 1) := by decide +kernel
theorem dX12_removeQueue_108 : decode cX12_removeQueue 108 = .ok (.lastore, 1) := by decide +kernel
theorem dX12_removeQueue_109 : decode cX12_removeQueue 109 = .ok (.aload_n 0, 1) := by decide +kernel
theorem dX12_removeQueue_110 : decode cX12_removeQueue 110 = .ok (.getfield 30, 3) := by decide +kernel
theorem dX12_removeQueue_113 : decode cX12_removeQueue 113 = .ok (.iload_n 2, 1) := by decide +kernel
theorem dX12_removeQueue_114 : decode cX12_removeQueue 114 = .ok (.aload_n 0, 1) := by decide +kernel
theorem dX12_removeQueue_115 : decode cX12_removeQueue 115 = .ok (.getfield 30, 3) := by decide +kernel
theorem dX12_removeQueue_118 : decode cX12_removeQueue 118 = .ok (.iload_n 2, 1) := by decide +kernel
theorem dX12_removeQueue_119 : decode cX12_removeQueue 119 = .ok (.iconst 1, 1) := by decide +kernel
theorem dX12_removeQueue_120 : decode cX12_removeQueue 120 = .ok (.iadd, 1) := by decide +kernel
theorem dX12_removeQueue_121 : decode cX12_removeQueue 121 = .ok (.iaload, 1) := by decide +kernel
theorem dX12_removeQueue_122 : decode cX12_removeQueue 122 = .ok (.iastore, 1) := by decide +kernel
theorem dX12_removeQueue_123 : decode cX12_removeQueue 123 = .ok (.aload_n 0, 1) := by decide +kernel
theorem dX12_removeQueue_124 : decode cX12_removeQueue 124 = .ok (.getfield 33, 3) := by decide +kernel
theorem dX12_removeQueue_127 : decode cX12_removeQueue 127 = .ok (.iload_n 2, 1) := by decide +kernel
theorem dX12_removeQueue_128 : decode cX12_removeQueue 128 = .ok (.aload_n 0, 1) := by decide +kernel
theorem dX12_removeQueue_129 : decode cX12_removeQueue 129 = .ok (.getfield 33, 3) := by decide +kernel
theorem dX12_removeQueue_132 : decode cX12_removeQueue 132 = .ok (.iload_n 2, 1) := by decide +kernel
theorem dX12_removeQueue_133 : decode cX12_removeQueue 133 = .ok (.iconst 1, 1) := by decide +kernel
theorem dX12_removeQueue_134 : decode cX12_removeQueue 134 = .ok (.iadd, 1) := by decide +kernel
theorem dX12_removeQueue_135 : decode cX12_removeQueue 135 = .ok (.iaload, 1) := by decide +kernel
theorem dX12_removeQueue_136 : decode cX12_removeQueue 136 = .ok (.iastore, 1) := by decide +kernel
theorem dX12_removeQueue_137 : decode cX12_removeQueue 137 = .ok (.iinc 2 1, 3) := by decide +kernel
theorem dX12_removeQueue_140 : decode cX12_removeQueue 140 = .ok (.goto (-53), 3) := by decide +kernel
theorem dX12_removeQueue_143 : decode cX12_removeQueue 143 = .ok (.return_, 1) := by decide +kernel
def f_X12_removeQueue_32 (k7 : Nat → Int32 → Int32 → AH → Option (Unit × AH)) (a0 : Nat) (x1 : Int32) (x2 : Int32) (h : AH) : Option (Unit × AH) := k7 a0 x1 (x2 + (-1)) h
set_option maxRecDepth 20000 in
set_option maxHeartbeats 4000000 in
theorem t_X12_removeQueue_32 {Ω : Om} {k7 : Nat → Int32 → Int32 → AH → Option (Unit × AH)} (c7 : ∀ (a0 : Nat) (x1 : Int32) (x2 : Int32) (h : AH) (q : Unit × AH), k7 a0 x1 x2 h = some q → Go Ω M_X12_removeQueue 7 [(0, vR Ω (some a0)), (1, .int x1), (2, .int x2)] [] h none q.2) (a0 : Nat) (x1 : Int32) (x2 : Int32) (h : AH) (q : Unit × AH) (hf : f_X12_removeQueue_32 k7 a0 x1 x2 h = some q) : Go Ω M_X12_removeQueue 32 [(0, vR Ω (some a0)), (1, .int x1), (2, .int x2)] [] h none q.2 := by
  unfold f_X12_removeQueue_32 at hf
  refine go_iinc (j := 2) (v := x2 + (-1)) (lv' := [(2, .int (x2 + (-1))), (0, vR Ω (some a0)), (1, .int x1)]) dX12_removeQueue_32 rfl rfl (by decide) (by first | rfl | simp [catR, catI, catJ]) ?_
  refine go_goto (tgt := 7) dX12_removeQueue_35 (by decide) ?_
  refine go_sub (lv' := [(0, vR Ω (some a0)), (1, .int x1), (2, .int (x2 + (-1)))]) [1, 2, 0] rfl ?_
  exact c7 a0 x1 (x2 + (-1)) h q hf
def f_X12_removeQueue_69 (k45 : Nat → Int32 → Int32 → AH → Option (Unit × AH)) (a0 : Nat) (x1 : Int32) (x2 : Int32) (h : AH) : Option (Unit × AH) := k45 a0 x1 (x2 + (-1)) h
set_option maxRecDepth 20000 in
set_option maxHeartbeats 4000000 in
theorem t_X12_removeQueue_69 {Ω : Om} {k45 : Nat → Int32 → Int32 → AH → Option (Unit × AH)} (c45 : ∀ (a0 : Nat) (x1 : Int32) (x2 : Int32) (h : AH) (q : Unit × AH), k45 a0 x1 x2 h = some q → Go Ω M_X12_removeQueue 45 [(0, vR Ω (some a0)), (1, .int x1), (2, .int x2)] [] h none q.2) (a0 : Nat) (x1 : Int32) (x2 : Int32) (h : AH) (q : Unit × AH) (hf : f_X12_removeQueue_69 k45 a0 x1 x2 h = some q) : Go Ω M_X12_removeQueue 69 [(0, vR Ω (some a0)), (1, .int x1), (2, .int x2)] [] h none q.2 := by
  unfold f_X12_removeQueue_69 at hf
  refine go_iinc (j := 2) (v := x2 + (-1)) (lv' := [(2, .int (x2 + (-1))), (0, vR Ω (some a0)), (1, .int x1)]) dX12_removeQueue_69 rfl rfl (by decide) (by first | rfl | simp [catR, catI, catJ]) ?_
  refine go_goto (tgt := 45) dX12_removeQueue_72 (by decide) ?_
  refine go_sub (lv' := [(0, vR Ω (some a0)), (1, .int x1), (2, .int (x2 + (-1)))]) [1, 2, 0] rfl ?_
  exact c45 a0 x1 (x2 + (-1)) h q hf
def f_X12_removeQueue_87 : Nat → Nat → Int32 → AH → Option (Unit × AH)
  | 0, _, _, _ => none
  | n + 1, a0, x2, h => rdI h a0 13 8 fun x_1 =>
    (if x_1 ≤ x2 then
      some ((), h)
    else
      rdR h a0 13 10 fun r_2 =>
      rdR h a0 13 10 fun r_3 =>
      nn r_3 fun a_4 =>
      arJ h a_4 (x2 + 1) fun x_5 =>
      nn r_2 fun a_6 =>
      asJ h a_6 x2 x_5 fun h_7 =>
      rdR h_7 a0 13 11 fun r_8 =>
      rdR h_7 a0 13 11 fun r_9 =>
      nn r_9 fun a_10 =>
      arI h_7 a_10 (x2 + 1) fun x_11 =>
      nn r_8 fun a_12 =>
      asI h_7 a_12 x2 x_11 fun h_13 =>
      rdR h_13 a0 13 12 fun r_14 =>
      rdR h_13 a0 13 12 fun r_15 =>
      nn r_15 fun a_16 =>
      arI h_13 a_16 (x2 + 1) fun x_17 =>
      nn r_14 fun a_18 =>
      asI h_13 a_18 x2 x_17 fun h_19 =>
      f_X12_removeQueue_87 n a0 (x2 + 1) h_19)
set_option maxRecDepth 20000 in
set_option maxHeartbeats 4000000 in
theorem t_X12_removeQueue_87 {Ω : Om} : ∀ (n : Nat) (a0 : Nat) (x2 : Int32) (h : AH) (q : Unit × AH), f_X12_removeQueue_87 n a0 x2 h = some q → Go Ω M_X12_removeQueue 87 [(0, vR Ω (some a0)), (2, .int x2)] [] h none q.2 := by
  intro n
  induction n with
  | zero => intro a0 x2 h q hf; cases hf
  | succ n ih =>
    intro a0 x2 h q hf
    rw [f_X12_removeQueue_87] at hf
    refine go_iload_n dX12_removeQueue_87 rfl 1 rfl ?_
    refine go_aload_n dX12_removeQueue_88 rfl 0 rfl ?_
    refine go_getI dX12_removeQueue_89 fl_1127_0 (fun _ _ => rfl) hf (fun x_1 hf => ?_)
    refine go_icmp_ge (tgt := 143) dX12_removeQueue_92 (by decide) hf (fun hf => ?_) (fun hf => ?_)
    · exact go_return dX12_removeQueue_143 rfl hf
    · refine go_aload_n dX12_removeQueue_95 rfl 0 rfl ?_
      refine go_getR dX12_removeQueue_96 fl_1129_0 (fun _ _ => rfl) hf (fun r_2 hf => ?_)
      refine go_iload_n dX12_removeQueue_99 rfl 1 rfl ?_
      refine go_aload_n dX12_removeQueue_100 rfl 0 rfl ?_
      refine go_getR dX12_removeQueue_101 fl_1129_0 (fun _ _ => rfl) hf (fun r_3 hf => ?_)
      refine go_iload_n dX12_removeQueue_104 rfl 1 rfl ?_
      refine go_iconst 1 dX12_removeQueue_105 rfl ?_
      refine go_iadd dX12_removeQueue_106 ?_
      obtain ⟨a_4, rfl, hga_4⟩ := nn_some hf
      have hf := hga_4
      refine go_laload dX12_removeQueue_107 hf (fun x_5 hf => ?_)
      obtain ⟨a_6, rfl, hga_6⟩ := nn_some hf
      have hf := hga_6
      refine go_lastore dX12_removeQueue_108 hf (fun h_7 hf => ?_)
      refine go_aload_n dX12_removeQueue_109 rfl 0 rfl ?_
      refine go_getR dX12_removeQueue_110 fl_1130_0 (fun _ _ => rfl) hf (fun r_8 hf => ?_)
      refine go_iload_n dX12_removeQueue_113 rfl 1 rfl ?_
      refine go_aload_n dX12_removeQueue_114 rfl 0 rfl ?_
      refine go_getR dX12_removeQueue_115 fl_1130_0 (fun _ _ => rfl) hf (fun r_9 hf => ?_)
      refine go_iload_n dX12_removeQueue_118 rfl 1 rfl ?_
      refine go_iconst 1 dX12_removeQueue_119 rfl ?_
      refine go_iadd dX12_removeQueue_120 ?_
      obtain ⟨a_10, rfl, hga_10⟩ := nn_some hf
      have hf := hga_10
      refine go_iaload dX12_removeQueue_121 hf (fun x_11 hf => ?_)
      obtain ⟨a_12, rfl, hga_12⟩ := nn_some hf
      have hf := hga_12
      refine go_iastore dX12_removeQueue_122 hf (fun h_13 hf => ?_)
      refine go_aload_n dX12_removeQueue_123 rfl 0 rfl ?_
      refine go_getR dX12_removeQueue_124 fl_1131_0 (fun _ _ => rfl) hf (fun r_14 hf => ?_)
      refine go_iload_n dX12_removeQueue_127 rfl 1 rfl ?_
      refine go_aload_n dX12_removeQueue_128 rfl 0 rfl ?_
      refine go_getR dX12_removeQueue_129 fl_1131_0 (fun _ _ => rfl) hf (fun r_15 hf => ?_)
      refine go_iload_n dX12_removeQueue_132 rfl 1 rfl ?_
      refine go_iconst 1 dX12_removeQueue_133 rfl ?_
      refine go_iadd dX12_removeQueue_134 ?_
      obtain ⟨a_16, rfl, hga_16⟩ := nn_some hf
      have hf := hga_16
      refine go_iaload dX12_removeQueue_135 hf (fun x_17 hf => ?_)
      obtain ⟨a_18, rfl, hga_18⟩ := nn_some hf
      have hf := hga_18
      refine go_iastore dX12_removeQueue_136 hf (fun h_19 hf => ?_)
      refine go_iinc (j := 1) (v := x2 + 1) (lv' := [(2, .int (x2 + 1)), (0, vR Ω (some a0))]) dX12_removeQueue_137 rfl rfl (by decide) (by first | rfl | simp [catR, catI, catJ]) ?_
      refine go_goto (tgt := 87) dX12_removeQueue_140 (by decide) ?_
      refine go_sub (lv' := [(0, vR Ω (some a0)), (2, .int (x2 + 1))]) [1, 0] rfl ?_
      exact ih a0 (x2 + 1) h_19 q hf
def f_X12_removeQueue_75 (a0 : Nat) (x1 : Int32) (h : AH) : Option (Unit × AH) := rdI h a0 13 8 fun x_1 =>
  wrI h a0 13 8 (x_1 - 1) fun h_2 =>
  f_X12_removeQueue_87 FU a0 x1 h_2
set_option maxRecDepth 20000 in
set_option maxHeartbeats 4000000 in
theorem t_X12_removeQueue_75 {Ω : Om} (a0 : Nat) (x1 : Int32) (h : AH) (q : Unit × AH) (hf : f_X12_removeQueue_75 a0 x1 h = some q) : Go Ω M_X12_removeQueue 75 [(0, vR Ω (some a0)), (1, .int x1)] [] h none q.2 := by
  unfold f_X12_removeQueue_75 at hf
  refine go_aload_n dX12_removeQueue_75 rfl 0 rfl ?_
  refine go_dup dX12_removeQueue_76 catR ?_
  refine go_getI dX12_removeQueue_77 fl_1127_0 (fun _ _ => rfl) hf (fun x_1 hf => ?_)
  refine go_iconst 1 dX12_removeQueue_80 rfl ?_
  refine go_isub dX12_removeQueue_81 ?_
  refine go_putI dX12_removeQueue_82 fl_1127_0 (fun q hq => by cases hq; exact Or.inl rfl) (fun _ _ => rfl) rfl hf (fun h_2 hf => ?_)
  refine go_iload_n dX12_removeQueue_85 rfl 1 rfl ?_
  refine go_istore_n (i := 2) (lv' := [(2, .int x1), (0, vR Ω (some a0)), (1, .int x1)]) dX12_removeQueue_86 rfl (by decide) (by first | rfl | simp [catR, catI, catJ]) ?_
  refine go_sub (lv' := [(0, vR Ω (some a0)), (2, .int x1)]) [1, 0] rfl ?_
  exact t_X12_removeQueue_87 FU a0 x1 h_2 q hf
def f_X12_removeQueue_45 : Nat → Nat → Int32 → Int32 → AH → Option (Unit × AH)
  | 0, _, _, _, _ => none
  | n + 1, a0, x1, x2, h => (if x2 < 0 then
      f_X12_removeQueue_75 a0 x1 h
    else
      rdR h a0 13 22 fun r_1 =>
      nn r_1 fun a_2 =>
      arI h a_2 x2 fun x_3 =>
      rdR h a0 13 11 fun r_4 =>
      nn r_4 fun a_5 =>
      arI h a_5 x1 fun x_6 =>
      (if x_3 = x_6 then
        kg h a0 13 (bd (f_X12_removeConsumer a0 x2 h) fun _ h_8 =>
        f_X12_removeQueue_69 (fun a0 x1 x2 h => f_X12_removeQueue_45 n a0 x1 x2 h) a0 x1 x2 h_8)
      else
        f_X12_removeQueue_69 (fun a0 x1 x2 h => f_X12_removeQueue_45 n a0 x1 x2 h) a0 x1 x2 h))
set_option maxRecDepth 20000 in
set_option maxHeartbeats 4000000 in
theorem t_X12_removeQueue_45 {Ω : Om} : ∀ (n : Nat) (a0 : Nat) (x1 : Int32) (x2 : Int32) (h : AH) (q : Unit × AH), f_X12_removeQueue_45 n a0 x1 x2 h = some q → Go Ω M_X12_removeQueue 45 [(0, vR Ω (some a0)), (1, .int x1), (2, .int x2)] [] h none q.2 := by
  intro n
  induction n with
  | zero => intro a0 x1 x2 h q hf; cases hf
  | succ n ih =>
    intro a0 x1 x2 h q hf
    rw [f_X12_removeQueue_45] at hf
    refine go_iload_n dX12_removeQueue_45 rfl 2 rfl ?_
    refine go_if_lt (tgt := 75) dX12_removeQueue_46 (by decide) hf (fun hf => ?_) (fun hf => ?_)
    · refine go_sub (lv' := [(0, vR Ω (some a0)), (1, .int x1)]) [0, 1] rfl ?_
      exact t_X12_removeQueue_75 a0 x1 h q hf
    · refine go_aload_n dX12_removeQueue_49 rfl 0 rfl ?_
      refine go_getR dX12_removeQueue_50 fl_1141_0 (fun _ _ => rfl) hf (fun r_1 hf => ?_)
      refine go_iload_n dX12_removeQueue_53 rfl 2 rfl ?_
      obtain ⟨a_2, rfl, hga_2⟩ := nn_some hf
      have hf := hga_2
      refine go_iaload dX12_removeQueue_54 hf (fun x_3 hf => ?_)
      refine go_aload_n dX12_removeQueue_55 rfl 0 rfl ?_
      refine go_getR dX12_removeQueue_56 fl_1130_0 (fun _ _ => rfl) hf (fun r_4 hf => ?_)
      refine go_iload_n dX12_removeQueue_59 rfl 1 rfl ?_
      obtain ⟨a_5, rfl, hga_5⟩ := nn_some hf
      have hf := hga_5
      refine go_iaload dX12_removeQueue_60 hf (fun x_6 hf => ?_)
      refine go_icmp_ne (tgt := 69) dX12_removeQueue_61 (by decide) hf (fun hf => ?_) (fun hf => ?_)
      · refine go_sub (lv' := [(0, vR Ω (some a0)), (1, .int x1), (2, .int x2)]) [0, 1, 2] rfl ?_
        exact t_X12_removeQueue_69 ih a0 x1 x2 h q hf
      · refine go_aload_n dX12_removeQueue_64 rfl 0 rfl ?_
        refine go_iload_n dX12_removeQueue_65 rfl 2 rfl ?_
        obtain ⟨hk, hf⟩ := kg_some hf
        obtain ⟨z_7, hc, hf⟩ := bd_some hf
        refine go_callV (y2 := M_X12_removeConsumer) (c2 := 13) dX12_removeQueue_66 mo_X12_removeConsumer ⟨Nat.le_of_ble_eq_true rfl, Nat.le_of_ble_eq_true rfl⟩ na_X12_removeConsumer w1353 w1355 (by decide) rfl w57 hk [.int x2] rfl (n_X12_removeConsumer (a0) x2) rfl (csum (Nat.le_of_ble_eq_true rfl)) (t_X12_removeConsumer (a0) x2 h _ hc) ?_
        obtain ⟨_, h_8⟩ := z_7
        refine go_sub (lv' := [(0, vR Ω (some a0)), (1, .int x1), (2, .int x2)]) [0, 1, 2] rfl ?_
        exact t_X12_removeQueue_69 ih a0 x1 x2 h_8 q hf
def f_X12_removeQueue_38 (a0 : Nat) (x1 : Int32) (h : AH) : Option (Unit × AH) := rdI h a0 13 17 fun x_1 =>
  lt (x_1 - 1) fun x_2 =>
  f_X12_removeQueue_45 FU a0 x1 x_2 h
set_option maxRecDepth 20000 in
set_option maxHeartbeats 4000000 in
theorem t_X12_removeQueue_38 {Ω : Om} (a0 : Nat) (x1 : Int32) (h : AH) (q : Unit × AH) (hf : f_X12_removeQueue_38 a0 x1 h = some q) : Go Ω M_X12_removeQueue 38 [(0, vR Ω (some a0)), (1, .int x1)] [] h none q.2 := by
  unfold f_X12_removeQueue_38 at hf
  refine go_aload_n dX12_removeQueue_38 rfl 0 rfl ?_
  refine go_getI dX12_removeQueue_39 fl_1136_0 (fun _ _ => rfl) hf (fun x_1 hf => ?_)
  refine go_iconst 1 dX12_removeQueue_42 rfl ?_
  refine go_isub dX12_removeQueue_43 ?_
  refine lt_I hf (fun x_2 hf => ?_)
  refine go_istore_n (i := 2) (lv' := [(2, .int x_2), (0, vR Ω (some a0)), (1, .int x1)]) dX12_removeQueue_44 rfl (by decide) (by first | rfl | simp [catR, catI, catJ]) ?_
  refine go_sub (lv' := [(0, vR Ω (some a0)), (1, .int x1), (2, .int x_2)]) [1, 2, 0] rfl ?_
  exact t_X12_removeQueue_45 FU a0 x1 x_2 h q hf
def f_X12_removeQueue_7 : Nat → Nat → Int32 → Int32 → AH → Option (Unit × AH)
  | 0, _, _, _, _ => none
  | n + 1, a0, x1, x2, h => (if x2 < 0 then
      f_X12_removeQueue_38 a0 x1 h
    else
      rdR h a0 13 14 fun r_1 =>
      nn r_1 fun a_2 =>
      arJ h a_2 x2 fun x_3 =>
      rdR h a0 13 10 fun r_4 =>
      nn r_4 fun a_5 =>
      arJ h a_5 x1 fun x_6 =>
      (if (lg_cmp x_3 x_6) = 0 then
        kg h a0 13 (bd (f_X12_removeBinding a0 x2 h) fun _ h_8 =>
        f_X12_removeQueue_32 (fun a0 x1 x2 h => f_X12_removeQueue_7 n a0 x1 x2 h) a0 x1 x2 h_8)
      else
        f_X12_removeQueue_32 (fun a0 x1 x2 h => f_X12_removeQueue_7 n a0 x1 x2 h) a0 x1 x2 h))
set_option maxRecDepth 20000 in
set_option maxHeartbeats 4000000 in
theorem t_X12_removeQueue_7 {Ω : Om} : ∀ (n : Nat) (a0 : Nat) (x1 : Int32) (x2 : Int32) (h : AH) (q : Unit × AH), f_X12_removeQueue_7 n a0 x1 x2 h = some q → Go Ω M_X12_removeQueue 7 [(0, vR Ω (some a0)), (1, .int x1), (2, .int x2)] [] h none q.2 := by
  intro n
  induction n with
  | zero => intro a0 x1 x2 h q hf; cases hf
  | succ n ih =>
    intro a0 x1 x2 h q hf
    rw [f_X12_removeQueue_7] at hf
    refine go_iload_n dX12_removeQueue_7 rfl 2 rfl ?_
    refine go_if_lt (tgt := 38) dX12_removeQueue_8 (by decide) hf (fun hf => ?_) (fun hf => ?_)
    · refine go_sub (lv' := [(0, vR Ω (some a0)), (1, .int x1)]) [0, 1] rfl ?_
      exact t_X12_removeQueue_38 a0 x1 h q hf
    · refine go_aload_n dX12_removeQueue_11 rfl 0 rfl ?_
      refine go_getR dX12_removeQueue_12 fl_1133_0 (fun _ _ => rfl) hf (fun r_1 hf => ?_)
      refine go_iload_n dX12_removeQueue_15 rfl 2 rfl ?_
      obtain ⟨a_2, rfl, hga_2⟩ := nn_some hf
      have hf := hga_2
      refine go_laload dX12_removeQueue_16 hf (fun x_3 hf => ?_)
      refine go_aload_n dX12_removeQueue_17 rfl 0 rfl ?_
      refine go_getR dX12_removeQueue_18 fl_1129_0 (fun _ _ => rfl) hf (fun r_4 hf => ?_)
      refine go_iload_n dX12_removeQueue_21 rfl 1 rfl ?_
      obtain ⟨a_5, rfl, hga_5⟩ := nn_some hf
      have hf := hga_5
      refine go_laload dX12_removeQueue_22 hf (fun x_6 hf => ?_)
      refine go_lcmp dX12_removeQueue_23 ?_
      refine go_if_ne (tgt := 32) dX12_removeQueue_24 (by decide) hf (fun hf => ?_) (fun hf => ?_)
      · refine go_sub (lv' := [(0, vR Ω (some a0)), (1, .int x1), (2, .int x2)]) [0, 1, 2] rfl ?_
        exact t_X12_removeQueue_32 ih a0 x1 x2 h q hf
      · refine go_aload_n dX12_removeQueue_27 rfl 0 rfl ?_
        refine go_iload_n dX12_removeQueue_28 rfl 2 rfl ?_
        obtain ⟨hk, hf⟩ := kg_some hf
        obtain ⟨z_7, hc, hf⟩ := bd_some hf
        refine go_callV (y2 := M_X12_removeBinding) (c2 := 13) dX12_removeQueue_29 mo_X12_removeBinding ⟨Nat.le_of_ble_eq_true rfl, Nat.le_of_ble_eq_true rfl⟩ na_X12_removeBinding w1444 w1446 (by decide) rfl w79 hk [.int x2] rfl (n_X12_removeBinding (a0) x2) rfl (csum (Nat.le_of_ble_eq_true rfl)) (t_X12_removeBinding (a0) x2 h _ hc) ?_
        obtain ⟨_, h_8⟩ := z_7
        refine go_sub (lv' := [(0, vR Ω (some a0)), (1, .int x1), (2, .int x2)]) [0, 1, 2] rfl ?_
        exact t_X12_removeQueue_32 ih a0 x1 x2 h_8 q hf
def f_X12_removeQueue (a0 : Nat) (x1 : Int32) (h : AH) : Option (Unit × AH) := rdI h a0 13 13 fun x_1 =>
  lt (x_1 - 1) fun x_2 =>
  f_X12_removeQueue_7 FU a0 x1 x_2 h
set_option maxRecDepth 20000 in
set_option maxHeartbeats 4000000 in
theorem t_X12_removeQueue {Ω : Om} (a0 : Nat) (x1 : Int32) (h : AH) (q : Unit × AH) (hf : f_X12_removeQueue a0 x1 h = some q) : Go Ω M_X12_removeQueue 0 (lv_args 0 [vR Ω (some a0), .int x1]) [] h none q.2 := by
  unfold f_X12_removeQueue at hf
  rw [la_R, la_I, la_0]
  refine go_sub (lv' := [(0, vR Ω (some a0)), (1, .int x1)]) [0, 1] rfl ?_
  refine go_aload_n dX12_removeQueue_0 rfl 0 rfl ?_
  refine go_getI dX12_removeQueue_1 fl_1132_0 (fun _ _ => rfl) hf (fun x_1 hf => ?_)
  refine go_iconst 1 dX12_removeQueue_4 rfl ?_
  refine go_isub dX12_removeQueue_5 ?_
  refine lt_I hf (fun x_2 hf => ?_)
  refine go_istore_n (i := 2) (lv' := [(2, .int x_2), (0, vR Ω (some a0)), (1, .int x1)]) dX12_removeQueue_6 rfl (by decide) (by first | rfl | simp [catR, catI, catJ]) ?_
  refine go_sub (lv' := [(0, vR Ω (some a0)), (1, .int x1), (2, .int x_2)]) [1, 2, 0] rfl ?_
  exact t_X12_removeQueue_7 FU a0 x1 x_2 h q hf
-- LetterBrokerModel.emptyQueue(I)V
theorem dX12_emptyQueue_0 : decode cX12_emptyQueue 0 = .ok (.aload_n 0, 1) := by decide +kernel
theorem dX12_emptyQueue_1 : decode cX12_emptyQueue 1 = .ok (.getfield 318, 3) := by decide +kernel
theorem dX12_emptyQueue_4 : decode cX12_emptyQueue 4 = .ok (.istore_n 2, 1) := by decide +kernel
theorem dX12_emptyQueue_5 : decode cX12_emptyQueue 5 = .ok (.aload_n 0, 1) := by decide +kernel
theorem dX12_emptyQueue_6 : decode cX12_emptyQueue 6 = .ok (.invokevirtual 321, 3) := by decide +kernel
theorem dX12_emptyQueue_9 : decode cX12_emptyQueue 9 = .ok (.lstore_n 3, 1) := by decide +kernel
theorem dX12_emptyQueue_10 : decode cX12_emptyQueue 10 = .ok (.iload_n 1, 1) := by decide +kernel
theorem dX12_emptyQueue_11 : decode cX12_emptyQueue 11 = .ok (.bipush 40, 2) := by decide +kernel
theorem dX12_emptyQueue_13 : decode cX12_emptyQueue 13 = .ok (.if_icmp .ne 10, 3) := by decide +kernel
theorem dX12_emptyQueue_16 : decode cX12_emptyQueue 16 = .ok (.aload_n 0, 1) := by decide +kernel
theorem dX12_emptyQueue_17 : decode cX12_emptyQueue 17 = .ok (.invokevirtual 311, 3) := by decide +kernel
theorem dX12_emptyQueue_20 : decode cX12_emptyQueue 20 = .ok (.goto 4, 3) := by decide +kernel
theorem dX12_emptyQueue_23 : decode cX12_emptyQueue 23 = .ok (.iconst 0, 1) := by decide +kernel
theorem dX12_emptyQueue_24 : decode cX12_emptyQueue 24 = .ok (.istore 5, 2) := by decide +kernel
theorem dX12_emptyQueue_26 : decode cX12_emptyQueue 26 = .ok (.aload_n 0, 1) := by decide +kernel
theorem dX12_emptyQueue_27 : decode cX12_emptyQueue 27 = .ok (.invokevirtual 329, 3) := by decide +kernel
theorem dX12_emptyQueue_30 : decode cX12_emptyQueue 30 = .ok (.ifCond .ne 4, 3) := by decide +kernel
theorem dX12_emptyQueue_33 : decode cX12_emptyQueue 33 = .ok (.return_, 1) := by decide +kernel
theorem dX12_emptyQueue_34 : decode cX12_emptyQueue 34 = .ok (.aload_n 0, 1) := by decide +kernel
theorem dX12_emptyQueue_35 : decode cX12_emptyQueue 35 = .ok (.lload_n 3, 1) := by decide +kernel
theorem dX12_emptyQueue_36 : decode cX12_emptyQueue 36 = .ok (.invokevirtual 342, 3) := by decide +kernel
theorem dX12_emptyQueue_39 : decode cX12_emptyQueue 39 = .ok (.istore 6, 2) := by decide +kernel
theorem dX12_emptyQueue_41 : decode cX12_emptyQueue 41 = .ok (.iload 6, 2) := by decide +kernel
theorem dX12_emptyQueue_43 : decode cX12_emptyQueue 43 = .ok (.ifCond .ge 12, 3) := by decide +kernel
theorem dX12_emptyQueue_46 : decode cX12_emptyQueue 46 = .ok (.aload_n 0, 1) := by decide +kernel
theorem dX12_emptyQueue_47 : decode cX12_emptyQueue 47 = .ok (.iload_n 2, 1) := by decide +kernel
theorem dX12_emptyQueue_48 : decode cX12_emptyQueue 48 = .ok (.sipush 404, 3) := by decide +kernel
theorem dX12_emptyQueue_51 : decode cX12_emptyQueue 51 = .ok (.invokevirtual 252, 3) := by decide +kernel
theorem dX12_emptyQueue_54 : decode cX12_emptyQueue 54 = .ok (.return_, 1) := by decide +kernel
theorem dX12_emptyQueue_55 : decode cX12_emptyQueue 55 = .ok (.aload_n 0, 1) := by decide +kernel
theorem dX12_emptyQueue_56 : decode cX12_emptyQueue 56 = .ok (.getfield 30, 3) := by decide +kernel
theorem dX12_emptyQueue_59 : decode cX12_emptyQueue 59 = .ok (.iload 6, 2) := by decide +kernel
theorem dX12_emptyQueue_61 : decode cX12_emptyQueue 61 = .ok (.iaload, 1) := by decide +kernel
theorem dX12_emptyQueue_62 : decode cX12_emptyQueue 62 = .ok (.istore 7, 2) := by decide +kernel
theorem dX12_emptyQueue_64 : decode cX12_emptyQueue 64 = .ok (.iload 5, 2) := by decide +kernel
theorem dX12_emptyQueue_66 : decode cX12_emptyQueue 66 = .ok (.iconst 2, 1) := by decide +kernel
theorem dX12_emptyQueue_67 : decode cX12_emptyQueue 67 = .ok (.irem, 1) := by decide +kernel
theorem dX12_emptyQueue_68 : decode cX12_emptyQueue 68 = .ok (.iconst 1, 1) := by decide +kernel
theorem dX12_emptyQueue_69 : decode cX12_emptyQueue 69 = .ok (.if_icmp .ne 16, 3) := by decide +kernel
theorem dX12_emptyQueue_72 : decode cX12_emptyQueue 72 = .ok (.aload_n 0, 1) := by decide +kernel
theorem dX12_emptyQueue_73 : decode cX12_emptyQueue 73 = .ok (.iload 7, 2) := by decide +kernel
theorem dX12_emptyQueue_75 : decode cX12_emptyQueue 75 = .ok (.invokevirtual 351, 3) := by decide +kernel
theorem dX12_emptyQueue_78 : decode cX12_emptyQueue 78 = .ok (.ifCond .le 7, 3) := by decide +kernel
theorem dX12_emptyQueue_81 : decode cX12_emptyQueue 81 = .ok (.iconst 1, 1) := by decide +kernel
theorem dX12_emptyQueue_82 : decode cX12_emptyQueue 82 = .ok (.goto 4, 3) := by decide +kernel
theorem dX12_emptyQueue_85 : decode cX12_emptyQueue 85 = .ok (.iconst 0, 1) := by decide +kernel
theorem dX12_emptyQueue_86 : decode cX12_emptyQueue 86 = .ok (.istore 8, 2) := by decide +kernel
theorem dX12_emptyQueue_88 : decode cX12_emptyQueue 88 = .ok (.iload 5, 2) := by decide +kernel
theorem dX12_emptyQueue_90 : decode cX12_emptyQueue 90 = .ok (.iconst 2, 1) := by decide +kernel
theorem dX12_emptyQueue_91 : decode cX12_emptyQueue 91 = .ok (.idiv, 1) := by decide +kernel
theorem dX12_emptyQueue_92 : decode cX12_emptyQueue 92 = .ok (.iconst 2, 1) := by decide +kernel
theorem dX12_emptyQueue_93 : decode cX12_emptyQueue 93 = .ok (.irem, 1) := by decide +kernel
theorem dX12_emptyQueue_94 : decode cX12_emptyQueue 94 = .ok (.iconst 1, 1) := by decide +kernel
theorem dX12_emptyQueue_95 : decode cX12_emptyQueue 95 = .ok (.if_icmp .ne 16, 3) := by decide +kernel
theorem dX12_emptyQueue_98 : decode cX12_emptyQueue 98 = .ok (.aload_n 0, 1) := by decide +kernel
theorem dX12_emptyQueue_99 : decode cX12_emptyQueue 99 = .ok (.iload 7, 2) := by decide +kernel
theorem dX12_emptyQueue_101 : decode cX12_emptyQueue 101 = .ok (.invokevirtual 348, 3) := by decide +kernel
theorem dX12_emptyQueue_104 : decode cX12_emptyQueue 104 = .ok (.ifCond .le 7, 3) := by decide +kernel
theorem dX12_emptyQueue_107 : decode cX12_emptyQueue 107 = .ok (.iconst 1, 1) := by decide +kernel
theorem dX12_emptyQueue_108 : decode cX12_emptyQueue 108 = .ok (.goto 4, 3) := by decide +kernel
theorem dX12_emptyQueue_111 : decode cX12_emptyQueue 111 = .ok (.iconst 0, 1) := by decide +kernel
theorem dX12_emptyQueue_112 : decode cX12_emptyQueue 112 = .ok (.istore 9, 2) := by decide +kernel
theorem dX12_emptyQueue_114 : decode cX12_emptyQueue 114 = .ok (.iload_n 1, 1) := by decide +kernel
theorem dX12_emptyQueue_115 : decode cX12_emptyQueue 115 = .ok (.bipush 40, 2) := by decide +kernel
theorem dX12_emptyQueue_117 : decode cX12_emptyQueue 117 = .ok (.if_icmp .ne 22, 3) := by decide +kernel
theorem dX12_emptyQueue_120 : decode cX12_emptyQueue 120 = .ok (.iload 8, 2) := by decide +kernel
theorem dX12_emptyQueue_122 : decode cX12_emptyQueue 122 = .ok (.ifCond .ne 8, 3) := by decide +kernel
theorem dX12_emptyQueue_125 : decode cX12_emptyQueue 125 = .ok (.iload 9, 2) := by decide +kernel
theorem dX12_emptyQueue_127 : decode cX12_emptyQueue 127 = .ok (.ifCond .eq 12, 3) := by decide +kernel
theorem dX12_emptyQueue_130 : decode cX12_emptyQueue 130 = .ok (.aload_n 0, 1) := by decide +kernel
theorem dX12_emptyQueue_131 : decode cX12_emptyQueue 131 = .ok (.iload_n 2, 1) := by decide +kernel
theorem dX12_emptyQueue_132 : decode cX12_emptyQueue 132 = .ok (.sipush 406, 3) := by decide +kernel
theorem dX12_emptyQueue_135 : decode cX12_emptyQueue 135 = .ok (.invokevirtual 252, 3) := by decide +kernel
theorem dX12_emptyQueue_138 : decode cX12_emptyQueue 138 = .ok (.return_, 1) := by decide +kernel
theorem dX12_emptyQueue_139 : decode cX12_emptyQueue 139 = .ok (.aload_n 0, 1) := by decide +kernel
theorem dX12_emptyQueue_140 : decode cX12_emptyQueue 140 = .ok (.iload 7, 2) := by decide +kernel
theorem dX12_emptyQueue_142 : decode cX12_emptyQueue 142 = .ok (.invokevirtual 358, 3) := by decide +kernel
theorem dX12_emptyQueue_145 : decode cX12_emptyQueue 145 = .ok (.istore 10, 2) := by decide +kernel
theorem dX12_emptyQueue_147 : decode cX12_emptyQueue 147 = .ok (.iload_n 1, 1) := by decide +kernel
theorem dX12_emptyQueue_148 : decode cX12_emptyQueue 148 = .ok (.bipush 40, 2) := by decide +kernel
theorem dX12_emptyQueue_150 : decode cX12_emptyQueue 150 = .ok (.if_icmp .ne 9, 3) := by decide +kernel
theorem dX12_emptyQueue_153 : decode cX12_emptyQueue 153 = .ok (.aload_n 0, 1) := by decide +kernel
theorem dX12_emptyQueue_154 : decode cX12_emptyQueue 154 = .ok (.iload 6, 2) := by decide +kernel
theorem dX12_emptyQueue_156 : decode cX12_emptyQueue 156 = .ok (.invokevirtual 361, 3) := by decide +kernel
theorem dX12_emptyQueue_159 : decode cX12_emptyQueue 159 = .ok (.aload_n 0, 1) := by decide +kernel
theorem dX12_emptyQueue_160 : decode cX12_emptyQueue 160 = .ok (.iload_n 2, 1) := by decide +kernel
theorem dX12_emptyQueue_161 : decode cX12_emptyQueue 161 = .ok (.bipush 50, 2) := by decide +kernel
theorem dX12_emptyQueue_163 : decode cX12_emptyQueue 163 = .ok (.iload_n 1, 1) := by decide +kernel
theorem dX12_emptyQueue_164 : decode cX12_emptyQueue 164 = .ok (.iconst 1, 1) := by decide +kernel
theorem dX12_emptyQueue_165 : decode cX12_emptyQueue 165 = .ok (.iadd, 1) := by decide +kernel
theorem dX12_emptyQueue_166 : decode cX12_emptyQueue 166 = .ok (.invokevirtual 168, 3) := by decide +kernel
theorem dX12_emptyQueue_169 : decode cX12_emptyQueue 169 = .ok (.aload_n 0, 1) := by decide +kernel
theorem dX12_emptyQueue_170 : decode cX12_emptyQueue 170 = .ok (.iload 10, 2) := by decide +kernel
theorem dX12_emptyQueue_172 : decode cX12_emptyQueue 172 = .ok (.invokevirtual 157, 3) := by decide +kernel
theorem dX12_emptyQueue_175 : decode cX12_emptyQueue 175 = .ok (.aload_n 0, 1) := by decide +kernel
theorem dX12_emptyQueue_176 : decode cX12_emptyQueue 176 = .ok (.invokevirtual 172, 3) := by decide +kernel
theorem dX12_emptyQueue_179 : decode cX12_emptyQueue 179 = .ok (.return_, 1) := by decide +kernel
def f_X12_emptyQueue_130 (a0 : Nat) (x2 : Int32) (h : AH) : Option (Unit × AH) := kg h a0 13 (bd (f_X12_soft a0 x2 406 h) fun _ h_2 =>
  some ((), h_2))
set_option maxRecDepth 20000 in
set_option maxHeartbeats 4000000 in
theorem t_X12_emptyQueue_130 {Ω : Om} (a0 : Nat) (x2 : Int32) (h : AH) (q : Unit × AH) (hf : f_X12_emptyQueue_130 a0 x2 h = some q) : Go Ω M_X12_emptyQueue 130 [(0, vR Ω (some a0)), (2, .int x2)] [] h none q.2 := by
  unfold f_X12_emptyQueue_130 at hf
  refine go_aload_n dX12_emptyQueue_130 rfl 0 rfl ?_
  refine go_iload_n dX12_emptyQueue_131 rfl 1 rfl ?_
  refine go_sipush 406 dX12_emptyQueue_132 (by decide) ?_
  obtain ⟨hk, hf⟩ := kg_some hf
  obtain ⟨z_1, hc, hf⟩ := bd_some hf
  refine go_callV (y2 := M_X12_soft) (c2 := 13) dX12_emptyQueue_135 mo_X12_soft ⟨Nat.le_of_ble_eq_true rfl, Nat.le_of_ble_eq_true rfl⟩ na_X12_soft w1432 w1434 (by decide) rfl w76 hk [.int x2, .int 406] rfl (n_X12_soft (a0) x2 406) rfl (csum (Nat.le_of_ble_eq_true rfl)) (t_X12_soft (a0) x2 406 h _ hc) ?_
  obtain ⟨_, h_2⟩ := z_1
  exact go_return dX12_emptyQueue_138 rfl hf
def f_X12_emptyQueue_159 (a0 : Nat) (x1 : Int32) (x2 : Int32) (x10 : Int32) (h : AH) : Option (Unit × AH) := kg h a0 13 (bd (f_X12_method a0 x2 50 (x1 + 1) h) fun _ h_2 =>
  kg h_2 a0 13 (bd (f_X12_put a0 x10 h_2) fun _ h_4 =>
  kg h_4 a0 13 (bd (f_X12_finish a0 h_4) fun _ h_6 =>
  some ((), h_6))))
set_option maxRecDepth 20000 in
set_option maxHeartbeats 4000000 in
theorem t_X12_emptyQueue_159 {Ω : Om} (a0 : Nat) (x1 : Int32) (x2 : Int32) (x10 : Int32) (h : AH) (q : Unit × AH) (hf : f_X12_emptyQueue_159 a0 x1 x2 x10 h = some q) : Go Ω M_X12_emptyQueue 159 [(0, vR Ω (some a0)), (1, .int x1), (2, .int x2), (10, .int x10)] [] h none q.2 := by
  unfold f_X12_emptyQueue_159 at hf
  refine go_aload_n dX12_emptyQueue_159 rfl 0 rfl ?_
  refine go_iload_n dX12_emptyQueue_160 rfl 2 rfl ?_
  refine go_bipush 50 dX12_emptyQueue_161 (by decide) ?_
  refine go_iload_n dX12_emptyQueue_163 rfl 1 rfl ?_
  refine go_iconst 1 dX12_emptyQueue_164 rfl ?_
  refine go_iadd dX12_emptyQueue_165 ?_
  obtain ⟨hk, hf⟩ := kg_some hf
  obtain ⟨z_1, hc, hf⟩ := bd_some hf
  refine go_callV (y2 := M_X12_method) (c2 := 13) dX12_emptyQueue_166 mo_X12_method ⟨Nat.le_of_ble_eq_true rfl, Nat.le_of_ble_eq_true rfl⟩ na_X12_method w1325 w1327 (by decide) rfl w50 hk [.int x2, .int 50, .int (x1 + 1)] rfl (n_X12_method (a0) x2 50 (x1 + 1)) rfl (csum (Nat.le_of_ble_eq_true rfl)) (t_X12_method (a0) x2 50 (x1 + 1) h _ hc) ?_
  obtain ⟨_, h_2⟩ := z_1
  refine go_aload_n dX12_emptyQueue_169 rfl 0 rfl ?_
  refine go_iload dX12_emptyQueue_170 3 rfl ?_
  obtain ⟨hk, hf⟩ := kg_some hf
  obtain ⟨z_3, hc, hf⟩ := bd_some hf
  refine go_callV (y2 := M_X12_put) (c2 := 13) dX12_emptyQueue_172 mo_X12_put ⟨Nat.le_of_ble_eq_true rfl, Nat.le_of_ble_eq_true rfl⟩ na_X12_put w1333 w1335 (by decide) rfl w52 hk [.int x10] rfl (n_X12_put (a0) x10) rfl (csum (Nat.le_of_ble_eq_true rfl)) (t_X12_put (a0) x10 h_2 _ hc) ?_
  obtain ⟨_, h_4⟩ := z_3
  refine go_aload_n dX12_emptyQueue_175 rfl 0 rfl ?_
  obtain ⟨hk, hf⟩ := kg_some hf
  obtain ⟨z_5, hc, hf⟩ := bd_some hf
  refine go_callV (y2 := M_X12_finish) (c2 := 13) dX12_emptyQueue_176 mo_X12_finish ⟨Nat.le_of_ble_eq_true rfl, Nat.le_of_ble_eq_true rfl⟩ na_X12_finish w1341 w1343 (by decide) rfl w54 hk [] rfl (n_X12_finish (a0)) rfl (csum (Nat.le_of_ble_eq_true rfl)) (t_X12_finish (a0) h_4 _ hc) ?_
  obtain ⟨_, h_6⟩ := z_5
  exact go_return dX12_emptyQueue_179 rfl hf
def f_X12_emptyQueue_139 (a0 : Nat) (x1 : Int32) (x2 : Int32) (x6 : Int32) (x7 : Int32) (h : AH) : Option (Unit × AH) := kg h a0 13 (bd (f_X12_purge a0 x7 h) fun x_3 h_2 =>
  (if x1 = 40 then
    kg h_2 a0 13 (bd (f_X12_removeQueue a0 x6 h_2) fun _ h_5 =>
    f_X12_emptyQueue_159 a0 x1 x2 x_3 h_5)
  else
    f_X12_emptyQueue_159 a0 x1 x2 x_3 h_2))
set_option maxRecDepth 20000 in
set_option maxHeartbeats 4000000 in
theorem t_X12_emptyQueue_139 {Ω : Om} (a0 : Nat) (x1 : Int32) (x2 : Int32) (x6 : Int32) (x7 : Int32) (h : AH) (q : Unit × AH) (hf : f_X12_emptyQueue_139 a0 x1 x2 x6 x7 h = some q) : Go Ω M_X12_emptyQueue 139 [(0, vR Ω (some a0)), (1, .int x1), (2, .int x2), (6, .int x6), (7, .int x7)] [] h none q.2 := by
  unfold f_X12_emptyQueue_139 at hf
  refine go_aload_n dX12_emptyQueue_139 rfl 0 rfl ?_
  refine go_iload dX12_emptyQueue_140 4 rfl ?_
  obtain ⟨hk, hf⟩ := kg_some hf
  obtain ⟨z_1, hc, hf⟩ := bd_some hf
  refine go_callV (y2 := M_X12_purge) (c2 := 13) dX12_emptyQueue_142 mo_X12_purge ⟨Nat.le_of_ble_eq_true rfl, Nat.le_of_ble_eq_true rfl⟩ na_X12_purge w1487 w1489 (by decide) rfl w89 hk [.int x7] rfl (n_X12_purge (a0) x7) rfl (csum (Nat.le_of_ble_eq_true rfl)) (t_X12_purge (a0) x7 h _ hc) ?_
  obtain ⟨x_3, h_2⟩ := z_1
  refine go_istore (i := 10) (lv' := [(10, .int x_3), (0, vR Ω (some a0)), (1, .int x1), (2, .int x2), (6, .int x6), (7, .int x7)]) dX12_emptyQueue_145 (by decide) (by first | rfl | simp [catR, catI, catJ]) ?_
  refine go_iload_n dX12_emptyQueue_147 rfl 2 rfl ?_
  refine go_bipush 40 dX12_emptyQueue_148 (by decide) ?_
  refine go_icmp_ne (tgt := 159) dX12_emptyQueue_150 (by decide) hf (fun hf => ?_) (fun hf => ?_)
  · refine go_sub (lv' := [(0, vR Ω (some a0)), (1, .int x1), (2, .int x2), (10, .int x_3)]) [1, 2, 3, 0] rfl ?_
    exact t_X12_emptyQueue_159 a0 x1 x2 x_3 h_2 q hf
  · refine go_aload_n dX12_emptyQueue_153 rfl 1 rfl ?_
    refine go_iload dX12_emptyQueue_154 4 rfl ?_
    obtain ⟨hk, hf⟩ := kg_some hf
    obtain ⟨z_4, hc, hf⟩ := bd_some hf
    refine go_callV (y2 := M_X12_removeQueue) (c2 := 13) dX12_emptyQueue_156 mo_X12_removeQueue ⟨Nat.le_of_ble_eq_true rfl, Nat.le_of_ble_eq_true rfl⟩ na_X12_removeQueue w1495 w1497 (by decide) rfl w91 hk [.int x6] rfl (n_X12_removeQueue (a0) x6) rfl (csum (Nat.le_of_ble_eq_true rfl)) (t_X12_removeQueue (a0) x6 h_2 _ hc) ?_
    obtain ⟨_, h_5⟩ := z_4
    refine go_sub (lv' := [(0, vR Ω (some a0)), (1, .int x1), (2, .int x2), (10, .int x_3)]) [1, 2, 3, 0] rfl ?_
    exact t_X12_emptyQueue_159 a0 x1 x2 x_3 h_5 q hf
def f_X12_emptyQueue_112 (a0 : Nat) (x1 : Int32) (x2 : Int32) (x6 : Int32) (x7 : Int32) (x8 : Int32) (s0 : Int32) (h : AH) : Option (Unit × AH) := (if x1 = 40 then
    (if x8 = 0 then
      (if s0 = 0 then
        f_X12_emptyQueue_139 a0 x1 x2 x6 x7 h
      else
        f_X12_emptyQueue_130 a0 x2 h)
    else
      f_X12_emptyQueue_130 a0 x2 h)
  else
    f_X12_emptyQueue_139 a0 x1 x2 x6 x7 h)
set_option maxRecDepth 20000 in
set_option maxHeartbeats 4000000 in
theorem t_X12_emptyQueue_112 {Ω : Om} (a0 : Nat) (x1 : Int32) (x2 : Int32) (x6 : Int32) (x7 : Int32) (x8 : Int32) (s0 : Int32) (h : AH) (q : Unit × AH) (hf : f_X12_emptyQueue_112 a0 x1 x2 x6 x7 x8 s0 h = some q) : Go Ω M_X12_emptyQueue 112 [(0, vR Ω (some a0)), (1, .int x1), (2, .int x2), (6, .int x6), (7, .int x7), (8, .int x8)] [.int s0] h none q.2 := by
  unfold f_X12_emptyQueue_112 at hf
  refine go_istore (i := 9) (lv' := [(9, .int s0), (0, vR Ω (some a0)), (1, .int x1), (2, .int x2), (6, .int x6), (7, .int x7), (8, .int x8)]) dX12_emptyQueue_112 (by decide) (by first | rfl | simp [catR, catI, catJ]) ?_
  refine go_iload_n dX12_emptyQueue_114 rfl 2 rfl ?_
  refine go_bipush 40 dX12_emptyQueue_115 (by decide) ?_
  refine go_icmp_ne (tgt := 139) dX12_emptyQueue_117 (by decide) hf (fun hf => ?_) (fun hf => ?_)
  · refine go_sub (lv' := [(0, vR Ω (some a0)), (1, .int x1), (2, .int x2), (6, .int x6), (7, .int x7)]) [1, 2, 3, 4, 5] rfl ?_
    exact t_X12_emptyQueue_139 a0 x1 x2 x6 x7 h q hf
  · refine go_iload dX12_emptyQueue_120 6 rfl ?_
    refine go_if_ne (tgt := 130) dX12_emptyQueue_122 (by decide) hf (fun hf => ?_) (fun hf => ?_)
    · refine go_sub (lv' := [(0, vR Ω (some a0)), (2, .int x2)]) [1, 3] rfl ?_
      exact t_X12_emptyQueue_130 a0 x2 h q hf
    · refine go_iload dX12_emptyQueue_125 0 rfl ?_
      refine go_if_eq (tgt := 139) dX12_emptyQueue_127 (by decide) hf (fun hf => ?_) (fun hf => ?_)
      · refine go_sub (lv' := [(0, vR Ω (some a0)), (1, .int x1), (2, .int x2), (6, .int x6), (7, .int x7)]) [1, 2, 3, 4, 5] rfl ?_
        exact t_X12_emptyQueue_139 a0 x1 x2 x6 x7 h q hf
      · refine go_sub (lv' := [(0, vR Ω (some a0)), (2, .int x2)]) [1, 3] rfl ?_
        exact t_X12_emptyQueue_130 a0 x2 h q hf
def f_X12_emptyQueue_86 (a0 : Nat) (x1 : Int32) (x2 : Int32) (x5 : Int32) (x6 : Int32) (x7 : Int32) (s0 : Int32) (h : AH) : Option (Unit × AH) := nz 2 (
  nz 2 (
  (if ((x5 / 2) - (x5 / 2) / 2 * 2) = 1 then
    kg h a0 13 (bd (f_X12_waiting a0 x7 h) fun x_3 h_2 =>
    (if x_3 ≤ 0 then
      f_X12_emptyQueue_112 a0 x1 x2 x6 x7 s0 0 h_2
    else
      f_X12_emptyQueue_112 a0 x1 x2 x6 x7 s0 1 h_2))
  else
    f_X12_emptyQueue_112 a0 x1 x2 x6 x7 s0 0 h)))
set_option maxRecDepth 20000 in
set_option maxHeartbeats 4000000 in
theorem t_X12_emptyQueue_86 {Ω : Om} (a0 : Nat) (x1 : Int32) (x2 : Int32) (x5 : Int32) (x6 : Int32) (x7 : Int32) (s0 : Int32) (h : AH) (q : Unit × AH) (hf : f_X12_emptyQueue_86 a0 x1 x2 x5 x6 x7 s0 h = some q) : Go Ω M_X12_emptyQueue 86 [(0, vR Ω (some a0)), (1, .int x1), (2, .int x2), (5, .int x5), (6, .int x6), (7, .int x7)] [.int s0] h none q.2 := by
  unfold f_X12_emptyQueue_86 at hf
  refine go_istore (i := 8) (lv' := [(8, .int s0), (0, vR Ω (some a0)), (1, .int x1), (2, .int x2), (5, .int x5), (6, .int x6), (7, .int x7)]) dX12_emptyQueue_86 (by decide) (by first | rfl | simp [catR, catI, catJ]) ?_
  refine go_iload dX12_emptyQueue_88 4 rfl ?_
  refine go_iconst 2 dX12_emptyQueue_90 rfl ?_
  obtain ⟨hz0, hf⟩ := nz_some hf
  refine go_idiv dX12_emptyQueue_91 hz0 ?_
  refine go_iconst 2 dX12_emptyQueue_92 rfl ?_
  obtain ⟨hz0, hf⟩ := nz_some hf
  refine go_irem dX12_emptyQueue_93 hz0 ?_
  refine go_iconst 1 dX12_emptyQueue_94 rfl ?_
  refine go_icmp_ne (tgt := 111) dX12_emptyQueue_95 (by decide) hf (fun hf => ?_) (fun hf => ?_)
  · refine go_iconst 0 dX12_emptyQueue_111 rfl ?_
    refine go_sub (lv' := [(0, vR Ω (some a0)), (1, .int x1), (2, .int x2), (6, .int x6), (7, .int x7), (8, .int s0)]) [1, 2, 3, 5, 6, 0] rfl ?_
    exact t_X12_emptyQueue_112 a0 x1 x2 x6 x7 s0 0 h q hf
  · refine go_aload_n dX12_emptyQueue_98 rfl 1 rfl ?_
    refine go_iload dX12_emptyQueue_99 6 rfl ?_
    obtain ⟨hk, hf⟩ := kg_some hf
    obtain ⟨z_1, hc, hf⟩ := bd_some hf
    refine go_callV (y2 := M_X12_waiting) (c2 := 13) dX12_emptyQueue_101 mo_X12_waiting ⟨Nat.le_of_ble_eq_true rfl, Nat.le_of_ble_eq_true rfl⟩ na_X12_waiting w1467 w1469 (by decide) rfl w84 hk [.int x7] rfl (n_X12_waiting (a0) x7) rfl (csum (Nat.le_of_ble_eq_true rfl)) (t_X12_waiting (a0) x7 h _ hc) ?_
    obtain ⟨x_3, h_2⟩ := z_1
    refine go_if_le (tgt := 111) dX12_emptyQueue_104 (by decide) hf (fun hf => ?_) (fun hf => ?_)
    · refine go_iconst 0 dX12_emptyQueue_111 rfl ?_
      refine go_sub (lv' := [(0, vR Ω (some a0)), (1, .int x1), (2, .int x2), (6, .int x6), (7, .int x7), (8, .int s0)]) [1, 2, 3, 5, 6, 0] rfl ?_
      exact t_X12_emptyQueue_112 a0 x1 x2 x6 x7 s0 0 h_2 q hf
    · refine go_iconst 1 dX12_emptyQueue_107 rfl ?_
      refine go_goto (tgt := 112) dX12_emptyQueue_108 (by decide) ?_
      refine go_sub (lv' := [(0, vR Ω (some a0)), (1, .int x1), (2, .int x2), (6, .int x6), (7, .int x7), (8, .int s0)]) [1, 2, 3, 5, 6, 0] rfl ?_
      exact t_X12_emptyQueue_112 a0 x1 x2 x6 x7 s0 1 h_2 q hf
def f_X12_emptyQueue_24 (a0 : Nat) (x1 : Int32) (x2 : Int32) (x3 : Int64) (s0 : Int32) (h : AH) : Option (Unit × AH) := kg h a0 13 (bd (f_X12_isJust a0 h) fun x_3 h_2 =>
  (if x_3 = 0 then
    some ((), h_2)
  else
    kg h_2 a0 13 (bd (f_X12_queueOf a0 x3 h_2) fun x_6 h_5 =>
    (if 0 ≤ x_6 then
      rdR h_5 a0 13 11 fun r_7 =>
      nn r_7 fun a_8 =>
      arI h_5 a_8 x_6 fun x_9 =>
      nz 2 (
      (if (s0 - s0 / 2 * 2) = 1 then
        kg h_5 a0 13 (bd (f_X12_consumersOf a0 x_9 h_5) fun x_12 h_11 =>
        (if x_12 ≤ 0 then
          f_X12_emptyQueue_86 a0 x1 x2 s0 x_6 x_9 0 h_11
        else
          f_X12_emptyQueue_86 a0 x1 x2 s0 x_6 x_9 1 h_11))
      else
        f_X12_emptyQueue_86 a0 x1 x2 s0 x_6 x_9 0 h_5))
    else
      kg h_5 a0 13 (bd (f_X12_soft a0 x2 404 h_5) fun _ h_14 =>
      some ((), h_14))))))
set_option maxRecDepth 20000 in
set_option maxHeartbeats 4000000 in
theorem t_X12_emptyQueue_24 {Ω : Om} (a0 : Nat) (x1 : Int32) (x2 : Int32) (x3 : Int64) (s0 : Int32) (h : AH) (q : Unit × AH) (hf : f_X12_emptyQueue_24 a0 x1 x2 x3 s0 h = some q) : Go Ω M_X12_emptyQueue 24 [(0, vR Ω (some a0)), (1, .int x1), (2, .int x2), (3, .long x3)] [.int s0] h none q.2 := by
  unfold f_X12_emptyQueue_24 at hf
  refine go_istore (i := 5) (lv' := [(5, .int s0), (0, vR Ω (some a0)), (1, .int x1), (2, .int x2), (3, .long x3)]) dX12_emptyQueue_24 (by decide) (by first | rfl | simp [catR, catI, catJ]) ?_
  refine go_aload_n dX12_emptyQueue_26 rfl 1 rfl ?_
  obtain ⟨hk, hf⟩ := kg_some hf
  obtain ⟨z_1, hc, hf⟩ := bd_some hf
  refine go_callV (y2 := M_X12_isJust) (c2 := 13) dX12_emptyQueue_27 mo_X12_isJust ⟨Nat.le_of_ble_eq_true rfl, Nat.le_of_ble_eq_true rfl⟩ na_X12_isJust w1405 w1407 (by decide) rfl w70 hk [] rfl (n_X12_isJust (a0)) rfl (csum (Nat.le_of_ble_eq_true rfl)) (t_X12_isJust (a0) h _ hc) ?_
  obtain ⟨x_3, h_2⟩ := z_1
  refine go_if_ne (tgt := 34) dX12_emptyQueue_30 (by decide) hf (fun hf => ?_) (fun hf => ?_)
  · refine go_aload_n dX12_emptyQueue_34 rfl 1 rfl ?_
    refine go_lload_n dX12_emptyQueue_35 rfl 4 rfl ?_
    obtain ⟨hk, hf⟩ := kg_some hf
    obtain ⟨z_4, hc, hf⟩ := bd_some hf
    refine go_callV (y2 := M_X12_queueOf) (c2 := 13) dX12_emptyQueue_36 mo_X12_queueOf ⟨Nat.le_of_ble_eq_true rfl, Nat.le_of_ble_eq_true rfl⟩ na_X12_queueOf w1456 w1458 (by decide) rfl w82 hk [.long x3] rfl (n_X12_queueOf (a0) x3) rfl (csum (Nat.le_of_ble_eq_true rfl)) (t_X12_queueOf (a0) x3 h_2 _ hc) ?_
    obtain ⟨x_6, h_5⟩ := z_4
    refine go_istore (i := 6) (lv' := [(6, .int x_6), (5, .int s0), (0, vR Ω (some a0)), (1, .int x1), (2, .int x2), (3, .long x3)]) dX12_emptyQueue_39 (by decide) (by first | rfl | simp [catR, catI, catJ]) ?_
    refine go_iload dX12_emptyQueue_41 0 rfl ?_
    refine go_if_ge (tgt := 55) dX12_emptyQueue_43 (by decide) hf (fun hf => ?_) (fun hf => ?_)
    · refine go_aload_n dX12_emptyQueue_55 rfl 2 rfl ?_
      refine go_getR dX12_emptyQueue_56 fl_1130_0 (fun _ _ => rfl) hf (fun r_7 hf => ?_)
      refine go_iload dX12_emptyQueue_59 0 rfl ?_
      obtain ⟨a_8, rfl, hga_8⟩ := nn_some hf
      have hf := hga_8
      refine go_iaload dX12_emptyQueue_61 hf (fun x_9 hf => ?_)
      refine go_istore (i := 7) (lv' := [(7, .int x_9), (6, .int x_6), (5, .int s0), (0, vR Ω (some a0)), (1, .int x1), (2, .int x2), (3, .long x3)]) dX12_emptyQueue_62 (by decide) (by first | rfl | simp [catR, catI, catJ]) ?_
      refine go_iload dX12_emptyQueue_64 2 rfl ?_
      refine go_iconst 2 dX12_emptyQueue_66 rfl ?_
      obtain ⟨hz0, hf⟩ := nz_some hf
      refine go_irem dX12_emptyQueue_67 hz0 ?_
      refine go_iconst 1 dX12_emptyQueue_68 rfl ?_
      refine go_icmp_ne (tgt := 85) dX12_emptyQueue_69 (by decide) hf (fun hf => ?_) (fun hf => ?_)
      · refine go_iconst 0 dX12_emptyQueue_85 rfl ?_
        refine go_sub (lv' := [(0, vR Ω (some a0)), (1, .int x1), (2, .int x2), (5, .int s0), (6, .int x_6), (7, .int x_9)]) [3, 4, 5, 2, 1, 0] rfl ?_
        exact t_X12_emptyQueue_86 a0 x1 x2 s0 x_6 x_9 0 h_5 q hf
      · refine go_aload_n dX12_emptyQueue_72 rfl 3 rfl ?_
        refine go_iload dX12_emptyQueue_73 0 rfl ?_
        obtain ⟨hk, hf⟩ := kg_some hf
        obtain ⟨z_10, hc, hf⟩ := bd_some hf
        refine go_callV (y2 := M_X12_consumersOf) (c2 := 13) dX12_emptyQueue_75 mo_X12_consumersOf ⟨Nat.le_of_ble_eq_true rfl, Nat.le_of_ble_eq_true rfl⟩ na_X12_consumersOf w1471 w1473 (by decide) rfl w85 hk [.int x_9] rfl (n_X12_consumersOf (a0) x_9) rfl (csum (Nat.le_of_ble_eq_true rfl)) (t_X12_consumersOf (a0) x_9 h_5 _ hc) ?_
        obtain ⟨x_12, h_11⟩ := z_10
        refine go_if_le (tgt := 85) dX12_emptyQueue_78 (by decide) hf (fun hf => ?_) (fun hf => ?_)
        · refine go_iconst 0 dX12_emptyQueue_85 rfl ?_
          refine go_sub (lv' := [(0, vR Ω (some a0)), (1, .int x1), (2, .int x2), (5, .int s0), (6, .int x_6), (7, .int x_9)]) [3, 4, 5, 2, 1, 0] rfl ?_
          exact t_X12_emptyQueue_86 a0 x1 x2 s0 x_6 x_9 0 h_11 q hf
        · refine go_iconst 1 dX12_emptyQueue_81 rfl ?_
          refine go_goto (tgt := 86) dX12_emptyQueue_82 (by decide) ?_
          refine go_sub (lv' := [(0, vR Ω (some a0)), (1, .int x1), (2, .int x2), (5, .int s0), (6, .int x_6), (7, .int x_9)]) [3, 4, 5, 2, 1, 0] rfl ?_
          exact t_X12_emptyQueue_86 a0 x1 x2 s0 x_6 x_9 1 h_11 q hf
    · refine go_aload_n dX12_emptyQueue_46 rfl 2 rfl ?_
      refine go_iload_n dX12_emptyQueue_47 rfl 4 rfl ?_
      refine go_sipush 404 dX12_emptyQueue_48 (by decide) ?_
      obtain ⟨hk, hf⟩ := kg_some hf
      obtain ⟨z_13, hc, hf⟩ := bd_some hf
      refine go_callV (y2 := M_X12_soft) (c2 := 13) dX12_emptyQueue_51 mo_X12_soft ⟨Nat.le_of_ble_eq_true rfl, Nat.le_of_ble_eq_true rfl⟩ na_X12_soft w1432 w1434 (by decide) rfl w76 hk [.int x2, .int 404] rfl (n_X12_soft (a0) x2 404) rfl (csum (Nat.le_of_ble_eq_true rfl)) (t_X12_soft (a0) x2 404 h_5 _ hc) ?_
      obtain ⟨_, h_14⟩ := z_13
      exact go_return dX12_emptyQueue_54 rfl hf
  · exact go_return dX12_emptyQueue_33 rfl hf
def f_X12_emptyQueue (a0 : Nat) (x1 : Int32) (h : AH) : Option (Unit × AH) := rdI h a0 13 54 fun x_1 =>
  kg h a0 13 (bd (f_X12_nextName a0 h) fun x_4 h_3 =>
  (if x1 = 40 then
    kg h_3 a0 13 (bd (f_X12_next a0 h_3) fun x_7 h_6 =>
    f_X12_emptyQueue_24 a0 x1 x_1 x_4 x_7 h_6)
  else
    f_X12_emptyQueue_24 a0 x1 x_1 x_4 0 h_3))
set_option maxRecDepth 20000 in
set_option maxHeartbeats 4000000 in
theorem t_X12_emptyQueue {Ω : Om} (a0 : Nat) (x1 : Int32) (h : AH) (q : Unit × AH) (hf : f_X12_emptyQueue a0 x1 h = some q) : Go Ω M_X12_emptyQueue 0 (lv_args 0 [vR Ω (some a0), .int x1]) [] h none q.2 := by
  unfold f_X12_emptyQueue at hf
  rw [la_R, la_I, la_0]
  refine go_sub (lv' := [(0, vR Ω (some a0)), (1, .int x1)]) [0, 1] rfl ?_
  refine go_aload_n dX12_emptyQueue_0 rfl 0 rfl ?_
  refine go_getI dX12_emptyQueue_1 fl_1173_0 (fun _ _ => rfl) hf (fun x_1 hf => ?_)
  refine go_istore_n (i := 2) (lv' := [(2, .int x_1), (0, vR Ω (some a0)), (1, .int x1)]) dX12_emptyQueue_4 rfl (by decide) (by first | rfl | simp [catR, catI, catJ]) ?_
  refine go_aload_n dX12_emptyQueue_5 rfl 1 rfl ?_
  obtain ⟨hk, hf⟩ := kg_some hf
  obtain ⟨z_2, hc, hf⟩ := bd_some hf
  refine go_callV (y2 := M_X12_nextName) (c2 := 13) dX12_emptyQueue_6 mo_X12_nextName ⟨Nat.le_of_ble_eq_true rfl, Nat.le_of_ble_eq_true rfl⟩ na_X12_nextName w1420 w1422 (by decide) rfl w73 hk [] rfl (n_X12_nextName (a0)) rfl (csum (Nat.le_of_ble_eq_true rfl)) (t_X12_nextName (a0) h _ hc) ?_
  obtain ⟨x_4, h_3⟩ := z_2
  refine go_lstore_n (i := 3) (lv' := [(3, .long x_4), (2, .int x_1), (0, vR Ω (some a0)), (1, .int x1)]) dX12_emptyQueue_9 rfl (by decide) (by first | rfl | simp [catR, catI, catJ]) ?_
  refine go_iload_n dX12_emptyQueue_10 rfl 3 rfl ?_
  refine go_bipush 40 dX12_emptyQueue_11 (by decide) ?_
  refine go_icmp_ne (tgt := 23) dX12_emptyQueue_13 (by decide) hf (fun hf => ?_) (fun hf => ?_)
  · refine go_iconst 0 dX12_emptyQueue_23 rfl ?_
    refine go_sub (lv' := [(0, vR Ω (some a0)), (1, .int x1), (2, .int x_1), (3, .long x_4)]) [2, 3, 1, 0] rfl ?_
    exact t_X12_emptyQueue_24 a0 x1 x_1 x_4 0 h_3 q hf
  · refine go_aload_n dX12_emptyQueue_16 rfl 2 rfl ?_
    obtain ⟨hk, hf⟩ := kg_some hf
    obtain ⟨z_5, hc, hf⟩ := bd_some hf
    refine go_callV (y2 := M_X12_next) (c2 := 13) dX12_emptyQueue_17 mo_X12_next ⟨Nat.le_of_ble_eq_true rfl, Nat.le_of_ble_eq_true rfl⟩ na_X12_next w1397 w1399 (by decide) rfl w68 hk [] rfl (n_X12_next (a0)) rfl (csum (Nat.le_of_ble_eq_true rfl)) (t_X12_next (a0) h_3 _ hc) ?_
    obtain ⟨x_7, h_6⟩ := z_5
    refine go_goto (tgt := 24) dX12_emptyQueue_20 (by decide) ?_
    refine go_sub (lv' := [(0, vR Ω (some a0)), (1, .int x1), (2, .int x_1), (3, .long x_4)]) [2, 3, 1, 0] rfl ?_
    exact t_X12_emptyQueue_24 a0 x1 x_1 x_4 x_7 h_6 q hf
-- LetterBrokerModel.queueMethod(I)V
theorem dX12_queueMethod_0 : decode cX12_queueMethod 0 = .ok (.iload_n 1, 1) := by decide +kernel
theorem dX12_queueMethod_1 : decode cX12_queueMethod 1 = .ok (.bipush 10, 2) := by decide +kernel
theorem dX12_queueMethod_3 : decode cX12_queueMethod 3 = .ok (.if_icmp .ne 10, 3) := by decide +kernel
theorem dX12_queueMethod_6 : decode cX12_queueMethod 6 = .ok (.aload_n 0, 1) := by decide +kernel
theorem dX12_queueMethod_7 : decode cX12_queueMethod 7 = .ok (.invokevirtual 364, 3) := by decide +kernel
theorem dX12_queueMethod_10 : decode cX12_queueMethod 10 = .ok (.goto 28, 3) := by decide +kernel
theorem dX12_queueMethod_13 : decode cX12_queueMethod 13 = .ok (.iload_n 1, 1) := by decide +kernel
theorem dX12_queueMethod_14 : decode cX12_queueMethod 14 = .ok (.bipush 20, 2) := by decide +kernel
theorem dX12_queueMethod_16 : decode cX12_queueMethod 16 = .ok (.if_icmp .eq 9, 3) := by decide +kernel
theorem dX12_queueMethod_19 : decode cX12_queueMethod 19 = .ok (.iload_n 1, 1) := by decide +kernel
theorem dX12_queueMethod_20 : decode cX12_queueMethod 20 = .ok (.bipush 50, 2) := by decide +kernel
theorem dX12_queueMethod_22 : decode cX12_queueMethod 22 = .ok (.if_icmp .ne 11, 3) := by decide +kernel
theorem dX12_queueMethod_25 : decode cX12_queueMethod 25 = .ok (.aload_n 0, 1) := by decide +kernel
theorem dX12_queueMethod_26 : decode cX12_queueMethod 26 = .ok (.iload_n 1, 1) := by decide +kernel
theorem dX12_queueMethod_27 : decode cX12_queueMethod 27 = .ok (.invokevirtual 367, 3) := by decide +kernel
theorem dX12_queueMethod_30 : decode cX12_queueMethod 30 = .ok (.goto 8, 3) := by decide +kernel
theorem dX12_queueMethod_33 : decode cX12_queueMethod 33 = .ok (.aload_n 0, 1) := by decide +kernel
theorem dX12_queueMethod_34 : decode cX12_queueMethod 34 = .ok (.iload_n 1, 1) := by decide +kernel
theorem dX12_queueMethod_35 : decode cX12_queueMethod 35 = .ok (.invokevirtual 370, 3) := by decide +kernel
theorem dX12_queueMethod_38 : decode cX12_queueMethod 38 = .ok (.return_, 1) := by decide +kernel
def f_X12_queueMethod_25 (a0 : Nat) (x1 : Int32) (h : AH) : Option (Unit × AH) := kg h a0 13 (bd (f_X12_bind a0 x1 h) fun _ h_2 =>
  some ((), h_2))
set_option maxRecDepth 20000 in
set_option maxHeartbeats 4000000 in
theorem t_X12_queueMethod_25 {Ω : Om} (a0 : Nat) (x1 : Int32) (h : AH) (q : Unit × AH) (hf : f_X12_queueMethod_25 a0 x1 h = some q) : Go Ω M_X12_queueMethod 25 [(0, vR Ω (some a0)), (1, .int x1)] [] h none q.2 := by
  unfold f_X12_queueMethod_25 at hf
  refine go_aload_n dX12_queueMethod_25 rfl 0 rfl ?_
  refine go_iload_n dX12_queueMethod_26 rfl 1 rfl ?_
  obtain ⟨hk, hf⟩ := kg_some hf
  obtain ⟨z_1, hc, hf⟩ := bd_some hf
  refine go_callV (y2 := M_X12_bind) (c2 := 13) dX12_queueMethod_27 mo_X12_bind ⟨Nat.le_of_ble_eq_true rfl, Nat.le_of_ble_eq_true rfl⟩ na_X12_bind w1475 w1477 (by decide) rfl w86 hk [.int x1] rfl (n_X12_bind (a0) x1) rfl (csum (Nat.le_of_ble_eq_true rfl)) (t_X12_bind (a0) x1 h _ hc) ?_
  obtain ⟨_, h_2⟩ := z_1
  refine go_goto (tgt := 38) dX12_queueMethod_30 (by decide) ?_
  exact go_return dX12_queueMethod_38 rfl hf
def f_X12_queueMethod (a0 : Nat) (x1 : Int32) (h : AH) : Option (Unit × AH) := (if x1 = 10 then
    kg h a0 13 (bd (f_X12_declareQueue a0 h) fun _ h_4 =>
    some ((), h_4))
  else
    (if x1 = 20 then
      f_X12_queueMethod_25 a0 x1 h
    else
      (if x1 = 50 then
        f_X12_queueMethod_25 a0 x1 h
      else
        kg h a0 13 (bd (f_X12_emptyQueue a0 x1 h) fun _ h_2 =>
        some ((), h_2)))))
set_option maxRecDepth 20000 in
set_option maxHeartbeats 4000000 in
theorem t_X12_queueMethod {Ω : Om} (a0 : Nat) (x1 : Int32) (h : AH) (q : Unit × AH) (hf : f_X12_queueMethod a0 x1 h = some q) : Go Ω M_X12_queueMethod 0 (lv_args 0 [vR Ω (some a0), .int x1]) [] h none q.2 := by
  unfold f_X12_queueMethod at hf
  rw [la_R, la_I, la_0]
  refine go_sub (lv' := [(0, vR Ω (some a0)), (1, .int x1)]) [0, 1] rfl ?_
  refine go_iload_n dX12_queueMethod_0 rfl 1 rfl ?_
  refine go_bipush 10 dX12_queueMethod_1 (by decide) ?_
  refine go_icmp_ne (tgt := 13) dX12_queueMethod_3 (by decide) hf (fun hf => ?_) (fun hf => ?_)
  · refine go_iload_n dX12_queueMethod_13 rfl 1 rfl ?_
    refine go_bipush 20 dX12_queueMethod_14 (by decide) ?_
    refine go_icmp_eq (tgt := 25) dX12_queueMethod_16 (by decide) hf (fun hf => ?_) (fun hf => ?_)
    · refine go_sub (lv' := [(0, vR Ω (some a0)), (1, .int x1)]) [0, 1] rfl ?_
      exact t_X12_queueMethod_25 a0 x1 h q hf
    · refine go_iload_n dX12_queueMethod_19 rfl 1 rfl ?_
      refine go_bipush 50 dX12_queueMethod_20 (by decide) ?_
      refine go_icmp_ne (tgt := 33) dX12_queueMethod_22 (by decide) hf (fun hf => ?_) (fun hf => ?_)
      · refine go_aload_n dX12_queueMethod_33 rfl 0 rfl ?_
        refine go_iload_n dX12_queueMethod_34 rfl 1 rfl ?_
        obtain ⟨hk, hf⟩ := kg_some hf
        obtain ⟨z_1, hc, hf⟩ := bd_some hf
        refine go_callV (y2 := M_X12_emptyQueue) (c2 := 13) dX12_queueMethod_35 mo_X12_emptyQueue ⟨Nat.le_of_ble_eq_true rfl, Nat.le_of_ble_eq_true rfl⟩ na_X12_emptyQueue w1483 w1485 (by decide) rfl w88 hk [.int x1] rfl (n_X12_emptyQueue (a0) x1) rfl (csum (Nat.le_of_ble_eq_true rfl)) (t_X12_emptyQueue (a0) x1 h _ hc) ?_
        obtain ⟨_, h_2⟩ := z_1
        exact go_return dX12_queueMethod_38 rfl hf
      · refine go_sub (lv' := [(0, vR Ω (some a0)), (1, .int x1)]) [0, 1] rfl ?_
        exact t_X12_queueMethod_25 a0 x1 h q hf
  · refine go_aload_n dX12_queueMethod_6 rfl 0 rfl ?_
    obtain ⟨hk, hf⟩ := kg_some hf
    obtain ⟨z_3, hc, hf⟩ := bd_some hf
    refine go_callV (y2 := M_X12_declareQueue) (c2 := 13) dX12_queueMethod_7 mo_X12_declareQueue ⟨Nat.le_of_ble_eq_true rfl, Nat.le_of_ble_eq_true rfl⟩ na_X12_declareQueue w1452 w1454 (by decide) rfl w81 hk [] rfl (n_X12_declareQueue (a0)) rfl (csum (Nat.le_of_ble_eq_true rfl)) (t_X12_declareQueue (a0) h _ hc) ?_
    obtain ⟨_, h_4⟩ := z_3
    refine go_goto (tgt := 38) dX12_queueMethod_10 (by decide) ?_
    exact go_return dX12_queueMethod_38 rfl hf
-- LetterBrokerModel.commit(I)V
theorem dX12_commit_0 : decode cX12_commit 0 = .ok (.aload_n 0, 1) := by decide +kernel
theorem dX12_commit_1 : decode cX12_commit 1 = .ok (.getfield 124, 3) := by decide +kernel
theorem dX12_commit_4 : decode cX12_commit 4 = .ok (.iload_n 1, 1) := by decide +kernel
theorem dX12_commit_5 : decode cX12_commit 5 = .ok (.iaload, 1) := by decide +kernel
theorem dX12_commit_6 : decode cX12_commit 6 = .ok (.istore_n 2, 1) := by decide +kernel
theorem dX12_commit_7 : decode cX12_commit 7 = .ok (.aload_n 0, 1) := by decide +kernel
theorem dX12_commit_8 : decode cX12_commit 8 = .ok (.getfield 124, 3) := by decide +kernel
theorem dX12_commit_11 : decode cX12_commit 11 = .ok (.iload_n 1, 1) := by decide +kernel
theorem dX12_commit_12 : decode cX12_commit 12 = .ok (.iconst 0, 1) := by decide +kernel
theorem dX12_commit_13 : decode cX12_commit 13 = .ok (.iastore, 1) := by decide +kernel
theorem dX12_commit_14 : decode cX12_commit 14 = .ok (.iconst 1, 1) := by decide +kernel
theorem dX12_commit_15 : decode cX12_commit 15 = .ok (.istore_n 3, 1) := by decide +kernel
theorem dX12_commit_16 : decode cX12_commit 16 = .ok (.bipush 12, 2) := by decide +kernel
theorem dX12_commit_18 : decode cX12_commit 18 = .ok (.iload_n 1, 1) := by decide +kernel
theorem dX12_commit_19 : decode cX12_commit 19 = .ok (.imul, 1) := by decide +kernel
theorem dX12_commit_20 : decode cX12_commit 20 = .ok (.istore 4, 2) := by decide +kernel
theorem dX12_commit_22 : decode cX12_commit 22 = .ok (.iload 4, 2) := by decide +kernel
theorem dX12_commit_24 : decode cX12_commit 24 = .ok (.bipush 12, 2) := by decide +kernel
theorem dX12_commit_26 : decode cX12_commit 26 = .ok (.iload_n 1, 1) := by decide +kernel
theorem dX12_commit_27 : decode cX12_commit 27 = .ok (.imul, 1) := by decide +kernel
theorem dX12_commit_28 : decode cX12_commit 28 = .ok (.iload_n 2, 1) := by decide +kernel
theorem dX12_commit_29 : decode cX12_commit 29 = .ok (.iadd, 1) := by decide +kernel
theorem dX12_commit_30 : decode cX12_commit 30 = .ok (.if_icmp .ge 94, 3) := by decide +kernel
theorem dX12_commit_33 : decode cX12_commit 33 = .ok (.iload_n 3, 1) := by decide +kernel
theorem dX12_commit_34 : decode cX12_commit 34 = .ok (.ifCond .eq 90, 3) := by decide +kernel
theorem dX12_commit_37 : decode cX12_commit 37 = .ok (.aload_n 0, 1) := by decide +kernel
theorem dX12_commit_38 : decode cX12_commit 38 = .ok (.getfield 127, 3) := by decide +kernel
theorem dX12_commit_41 : decode cX12_commit 41 = .ok (.iload 4, 2) := by decide +kernel
theorem dX12_commit_43 : decode cX12_commit 43 = .ok (.iaload, 1) := by decide +kernel
theorem dX12_commit_44 : decode cX12_commit 44 = .ok (.ifCond .ne 47, 3) := by decide +kernel
theorem dX12_commit_47 : decode cX12_commit 47 = .ok (.aload_n 0, 1) := by decide +kernel
theorem dX12_commit_48 : decode cX12_commit 48 = .ok (.iload_n 1, 1) := by decide +kernel
theorem dX12_commit_49 : decode cX12_commit 49 = .ok (.aload_n 0, 1) := by decide +kernel
theorem dX12_commit_50 : decode cX12_commit 50 = .ok (.getfield 130, 3) := by decide +kernel
theorem dX12_commit_53 : decode cX12_commit 53 = .ok (.iload 4, 2) := by decide +kernel
theorem dX12_commit_55 : decode cX12_commit 55 = .ok (.laload, 1) := by decide +kernel
theorem dX12_commit_56 : decode cX12_commit 56 = .ok (.aload_n 0, 1) := by decide +kernel
theorem dX12_commit_57 : decode cX12_commit 57 = .ok (.getfield 133, 3) := by decide +kernel
theorem dX12_commit_60 : decode cX12_commit 60 = .ok (.iload 4, 2) := by decide +kernel
theorem dX12_commit_62 : decode cX12_commit 62 = .ok (.laload, 1) := by decide +kernel
theorem dX12_commit_63 : decode cX12_commit 63 = .ok (.aload_n 0, 1) := by decide +kernel
theorem dX12_commit_64 : decode cX12_commit 64 = .ok (.getfield 136, 3) := by decide +kernel
theorem dX12_commit_67 : decode cX12_commit 67 = .ok (.iload 4, 2) := by decide +kernel
theorem dX12_commit_69 : decode cX12_commit 69 = .ok (.baload, 1) := by decide +kernel
theorem dX12_commit_70 : decode cX12_commit 70 = .ok (.aload_n 0, 1) := by decide +kernel
theorem dX12_commit_71 : decode cX12_commit 71 = .ok (.getfield 139, 3) := by decide +kernel
theorem dX12_commit_74 : decode cX12_commit 74 = .ok (.iload 4, 2) := by decide +kernel
theorem dX12_commit_76 : decode cX12_commit 76 = .ok (.iaload, 1) := by decide +kernel
theorem dX12_commit_77 : decode cX12_commit 77 = .ok (.aload_n 0, 1) := by decide +kernel
theorem dX12_commit_78 : decode cX12_commit 78 = .ok (.getfield 142, 3) := by decide +kernel
theorem dX12_commit_81 : decode cX12_commit 81 = .ok (.iload 4, 2) := by decide +kernel
theorem dX12_commit_83 : decode cX12_commit 83 = .ok (.laload, 1) := by decide +kernel
theorem dX12_commit_84 : decode cX12_commit 84 = .ok (.invokevirtual 266, 3) := by decide +kernel
theorem dX12_commit_87 : decode cX12_commit 87 = .ok (.istore_n 3, 1) := by decide +kernel
theorem dX12_commit_88 : decode cX12_commit 88 = .ok (.goto 30, 3) := by decide +kernel
theorem dX12_commit_91 : decode cX12_commit 91 = .ok (.aload_n 0, 1) := by decide +kernel
theorem dX12_commit_92 : decode cX12_commit 92 = .ok (.iload_n 1, 1) := by decide +kernel
theorem dX12_commit_93 : decode cX12_commit 93 = .ok (.aload_n 0, 1) := by decide +kernel
theorem dX12_commit_94 : decode cX12_commit 94 = .ok (.getfield 127, 3) := by decide +kernel
theorem dX12_commit_97 : decode cX12_commit 97 = .ok (.iload 4, 2) := by decide +kernel
theorem dX12_commit_99 : decode cX12_commit 99 = .ok (.iaload, 1) := by decide +kernel
theorem dX12_commit_100 : decode cX12_commit 100 = .ok (.aload_n 0, 1) := by decide +kernel
theorem dX12_commit_101 : decode cX12_commit 101 = .ok (.getfield 130, 3) := by decide +kernel
theorem dX12_commit_104 : decode cX12_commit 104 = .ok (.iload 4, 2) := by decide +kernel
theorem dX12_commit_106 : decode cX12_commit 106 = .ok (.laload, 1) := by decide +kernel
theorem dX12_commit_107 : decode cX12_commit 107 = .ok (.l2i, 1) := by decide +kernel
theorem dX12_commit_108 : decode cX12_commit 108 = .ok (.aload_n 0, 1) := by decide +kernel
theorem dX12_commit_109 : decode cX12_commit 109 = .ok (.getfield 136, 3) := by decide +kernel
theorem dX12_commit_112 : decode cX12_commit 112 = .ok (.iload 4, 2) := by decide +kernel
theorem dX12_commit_114 : decode cX12_commit 114 = .ok (.baload, 1) := by decide +kernel
theorem dX12_commit_115 : decode cX12_commit 115 = .ok (.invokevirtual 274, 3) := by decide +kernel
theorem dX12_commit_118 : decode cX12_commit 118 = .ok (.iinc 4 1, 3) := by decide +kernel
theorem dX12_commit_121 : decode cX12_commit 121 = .ok (.goto (-99), 3) := by decide +kernel
theorem dX12_commit_124 : decode cX12_commit 124 = .ok (.iload_n 3, 1) := by decide +kernel
theorem dX12_commit_125 : decode cX12_commit 125 = .ok (.ifCond .eq 12, 3) := by decide +kernel
theorem dX12_commit_128 : decode cX12_commit 128 = .ok (.aload_n 0, 1) := by decide +kernel
theorem dX12_commit_129 : decode cX12_commit 129 = .ok (.iload_n 1, 1) := by decide +kernel
theorem dX12_commit_130 : decode cX12_commit 130 = .ok (.bipush 90, 2) := by decide +kernel
theorem dX12_commit_132 : decode cX12_commit 132 = .ok (.bipush 21, 2) := by decide +kernel
theorem dX12_commit_134 : decode cX12_commit 134 = .ok (.invokevirtual 278, 3) := by decide +kernel
theorem dX12_commit_137 : decode cX12_commit 137 = .ok (.return_, 1) := by decide +kernel
def f_X12_commit_118 (k22 : Nat → Int32 → Int32 → Int32 → Int32 → AH → Option (Unit × AH)) (a0 : Nat) (x1 : Int32) (x2 : Int32) (x3 : Int32) (x4 : Int32) (h : AH) : Option (Unit × AH) := k22 a0 x1 x2 x3 (x4 + 1) h
set_option maxRecDepth 20000 in
set_option maxHeartbeats 4000000 in
theorem t_X12_commit_118 {Ω : Om} {k22 : Nat → Int32 → Int32 → Int32 → Int32 → AH → Option (Unit × AH)} (c22 : ∀ (a0 : Nat) (x1 : Int32) (x2 : Int32) (x3 : Int32) (x4 : Int32) (h : AH) (q : Unit × AH), k22 a0 x1 x2 x3 x4 h = some q → Go Ω M_X12_commit 22 [(0, vR Ω (some a0)), (1, .int x1), (2, .int x2), (3, .int x3), (4, .int x4)] [] h none q.2) (a0 : Nat) (x1 : Int32) (x2 : Int32) (x3 : Int32) (x4 : Int32) (h : AH) (q : Unit × AH) (hf : f_X12_commit_118 k22 a0 x1 x2 x3 x4 h = some q) : Go Ω M_X12_commit 118 [(0, vR Ω (some a0)), (1, .int x1), (2, .int x2), (3, .int x3), (4, .int x4)] [] h none q.2 := by
  unfold f_X12_commit_118 at hf
  refine go_iinc (j := 4) (v := x4 + 1) (lv' := [(4, .int (x4 + 1)), (0, vR Ω (some a0)), (1, .int x1), (2, .int x2), (3, .int x3)]) dX12_commit_118 rfl rfl (by decide) (by first | rfl | simp [catR, catI, catJ]) ?_
  refine go_goto (tgt := 22) dX12_commit_121 (by decide) ?_
  refine go_sub (lv' := [(0, vR Ω (some a0)), (1, .int x1), (2, .int x2), (3, .int x3), (4, .int (x4 + 1))]) [1, 2, 3, 4, 0] rfl ?_
  exact c22 a0 x1 x2 x3 (x4 + 1) h q hf
def f_X12_commit_124 (a0 : Nat) (x1 : Int32) (x3 : Int32) (h : AH) : Option (Unit × AH) := (if x3 = 0 then
    some ((), h)
  else
    kg h a0 13 (bd (f_X12_say a0 x1 90 21 h) fun _ h_2 =>
    some ((), h_2)))
set_option maxRecDepth 20000 in
set_option maxHeartbeats 4000000 in
theorem t_X12_commit_124 {Ω : Om} (a0 : Nat) (x1 : Int32) (x3 : Int32) (h : AH) (q : Unit × AH) (hf : f_X12_commit_124 a0 x1 x3 h = some q) : Go Ω M_X12_commit 124 [(0, vR Ω (some a0)), (1, .int x1), (3, .int x3)] [] h none q.2 := by
  unfold f_X12_commit_124 at hf
  refine go_iload_n dX12_commit_124 rfl 2 rfl ?_
  refine go_if_eq (tgt := 137) dX12_commit_125 (by decide) hf (fun hf => ?_) (fun hf => ?_)
  · exact go_return dX12_commit_137 rfl hf
  · refine go_aload_n dX12_commit_128 rfl 0 rfl ?_
    refine go_iload_n dX12_commit_129 rfl 1 rfl ?_
    refine go_bipush 90 dX12_commit_130 (by decide) ?_
    refine go_bipush 21 dX12_commit_132 (by decide) ?_
    obtain ⟨hk, hf⟩ := kg_some hf
    obtain ⟨z_1, hc, hf⟩ := bd_some hf
    refine go_callV (y2 := M_X12_say) (c2 := 13) dX12_commit_134 mo_X12_say ⟨Nat.le_of_ble_eq_true rfl, Nat.le_of_ble_eq_true rfl⟩ na_X12_say w1381 w1383 (by decide) rfl w64 hk [.int x1, .int 90, .int 21] rfl (n_X12_say (a0) x1 90 21) rfl (csum (Nat.le_of_ble_eq_true rfl)) (t_X12_say (a0) x1 90 21 h _ hc) ?_
    obtain ⟨_, h_2⟩ := z_1
    exact go_return dX12_commit_137 rfl hf
def f_X12_commit_22 : Nat → Nat → Int32 → Int32 → Int32 → Int32 → AH → Option (Unit × AH)
  | 0, _, _, _, _, _, _ => none
  | n + 1, a0, x1, x2, x3, x4, h => (if ((12 * x1) + x2) ≤ x4 then
      f_X12_commit_124 a0 x1 x3 h
    else
      (if x3 = 0 then
        f_X12_commit_124 a0 x1 x3 h
      else
        rdR h a0 13 48 fun r_1 =>
        nn r_1 fun a_2 =>
        arI h a_2 x4 fun x_3 =>
        (if x_3 = 0 then
          rdR h a0 13 49 fun r_15 =>
          nn r_15 fun a_16 =>
          arJ h a_16 x4 fun x_17 =>
          rdR h a0 13 50 fun r_18 =>
          nn r_18 fun a_19 =>
          arJ h a_19 x4 fun x_20 =>
          rdR h a0 13 51 fun r_21 =>
          nn r_21 fun a_22 =>
          arZ h a_22 x4 fun x_23 =>
          rdR h a0 13 52 fun r_24 =>
          nn r_24 fun a_25 =>
          arI h a_25 x4 fun x_26 =>
          rdR h a0 13 53 fun r_27 =>
          nn r_27 fun a_28 =>
          arJ h a_28 x4 fun x_29 =>
          kg h a0 13 (bd (f_X12_route a0 x1 x_17 x_20 x_23 x_26 x_29 h) fun x_32 h_31 =>
          f_X12_commit_118 (fun a0 x1 x2 x3 x4 h => f_X12_commit_22 n a0 x1 x2 x3 x4 h) a0 x1 x2 x_32 x4 h_31)
        else
          rdR h a0 13 48 fun r_4 =>
          nn r_4 fun a_5 =>
          arI h a_5 x4 fun x_6 =>
          rdR h a0 13 49 fun r_7 =>
          nn r_7 fun a_8 =>
          arJ h a_8 x4 fun x_9 =>
          rdR h a0 13 51 fun r_10 =>
          nn r_10 fun a_11 =>
          arZ h a_11 x4 fun x_12 =>
          kg h a0 13 (bd (f_X12_settle a0 x1 x_6 x_9.toInt32 x_12 h) fun _ h_14 =>
          f_X12_commit_118 (fun a0 x1 x2 x3 x4 h => f_X12_commit_22 n a0 x1 x2 x3 x4 h) a0 x1 x2 x3 x4 h_14))))
set_option maxRecDepth 20000 in
set_option maxHeartbeats 4000000 in
theorem t_X12_commit_22 {Ω : Om} : ∀ (n : Nat) (a0 : Nat) (x1 : Int32) (x2 : Int32) (x3 : Int32) (x4 : Int32) (h : AH) (q : Unit × AH), f_X12_commit_22 n a0 x1 x2 x3 x4 h = some q → Go Ω M_X12_commit 22 [(0, vR Ω (some a0)), (1, .int x1), (2, .int x2), (3, .int x3), (4, .int x4)] [] h none q.2 := by
  intro n
  induction n with
  | zero => intro a0 x1 x2 x3 x4 h q hf; cases hf
  | succ n ih =>
    intro a0 x1 x2 x3 x4 h q hf
    rw [f_X12_commit_22] at hf
    refine go_iload dX12_commit_22 4 rfl ?_
    refine go_bipush 12 dX12_commit_24 (by decide) ?_
    refine go_iload_n dX12_commit_26 rfl 1 rfl ?_
    refine go_imul dX12_commit_27 ?_
    refine go_iload_n dX12_commit_28 rfl 2 rfl ?_
    refine go_iadd dX12_commit_29 ?_
    refine go_icmp_ge (tgt := 124) dX12_commit_30 (by decide) hf (fun hf => ?_) (fun hf => ?_)
    · refine go_sub (lv' := [(0, vR Ω (some a0)), (1, .int x1), (3, .int x3)]) [0, 1, 3] rfl ?_
      exact t_X12_commit_124 a0 x1 x3 h q hf
    · refine go_iload_n dX12_commit_33 rfl 3 rfl ?_
      refine go_if_eq (tgt := 124) dX12_commit_34 (by decide) hf (fun hf => ?_) (fun hf => ?_)
      · refine go_sub (lv' := [(0, vR Ω (some a0)), (1, .int x1), (3, .int x3)]) [0, 1, 3] rfl ?_
        exact t_X12_commit_124 a0 x1 x3 h q hf
      · refine go_aload_n dX12_commit_37 rfl 0 rfl ?_
        refine go_getR dX12_commit_38 fl_1167_0 (fun _ _ => rfl) hf (fun r_1 hf => ?_)
        refine go_iload dX12_commit_41 4 rfl ?_
        obtain ⟨a_2, rfl, hga_2⟩ := nn_some hf
        have hf := hga_2
        refine go_iaload dX12_commit_43 hf (fun x_3 hf => ?_)
        refine go_if_ne (tgt := 91) dX12_commit_44 (by decide) hf (fun hf => ?_) (fun hf => ?_)
        · refine go_aload_n dX12_commit_91 rfl 0 rfl ?_
          refine go_iload_n dX12_commit_92 rfl 1 rfl ?_
          refine go_aload_n dX12_commit_93 rfl 0 rfl ?_
          refine go_getR dX12_commit_94 fl_1167_0 (fun _ _ => rfl) hf (fun r_4 hf => ?_)
          refine go_iload dX12_commit_97 4 rfl ?_
          obtain ⟨a_5, rfl, hga_5⟩ := nn_some hf
          have hf := hga_5
          refine go_iaload dX12_commit_99 hf (fun x_6 hf => ?_)
          refine go_aload_n dX12_commit_100 rfl 0 rfl ?_
          refine go_getR dX12_commit_101 fl_1168_0 (fun _ _ => rfl) hf (fun r_7 hf => ?_)
          refine go_iload dX12_commit_104 4 rfl ?_
          obtain ⟨a_8, rfl, hga_8⟩ := nn_some hf
          have hf := hga_8
          refine go_laload dX12_commit_106 hf (fun x_9 hf => ?_)
          refine go_l2i dX12_commit_107 ?_
          refine go_aload_n dX12_commit_108 rfl 0 rfl ?_
          refine go_getR dX12_commit_109 fl_1170_0 (fun _ _ => rfl) hf (fun r_10 hf => ?_)
          refine go_iload dX12_commit_112 4 rfl ?_
          obtain ⟨a_11, rfl, hga_11⟩ := nn_some hf
          have hf := hga_11
          refine go_zaload dX12_commit_114 hf (fun x_12 hf => ?_)
          obtain ⟨hk, hf⟩ := kg_some hf
          obtain ⟨z_13, hc, hf⟩ := bd_some hf
          refine go_callV (y2 := M_X12_settle) (c2 := 13) dX12_commit_115 mo_X12_settle ⟨Nat.le_of_ble_eq_true rfl, Nat.le_of_ble_eq_true rfl⟩ na_X12_settle w1547 w1549 (by decide) rfl w104 hk [.int x1, .int x_6, .int x_9.toInt32, .int x_12] rfl (n_X12_settle (a0) x1 x_6 x_9.toInt32 x_12) rfl (csum (Nat.le_of_ble_eq_true rfl)) (t_X12_settle (a0) x1 x_6 x_9.toInt32 x_12 h _ hc) ?_
          obtain ⟨_, h_14⟩ := z_13
          refine go_sub (lv' := [(0, vR Ω (some a0)), (1, .int x1), (2, .int x2), (3, .int x3), (4, .int x4)]) [0, 1, 2, 3, 4] rfl ?_
          exact t_X12_commit_118 ih a0 x1 x2 x3 x4 h_14 q hf
        · refine go_aload_n dX12_commit_47 rfl 0 rfl ?_
          refine go_iload_n dX12_commit_48 rfl 1 rfl ?_
          refine go_aload_n dX12_commit_49 rfl 0 rfl ?_
          refine go_getR dX12_commit_50 fl_1168_0 (fun _ _ => rfl) hf (fun r_15 hf => ?_)
          refine go_iload dX12_commit_53 4 rfl ?_
          obtain ⟨a_16, rfl, hga_16⟩ := nn_some hf
          have hf := hga_16
          refine go_laload dX12_commit_55 hf (fun x_17 hf => ?_)
          refine go_aload_n dX12_commit_56 rfl 0 rfl ?_
          refine go_getR dX12_commit_57 fl_1169_0 (fun _ _ => rfl) hf (fun r_18 hf => ?_)
          refine go_iload dX12_commit_60 4 rfl ?_
          obtain ⟨a_19, rfl, hga_19⟩ := nn_some hf
          have hf := hga_19
          refine go_laload dX12_commit_62 hf (fun x_20 hf => ?_)
          refine go_aload_n dX12_commit_63 rfl 0 rfl ?_
          refine go_getR dX12_commit_64 fl_1170_0 (fun _ _ => rfl) hf (fun r_21 hf => ?_)
          refine go_iload dX12_commit_67 4 rfl ?_
          obtain ⟨a_22, rfl, hga_22⟩ := nn_some hf
          have hf := hga_22
          refine go_zaload dX12_commit_69 hf (fun x_23 hf => ?_)
          refine go_aload_n dX12_commit_70 rfl 0 rfl ?_
          refine go_getR dX12_commit_71 fl_1171_0 (fun _ _ => rfl) hf (fun r_24 hf => ?_)
          refine go_iload dX12_commit_74 4 rfl ?_
          obtain ⟨a_25, rfl, hga_25⟩ := nn_some hf
          have hf := hga_25
          refine go_iaload dX12_commit_76 hf (fun x_26 hf => ?_)
          refine go_aload_n dX12_commit_77 rfl 0 rfl ?_
          refine go_getR dX12_commit_78 fl_1172_0 (fun _ _ => rfl) hf (fun r_27 hf => ?_)
          refine go_iload dX12_commit_81 4 rfl ?_
          obtain ⟨a_28, rfl, hga_28⟩ := nn_some hf
          have hf := hga_28
          refine go_laload dX12_commit_83 hf (fun x_29 hf => ?_)
          obtain ⟨hk, hf⟩ := kg_some hf
          obtain ⟨z_30, hc, hf⟩ := bd_some hf
          refine go_callV (y2 := M_X12_route) (c2 := 13) dX12_commit_84 mo_X12_route ⟨Nat.le_of_ble_eq_true rfl, Nat.le_of_ble_eq_true rfl⟩ na_X12_route w1559 w1561 (by decide) rfl w107 hk [.int x1, .long x_17, .long x_20, .int x_23, .int x_26, .long x_29] rfl (n_X12_route (a0) x1 x_17 x_20 x_23 x_26 x_29) rfl (csum (Nat.le_of_ble_eq_true rfl)) (t_X12_route (a0) x1 x_17 x_20 x_23 x_26 x_29 h _ hc) ?_
          obtain ⟨x_32, h_31⟩ := z_30
          refine go_istore_n (i := 3) (lv' := [(3, .int x_32), (0, vR Ω (some a0)), (1, .int x1), (2, .int x2), (4, .int x4)]) dX12_commit_87 rfl (by decide) (by first | rfl | simp [catR, catI, catJ]) ?_
          refine go_goto (tgt := 118) dX12_commit_88 (by decide) ?_
          refine go_sub (lv' := [(0, vR Ω (some a0)), (1, .int x1), (2, .int x2), (3, .int x_32), (4, .int x4)]) [1, 2, 3, 0, 4] rfl ?_
          exact t_X12_commit_118 ih a0 x1 x2 x_32 x4 h_31 q hf
def f_X12_commit (a0 : Nat) (x1 : Int32) (h : AH) : Option (Unit × AH) := rdR h a0 13 47 fun r_1 =>
  nn r_1 fun a_2 =>
  arI h a_2 x1 fun x_3 =>
  rdR h a0 13 47 fun r_4 =>
  nn r_4 fun a_5 =>
  asI h a_5 x1 0 fun h_6 =>
  lt (12 * x1) fun x_7 =>
  f_X12_commit_22 FU a0 x1 x_3 1 x_7 h_6
set_option maxRecDepth 20000 in
set_option maxHeartbeats 4000000 in
theorem t_X12_commit {Ω : Om} (a0 : Nat) (x1 : Int32) (h : AH) (q : Unit × AH) (hf : f_X12_commit a0 x1 h = some q) : Go Ω M_X12_commit 0 (lv_args 0 [vR Ω (some a0), .int x1]) [] h none q.2 := by
  unfold f_X12_commit at hf
  rw [la_R, la_I, la_0]
  refine go_sub (lv' := [(0, vR Ω (some a0)), (1, .int x1)]) [0, 1] rfl ?_
  refine go_aload_n dX12_commit_0 rfl 0 rfl ?_
  refine go_getR dX12_commit_1 fl_1166_0 (fun _ _ => rfl) hf (fun r_1 hf => ?_)
  refine go_iload_n dX12_commit_4 rfl 1 rfl ?_
  obtain ⟨a_2, rfl, hga_2⟩ := nn_some hf
  have hf := hga_2
  refine go_iaload dX12_commit_5 hf (fun x_3 hf => ?_)
  refine go_istore_n (i := 2) (lv' := [(2, .int x_3), (0, vR Ω (some a0)), (1, .int x1)]) dX12_commit_6 rfl (by decide) (by first | rfl | simp [catR, catI, catJ]) ?_
  refine go_aload_n dX12_commit_7 rfl 1 rfl ?_
  refine go_getR dX12_commit_8 fl_1166_0 (fun _ _ => rfl) hf (fun r_4 hf => ?_)
  refine go_iload_n dX12_commit_11 rfl 2 rfl ?_
  refine go_iconst 0 dX12_commit_12 rfl ?_
  obtain ⟨a_5, rfl, hga_5⟩ := nn_some hf
  have hf := hga_5
  refine go_iastore dX12_commit_13 hf (fun h_6 hf => ?_)
  refine go_iconst 1 dX12_commit_14 rfl ?_
  refine go_istore_n (i := 3) (lv' := [(3, .int 1), (2, .int x_3), (0, vR Ω (some a0)), (1, .int x1)]) dX12_commit_15 rfl (by decide) (by first | rfl | simp [catR, catI, catJ]) ?_
  refine go_bipush 12 dX12_commit_16 (by decide) ?_
  refine go_iload_n dX12_commit_18 rfl 3 rfl ?_
  refine go_imul dX12_commit_19 ?_
  refine lt_I hf (fun x_7 hf => ?_)
  refine go_istore (i := 4) (lv' := [(4, .int x_7), (3, .int 1), (2, .int x_3), (0, vR Ω (some a0)), (1, .int x1)]) dX12_commit_20 (by decide) (by first | rfl | simp [catR, catI, catJ]) ?_
  refine go_sub (lv' := [(0, vR Ω (some a0)), (1, .int x1), (2, .int x_3), (3, .int 1), (4, .int x_7)]) [3, 4, 2, 1, 0] rfl ?_
  exact t_X12_commit_22 FU a0 x1 x_3 1 x_7 h_6 q hf

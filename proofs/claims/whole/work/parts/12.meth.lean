/-! printed by wip/whole/gen: the methods -/
def M_Jx4a65c_size_8abf5 : Mt := (yJx4a65c_size_8abf5, cJx4a65c_size_8abf5, 1, (some .int), 0, 0)
set_option maxRecDepth 20000 in
theorem mo_Jx4a65c_size_8abf5 : Mok M_Jx4a65c_size_8abf5 := ⟨w524, w125, by decide, by decide +kernel⟩
set_option maxRecDepth 20000 in
theorem na_Jx4a65c_size_8abf5 : Nargs (my M_Jx4a65c_size_8abf5) 0 := by unfold Nargs; decide +kernel
set_option maxRecDepth 20000 in
theorem n_Jx4a65c_size_8abf5 {Ω : Om} (a0 : Nat) : (lg_sl [vR Ω (some a0)]).length ≤ mL M_Jx4a65c_size_8abf5 := by rw [ls_R, ls_0]; decide
def M_X11_channelNumbered : Mt := (yX11_channelNumbered, cX11_channelNumbered, 2, (some (.object "LetterBroker$Channel")), 0, 0)
set_option maxRecDepth 20000 in
theorem mo_X11_channelNumbered : Mok M_X11_channelNumbered := ⟨w461, w119, by decide, by decide +kernel⟩
set_option maxRecDepth 20000 in
theorem na_X11_channelNumbered : Nargs (my M_X11_channelNumbered) 1 := by unfold Nargs; decide +kernel
set_option maxRecDepth 20000 in
theorem n_X11_channelNumbered {Ω : Om} (a0 : Nat) (x1 : Int32) : (lg_sl [vR Ω (some a0), .int x1]).length ≤ mL M_X11_channelNumbered := by rw [ls_R, ls_I, ls_0]; decide
def M_X11_channel : Mt := (yX11_channel, cX11_channel, 4, (some .int), 1, 21)
set_option maxRecDepth 20000 in
theorem mo_X11_channel : Mok M_X11_channel := ⟨w1104, w119, by decide, by decide +kernel⟩
set_option maxRecDepth 20000 in
theorem na_X11_channel : Nargs (my M_X11_channel) 2 := by unfold Nargs; decide +kernel
set_option maxRecDepth 20000 in
theorem n_X11_channel {Ω : Om} (a0 : Nat) (x1 : Int32) (x2 : Int32) : (lg_sl [vR Ω (some a0), .int x1, .int x2]).length ≤ mL M_X11_channel := by rw [ls_R, ls_I, ls_I, ls_0]; decide
def M_X11_connect : Mt := (yX11_connect, cX11_connect, 1, (some .boolean), 0, 0)
set_option maxRecDepth 20000 in
theorem mo_X11_connect : Mok M_X11_connect := ⟨w1100, w119, by decide, by decide +kernel⟩
set_option maxRecDepth 20000 in
theorem na_X11_connect : Nargs (my M_X11_connect) 0 := by unfold Nargs; decide +kernel
set_option maxRecDepth 20000 in
theorem n_X11_connect {Ω : Om} (a0 : Nat) : (lg_sl [vR Ω (some a0)]).length ≤ mL M_X11_connect := by rw [ls_R, ls_0]; decide
def M_Jxa1e45_init_da8c8 : Mt := (yJxa1e45_init_da8c8, cJxa1e45_init_da8c8, 1, none, 1, 26)
set_option maxRecDepth 20000 in
theorem mo_Jxa1e45_init_da8c8 : Mok M_Jxa1e45_init_da8c8 := ⟨w216, w123, by decide, by decide +kernel⟩
set_option maxRecDepth 20000 in
theorem na_Jxa1e45_init_da8c8 : Nargs (my M_Jxa1e45_init_da8c8) 0 := by unfold Nargs; decide +kernel
set_option maxRecDepth 20000 in
theorem n_Jxa1e45_init_da8c8 {Ω : Om} (a0 : Nat) : (lg_sl [vR Ω (some a0)]).length ≤ mL M_Jxa1e45_init_da8c8 := by rw [ls_R, ls_0]; decide
def M_Jxc12de_init_da8c8 : Mt := (yJxc12de_init_da8c8, cJxc12de_init_da8c8, 1, none, 2, 46)
set_option maxRecDepth 20000 in
theorem mo_Jxc12de_init_da8c8 : Mok M_Jxc12de_init_da8c8 := ⟨w213, w124, by decide, by decide +kernel⟩
set_option maxRecDepth 20000 in
theorem na_Jxc12de_init_da8c8 : Nargs (my M_Jxc12de_init_da8c8) 0 := by unfold Nargs; decide +kernel
set_option maxRecDepth 20000 in
theorem n_Jxc12de_init_da8c8 {Ω : Om} (a0 : Nat) : (lg_sl [vR Ω (some a0)]).length ≤ mL M_Jxc12de_init_da8c8 := by rw [ls_R, ls_0]; decide
def M_Jx4a65c_init_da8c8 : Mt := (yJx4a65c_init_da8c8, cJx4a65c_init_da8c8, 1, none, 3, 66)
set_option maxRecDepth 20000 in
theorem mo_Jx4a65c_init_da8c8 : Mok M_Jx4a65c_init_da8c8 := ⟨w210, w125, by decide, by decide +kernel⟩
set_option maxRecDepth 20000 in
theorem na_Jx4a65c_init_da8c8 : Nargs (my M_Jx4a65c_init_da8c8) 0 := by unfold Nargs; decide +kernel
set_option maxRecDepth 20000 in
theorem n_Jx4a65c_init_da8c8 {Ω : Om} (a0 : Nat) : (lg_sl [vR Ω (some a0)]).length ≤ mL M_Jx4a65c_init_da8c8 := by rw [ls_R, ls_0]; decide
def M_X1_init : Mt := (yX1_init, cX1_init, 2, none, 4, 86)
set_option maxRecDepth 20000 in
theorem mo_X1_init : Mok M_X1_init := ⟨w344, w131, by decide, by decide +kernel⟩
set_option maxRecDepth 20000 in
theorem na_X1_init : Nargs (my M_X1_init) 1 := by unfold Nargs; decide +kernel
set_option maxRecDepth 20000 in
theorem n_X1_init {Ω : Om} (a0 : Nat) (x1 : Int32) : (lg_sl [vR Ω (some a0), .int x1]).length ≤ mL M_X1_init := by rw [ls_R, ls_I, ls_0]; decide
def M_X6_init : Mt := (yX6_init, cX6_init, 1, none, 1, 26)
set_option maxRecDepth 20000 in
theorem mo_X6_init : Mok M_X6_init := ⟨w154, w120, by decide, by decide +kernel⟩
set_option maxRecDepth 20000 in
theorem na_X6_init : Nargs (my M_X6_init) 0 := by unfold Nargs; decide +kernel
set_option maxRecDepth 20000 in
theorem n_X6_init {Ω : Om} (a0 : Nat) : (lg_sl [vR Ω (some a0)]).length ≤ mL M_X6_init := by rw [ls_R, ls_0]; decide
def M_J7_copyOf_6403c : Mt := (yJ7_copyOf_6403c, cJ7_copyOf_6403c, 4, (some (.array (.object "java/lang/Object"))), 1, 26)
set_option maxRecDepth 20000 in
theorem mo_J7_copyOf_6403c : Mok M_J7_copyOf_6403c := ⟨w304, w129, by decide, by decide +kernel⟩
set_option maxRecDepth 20000 in
theorem na_J7_copyOf_6403c : Nargs (my M_J7_copyOf_6403c) 3 := by unfold Nargs; decide +kernel
set_option maxRecDepth 20000 in
theorem n_J7_copyOf_6403c {Ω : Om} (r0 : Option Nat) (x1 : Int32) (r2 : Option Nat) : (lg_sl [vR Ω r0, .int x1, vR Ω r2]).length ≤ mL M_J7_copyOf_6403c := by rw [ls_R, ls_I, ls_R, ls_0]; decide
def M_J7_copyOf_1904c : Mt := (yJ7_copyOf_1904c, cJ7_copyOf_1904c, 2, (some (.array (.object "java/lang/Object"))), 2, 49)
set_option maxRecDepth 20000 in
theorem mo_J7_copyOf_1904c : Mok M_J7_copyOf_1904c := ⟨w283, w129, by decide, by decide +kernel⟩
set_option maxRecDepth 20000 in
theorem na_J7_copyOf_1904c : Nargs (my M_J7_copyOf_1904c) 2 := by unfold Nargs; decide +kernel
set_option maxRecDepth 20000 in
theorem n_J7_copyOf_1904c {Ω : Om} (r0 : Option Nat) (x1 : Int32) : (lg_sl [vR Ω r0, .int x1]).length ≤ mL M_J7_copyOf_1904c := by rw [ls_R, ls_I, ls_0]; decide
def M_J8_hugeLength_7cf53 : Mt := (yJ8_hugeLength_7cf53, cJ8_hugeLength_7cf53, 3, (some .int), 0, 0)
set_option maxRecDepth 20000 in
theorem mo_J8_hugeLength_7cf53 : Mok M_J8_hugeLength_7cf53 := ⟨w280, w127, by decide, by decide +kernel⟩
set_option maxRecDepth 20000 in
theorem na_J8_hugeLength_7cf53 : Nargs (my M_J8_hugeLength_7cf53) 2 := by unfold Nargs; decide +kernel
set_option maxRecDepth 20000 in
theorem n_J8_hugeLength_7cf53 (x0 : Int32) (x1 : Int32) : (lg_sl [.int x0, .int x1]).length ≤ mL M_J8_hugeLength_7cf53 := by rw [ls_I, ls_I, ls_0]; decide
def M_J8_newLength_cabcc : Mt := (yJ8_newLength_cabcc, cJ8_newLength_cabcc, 4, (some .int), 1, 26)
set_option maxRecDepth 20000 in
theorem mo_J8_newLength_cabcc : Mok M_J8_newLength_cabcc := ⟨w273, w127, by decide, by decide +kernel⟩
set_option maxRecDepth 20000 in
theorem na_J8_newLength_cabcc : Nargs (my M_J8_newLength_cabcc) 3 := by unfold Nargs; decide +kernel
set_option maxRecDepth 20000 in
theorem n_J8_newLength_cabcc (x0 : Int32) (x1 : Int32) (x2 : Int32) : (lg_sl [.int x0, .int x1, .int x2]).length ≤ mL M_J8_newLength_cabcc := by rw [ls_I, ls_I, ls_I, ls_0]; decide
def M_Jx4a65c_grow_92f84 : Mt := (yJx4a65c_grow_92f84, cJx4a65c_grow_92f84, 4, (some (.array (.object "java/lang/Object"))), 3, 70)
set_option maxRecDepth 20000 in
theorem mo_Jx4a65c_grow_92f84 : Mok M_Jx4a65c_grow_92f84 := ⟨w270, w125, by decide, by decide +kernel⟩
set_option maxRecDepth 20000 in
theorem na_Jx4a65c_grow_92f84 : Nargs (my M_Jx4a65c_grow_92f84) 1 := by unfold Nargs; decide +kernel
set_option maxRecDepth 20000 in
theorem n_Jx4a65c_grow_92f84 {Ω : Om} (a0 : Nat) (x1 : Int32) : (lg_sl [vR Ω (some a0), .int x1]).length ≤ mL M_Jx4a65c_grow_92f84 := by rw [ls_R, ls_I, ls_0]; decide
def M_Jx4a65c_grow_d5877 : Mt := (yJx4a65c_grow_d5877, cJx4a65c_grow_d5877, 1, (some (.array (.object "java/lang/Object"))), 4, 93)
set_option maxRecDepth 20000 in
theorem mo_Jx4a65c_grow_d5877 : Mok M_Jx4a65c_grow_d5877 := ⟨w266, w125, by decide, by decide +kernel⟩
set_option maxRecDepth 20000 in
theorem na_Jx4a65c_grow_d5877 : Nargs (my M_Jx4a65c_grow_d5877) 0 := by unfold Nargs; decide +kernel
set_option maxRecDepth 20000 in
theorem n_Jx4a65c_grow_d5877 {Ω : Om} (a0 : Nat) : (lg_sl [vR Ω (some a0)]).length ≤ mL M_Jx4a65c_grow_d5877 := by rw [ls_R, ls_0]; decide
def M_Jx4a65c_add_72be8 : Mt := (yJx4a65c_add_72be8, cJx4a65c_add_72be8, 4, none, 5, 113)
set_option maxRecDepth 20000 in
theorem mo_Jx4a65c_add_72be8 : Mok M_Jx4a65c_add_72be8 := ⟨w262, w125, by decide, by decide +kernel⟩
set_option maxRecDepth 20000 in
theorem na_Jx4a65c_add_72be8 : Nargs (my M_Jx4a65c_add_72be8) 3 := by unfold Nargs; decide +kernel
set_option maxRecDepth 20000 in
theorem n_Jx4a65c_add_72be8 {Ω : Om} (a0 : Nat) (r1 : Option Nat) (r2 : Option Nat) (x3 : Int32) : (lg_sl [vR Ω (some a0), vR Ω r1, vR Ω r2, .int x3]).length ≤ mL M_Jx4a65c_add_72be8 := by rw [ls_R, ls_R, ls_R, ls_I, ls_0]; decide
def M_Jx4a65c_add_9ea2d : Mt := (yJx4a65c_add_9ea2d, cJx4a65c_add_9ea2d, 2, (some .boolean), 6, 136)
set_option maxRecDepth 20000 in
theorem mo_Jx4a65c_add_9ea2d : Mok M_Jx4a65c_add_9ea2d := ⟨w258, w125, by decide, by decide +kernel⟩
set_option maxRecDepth 20000 in
theorem na_Jx4a65c_add_9ea2d : Nargs (my M_Jx4a65c_add_9ea2d) 1 := by unfold Nargs; decide +kernel
set_option maxRecDepth 20000 in
theorem n_Jx4a65c_add_9ea2d {Ω : Om} (a0 : Nat) (r1 : Option Nat) : (lg_sl [vR Ω (some a0), vR Ω r1]).length ≤ mL M_Jx4a65c_add_9ea2d := by rw [ls_R, ls_R, ls_0]; decide
def M_X5_init : Mt := (yX5_init, cX5_init, 4, none, 1, 26)
set_option maxRecDepth 20000 in
theorem mo_X5_init : Mok M_X5_init := ⟨w236, w126, by decide, by decide +kernel⟩
set_option maxRecDepth 20000 in
theorem na_X5_init : Nargs (my M_X5_init) 2 := by unfold Nargs; decide +kernel
set_option maxRecDepth 20000 in
theorem n_X5_init {Ω : Om} (a0 : Nat) (x1 : Int64) (x3 : Int32) : (lg_sl [vR Ω (some a0), .long x1, .int x3]).length ≤ mL M_X5_init := by rw [ls_R, ls_J, ls_I, ls_0]; decide
def M_X8_init : Mt := (yX8_init, cX8_init, 1, none, 7, 157)
set_option maxRecDepth 20000 in
theorem mo_X8_init : Mok M_X8_init := ⟨w204, w122, by decide, by decide +kernel⟩
set_option maxRecDepth 20000 in
theorem na_X8_init : Nargs (my M_X8_init) 0 := by unfold Nargs; decide +kernel
set_option maxRecDepth 20000 in
theorem n_X8_init {Ω : Om} (a0 : Nat) : (lg_sl [vR Ω (some a0)]).length ≤ mL M_X8_init := by rw [ls_R, ls_0]; decide
def M_X9_init : Mt := (yX9_init, cX9_init, 1, none, 1, 26)
set_option maxRecDepth 20000 in
theorem mo_X9_init : Mok M_X9_init := ⟨w181, w121, by decide, by decide +kernel⟩
set_option maxRecDepth 20000 in
theorem na_X9_init : Nargs (my M_X9_init) 0 := by unfold Nargs; decide +kernel
set_option maxRecDepth 20000 in
theorem n_X9_init {Ω : Om} (a0 : Nat) : (lg_sl [vR Ω (some a0)]).length ≤ mL M_X9_init := by rw [ls_R, ls_0]; decide
def M_X11_init : Mt := (yX11_init, cX11_init, 2, none, 8, 177)
set_option maxRecDepth 20000 in
theorem mo_X11_init : Mok M_X11_init := ⟨w146, w119, by decide, by decide +kernel⟩
set_option maxRecDepth 20000 in
theorem na_X11_init : Nargs (my M_X11_init) 0 := by unfold Nargs; decide +kernel
set_option maxRecDepth 20000 in
theorem n_X11_init {Ω : Om} (a0 : Nat) : (lg_sl [vR Ω (some a0)]).length ≤ mL M_X11_init := by rw [ls_R, ls_0]; decide
def M_X11_line : Mt := (yX11_line, cX11_line, 1, (some .int), 0, 0)
set_option maxRecDepth 20000 in
theorem mo_X11_line : Mok M_X11_line := ⟨w1096, w119, by decide, by decide +kernel⟩
set_option maxRecDepth 20000 in
theorem na_X11_line : Nargs (my M_X11_line) 0 := by unfold Nargs; decide +kernel
set_option maxRecDepth 20000 in
theorem n_X11_line {Ω : Om} (a0 : Nat) : (lg_sl [vR Ω (some a0)]).length ≤ mL M_X11_line := by rw [ls_R, ls_0]; decide
def M_J3_checkIndex_8e157 : Mt := (yJ3_checkIndex_8e157, cJ3_checkIndex_8e157, 3, (some .int), 0, 0)
set_option maxRecDepth 20000 in
theorem mo_J3_checkIndex_8e157 : Mok M_J3_checkIndex_8e157 := ⟨w551, w135, by decide, by decide +kernel⟩
set_option maxRecDepth 20000 in
theorem na_J3_checkIndex_8e157 : Nargs (my M_J3_checkIndex_8e157) 3 := by unfold Nargs; decide +kernel
set_option maxRecDepth 20000 in
theorem n_J3_checkIndex_8e157 {Ω : Om} (x0 : Int32) (x1 : Int32) (r2 : Option Nat) : (lg_sl [.int x0, .int x1, vR Ω r2]).length ≤ mL M_J3_checkIndex_8e157 := by rw [ls_I, ls_I, ls_R, ls_0]; decide
def M_J15_checkIndex_7cf53 : Mt := (yJ15_checkIndex_7cf53, cJ15_checkIndex_7cf53, 2, (some .int), 1, 22)
set_option maxRecDepth 20000 in
theorem mo_J15_checkIndex_7cf53 : Mok M_J15_checkIndex_7cf53 := ⟨w548, w134, by decide, by decide +kernel⟩
set_option maxRecDepth 20000 in
theorem na_J15_checkIndex_7cf53 : Nargs (my M_J15_checkIndex_7cf53) 2 := by unfold Nargs; decide +kernel
set_option maxRecDepth 20000 in
theorem n_J15_checkIndex_7cf53 (x0 : Int32) (x1 : Int32) : (lg_sl [.int x0, .int x1]).length ≤ mL M_J15_checkIndex_7cf53 := by rw [ls_I, ls_I, ls_0]; decide
def M_Jx4a65c_elementData_915e3 : Mt := (yJx4a65c_elementData_915e3, cJx4a65c_elementData_915e3, 2, (some (.object "java/lang/Object")), 0, 0)
set_option maxRecDepth 20000 in
theorem mo_Jx4a65c_elementData_915e3 : Mok M_Jx4a65c_elementData_915e3 := ⟨w555, w125, by decide, by decide +kernel⟩
set_option maxRecDepth 20000 in
theorem na_Jx4a65c_elementData_915e3 : Nargs (my M_Jx4a65c_elementData_915e3) 1 := by unfold Nargs; decide +kernel
set_option maxRecDepth 20000 in
theorem n_Jx4a65c_elementData_915e3 {Ω : Om} (a0 : Nat) (x1 : Int32) : (lg_sl [vR Ω (some a0), .int x1]).length ≤ mL M_Jx4a65c_elementData_915e3 := by rw [ls_R, ls_I, ls_0]; decide
def M_Jx4a65c_get_915e3 : Mt := (yJx4a65c_get_915e3, cJx4a65c_get_915e3, 2, (some (.object "java/lang/Object")), 2, 43)
set_option maxRecDepth 20000 in
theorem mo_Jx4a65c_get_915e3 : Mok M_Jx4a65c_get_915e3 := ⟨w545, w125, by decide, by decide +kernel⟩
set_option maxRecDepth 20000 in
theorem na_Jx4a65c_get_915e3 : Nargs (my M_Jx4a65c_get_915e3) 1 := by unfold Nargs; decide +kernel
set_option maxRecDepth 20000 in
theorem n_Jx4a65c_get_915e3 {Ω : Om} (a0 : Nat) (x1 : Int32) : (lg_sl [vR Ω (some a0), .int x1]).length ≤ mL M_Jx4a65c_get_915e3 := by rw [ls_R, ls_I, ls_0]; decide
def M_Jx4a65c_isEmpty_aae02 : Mt := (yJx4a65c_isEmpty_aae02, cJx4a65c_isEmpty_aae02, 1, (some .boolean), 0, 0)
set_option maxRecDepth 20000 in
theorem mo_Jx4a65c_isEmpty_aae02 : Mok M_Jx4a65c_isEmpty_aae02 := ⟨w874, w125, by decide, by decide +kernel⟩
set_option maxRecDepth 20000 in
theorem na_Jx4a65c_isEmpty_aae02 : Nargs (my M_Jx4a65c_isEmpty_aae02) 0 := by unfold Nargs; decide +kernel
set_option maxRecDepth 20000 in
theorem n_Jx4a65c_isEmpty_aae02 {Ω : Om} (a0 : Nat) : (lg_sl [vR Ω (some a0)]).length ≤ mL M_Jx4a65c_isEmpty_aae02 := by rw [ls_R, ls_0]; decide
def M_X8_bindingsOf : Mt := (yX8_bindingsOf, cX8_bindingsOf, 4, (some .int), 3, 64)
set_option maxRecDepth 20000 in
theorem mo_X8_bindingsOf : Mok M_X8_bindingsOf := ⟨w1112, w122, by decide, by decide +kernel⟩
set_option maxRecDepth 20000 in
theorem na_X8_bindingsOf : Nargs (my M_X8_bindingsOf) 1 := by unfold Nargs; decide +kernel
set_option maxRecDepth 20000 in
theorem n_X8_bindingsOf {Ω : Om} (a0 : Nat) (r1 : Option Nat) : (lg_sl [vR Ω (some a0), vR Ω r1]).length ≤ mL M_X8_bindingsOf := by rw [ls_R, ls_R, ls_0]; decide
def M_X8_consumersOf : Mt := (yX8_consumersOf, cX8_consumersOf, 4, (some .int), 3, 64)
set_option maxRecDepth 20000 in
theorem mo_X8_consumersOf : Mok M_X8_consumersOf := ⟨w817, w122, by decide, by decide +kernel⟩
set_option maxRecDepth 20000 in
theorem na_X8_consumersOf : Nargs (my M_X8_consumersOf) 1 := by unfold Nargs; decide +kernel
set_option maxRecDepth 20000 in
theorem n_X8_consumersOf {Ω : Om} (a0 : Nat) (r1 : Option Nat) : (lg_sl [vR Ω (some a0), vR Ω r1]).length ≤ mL M_X8_consumersOf := by rw [ls_R, ls_R, ls_0]; decide
def M_X11_queue : Mt := (yX11_queue, cX11_queue, 4, (some .int), 4, 87)
set_option maxRecDepth 20000 in
theorem mo_X11_queue : Mok M_X11_queue := ⟨w1108, w119, by decide, by decide +kernel⟩
set_option maxRecDepth 20000 in
theorem na_X11_queue : Nargs (my M_X11_queue) 2 := by unfold Nargs; decide +kernel
set_option maxRecDepth 20000 in
theorem n_X11_queue {Ω : Om} (a0 : Nat) (x1 : Int32) (x2 : Int32) : (lg_sl [vR Ω (some a0), .int x1, .int x2]).length ≤ mL M_X11_queue := by rw [ls_R, ls_I, ls_I, ls_0]; decide
def M_X11_ready : Mt := (yX11_ready, cX11_ready, 1, (some .int), 0, 0)
set_option maxRecDepth 20000 in
theorem mo_X11_ready : Mok M_X11_ready := ⟨w1084, w119, by decide, by decide +kernel⟩
set_option maxRecDepth 20000 in
theorem na_X11_ready : Nargs (my M_X11_ready) 0 := by unfold Nargs; decide +kernel
set_option maxRecDepth 20000 in
theorem n_X11_ready {Ω : Om} (a0 : Nat) : (lg_sl [vR Ω (some a0)]).length ≤ mL M_X11_ready := by rw [ls_R, ls_0]; decide
def M_X9_take : Mt := (yX9_take, cX9_take, 2, (some .int), 0, 0)
set_option maxRecDepth 20000 in
theorem mo_X9_take : Mok M_X9_take := ⟨w1092, w121, by decide, by decide +kernel⟩
set_option maxRecDepth 20000 in
theorem na_X9_take : Nargs (my M_X9_take) 0 := by unfold Nargs; decide +kernel
set_option maxRecDepth 20000 in
theorem n_X9_take {Ω : Om} (a0 : Nat) : (lg_sl [vR Ω (some a0)]).length ≤ mL M_X9_take := by rw [ls_R, ls_0]; decide
def M_X11_receive : Mt := (yX11_receive, cX11_receive, 1, (some .int), 1, 21)
set_option maxRecDepth 20000 in
theorem mo_X11_receive : Mok M_X11_receive := ⟨w1088, w119, by decide, by decide +kernel⟩
set_option maxRecDepth 20000 in
theorem na_X11_receive : Nargs (my M_X11_receive) 0 := by unfold Nargs; decide +kernel
set_option maxRecDepth 20000 in
theorem n_X11_receive {Ω : Om} (a0 : Nat) : (lg_sl [vR Ω (some a0)]).length ≤ mL M_X11_receive := by rw [ls_R, ls_0]; decide
def M_X6_add : Mt := (yX6_add, cX6_add, 5, none, 0, 0)
set_option maxRecDepth 20000 in
theorem mo_X6_add : Mok M_X6_add := ⟨w411, w120, by decide, by decide +kernel⟩
set_option maxRecDepth 20000 in
theorem na_X6_add : Nargs (my M_X6_add) 2 := by unfold Nargs; decide +kernel
set_option maxRecDepth 20000 in
theorem n_X6_add {Ω : Om} (a0 : Nat) (x1 : Int64) (x3 : Int32) : (lg_sl [vR Ω (some a0), .long x1, .int x3]).length ≤ mL M_X6_add := by rw [ls_R, ls_J, ls_I, ls_0]; decide
def M_X11_send : Mt := (yX11_send, cX11_send, 4, (some .int), 1, 24)
set_option maxRecDepth 20000 in
theorem mo_X11_send : Mok M_X11_send := ⟨w407, w119, by decide, by decide +kernel⟩
set_option maxRecDepth 20000 in
theorem na_X11_send : Nargs (my M_X11_send) 2 := by unfold Nargs; decide +kernel
set_option maxRecDepth 20000 in
theorem n_X11_send {Ω : Om} (a0 : Nat) (x1 : Int64) (x3 : Int32) : (lg_sl [vR Ω (some a0), .long x1, .int x3]).length ≤ mL M_X11_send := by rw [ls_R, ls_J, ls_I, ls_0]; decide
def M_Jx4a65c_fastRemove_b59b0 : Mt := (yJx4a65c_fastRemove_b59b0, cJx4a65c_fastRemove_b59b0, 4, none, 1, 26)
set_option maxRecDepth 20000 in
theorem mo_Jx4a65c_fastRemove_b59b0 : Mok M_Jx4a65c_fastRemove_b59b0 := ⟨w687, w125, by decide, by decide +kernel⟩
set_option maxRecDepth 20000 in
theorem na_Jx4a65c_fastRemove_b59b0 : Nargs (my M_Jx4a65c_fastRemove_b59b0) 2 := by unfold Nargs; decide +kernel
set_option maxRecDepth 20000 in
theorem n_Jx4a65c_fastRemove_b59b0 {Ω : Om} (a0 : Nat) (r1 : Option Nat) (x2 : Int32) : (lg_sl [vR Ω (some a0), vR Ω r1, .int x2]).length ≤ mL M_Jx4a65c_fastRemove_b59b0 := by rw [ls_R, ls_R, ls_I, ls_0]; decide
def M_Jx4a65c_remove_915e3 : Mt := (yJx4a65c_remove_915e3, cJx4a65c_remove_915e3, 4, (some (.object "java/lang/Object")), 2, 49)
set_option maxRecDepth 20000 in
theorem mo_Jx4a65c_remove_915e3 : Mok M_Jx4a65c_remove_915e3 := ⟨w683, w125, by decide, by decide +kernel⟩
set_option maxRecDepth 20000 in
theorem na_Jx4a65c_remove_915e3 : Nargs (my M_Jx4a65c_remove_915e3) 1 := by unfold Nargs; decide +kernel
set_option maxRecDepth 20000 in
theorem n_Jx4a65c_remove_915e3 {Ω : Om} (a0 : Nat) (x1 : Int32) : (lg_sl [vR Ω (some a0), .int x1]).length ≤ mL M_Jx4a65c_remove_915e3 := by rw [ls_R, ls_I, ls_0]; decide
def M_X1_take : Mt := (yX1_take, cX1_take, 3, none, 7, 157)
set_option maxRecDepth 20000 in
theorem mo_X1_take : Mok M_X1_take := ⟨w981, w131, by decide, by decide +kernel⟩
set_option maxRecDepth 20000 in
theorem na_X1_take : Nargs (my M_X1_take) 2 := by unfold Nargs; decide +kernel
set_option maxRecDepth 20000 in
theorem n_X1_take {Ω : Om} (a0 : Nat) (r1 : Option Nat) (x2 : Int32) : (lg_sl [vR Ω (some a0), vR Ω r1, .int x2]).length ≤ mL M_X1_take := by rw [ls_R, ls_R, ls_I, ls_0]; decide
def M_X9_put : Mt := (yX9_put, cX9_put, 2, none, 0, 0)
set_option maxRecDepth 20000 in
theorem mo_X9_put : Mok M_X9_put := ⟨w441, w121, by decide, by decide +kernel⟩
set_option maxRecDepth 20000 in
theorem na_X9_put : Nargs (my M_X9_put) 1 := by unfold Nargs; decide +kernel
set_option maxRecDepth 20000 in
theorem n_X9_put {Ω : Om} (a0 : Nat) (x1 : Int32) : (lg_sl [vR Ω (some a0), .int x1]).length ≤ mL M_X9_put := by rw [ls_R, ls_I, ls_0]; decide
def M_X9_begin : Mt := (yX9_begin, cX9_begin, 3, none, 1, 21)
set_option maxRecDepth 20000 in
theorem mo_X9_begin : Mok M_X9_begin := ⟨w437, w121, by decide, by decide +kernel⟩
set_option maxRecDepth 20000 in
theorem na_X9_begin : Nargs (my M_X9_begin) 2 := by unfold Nargs; decide +kernel
set_option maxRecDepth 20000 in
theorem n_X9_begin {Ω : Om} (a0 : Nat) (x1 : Int32) (x2 : Int32) : (lg_sl [vR Ω (some a0), .int x1, .int x2]).length ≤ mL M_X9_begin := by rw [ls_R, ls_I, ls_I, ls_0]; decide
def M_X9_end : Mt := (yX9_end, cX9_end, 1, none, 1, 21)
set_option maxRecDepth 20000 in
theorem mo_X9_end : Mok M_X9_end := ⟨w445, w121, by decide, by decide +kernel⟩
set_option maxRecDepth 20000 in
theorem na_X9_end : Nargs (my M_X9_end) 0 := by unfold Nargs; decide +kernel
set_option maxRecDepth 20000 in
theorem n_X9_end {Ω : Om} (a0 : Nat) : (lg_sl [vR Ω (some a0)]).length ≤ mL M_X9_end := by rw [ls_R, ls_0]; decide
def M_X9_putContent : Mt := (yX9_putContent, cX9_putContent, 4, none, 1, 21)
set_option maxRecDepth 20000 in
theorem mo_X9_putContent : Mok M_X9_putContent := ⟨w599, w121, by decide, by decide +kernel⟩
set_option maxRecDepth 20000 in
theorem na_X9_putContent : Nargs (my M_X9_putContent) 2 := by unfold Nargs; decide +kernel
set_option maxRecDepth 20000 in
theorem n_X9_putContent {Ω : Om} (a0 : Nat) (x1 : Int32) (r2 : Option Nat) : (lg_sl [vR Ω (some a0), .int x1, vR Ω r2]).length ≤ mL M_X9_putContent := by rw [ls_R, ls_I, ls_R, ls_0]; decide
def M_X9_putName : Mt := (yX9_putName, cX9_putName, 6, none, 1, 21)
set_option maxRecDepth 20000 in
theorem mo_X9_putName : Mok M_X9_putName := ⟨w594, w121, by decide, by decide +kernel⟩
set_option maxRecDepth 20000 in
theorem na_X9_putName : Nargs (my M_X9_putName) 1 := by unfold Nargs; decide +kernel
set_option maxRecDepth 20000 in
theorem n_X9_putName {Ω : Om} (a0 : Nat) (x1 : Int64) : (lg_sl [vR Ω (some a0), .long x1]).length ≤ mL M_X9_putName := by rw [ls_R, ls_J, ls_0]; decide
def M_X9_putShort : Mt := (yX9_putShort, cX9_putShort, 2, none, 1, 21)
set_option maxRecDepth 20000 in
theorem mo_X9_putShort : Mok M_X9_putShort := ⟨w590, w121, by decide, by decide +kernel⟩
set_option maxRecDepth 20000 in
theorem na_X9_putShort : Nargs (my M_X9_putShort) 1 := by unfold Nargs; decide +kernel
set_option maxRecDepth 20000 in
theorem n_X9_putShort {Ω : Om} (a0 : Nat) (x1 : Int32) : (lg_sl [vR Ω (some a0), .int x1]).length ≤ mL M_X9_putShort := by rw [ls_R, ls_I, ls_0]; decide
def M_X9_putLetter : Mt := (yX9_putLetter, cX9_putLetter, 2, none, 2, 46)
set_option maxRecDepth 20000 in
theorem mo_X9_putLetter : Mok M_X9_putLetter := ⟨w987, w121, by decide, by decide +kernel⟩
set_option maxRecDepth 20000 in
theorem na_X9_putLetter : Nargs (my M_X9_putLetter) 1 := by unfold Nargs; decide +kernel
set_option maxRecDepth 20000 in
theorem n_X9_putLetter {Ω : Om} (a0 : Nat) (r1 : Option Nat) : (lg_sl [vR Ω (some a0), vR Ω r1]).length ≤ mL M_X9_putLetter := by rw [ls_R, ls_R, ls_0]; decide
def M_X11_deliver : Mt := (yX11_deliver, cX11_deliver, 4, none, 8, 179)
set_option maxRecDepth 20000 in
theorem mo_X11_deliver : Mok M_X11_deliver := ⟨w1080, w119, by decide, by decide +kernel⟩
set_option maxRecDepth 20000 in
theorem na_X11_deliver : Nargs (my M_X11_deliver) 2 := by unfold Nargs; decide +kernel
set_option maxRecDepth 20000 in
theorem n_X11_deliver {Ω : Om} (a0 : Nat) (r1 : Option Nat) (r2 : Option Nat) : (lg_sl [vR Ω (some a0), vR Ω r1, vR Ω r2]).length ≤ mL M_X11_deliver := by rw [ls_R, ls_R, ls_R, ls_0]; decide
def M_X2_isWilling : Mt := (yX2_isWilling, cX2_isWilling, 1, (some .boolean), 1, 20)
set_option maxRecDepth 20000 in
theorem mo_X2_isWilling : Mok M_X2_isWilling := ⟨w1074, w140, by decide, by decide +kernel⟩
set_option maxRecDepth 20000 in
theorem na_X2_isWilling : Nargs (my M_X2_isWilling) 0 := by unfold Nargs; decide +kernel
set_option maxRecDepth 20000 in
theorem n_X2_isWilling {Ω : Om} (a0 : Nat) : (lg_sl [vR Ω (some a0)]).length ≤ mL M_X2_isWilling := by rw [ls_R, ls_0]; decide
def M_X8_nextConsumerOf : Mt := (yX8_nextConsumerOf, cX8_nextConsumerOf, 5, (some (.object "LetterBroker$Consumer")), 3, 64)
set_option maxRecDepth 20000 in
theorem mo_X8_nextConsumerOf : Mok M_X8_nextConsumerOf := ⟨w1070, w122, by decide, by decide +kernel⟩
set_option maxRecDepth 20000 in
theorem na_X8_nextConsumerOf : Nargs (my M_X8_nextConsumerOf) 1 := by unfold Nargs; decide +kernel
set_option maxRecDepth 20000 in
theorem n_X8_nextConsumerOf {Ω : Om} (a0 : Nat) (r1 : Option Nat) : (lg_sl [vR Ω (some a0), vR Ω r1]).length ≤ mL M_X8_nextConsumerOf := by rw [ls_R, ls_R, ls_0]; decide
def M_X11_deliverNext : Mt := (yX11_deliverNext, cX11_deliverNext, 4, (some .boolean), 9, 202)
set_option maxRecDepth 20000 in
theorem mo_X11_deliverNext : Mok M_X11_deliverNext := ⟨w1066, w119, by decide, by decide +kernel⟩
set_option maxRecDepth 20000 in
theorem na_X11_deliverNext : Nargs (my M_X11_deliverNext) 0 := by unfold Nargs; decide +kernel
set_option maxRecDepth 20000 in
theorem n_X11_deliverNext {Ω : Om} (a0 : Nat) : (lg_sl [vR Ω (some a0)]).length ≤ mL M_X11_deliverNext := by rw [ls_R, ls_0]; decide
def M_X11_deliverAll : Mt := (yX11_deliverAll, cX11_deliverAll, 3, none, 10, 225)
set_option maxRecDepth 20000 in
theorem mo_X11_deliverAll : Mok M_X11_deliverAll := ⟨w1062, w119, by decide, by decide +kernel⟩
set_option maxRecDepth 20000 in
theorem na_X11_deliverAll : Nargs (my M_X11_deliverAll) 0 := by unfold Nargs; decide +kernel
set_option maxRecDepth 20000 in
theorem n_X11_deliverAll {Ω : Om} (a0 : Nat) : (lg_sl [vR Ω (some a0)]).length ≤ mL M_X11_deliverAll := by rw [ls_R, ls_0]; decide
def M_X9_tell : Mt := (yX9_tell, cX9_tell, 3, none, 2, 43)
set_option maxRecDepth 20000 in
theorem mo_X9_tell : Mok M_X9_tell := ⟨w433, w121, by decide, by decide +kernel⟩
set_option maxRecDepth 20000 in
theorem na_X9_tell : Nargs (my M_X9_tell) 2 := by unfold Nargs; decide +kernel
set_option maxRecDepth 20000 in
theorem n_X9_tell {Ω : Om} (a0 : Nat) (x1 : Int32) (x2 : Int32) : (lg_sl [vR Ω (some a0), .int x1, .int x2]).length ≤ mL M_X9_tell := by rw [ls_R, ls_I, ls_I, ls_0]; decide
def M_X11_greet : Mt := (yX11_greet, cX11_greet, 1, (some .int), 3, 65)
set_option maxRecDepth 20000 in
theorem mo_X11_greet : Mok M_X11_greet := ⟨w429, w119, by decide, by decide +kernel⟩
set_option maxRecDepth 20000 in
theorem na_X11_greet : Nargs (my M_X11_greet) 0 := by unfold Nargs; decide +kernel
set_option maxRecDepth 20000 in
theorem n_X11_greet {Ω : Om} (a0 : Nat) : (lg_sl [vR Ω (some a0)]).length ≤ mL M_X11_greet := by rw [ls_R, ls_0]; decide
def M_X11_lineMethodInTurn : Mt := (yX11_lineMethodInTurn, cX11_lineMethodInTurn, 1, (some .int), 0, 0)
set_option maxRecDepth 20000 in
theorem mo_X11_lineMethodInTurn : Mok M_X11_lineMethodInTurn := ⟨w657, w119, by decide, by decide +kernel⟩
set_option maxRecDepth 20000 in
theorem na_X11_lineMethodInTurn : Nargs (my M_X11_lineMethodInTurn) 0 := by unfold Nargs; decide +kernel
set_option maxRecDepth 20000 in
theorem n_X11_lineMethodInTurn {Ω : Om} (a0 : Nat) : (lg_sl [vR Ω (some a0)]).length ≤ mL M_X11_lineMethodInTurn := by rw [ls_R, ls_0]; decide
def M_Jx4a65c_clear_da8c8 : Mt := (yJx4a65c_clear_da8c8, cJx4a65c_clear_da8c8, 4, none, 0, 0)
set_option maxRecDepth 20000 in
theorem mo_Jx4a65c_clear_da8c8 : Mok M_Jx4a65c_clear_da8c8 := ⟨w728, w125, by decide, by decide +kernel⟩
set_option maxRecDepth 20000 in
theorem na_Jx4a65c_clear_da8c8 : Nargs (my M_Jx4a65c_clear_da8c8) 0 := by unfold Nargs; decide +kernel
set_option maxRecDepth 20000 in
theorem n_Jx4a65c_clear_da8c8 {Ω : Om} (a0 : Nat) : (lg_sl [vR Ω (some a0)]).length ≤ mL M_Jx4a65c_clear_da8c8 := by rw [ls_R, ls_0]; decide
def M_Jx4a65c_rangeCheckForAdd_d00df : Mt := (yJx4a65c_rangeCheckForAdd_d00df, cJx4a65c_rangeCheckForAdd_d00df, 2, none, 0, 0)
set_option maxRecDepth 20000 in
theorem mo_Jx4a65c_rangeCheckForAdd_d00df : Mok M_Jx4a65c_rangeCheckForAdd_d00df := ⟨w719, w125, by decide, by decide +kernel⟩
set_option maxRecDepth 20000 in
theorem na_Jx4a65c_rangeCheckForAdd_d00df : Nargs (my M_Jx4a65c_rangeCheckForAdd_d00df) 1 := by unfold Nargs; decide +kernel
set_option maxRecDepth 20000 in
theorem n_Jx4a65c_rangeCheckForAdd_d00df {Ω : Om} (a0 : Nat) (x1 : Int32) : (lg_sl [vR Ω (some a0), .int x1]).length ≤ mL M_Jx4a65c_rangeCheckForAdd_d00df := by rw [ls_R, ls_I, ls_0]; decide
def M_Jx4a65c_add_7a177 : Mt := (yJx4a65c_add_7a177, cJx4a65c_add_7a177, 5, none, 5, 113)
set_option maxRecDepth 20000 in
theorem mo_Jx4a65c_add_7a177 : Mok M_Jx4a65c_add_7a177 := ⟨w715, w125, by decide, by decide +kernel⟩
set_option maxRecDepth 20000 in
theorem na_Jx4a65c_add_7a177 : Nargs (my M_Jx4a65c_add_7a177) 2 := by unfold Nargs; decide +kernel
set_option maxRecDepth 20000 in
theorem n_Jx4a65c_add_7a177 {Ω : Om} (a0 : Nat) (x1 : Int32) (r2 : Option Nat) : (lg_sl [vR Ω (some a0), .int x1, vR Ω r2]).length ≤ mL M_Jx4a65c_add_7a177 := by rw [ls_R, ls_I, ls_R, ls_0]; decide
def M_X10_takeBack : Mt := (yX10_takeBack, cX10_takeBack, 3, none, 6, 137)
set_option maxRecDepth 20000 in
theorem mo_X10_takeBack : Mok M_X10_takeBack := ⟨w701, w138, by decide, by decide +kernel⟩
set_option maxRecDepth 20000 in
theorem na_X10_takeBack : Nargs (my M_X10_takeBack) 1 := by unfold Nargs; decide +kernel
set_option maxRecDepth 20000 in
theorem n_X10_takeBack {Ω : Om} (a0 : Nat) (r1 : Option Nat) : (lg_sl [vR Ω (some a0), vR Ω r1]).length ≤ mL M_X10_takeBack := by rw [ls_R, ls_R, ls_0]; decide
def M_X1_giveAllBack : Mt := (yX1_giveAllBack, cX1_giveAllBack, 2, none, 7, 159)
set_option maxRecDepth 20000 in
theorem mo_X1_giveAllBack : Mok M_X1_giveAllBack := ⟨w692, w131, by decide, by decide +kernel⟩
set_option maxRecDepth 20000 in
theorem na_X1_giveAllBack : Nargs (my M_X1_giveAllBack) 0 := by unfold Nargs; decide +kernel
set_option maxRecDepth 20000 in
theorem n_X1_giveAllBack {Ω : Om} (a0 : Nat) : (lg_sl [vR Ω (some a0)]).length ≤ mL M_X1_giveAllBack := by rw [ls_R, ls_0]; decide
def M_X1_leave : Mt := (yX1_leave, cX1_leave, 2, none, 1, 23)
set_option maxRecDepth 20000 in
theorem mo_X1_leave : Mok M_X1_leave := ⟨w732, w131, by decide, by decide +kernel⟩
set_option maxRecDepth 20000 in
theorem na_X1_leave : Nargs (my M_X1_leave) 1 := by unfold Nargs; decide +kernel
set_option maxRecDepth 20000 in
theorem n_X1_leave {Ω : Om} (a0 : Nat) (x1 : Int32) : (lg_sl [vR Ω (some a0), .int x1]).length ≤ mL M_X1_leave := by rw [ls_R, ls_I, ls_0]; decide
def M_X8_removeConsumersOn : Mt := (yX8_removeConsumersOn, cX8_removeConsumersOn, 3, none, 3, 72)
set_option maxRecDepth 20000 in
theorem mo_X8_removeConsumersOn : Mok M_X8_removeConsumersOn := ⟨w673, w122, by decide, by decide +kernel⟩
set_option maxRecDepth 20000 in
theorem na_X8_removeConsumersOn : Nargs (my M_X8_removeConsumersOn) 1 := by unfold Nargs; decide +kernel
set_option maxRecDepth 20000 in
theorem n_X8_removeConsumersOn {Ω : Om} (a0 : Nat) (r1 : Option Nat) : (lg_sl [vR Ω (some a0), vR Ω r1]).length ≤ mL M_X8_removeConsumersOn := by rw [ls_R, ls_R, ls_0]; decide
def M_X11_leaveChannel : Mt := (yX11_leaveChannel, cX11_leaveChannel, 3, none, 8, 180)
set_option maxRecDepth 20000 in
theorem mo_X11_leaveChannel : Mok M_X11_leaveChannel := ⟨w669, w119, by decide, by decide +kernel⟩
set_option maxRecDepth 20000 in
theorem na_X11_leaveChannel : Nargs (my M_X11_leaveChannel) 2 := by unfold Nargs; decide +kernel
set_option maxRecDepth 20000 in
theorem n_X11_leaveChannel {Ω : Om} (a0 : Nat) (r1 : Option Nat) (x2 : Int32) : (lg_sl [vR Ω (some a0), vR Ω r1, .int x2]).length ≤ mL M_X11_leaveChannel := by rw [ls_R, ls_R, ls_I, ls_0]; decide
def M_X6_clear : Mt := (yX6_clear, cX6_clear, 1, none, 0, 0)
set_option maxRecDepth 20000 in
theorem mo_X6_clear : Mok M_X6_clear := ⟨w665, w120, by decide, by decide +kernel⟩
set_option maxRecDepth 20000 in
theorem na_X6_clear : Nargs (my M_X6_clear) 0 := by unfold Nargs; decide +kernel
set_option maxRecDepth 20000 in
theorem n_X6_clear {Ω : Om} (a0 : Nat) : (lg_sl [vR Ω (some a0)]).length ≤ mL M_X6_clear := by rw [ls_R, ls_0]; decide
def M_X11_shutLine : Mt := (yX11_shutLine, cX11_shutLine, 2, none, 9, 202)
set_option maxRecDepth 20000 in
theorem mo_X11_shutLine : Mok M_X11_shutLine := ⟨w661, w119, by decide, by decide +kernel⟩
set_option maxRecDepth 20000 in
theorem na_X11_shutLine : Nargs (my M_X11_shutLine) 0 := by unfold Nargs; decide +kernel
set_option maxRecDepth 20000 in
theorem n_X11_shutLine {Ω : Om} (a0 : Nat) : (lg_sl [vR Ω (some a0)]).length ≤ mL M_X11_shutLine := by rw [ls_R, ls_0]; decide
def M_X6_isJustRead : Mt := (yX6_isJustRead, cX6_isJustRead, 1, (some .boolean), 0, 0)
set_option maxRecDepth 20000 in
theorem mo_X6_isJustRead : Mok M_X6_isJustRead := ⟨w477, w120, by decide, by decide +kernel⟩
set_option maxRecDepth 20000 in
theorem na_X6_isJustRead : Nargs (my M_X6_isJustRead) 0 := by unfold Nargs; decide +kernel
set_option maxRecDepth 20000 in
theorem n_X6_isJustRead {Ω : Om} (a0 : Nat) : (lg_sl [vR Ω (some a0)]).length ≤ mL M_X6_isJustRead := by rw [ls_R, ls_0]; decide
def M_X11_doLineMethod : Mt := (yX11_doLineMethod, cX11_doLineMethod, 2, (some .int), 10, 223)
set_option maxRecDepth 20000 in
theorem mo_X11_doLineMethod : Mok M_X11_doLineMethod := ⟨w653, w119, by decide, by decide +kernel⟩
set_option maxRecDepth 20000 in
theorem na_X11_doLineMethod : Nargs (my M_X11_doLineMethod) 1 := by unfold Nargs; decide +kernel
set_option maxRecDepth 20000 in
theorem n_X11_doLineMethod {Ω : Om} (a0 : Nat) (x1 : Int32) : (lg_sl [vR Ω (some a0), .int x1]).length ≤ mL M_X11_doLineMethod := by rw [ls_R, ls_I, ls_0]; decide
def M_X11_keep : Mt := (yX11_keep, cX11_keep, 3, (some .int), 7, 157)
set_option maxRecDepth 20000 in
theorem mo_X11_keep : Mok M_X11_keep := ⟨w515, w119, by decide, by decide +kernel⟩
set_option maxRecDepth 20000 in
theorem na_X11_keep : Nargs (my M_X11_keep) 2 := by unfold Nargs; decide +kernel
set_option maxRecDepth 20000 in
theorem n_X11_keep {Ω : Om} (a0 : Nat) (r1 : Option Nat) (r2 : Option Nat) : (lg_sl [vR Ω (some a0), vR Ω r1, vR Ω r2]).length ≤ mL M_X11_keep := by rw [ls_R, ls_R, ls_R, ls_0]; decide
def M_X3_coversAll : Mt := (yX3_coversAll, cX3_coversAll, 1, (some .boolean), 0, 0)
set_option maxRecDepth 20000 in
theorem mo_X3_coversAll : Mok M_X3_coversAll := ⟨w1004, w133, by decide, by decide +kernel⟩
set_option maxRecDepth 20000 in
theorem na_X3_coversAll : Nargs (my M_X3_coversAll) 0 := by unfold Nargs; decide +kernel
set_option maxRecDepth 20000 in
theorem n_X3_coversAll {Ω : Om} (a0 : Nat) : (lg_sl [vR Ω (some a0)]).length ≤ mL M_X3_coversAll := by rw [ls_R, ls_0]; decide
def M_X3_covers : Mt := (yX3_covers, cX3_covers, 2, (some .boolean), 1, 20)
set_option maxRecDepth 20000 in
theorem mo_X3_covers : Mok M_X3_covers := ⟨w1012, w133, by decide, by decide +kernel⟩
set_option maxRecDepth 20000 in
theorem na_X3_covers : Nargs (my M_X3_covers) 1 := by unfold Nargs; decide +kernel
set_option maxRecDepth 20000 in
theorem n_X3_covers {Ω : Om} (a0 : Nat) (r1 : Option Nat) : (lg_sl [vR Ω (some a0), vR Ω r1]).length ≤ mL M_X3_covers := by rw [ls_R, ls_R, ls_0]; decide
def M_X1_holdsSomeOf : Mt := (yX1_holdsSomeOf, cX1_holdsSomeOf, 3, (some .boolean), 3, 64)
set_option maxRecDepth 20000 in
theorem mo_X1_holdsSomeOf : Mok M_X1_holdsSomeOf := ⟨w1008, w131, by decide, by decide +kernel⟩
set_option maxRecDepth 20000 in
theorem na_X1_holdsSomeOf : Nargs (my M_X1_holdsSomeOf) 1 := by unfold Nargs; decide +kernel
set_option maxRecDepth 20000 in
theorem n_X1_holdsSomeOf {Ω : Om} (a0 : Nat) (r1 : Option Nat) : (lg_sl [vR Ω (some a0), vR Ω r1]).length ≤ mL M_X1_holdsSomeOf := by rw [ls_R, ls_R, ls_0]; decide
def M_X1_settle : Mt := (yX1_settle, cX1_settle, 4, none, 7, 159)
set_option maxRecDepth 20000 in
theorem mo_X1_settle : Mok M_X1_settle := ⟨w1017, w131, by decide, by decide +kernel⟩
set_option maxRecDepth 20000 in
theorem na_X1_settle : Nargs (my M_X1_settle) 1 := by unfold Nargs; decide +kernel
set_option maxRecDepth 20000 in
theorem n_X1_settle {Ω : Om} (a0 : Nat) (r1 : Option Nat) : (lg_sl [vR Ω (some a0), vR Ω r1]).length ≤ mL M_X1_settle := by rw [ls_R, ls_R, ls_0]; decide
def M_X3_init_ : Mt := (yX3_init_, cX3_init_, 4, none, 1, 26)
set_option maxRecDepth 20000 in
theorem mo_X3_init_ : Mok M_X3_init_ := ⟨w1000, w133, by decide, by decide +kernel⟩
set_option maxRecDepth 20000 in
theorem na_X3_init_ : Nargs (my M_X3_init_) 3 := by unfold Nargs; decide +kernel
set_option maxRecDepth 20000 in
theorem n_X3_init_ {Ω : Om} (a0 : Nat) (x1 : Int32) (x2 : Int32) (x3 : Int32) : (lg_sl [vR Ω (some a0), .int x1, .int x2, .int x3]).length ≤ mL M_X3_init_ := by rw [ls_R, ls_I, ls_I, ls_I, ls_0]; decide
def M_X11_settle : Mt := (yX11_settle, cX11_settle, 6, (some .int), 8, 182)
set_option maxRecDepth 20000 in
theorem mo_X11_settle : Mok M_X11_settle := ⟨w997, w119, by decide, by decide +kernel⟩
set_option maxRecDepth 20000 in
theorem na_X11_settle : Nargs (my M_X11_settle) 4 := by unfold Nargs; decide +kernel
set_option maxRecDepth 20000 in
theorem n_X11_settle {Ω : Om} (a0 : Nat) (r1 : Option Nat) (x2 : Int32) (x3 : Int32) (x4 : Int32) : (lg_sl [vR Ω (some a0), vR Ω r1, .int x2, .int x3, .int x4]).length ≤ mL M_X11_settle := by rw [ls_R, ls_R, ls_I, ls_I, ls_I, ls_0]; decide
def M_X6_readByte : Mt := (yX6_readByte, cX6_readByte, 1, (some .int), 0, 0)
set_option maxRecDepth 20000 in
theorem mo_X6_readByte : Mok M_X6_readByte := ⟨w473, w120, by decide, by decide +kernel⟩
set_option maxRecDepth 20000 in
theorem na_X6_readByte : Nargs (my M_X6_readByte) 0 := by unfold Nargs; decide +kernel
set_option maxRecDepth 20000 in
theorem n_X6_readByte {Ω : Om} (a0 : Nat) : (lg_sl [vR Ω (some a0)]).length ≤ mL M_X6_readByte := by rw [ls_R, ls_0]; decide
def M_X6_readFlag : Mt := (yX6_readFlag, cX6_readFlag, 1, (some .boolean), 1, 20)
set_option maxRecDepth 20000 in
theorem mo_X6_readFlag : Mok M_X6_readFlag := ⟨w765, w120, by decide, by decide +kernel⟩
set_option maxRecDepth 20000 in
theorem na_X6_readFlag : Nargs (my M_X6_readFlag) 0 := by unfold Nargs; decide +kernel
set_option maxRecDepth 20000 in
theorem n_X6_readFlag {Ω : Om} (a0 : Nat) : (lg_sl [vR Ω (some a0)]).length ≤ mL M_X6_readFlag := by rw [ls_R, ls_0]; decide
def M_X6_readShort : Mt := (yX6_readShort, cX6_readShort, 2, (some .int), 1, 20)
set_option maxRecDepth 20000 in
theorem mo_X6_readShort : Mok M_X6_readShort := ⟨w469, w120, by decide, by decide +kernel⟩
set_option maxRecDepth 20000 in
theorem na_X6_readShort : Nargs (my M_X6_readShort) 0 := by unfold Nargs; decide +kernel
set_option maxRecDepth 20000 in
theorem n_X6_readShort {Ω : Om} (a0 : Nat) : (lg_sl [vR Ω (some a0)]).length ≤ mL M_X6_readShort := by rw [ls_R, ls_0]; decide
def M_X11_acknowledge : Mt := (yX11_acknowledge, cX11_acknowledge, 4, (some .int), 9, 207)
set_option maxRecDepth 20000 in
theorem mo_X11_acknowledge : Mok M_X11_acknowledge := ⟨w993, w119, by decide, by decide +kernel⟩
set_option maxRecDepth 20000 in
theorem na_X11_acknowledge : Nargs (my M_X11_acknowledge) 1 := by unfold Nargs; decide +kernel
set_option maxRecDepth 20000 in
theorem n_X11_acknowledge {Ω : Om} (a0 : Nat) (r1 : Option Nat) : (lg_sl [vR Ω (some a0), vR Ω r1]).length ≤ mL M_X11_acknowledge := by rw [ls_R, ls_R, ls_0]; decide
def M_X6_readName : Mt := (yX6_readName, cX6_readName, 6, (some .long), 1, 20)
set_option maxRecDepth 20000 in
theorem mo_X6_readName : Mok M_X6_readName := ⟨w761, w120, by decide, by decide +kernel⟩
set_option maxRecDepth 20000 in
theorem na_X6_readName : Nargs (my M_X6_readName) 0 := by unfold Nargs; decide +kernel
set_option maxRecDepth 20000 in
theorem n_X6_readName {Ω : Om} (a0 : Nat) : (lg_sl [vR Ω (some a0)]).length ≤ mL M_X6_readName := by rw [ls_R, ls_0]; decide
def M_X8_consumerAt : Mt := (yX8_consumerAt, cX8_consumerAt, 5, (some .int), 3, 64)
set_option maxRecDepth 20000 in
theorem mo_X8_consumerAt : Mok M_X8_consumerAt := ⟨w890, w122, by decide, by decide +kernel⟩
set_option maxRecDepth 20000 in
theorem na_X8_consumerAt : Nargs (my M_X8_consumerAt) 2 := by unfold Nargs; decide +kernel
set_option maxRecDepth 20000 in
theorem n_X8_consumerAt {Ω : Om} (a0 : Nat) (r1 : Option Nat) (x2 : Int64) : (lg_sl [vR Ω (some a0), vR Ω r1, .long x2]).length ≤ mL M_X8_consumerAt := by rw [ls_R, ls_R, ls_J, ls_0]; decide
def M_X11_cancel : Mt := (yX11_cancel, cX11_cancel, 5, (some .int), 4, 88)
set_option maxRecDepth 20000 in
theorem mo_X11_cancel : Mok M_X11_cancel := ⟨w927, w119, by decide, by decide +kernel⟩
set_option maxRecDepth 20000 in
theorem na_X11_cancel : Nargs (my M_X11_cancel) 1 := by unfold Nargs; decide +kernel
set_option maxRecDepth 20000 in
theorem n_X11_cancel {Ω : Om} (a0 : Nat) (r1 : Option Nat) : (lg_sl [vR Ω (some a0), vR Ω r1]).length ≤ mL M_X11_cancel := by rw [ls_R, ls_R, ls_0]; decide
def M_X0_wordsOf : Mt := (yX0_wordsOf, cX0_wordsOf, 8, (some (.array .long)), 0, 0)
set_option maxRecDepth 20000 in
theorem mo_X0_wordsOf : Mok M_X0_wordsOf := ⟨w836, w139, by decide, by decide +kernel⟩
set_option maxRecDepth 20000 in
theorem na_X0_wordsOf : Nargs (my M_X0_wordsOf) 1 := by unfold Nargs; decide +kernel
set_option maxRecDepth 20000 in
theorem n_X0_wordsOf (x0 : Int64) : (lg_sl [.long x0]).length ≤ mL M_X0_wordsOf := by rw [ls_J, ls_0]; decide
def M_X0_init : Mt := (yX0_init, cX0_init, 5, none, 1, 27)
set_option maxRecDepth 20000 in
theorem mo_X0_init : Mok M_X0_init := ⟨w832, w139, by decide, by decide +kernel⟩
set_option maxRecDepth 20000 in
theorem na_X0_init : Nargs (my M_X0_init) 3 := by unfold Nargs; decide +kernel
set_option maxRecDepth 20000 in
theorem n_X0_init {Ω : Om} (a0 : Nat) (r1 : Option Nat) (r2 : Option Nat) (x3 : Int64) : (lg_sl [vR Ω (some a0), vR Ω r1, vR Ω r2, .long x3]).length ≤ mL M_X0_init := by rw [ls_R, ls_R, ls_R, ls_J, ls_0]; decide
def M_X8_bindingAt : Mt := (yX8_bindingAt, cX8_bindingAt, 7, (some .int), 3, 64)
set_option maxRecDepth 20000 in
theorem mo_X8_bindingAt : Mok M_X8_bindingAt := ⟨w825, w122, by decide, by decide +kernel⟩
set_option maxRecDepth 20000 in
theorem na_X8_bindingAt : Nargs (my M_X8_bindingAt) 3 := by unfold Nargs; decide +kernel
set_option maxRecDepth 20000 in
theorem n_X8_bindingAt {Ω : Om} (a0 : Nat) (r1 : Option Nat) (r2 : Option Nat) (x3 : Int64) : (lg_sl [vR Ω (some a0), vR Ω r1, vR Ω r2, .long x3]).length ≤ mL M_X8_bindingAt := by rw [ls_R, ls_R, ls_R, ls_J, ls_0]; decide
def M_X8_exchangeNamed : Mt := (yX8_exchangeNamed, cX8_exchangeNamed, 4, (some (.object "LetterBroker$Exchange")), 3, 64)
set_option maxRecDepth 20000 in
theorem mo_X8_exchangeNamed : Mok M_X8_exchangeNamed := ⟨w769, w122, by decide, by decide +kernel⟩
set_option maxRecDepth 20000 in
theorem na_X8_exchangeNamed : Nargs (my M_X8_exchangeNamed) 1 := by unfold Nargs; decide +kernel
set_option maxRecDepth 20000 in
theorem n_X8_exchangeNamed {Ω : Om} (a0 : Nat) (x1 : Int64) : (lg_sl [vR Ω (some a0), .long x1]).length ≤ mL M_X8_exchangeNamed := by rw [ls_R, ls_J, ls_0]; decide
def M_X8_queueNamed : Mt := (yX8_queueNamed, cX8_queueNamed, 4, (some (.object "LetterBroker$Queue")), 3, 64)
set_option maxRecDepth 20000 in
theorem mo_X8_queueNamed : Mok M_X8_queueNamed := ⟨w791, w122, by decide, by decide +kernel⟩
set_option maxRecDepth 20000 in
theorem na_X8_queueNamed : Nargs (my M_X8_queueNamed) 1 := by unfold Nargs; decide +kernel
set_option maxRecDepth 20000 in
theorem n_X8_queueNamed {Ω : Om} (a0 : Nat) (x1 : Int64) : (lg_sl [vR Ω (some a0), .long x1]).length ≤ mL M_X8_queueNamed := by rw [ls_R, ls_J, ls_0]; decide
def M_X11_changeBinding : Mt := (yX11_changeBinding, cX11_changeBinding, 8, (some .int), 7, 157)
set_option maxRecDepth 20000 in
theorem mo_X11_changeBinding : Mok M_X11_changeBinding := ⟨w821, w119, by decide, by decide +kernel⟩
set_option maxRecDepth 20000 in
theorem na_X11_changeBinding : Nargs (my M_X11_changeBinding) 2 := by unfold Nargs; decide +kernel
set_option maxRecDepth 20000 in
theorem n_X11_changeBinding {Ω : Om} (a0 : Nat) (r1 : Option Nat) (x2 : Int32) : (lg_sl [vR Ω (some a0), vR Ω r1, .int x2]).length ≤ mL M_X11_changeBinding := by rw [ls_R, ls_R, ls_I, ls_0]; decide
def M_X11_closeChannel : Mt := (yX11_closeChannel, cX11_closeChannel, 2, (some .int), 9, 202)
set_option maxRecDepth 20000 in
theorem mo_X11_closeChannel : Mok M_X11_closeChannel := ⟨w753, w119, by decide, by decide +kernel⟩
set_option maxRecDepth 20000 in
theorem na_X11_closeChannel : Nargs (my M_X11_closeChannel) 1 := by unfold Nargs; decide +kernel
set_option maxRecDepth 20000 in
theorem n_X11_closeChannel {Ω : Om} (a0 : Nat) (r1 : Option Nat) : (lg_sl [vR Ω (some a0), vR Ω r1]).length ≤ mL M_X11_closeChannel := by rw [ls_R, ls_R, ls_0]; decide
def M_J6_bitCount_0f7a4 : Mt := (yJ6_bitCount_0f7a4, cJ6_bitCount_0f7a4, 1, (some .int), 0, 0)
set_option maxRecDepth 20000 in
theorem mo_J6_bitCount_0f7a4 : Mok M_J6_bitCount_0f7a4 := ⟨w570, w136, by decide, by decide +kernel⟩
set_option maxRecDepth 20000 in
theorem na_J6_bitCount_0f7a4 : Nargs (my M_J6_bitCount_0f7a4) 1 := by unfold Nargs; decide +kernel
set_option maxRecDepth 20000 in
theorem n_J6_bitCount_0f7a4 (x0 : Int32) : (lg_sl [.int x0]).length ≤ mL M_J6_bitCount_0f7a4 := by rw [ls_I, ls_0]; decide
def M_X8_lettersThatWait : Mt := (yX8_lettersThatWait, cX8_lettersThatWait, 3, (some .int), 3, 64)
set_option maxRecDepth 20000 in
theorem mo_X8_lettersThatWait : Mok M_X8_lettersThatWait := ⟨w581, w122, by decide, by decide +kernel⟩
set_option maxRecDepth 20000 in
theorem na_X8_lettersThatWait : Nargs (my M_X8_lettersThatWait) 0 := by unfold Nargs; decide +kernel
set_option maxRecDepth 20000 in
theorem n_X8_lettersThatWait {Ω : Om} (a0 : Nat) : (lg_sl [vR Ω (some a0)]).length ≤ mL M_X8_lettersThatWait := by rw [ls_R, ls_0]; decide
def M_X11_lettersInAll : Mt := (yX11_lettersInAll, cX11_lettersInAll, 3, (some .int), 4, 86)
set_option maxRecDepth 20000 in
theorem mo_X11_lettersInAll : Mok M_X11_lettersInAll := ⟨w577, w119, by decide, by decide +kernel⟩
set_option maxRecDepth 20000 in
theorem na_X11_lettersInAll : Nargs (my M_X11_lettersInAll) 0 := by unfold Nargs; decide +kernel
set_option maxRecDepth 20000 in
theorem n_X11_lettersInAll {Ω : Om} (a0 : Nat) : (lg_sl [vR Ω (some a0)]).length ≤ mL M_X11_lettersInAll := by rw [ls_R, ls_0]; decide
def M_X11_sendReturned : Mt := (yX11_sendReturned, cX11_sendReturned, 3, none, 2, 46)
set_option maxRecDepth 20000 in
theorem mo_X11_sendReturned : Mok M_X11_sendReturned := ⟨w585, w119, by decide, by decide +kernel⟩
set_option maxRecDepth 20000 in
theorem na_X11_sendReturned : Nargs (my M_X11_sendReturned) 2 := by unfold Nargs; decide +kernel
set_option maxRecDepth 20000 in
theorem n_X11_sendReturned {Ω : Om} (a0 : Nat) (r1 : Option Nat) (r2 : Option Nat) : (lg_sl [vR Ω (some a0), vR Ω r1, vR Ω r2]).length ≤ mL M_X11_sendReturned := by rw [ls_R, ls_R, ls_R, ls_0]; decide
def M_X0_fits : Mt := (yX0_fits, cX0_fits, 8, (some .boolean), 0, 0)
set_option maxRecDepth 20000 in
theorem mo_X0_fits : Mok M_X0_fits := ⟨w565, w139, by decide, by decide +kernel⟩
set_option maxRecDepth 20000 in
theorem na_X0_fits : Nargs (my M_X0_fits) 1 := by unfold Nargs; decide +kernel
set_option maxRecDepth 20000 in
theorem n_X0_fits {Ω : Om} (a0 : Nat) (r1 : Option Nat) : (lg_sl [vR Ω (some a0), vR Ω r1]).length ≤ mL M_X0_fits := by rw [ls_R, ls_R, ls_0]; decide
def M_X8_reaches : Mt := (yX8_reaches, cX8_reaches, 5, (some .boolean), 3, 64)
set_option maxRecDepth 20000 in
theorem mo_X8_reaches : Mok M_X8_reaches := ⟨w560, w122, by decide, by decide +kernel⟩
set_option maxRecDepth 20000 in
theorem na_X8_reaches : Nargs (my M_X8_reaches) 2 := by unfold Nargs; decide +kernel
set_option maxRecDepth 20000 in
theorem n_X8_reaches {Ω : Om} (a0 : Nat) (r1 : Option Nat) (r2 : Option Nat) : (lg_sl [vR Ω (some a0), vR Ω r1, vR Ω r2]).length ≤ mL M_X8_reaches := by rw [ls_R, ls_R, ls_R, ls_0]; decide
def M_X8_placesReachedBy : Mt := (yX8_placesReachedBy, cX8_placesReachedBy, 4, (some .int), 4, 88)
set_option maxRecDepth 20000 in
theorem mo_X8_placesReachedBy : Mok M_X8_placesReachedBy := ⟨w534, w122, by decide, by decide +kernel⟩
set_option maxRecDepth 20000 in
theorem na_X8_placesReachedBy : Nargs (my M_X8_placesReachedBy) 1 := by unfold Nargs; decide +kernel
set_option maxRecDepth 20000 in
theorem n_X8_placesReachedBy {Ω : Om} (a0 : Nat) (r1 : Option Nat) : (lg_sl [vR Ω (some a0), vR Ω r1]).length ≤ mL M_X8_placesReachedBy := by rw [ls_R, ls_R, ls_0]; decide
def M_X7_init : Mt := (yX7_init, cX7_init, 4, none, 1, 26)
set_option maxRecDepth 20000 in
theorem mo_X7_init : Mok M_X7_init := ⟨w608, w137, by decide, by decide +kernel⟩
set_option maxRecDepth 20000 in
theorem na_X7_init : Nargs (my M_X7_init) 3 := by unfold Nargs; decide +kernel
set_option maxRecDepth 20000 in
theorem n_X7_init {Ω : Om} (a0 : Nat) (r1 : Option Nat) (r2 : Option Nat) (x3 : Int32) : (lg_sl [vR Ω (some a0), vR Ω r1, vR Ω r2, .int x3]).length ≤ mL M_X7_init := by rw [ls_R, ls_R, ls_R, ls_I, ls_0]; decide
def M_X8_putInto : Mt := (yX8_putInto, cX8_putInto, 4, none, 7, 157)
set_option maxRecDepth 20000 in
theorem mo_X8_putInto : Mok M_X8_putInto := ⟨w603, w122, by decide, by decide +kernel⟩
set_option maxRecDepth 20000 in
theorem na_X8_putInto : Nargs (my M_X8_putInto) 2 := by unfold Nargs; decide +kernel
set_option maxRecDepth 20000 in
theorem n_X8_putInto {Ω : Om} (a0 : Nat) (x1 : Int32) (r2 : Option Nat) : (lg_sl [vR Ω (some a0), .int x1, vR Ω r2]).length ≤ mL M_X8_putInto := by rw [ls_R, ls_I, ls_R, ls_0]; decide
def M_X11_post : Mt := (yX11_post, cX11_post, 4, (some .int), 8, 180)
set_option maxRecDepth 20000 in
theorem mo_X11_post : Mok M_X11_post := ⟨w530, w119, by decide, by decide +kernel⟩
set_option maxRecDepth 20000 in
theorem na_X11_post : Nargs (my M_X11_post) 2 := by unfold Nargs; decide +kernel
set_option maxRecDepth 20000 in
theorem n_X11_post {Ω : Om} (a0 : Nat) (r1 : Option Nat) (r2 : Option Nat) : (lg_sl [vR Ω (some a0), vR Ω r1, vR Ω r2]).length ≤ mL M_X11_post := by rw [ls_R, ls_R, ls_R, ls_0]; decide
def M_X11_commit : Mt := (yX11_commit, cX11_commit, 4, (some .int), 9, 203)
set_option maxRecDepth 20000 in
theorem mo_X11_commit : Mok M_X11_commit := ⟨w1039, w119, by decide, by decide +kernel⟩
set_option maxRecDepth 20000 in
theorem na_X11_commit : Nargs (my M_X11_commit) 1 := by unfold Nargs; decide +kernel
set_option maxRecDepth 20000 in
theorem n_X11_commit {Ω : Om} (a0 : Nat) (r1 : Option Nat) : (lg_sl [vR Ω (some a0), vR Ω r1]).length ≤ mL M_X11_commit := by rw [ls_R, ls_R, ls_0]; decide
def M_X2_init : Mt := (yX2_init, cX2_init, 7, none, 1, 26)
set_option maxRecDepth 20000 in
theorem mo_X2_init : Mok M_X2_init := ⟨w898, w140, by decide, by decide +kernel⟩
set_option maxRecDepth 20000 in
theorem na_X2_init : Nargs (my M_X2_init) 5 := by unfold Nargs; decide +kernel
set_option maxRecDepth 20000 in
theorem n_X2_init {Ω : Om} (a0 : Nat) (r1 : Option Nat) (r2 : Option Nat) (x3 : Int64) (x5 : Int32) (x6 : Int32) : (lg_sl [vR Ω (some a0), vR Ω r1, vR Ω r2, .long x3, .int x5, .int x6]).length ≤ mL M_X2_init := by rw [ls_R, ls_R, ls_R, ls_J, ls_I, ls_I, ls_0]; decide
def M_X8_addConsumer : Mt := (yX8_addConsumer, cX8_addConsumer, 6, none, 7, 157)
set_option maxRecDepth 20000 in
theorem mo_X8_addConsumer : Mok M_X8_addConsumer := ⟨w894, w122, by decide, by decide +kernel⟩
set_option maxRecDepth 20000 in
theorem na_X8_addConsumer : Nargs (my M_X8_addConsumer) 4 := by unfold Nargs; decide +kernel
set_option maxRecDepth 20000 in
theorem n_X8_addConsumer {Ω : Om} (a0 : Nat) (r1 : Option Nat) (r2 : Option Nat) (x3 : Int64) (x5 : Int32) : (lg_sl [vR Ω (some a0), vR Ω r1, vR Ω r2, .long x3, .int x5]).length ≤ mL M_X8_addConsumer := by rw [ls_R, ls_R, ls_R, ls_J, ls_I, ls_0]; decide
def M_X11_consume : Mt := (yX11_consume, cX11_consume, 6, (some .int), 8, 182)
set_option maxRecDepth 20000 in
theorem mo_X11_consume : Mok M_X11_consume := ⟨w886, w119, by decide, by decide +kernel⟩
set_option maxRecDepth 20000 in
theorem na_X11_consume : Nargs (my M_X11_consume) 1 := by unfold Nargs; decide +kernel
set_option maxRecDepth 20000 in
theorem n_X11_consume {Ω : Om} (a0 : Nat) (r1 : Option Nat) : (lg_sl [vR Ω (some a0), vR Ω r1]).length ≤ mL M_X11_consume := by rw [ls_R, ls_R, ls_0]; decide
def M_X11_declareExchange : Mt := (yX11_declareExchange, cX11_declareExchange, 7, (some .int), 7, 157)
set_option maxRecDepth 20000 in
theorem mo_X11_declareExchange : Mok M_X11_declareExchange := ⟨w757, w119, by decide, by decide +kernel⟩
set_option maxRecDepth 20000 in
theorem na_X11_declareExchange : Nargs (my M_X11_declareExchange) 1 := by unfold Nargs; decide +kernel
set_option maxRecDepth 20000 in
theorem n_X11_declareExchange {Ω : Om} (a0 : Nat) (r1 : Option Nat) : (lg_sl [vR Ω (some a0), vR Ω r1]).length ≤ mL M_X11_declareExchange := by rw [ls_R, ls_R, ls_0]; decide
def M_X10_init : Mt := (yX10_init, cX10_init, 3, none, 4, 86)
set_option maxRecDepth 20000 in
theorem mo_X10_init : Mok M_X10_init := ⟨w796, w138, by decide, by decide +kernel⟩
set_option maxRecDepth 20000 in
theorem na_X10_init : Nargs (my M_X10_init) 1 := by unfold Nargs; decide +kernel
set_option maxRecDepth 20000 in
theorem n_X10_init {Ω : Om} (a0 : Nat) (x1 : Int64) : (lg_sl [vR Ω (some a0), .long x1]).length ≤ mL M_X10_init := by rw [ls_R, ls_J, ls_0]; decide
def M_X11_declareQueue : Mt := (yX11_declareQueue, cX11_declareQueue, 6, (some .int), 7, 157)
set_option maxRecDepth 20000 in
theorem mo_X11_declareQueue : Mok M_X11_declareQueue := ⟨w787, w119, by decide, by decide +kernel⟩
set_option maxRecDepth 20000 in
theorem na_X11_declareQueue : Nargs (my M_X11_declareQueue) 1 := by unfold Nargs; decide +kernel
set_option maxRecDepth 20000 in
theorem n_X11_declareQueue {Ω : Om} (a0 : Nat) (r1 : Option Nat) : (lg_sl [vR Ω (some a0), vR Ω r1]).length ≤ mL M_X11_declareQueue := by rw [ls_R, ls_R, ls_0]; decide
def M_X8_isBound : Mt := (yX8_isBound, cX8_isBound, 3, (some .boolean), 3, 64)
set_option maxRecDepth 20000 in
theorem mo_X8_isBound : Mok M_X8_isBound := ⟨w779, w122, by decide, by decide +kernel⟩
set_option maxRecDepth 20000 in
theorem na_X8_isBound : Nargs (my M_X8_isBound) 1 := by unfold Nargs; decide +kernel
set_option maxRecDepth 20000 in
theorem n_X8_isBound {Ω : Om} (a0 : Nat) (r1 : Option Nat) : (lg_sl [vR Ω (some a0), vR Ω r1]).length ≤ mL M_X8_isBound := by rw [ls_R, ls_R, ls_0]; decide
def M_X8_remove : Mt := (yX8_remove, cX8_remove, 3, none, 3, 72)
set_option maxRecDepth 20000 in
theorem mo_X8_remove : Mok M_X8_remove := ⟨w783, w122, by decide, by decide +kernel⟩
set_option maxRecDepth 20000 in
theorem na_X8_remove : Nargs (my M_X8_remove) 1 := by unfold Nargs; decide +kernel
set_option maxRecDepth 20000 in
theorem n_X8_remove {Ω : Om} (a0 : Nat) (r1 : Option Nat) : (lg_sl [vR Ω (some a0), vR Ω r1]).length ≤ mL M_X8_remove := by rw [ls_R, ls_R, ls_0]; decide
def M_X11_deleteExchange : Mt := (yX11_deleteExchange, cX11_deleteExchange, 6, (some .int), 4, 94)
set_option maxRecDepth 20000 in
theorem mo_X11_deleteExchange : Mok M_X11_deleteExchange := ⟨w775, w119, by decide, by decide +kernel⟩
set_option maxRecDepth 20000 in
theorem na_X11_deleteExchange : Nargs (my M_X11_deleteExchange) 1 := by unfold Nargs; decide +kernel
set_option maxRecDepth 20000 in
theorem n_X11_deleteExchange {Ω : Om} (a0 : Nat) (r1 : Option Nat) : (lg_sl [vR Ω (some a0), vR Ω r1]).length ≤ mL M_X11_deleteExchange := by rw [ls_R, ls_R, ls_0]; decide
def M_X8_remove_ : Mt := (yX8_remove_, cX8_remove_, 3, none, 3, 72)
set_option maxRecDepth 20000 in
theorem mo_X8_remove_ : Mok M_X8_remove_ := ⟨w878, w122, by decide, by decide +kernel⟩
set_option maxRecDepth 20000 in
theorem na_X8_remove_ : Nargs (my M_X8_remove_) 1 := by unfold Nargs; decide +kernel
set_option maxRecDepth 20000 in
theorem n_X8_remove_ {Ω : Om} (a0 : Nat) (r1 : Option Nat) : (lg_sl [vR Ω (some a0), vR Ω r1]).length ≤ mL M_X8_remove_ := by rw [ls_R, ls_R, ls_0]; decide
def M_X11_deleteQueue : Mt := (yX11_deleteQueue, cX11_deleteQueue, 6, (some .int), 4, 94)
set_option maxRecDepth 20000 in
theorem mo_X11_deleteQueue : Mok M_X11_deleteQueue := ⟨w865, w119, by decide, by decide +kernel⟩
set_option maxRecDepth 20000 in
theorem na_X11_deleteQueue : Nargs (my M_X11_deleteQueue) 1 := by unfold Nargs; decide +kernel
set_option maxRecDepth 20000 in
theorem n_X11_deleteQueue {Ω : Om} (a0 : Nat) (r1 : Option Nat) : (lg_sl [vR Ω (some a0), vR Ω r1]).length ≤ mL M_X11_deleteQueue := by rw [ls_R, ls_R, ls_0]; decide
def M_X11_get : Mt := (yX11_get, cX11_get, 5, (some .int), 8, 179)
set_option maxRecDepth 20000 in
theorem mo_X11_get : Mok M_X11_get := ⟨w976, w119, by decide, by decide +kernel⟩
set_option maxRecDepth 20000 in
theorem na_X11_get : Nargs (my M_X11_get) 1 := by unfold Nargs; decide +kernel
set_option maxRecDepth 20000 in
theorem n_X11_get {Ω : Om} (a0 : Nat) (r1 : Option Nat) : (lg_sl [vR Ω (some a0), vR Ω r1]).length ≤ mL M_X11_get := by rw [ls_R, ls_R, ls_0]; decide
def M_X1_begin : Mt := (yX1_begin, cX1_begin, 1, none, 0, 0)
set_option maxRecDepth 20000 in
theorem mo_X1_begin : Mok M_X1_begin := ⟨w744, w131, by decide, by decide +kernel⟩
set_option maxRecDepth 20000 in
theorem na_X1_begin : Nargs (my M_X1_begin) 0 := by unfold Nargs; decide +kernel
set_option maxRecDepth 20000 in
theorem n_X1_begin {Ω : Om} (a0 : Nat) : (lg_sl [vR Ω (some a0)]).length ≤ mL M_X1_begin := by rw [ls_R, ls_0]; decide
def M_X11_openChannel : Mt := (yX11_openChannel, cX11_openChannel, 2, (some .int), 3, 65)
set_option maxRecDepth 20000 in
theorem mo_X11_openChannel : Mok M_X11_openChannel := ⟨w740, w119, by decide, by decide +kernel⟩
set_option maxRecDepth 20000 in
theorem na_X11_openChannel : Nargs (my M_X11_openChannel) 1 := by unfold Nargs; decide +kernel
set_option maxRecDepth 20000 in
theorem n_X11_openChannel {Ω : Om} (a0 : Nat) (r1 : Option Nat) : (lg_sl [vR Ω (some a0), vR Ω r1]).length ≤ mL M_X11_openChannel := by rw [ls_R, ls_R, ls_0]; decide
def M_X4_init : Mt := (yX4_init, cX4_init, 6, none, 1, 27)
set_option maxRecDepth 20000 in
theorem mo_X4_init : Mok M_X4_init := ⟨w936, w141, by decide, by decide +kernel⟩
set_option maxRecDepth 20000 in
theorem na_X4_init : Nargs (my M_X4_init) 3 := by unfold Nargs; decide +kernel
set_option maxRecDepth 20000 in
theorem n_X4_init {Ω : Om} (a0 : Nat) (x1 : Int64) (x3 : Int64) (x5 : Int32) : (lg_sl [vR Ω (some a0), .long x1, .long x3, .int x5]).length ≤ mL M_X4_init := by rw [ls_R, ls_J, ls_J, ls_I, ls_0]; decide
def M_X11_publish : Mt := (yX11_publish, cX11_publish, 7, (some .int), 4, 87)
set_option maxRecDepth 20000 in
theorem mo_X11_publish : Mok M_X11_publish := ⟨w931, w119, by decide, by decide +kernel⟩
set_option maxRecDepth 20000 in
theorem na_X11_publish : Nargs (my M_X11_publish) 1 := by unfold Nargs; decide +kernel
set_option maxRecDepth 20000 in
theorem n_X11_publish {Ω : Om} (a0 : Nat) (r1 : Option Nat) : (lg_sl [vR Ω (some a0), vR Ω r1]).length ≤ mL M_X11_publish := by rw [ls_R, ls_R, ls_0]; decide
def M_X11_purge : Mt := (yX11_purge, cX11_purge, 3, (some .int), 4, 87)
set_option maxRecDepth 20000 in
theorem mo_X11_purge : Mok M_X11_purge := ⟨w859, w119, by decide, by decide +kernel⟩
set_option maxRecDepth 20000 in
theorem na_X11_purge : Nargs (my M_X11_purge) 1 := by unfold Nargs; decide +kernel
set_option maxRecDepth 20000 in
theorem n_X11_purge {Ω : Om} (a0 : Nat) (r1 : Option Nat) : (lg_sl [vR Ω (some a0), vR Ω r1]).length ≤ mL M_X11_purge := by rw [ls_R, ls_R, ls_0]; decide
def M_X11_recover : Mt := (yX11_recover, cX11_recover, 2, (some .int), 8, 180)
set_option maxRecDepth 20000 in
theorem mo_X11_recover : Mok M_X11_recover := ⟨w1027, w119, by decide, by decide +kernel⟩
set_option maxRecDepth 20000 in
theorem na_X11_recover : Nargs (my M_X11_recover) 1 := by unfold Nargs; decide +kernel
set_option maxRecDepth 20000 in
theorem n_X11_recover {Ω : Om} (a0 : Nat) (r1 : Option Nat) : (lg_sl [vR Ω (some a0), vR Ω r1]).length ≤ mL M_X11_recover := by rw [ls_R, ls_R, ls_0]; decide
def M_X11_refuse : Mt := (yX11_refuse, cX11_refuse, 5, (some .int), 9, 207)
set_option maxRecDepth 20000 in
theorem mo_X11_refuse : Mok M_X11_refuse := ⟨w1031, w119, by decide, by decide +kernel⟩
set_option maxRecDepth 20000 in
theorem na_X11_refuse : Nargs (my M_X11_refuse) 1 := by unfold Nargs; decide +kernel
set_option maxRecDepth 20000 in
theorem n_X11_refuse {Ω : Om} (a0 : Nat) (r1 : Option Nat) : (lg_sl [vR Ω (some a0), vR Ω r1]).length ≤ mL M_X11_refuse := by rw [ls_R, ls_R, ls_0]; decide
def M_X11_reject : Mt := (yX11_reject, cX11_reject, 4, (some .int), 9, 207)
set_option maxRecDepth 20000 in
theorem mo_X11_reject : Mok M_X11_reject := ⟨w1023, w119, by decide, by decide +kernel⟩
set_option maxRecDepth 20000 in
theorem na_X11_reject : Nargs (my M_X11_reject) 1 := by unfold Nargs; decide +kernel
set_option maxRecDepth 20000 in
theorem n_X11_reject {Ω : Om} (a0 : Nat) (r1 : Option Nat) : (lg_sl [vR Ω (some a0), vR Ω r1]).length ≤ mL M_X11_reject := by rw [ls_R, ls_R, ls_0]; decide
def M_X11_rollBack : Mt := (yX11_rollBack, cX11_rollBack, 2, (some .int), 3, 65)
set_option maxRecDepth 20000 in
theorem mo_X11_rollBack : Mok M_X11_rollBack := ⟨w1045, w119, by decide, by decide +kernel⟩
set_option maxRecDepth 20000 in
theorem na_X11_rollBack : Nargs (my M_X11_rollBack) 1 := by unfold Nargs; decide +kernel
set_option maxRecDepth 20000 in
theorem n_X11_rollBack {Ω : Om} (a0 : Nat) (r1 : Option Nat) : (lg_sl [vR Ω (some a0), vR Ω r1]).length ≤ mL M_X11_rollBack := by rw [ls_R, ls_R, ls_0]; decide
def M_X11_setFlow : Mt := (yX11_setFlow, cX11_setFlow, 3, (some .int), 2, 43)
set_option maxRecDepth 20000 in
theorem mo_X11_setFlow : Mok M_X11_setFlow := ⟨w748, w119, by decide, by decide +kernel⟩
set_option maxRecDepth 20000 in
theorem na_X11_setFlow : Nargs (my M_X11_setFlow) 1 := by unfold Nargs; decide +kernel
set_option maxRecDepth 20000 in
theorem n_X11_setFlow {Ω : Om} (a0 : Nat) (r1 : Option Nat) : (lg_sl [vR Ω (some a0), vR Ω r1]).length ≤ mL M_X11_setFlow := by rw [ls_R, ls_R, ls_0]; decide
def M_X11_setLimit : Mt := (yX11_setLimit, cX11_setLimit, 3, (some .int), 3, 65)
set_option maxRecDepth 20000 in
theorem mo_X11_setLimit : Mok M_X11_setLimit := ⟨w882, w119, by decide, by decide +kernel⟩
set_option maxRecDepth 20000 in
theorem na_X11_setLimit : Nargs (my M_X11_setLimit) 1 := by unfold Nargs; decide +kernel
set_option maxRecDepth 20000 in
theorem n_X11_setLimit {Ω : Om} (a0 : Nat) (r1 : Option Nat) : (lg_sl [vR Ω (some a0), vR Ω r1]).length ≤ mL M_X11_setLimit := by rw [ls_R, ls_R, ls_0]; decide
def M_X11_transact : Mt := (yX11_transact, cX11_transact, 2, (some .int), 3, 65)
set_option maxRecDepth 20000 in
theorem mo_X11_transact : Mok M_X11_transact := ⟨w1035, w119, by decide, by decide +kernel⟩
set_option maxRecDepth 20000 in
theorem na_X11_transact : Nargs (my M_X11_transact) 1 := by unfold Nargs; decide +kernel
set_option maxRecDepth 20000 in
theorem n_X11_transact {Ω : Om} (a0 : Nat) (r1 : Option Nat) : (lg_sl [vR Ω (some a0), vR Ω r1]).length ≤ mL M_X11_transact := by rw [ls_R, ls_R, ls_0]; decide
def M_X11_doMethod : Mt := (yX11_doMethod, cX11_doMethod, 5, (some .int), 10, 231)
set_option maxRecDepth 20000 in
theorem mo_X11_doMethod : Mok M_X11_doMethod := ⟨w736, w119, by decide, by decide +kernel⟩
set_option maxRecDepth 20000 in
theorem na_X11_doMethod : Nargs (my M_X11_doMethod) 2 := by unfold Nargs; decide +kernel
set_option maxRecDepth 20000 in
theorem n_X11_doMethod {Ω : Om} (a0 : Nat) (r1 : Option Nat) (x2 : Int32) : (lg_sl [vR Ω (some a0), vR Ω r1, .int x2]).length ≤ mL M_X11_doMethod := by rw [ls_R, ls_R, ls_I, ls_0]; decide
def M_X11_handleOnLost : Mt := (yX11_handleOnLost, cX11_handleOnLost, 3, (some .int), 2, 41)
set_option maxRecDepth 20000 in
theorem mo_X11_handleOnLost : Mok M_X11_handleOnLost := ⟨w465, w119, by decide, by decide +kernel⟩
set_option maxRecDepth 20000 in
theorem na_X11_handleOnLost : Nargs (my M_X11_handleOnLost) 2 := by unfold Nargs; decide +kernel
set_option maxRecDepth 20000 in
theorem n_X11_handleOnLost {Ω : Om} (a0 : Nat) (r1 : Option Nat) (x2 : Int32) : (lg_sl [vR Ω (some a0), vR Ω r1, .int x2]).length ≤ mL M_X11_handleOnLost := by rw [ls_R, ls_R, ls_I, ls_0]; decide
def M_X3_init : Mt := (yX3_init, cX3_init, 2, none, 1, 26)
set_option maxRecDepth 20000 in
theorem mo_X3_init : Mok M_X3_init := ⟨w495, w133, by decide, by decide +kernel⟩
set_option maxRecDepth 20000 in
theorem na_X3_init : Nargs (my M_X3_init) 1 := by unfold Nargs; decide +kernel
set_option maxRecDepth 20000 in
theorem n_X3_init {Ω : Om} (a0 : Nat) (r1 : Option Nat) : (lg_sl [vR Ω (some a0), vR Ω r1]).length ≤ mL M_X3_init := by rw [ls_R, ls_R, ls_0]; decide
def M_X11_complete : Mt := (yX11_complete, cX11_complete, 3, (some .int), 9, 203)
set_option maxRecDepth 20000 in
theorem mo_X11_complete : Mok M_X11_complete := ⟨w490, w119, by decide, by decide +kernel⟩
set_option maxRecDepth 20000 in
theorem na_X11_complete : Nargs (my M_X11_complete) 2 := by unfold Nargs; decide +kernel
set_option maxRecDepth 20000 in
theorem n_X11_complete {Ω : Om} (a0 : Nat) (r1 : Option Nat) (r2 : Option Nat) : (lg_sl [vR Ω (some a0), vR Ω r1, vR Ω r2]).length ≤ mL M_X11_complete := by rw [ls_R, ls_R, ls_R, ls_0]; decide
def M_X4_append : Mt := (yX4_append, cX4_append, 2, none, 0, 0)
set_option maxRecDepth 20000 in
theorem mo_X4_append : Mok M_X4_append := ⟨w649, w141, by decide, by decide +kernel⟩
set_option maxRecDepth 20000 in
theorem na_X4_append : Nargs (my M_X4_append) 1 := by unfold Nargs; decide +kernel
set_option maxRecDepth 20000 in
theorem n_X4_append {Ω : Om} (a0 : Nat) (x1 : Int32) : (lg_sl [vR Ω (some a0), .int x1]).length ≤ mL M_X4_append := by rw [ls_R, ls_I, ls_0]; decide
def M_X4_lacks : Mt := (yX4_lacks, cX4_lacks, 1, (some .int), 0, 0)
set_option maxRecDepth 20000 in
theorem mo_X4_lacks : Mok M_X4_lacks := ⟨w645, w141, by decide, by decide +kernel⟩
set_option maxRecDepth 20000 in
theorem na_X4_lacks : Nargs (my M_X4_lacks) 0 := by unfold Nargs; decide +kernel
set_option maxRecDepth 20000 in
theorem n_X4_lacks {Ω : Om} (a0 : Nat) : (lg_sl [vR Ω (some a0)]).length ≤ mL M_X4_lacks := by rw [ls_R, ls_0]; decide
def M_X6_unread : Mt := (yX6_unread, cX6_unread, 1, (some .int), 0, 0)
set_option maxRecDepth 20000 in
theorem mo_X6_unread : Mok M_X6_unread := ⟨w641, w120, by decide, by decide +kernel⟩
set_option maxRecDepth 20000 in
theorem na_X6_unread : Nargs (my M_X6_unread) 0 := by unfold Nargs; decide +kernel
set_option maxRecDepth 20000 in
theorem n_X6_unread {Ω : Om} (a0 : Nat) : (lg_sl [vR Ω (some a0)]).length ≤ mL M_X6_unread := by rw [ls_R, ls_0]; decide
def M_X11_takeBody : Mt := (yX11_takeBody, cX11_takeBody, 5, (some .int), 10, 225)
set_option maxRecDepth 20000 in
theorem mo_X11_takeBody : Mok M_X11_takeBody := ⟨w637, w119, by decide, by decide +kernel⟩
set_option maxRecDepth 20000 in
theorem na_X11_takeBody : Nargs (my M_X11_takeBody) 2 := by unfold Nargs; decide +kernel
set_option maxRecDepth 20000 in
theorem n_X11_takeBody {Ω : Om} (a0 : Nat) (r1 : Option Nat) (r2 : Option Nat) : (lg_sl [vR Ω (some a0), vR Ω r1, vR Ω r2]).length ≤ mL M_X11_takeBody := by rw [ls_R, ls_R, ls_R, ls_0]; decide
def M_X11_takeHead : Mt := (yX11_takeHead, cX11_takeHead, 4, (some .int), 10, 225)
set_option maxRecDepth 20000 in
theorem mo_X11_takeHead : Mok M_X11_takeHead := ⟨w485, w119, by decide, by decide +kernel⟩
set_option maxRecDepth 20000 in
theorem na_X11_takeHead : Nargs (my M_X11_takeHead) 2 := by unfold Nargs; decide +kernel
set_option maxRecDepth 20000 in
theorem n_X11_takeHead {Ω : Om} (a0 : Nat) (r1 : Option Nat) (r2 : Option Nat) : (lg_sl [vR Ω (some a0), vR Ω r1, vR Ω r2]).length ≤ mL M_X11_takeHead := by rw [ls_R, ls_R, ls_R, ls_0]; decide
def M_X4_due : Mt := (yX4_due, cX4_due, 1, (some .int), 0, 0)
set_option maxRecDepth 20000 in
theorem mo_X4_due : Mok M_X4_due := ⟨w481, w141, by decide, by decide +kernel⟩
set_option maxRecDepth 20000 in
theorem na_X4_due : Nargs (my M_X4_due) 0 := by unfold Nargs; decide +kernel
set_option maxRecDepth 20000 in
theorem n_X4_due {Ω : Om} (a0 : Nat) : (lg_sl [vR Ω (some a0)]).length ≤ mL M_X4_due := by rw [ls_R, ls_0]; decide
def M_X6_frameChannel : Mt := (yX6_frameChannel, cX6_frameChannel, 1, (some .int), 0, 0)
set_option maxRecDepth 20000 in
theorem mo_X6_frameChannel : Mok M_X6_frameChannel := ⟨w457, w120, by decide, by decide +kernel⟩
set_option maxRecDepth 20000 in
theorem na_X6_frameChannel : Nargs (my M_X6_frameChannel) 0 := by unfold Nargs; decide +kernel
set_option maxRecDepth 20000 in
theorem n_X6_frameChannel {Ω : Om} (a0 : Nat) : (lg_sl [vR Ω (some a0)]).length ≤ mL M_X6_frameChannel := by rw [ls_R, ls_0]; decide
def M_X6_frameKind : Mt := (yX6_frameKind, cX6_frameKind, 1, (some .int), 0, 0)
set_option maxRecDepth 20000 in
theorem mo_X6_frameKind : Mok M_X6_frameKind := ⟨w453, w120, by decide, by decide +kernel⟩
set_option maxRecDepth 20000 in
theorem na_X6_frameKind : Nargs (my M_X6_frameKind) 0 := by unfold Nargs; decide +kernel
set_option maxRecDepth 20000 in
theorem n_X6_frameKind {Ω : Om} (a0 : Nat) : (lg_sl [vR Ω (some a0)]).length ≤ mL M_X6_frameKind := by rw [ls_R, ls_0]; decide
def M_X11_handleFrame : Mt := (yX11_handleFrame, cX11_handleFrame, 5, (some .int), 11, 255)
set_option maxRecDepth 20000 in
theorem mo_X11_handleFrame : Mok M_X11_handleFrame := ⟨w449, w119, by decide, by decide +kernel⟩
set_option maxRecDepth 20000 in
theorem na_X11_handleFrame : Nargs (my M_X11_handleFrame) 0 := by unfold Nargs; decide +kernel
set_option maxRecDepth 20000 in
theorem n_X11_handleFrame {Ω : Om} (a0 : Nat) : (lg_sl [vR Ω (some a0)]).length ≤ mL M_X11_handleFrame := by rw [ls_R, ls_0]; decide
def M_X9_tellMistake : Mt := (yX9_tellMistake, cX9_tellMistake, 4, none, 2, 43)
set_option maxRecDepth 20000 in
theorem mo_X9_tellMistake : Mok M_X9_tellMistake := ⟨w1053, w121, by decide, by decide +kernel⟩
set_option maxRecDepth 20000 in
theorem na_X9_tellMistake : Nargs (my M_X9_tellMistake) 3 := by unfold Nargs; decide +kernel
set_option maxRecDepth 20000 in
theorem n_X9_tellMistake {Ω : Om} (a0 : Nat) (x1 : Int32) (x2 : Int32) (x3 : Int32) : (lg_sl [vR Ω (some a0), .int x1, .int x2, .int x3]).length ≤ mL M_X9_tellMistake := by rw [ls_R, ls_I, ls_I, ls_I, ls_0]; decide
def M_X11_settleMistake : Mt := (yX11_settleMistake, cX11_settleMistake, 3, none, 10, 223)
set_option maxRecDepth 20000 in
theorem mo_X11_settleMistake : Mok M_X11_settleMistake := ⟨w1049, w119, by decide, by decide +kernel⟩
set_option maxRecDepth 20000 in
theorem na_X11_settleMistake : Nargs (my M_X11_settleMistake) 1 := by unfold Nargs; decide +kernel
set_option maxRecDepth 20000 in
theorem n_X11_settleMistake {Ω : Om} (a0 : Nat) (x1 : Int32) : (lg_sl [vR Ω (some a0), .int x1]).length ≤ mL M_X11_settleMistake := by rw [ls_R, ls_I, ls_0]; decide
def M_X6_dropHandled : Mt := (yX6_dropHandled, cX6_dropHandled, 1, none, 1, 26)
set_option maxRecDepth 20000 in
theorem mo_X6_dropHandled : Mok M_X6_dropHandled := ⟨w1057, w120, by decide, by decide +kernel⟩
set_option maxRecDepth 20000 in
theorem na_X6_dropHandled : Nargs (my M_X6_dropHandled) 0 := by unfold Nargs; decide +kernel
set_option maxRecDepth 20000 in
theorem n_X6_dropHandled {Ω : Om} (a0 : Nat) : (lg_sl [vR Ω (some a0)]).length ≤ mL M_X6_dropHandled := by rw [ls_R, ls_0]; decide
def M_X6_lookForFrame : Mt := (yX6_lookForFrame, cX6_lookForFrame, 1, (some .int), 0, 0)
set_option maxRecDepth 20000 in
theorem mo_X6_lookForFrame : Mok M_X6_lookForFrame := ⟨w425, w120, by decide, by decide +kernel⟩
set_option maxRecDepth 20000 in
theorem na_X6_lookForFrame : Nargs (my M_X6_lookForFrame) 0 := by unfold Nargs; decide +kernel
set_option maxRecDepth 20000 in
theorem n_X6_lookForFrame {Ω : Om} (a0 : Nat) : (lg_sl [vR Ω (some a0)]).length ≤ mL M_X6_lookForFrame := by rw [ls_R, ls_0]; decide
def M_X6_lookForGreeting : Mt := (yX6_lookForGreeting, cX6_lookForGreeting, 2, (some .int), 0, 0)
set_option maxRecDepth 20000 in
theorem mo_X6_lookForGreeting : Mok M_X6_lookForGreeting := ⟨w419, w120, by decide, by decide +kernel⟩
set_option maxRecDepth 20000 in
theorem na_X6_lookForGreeting : Nargs (my M_X6_lookForGreeting) 0 := by unfold Nargs; decide +kernel
set_option maxRecDepth 20000 in
theorem n_X6_lookForGreeting {Ω : Om} (a0 : Nat) : (lg_sl [vR Ω (some a0)]).length ≤ mL M_X6_lookForGreeting := by rw [ls_R, ls_0]; decide
def M_X11_step : Mt := (yX11_step, cX11_step, 3, (some .int), 12, 279)
set_option maxRecDepth 20000 in
theorem mo_X11_step : Mok M_X11_step := ⟨w415, w119, by decide, by decide +kernel⟩
set_option maxRecDepth 20000 in
theorem na_X11_step : Nargs (my M_X11_step) 0 := by unfold Nargs; decide +kernel
set_option maxRecDepth 20000 in
theorem n_X11_step {Ω : Om} (a0 : Nat) : (lg_sl [vR Ω (some a0)]).length ≤ mL M_X11_step := by rw [ls_R, ls_0]; decide
def M_X12_held : Mt := (yX12_held, cX12_held, 4, (some .int), 0, 0)
set_option maxRecDepth 20000 in
theorem mo_X12_held : Mok M_X12_held := ⟨w1608, w132, by decide, by decide +kernel⟩
set_option maxRecDepth 20000 in
theorem na_X12_held : Nargs (my M_X12_held) 1 := by unfold Nargs; decide +kernel
set_option maxRecDepth 20000 in
theorem n_X12_held {Ω : Om} (a0 : Nat) (x1 : Int32) : (lg_sl [vR Ω (some a0), .int x1]).length ≤ mL M_X12_held := by rw [ls_R, ls_I, ls_0]; decide
def M_X12_channel : Mt := (yX12_channel, cX12_channel, 3, (some .int), 1, 23)
set_option maxRecDepth 20000 in
theorem mo_X12_channel : Mok M_X12_channel := ⟨w1628, w132, by decide, by decide +kernel⟩
set_option maxRecDepth 20000 in
theorem na_X12_channel : Nargs (my M_X12_channel) 2 := by unfold Nargs; decide +kernel
set_option maxRecDepth 20000 in
theorem n_X12_channel {Ω : Om} (a0 : Nat) (x1 : Int32) (x2 : Int32) : (lg_sl [vR Ω (some a0), .int x1, .int x2]).length ≤ mL M_X12_channel := by rw [ls_R, ls_I, ls_I, ls_0]; decide
def M_X12_connect : Mt := (yX12_connect, cX12_connect, 1, (some .boolean), 0, 0)
set_option maxRecDepth 20000 in
theorem mo_X12_connect : Mok M_X12_connect := ⟨w1624, w132, by decide, by decide +kernel⟩
set_option maxRecDepth 20000 in
theorem na_X12_connect : Nargs (my M_X12_connect) 0 := by unfold Nargs; decide +kernel
set_option maxRecDepth 20000 in
theorem n_X12_connect {Ω : Om} (a0 : Nat) : (lg_sl [vR Ω (some a0)]).length ≤ mL M_X12_connect := by rw [ls_R, ls_0]; decide
def M_X12_init : Mt := (yX12_init, cX12_init, 1, none, 1, 26)
set_option maxRecDepth 20000 in
theorem mo_X12_init : Mok M_X12_init := ⟨w1117, w132, by decide, by decide +kernel⟩
set_option maxRecDepth 20000 in
theorem na_X12_init : Nargs (my M_X12_init) 0 := by unfold Nargs; decide +kernel
set_option maxRecDepth 20000 in
theorem n_X12_init {Ω : Om} (a0 : Nat) : (lg_sl [vR Ω (some a0)]).length ≤ mL M_X12_init := by rw [ls_R, ls_0]; decide
def M_X12_line : Mt := (yX12_line, cX12_line, 1, (some .int), 0, 0)
set_option maxRecDepth 20000 in
theorem mo_X12_line : Mok M_X12_line := ⟨w1620, w132, by decide, by decide +kernel⟩
set_option maxRecDepth 20000 in
theorem na_X12_line : Nargs (my M_X12_line) 0 := by unfold Nargs; decide +kernel
set_option maxRecDepth 20000 in
theorem n_X12_line {Ω : Om} (a0 : Nat) : (lg_sl [vR Ω (some a0)]).length ≤ mL M_X12_line := by rw [ls_R, ls_0]; decide
def M_X12_consumersOf : Mt := (yX12_consumersOf, cX12_consumersOf, 4, (some .int), 0, 0)
set_option maxRecDepth 20000 in
theorem mo_X12_consumersOf : Mok M_X12_consumersOf := ⟨w1474, w132, by decide, by decide +kernel⟩
set_option maxRecDepth 20000 in
theorem na_X12_consumersOf : Nargs (my M_X12_consumersOf) 1 := by unfold Nargs; decide +kernel
set_option maxRecDepth 20000 in
theorem n_X12_consumersOf {Ω : Om} (a0 : Nat) (x1 : Int32) : (lg_sl [vR Ω (some a0), .int x1]).length ≤ mL M_X12_consumersOf := by rw [ls_R, ls_I, ls_0]; decide
def M_X12_firstOf : Mt := (yX12_firstOf, cX12_firstOf, 3, (some .int), 0, 0)
set_option maxRecDepth 20000 in
theorem mo_X12_firstOf : Mok M_X12_firstOf := ⟨w1494, w132, by decide, by decide +kernel⟩
set_option maxRecDepth 20000 in
theorem na_X12_firstOf : Nargs (my M_X12_firstOf) 1 := by unfold Nargs; decide +kernel
set_option maxRecDepth 20000 in
theorem n_X12_firstOf {Ω : Om} (a0 : Nat) (x1 : Int32) : (lg_sl [vR Ω (some a0), .int x1]).length ≤ mL M_X12_firstOf := by rw [ls_R, ls_I, ls_0]; decide
def M_X12_waiting : Mt := (yX12_waiting, cX12_waiting, 4, (some .int), 0, 0)
set_option maxRecDepth 20000 in
theorem mo_X12_waiting : Mok M_X12_waiting := ⟨w1470, w132, by decide, by decide +kernel⟩
set_option maxRecDepth 20000 in
theorem na_X12_waiting : Nargs (my M_X12_waiting) 1 := by unfold Nargs; decide +kernel
set_option maxRecDepth 20000 in
theorem n_X12_waiting {Ω : Om} (a0 : Nat) (x1 : Int32) : (lg_sl [vR Ω (some a0), .int x1]).length ≤ mL M_X12_waiting := by rw [ls_R, ls_I, ls_0]; decide
def M_X12_queue : Mt := (yX12_queue, cX12_queue, 5, (some .int), 1, 23)
set_option maxRecDepth 20000 in
theorem mo_X12_queue : Mok M_X12_queue := ⟨w1632, w132, by decide, by decide +kernel⟩
set_option maxRecDepth 20000 in
theorem na_X12_queue : Nargs (my M_X12_queue) 2 := by unfold Nargs; decide +kernel
set_option maxRecDepth 20000 in
theorem n_X12_queue {Ω : Om} (a0 : Nat) (x1 : Int32) (x2 : Int32) : (lg_sl [vR Ω (some a0), .int x1, .int x2]).length ≤ mL M_X12_queue := by rw [ls_R, ls_I, ls_I, ls_0]; decide
def M_X12_ready : Mt := (yX12_ready, cX12_ready, 1, (some .int), 0, 0)
set_option maxRecDepth 20000 in
theorem mo_X12_ready : Mok M_X12_ready := ⟨w1612, w132, by decide, by decide +kernel⟩
set_option maxRecDepth 20000 in
theorem na_X12_ready : Nargs (my M_X12_ready) 0 := by unfold Nargs; decide +kernel
set_option maxRecDepth 20000 in
theorem n_X12_ready {Ω : Om} (a0 : Nat) : (lg_sl [vR Ω (some a0)]).length ≤ mL M_X12_ready := by rw [ls_R, ls_0]; decide
def M_X12_receive : Mt := (yX12_receive, cX12_receive, 3, (some .int), 0, 0)
set_option maxRecDepth 20000 in
theorem mo_X12_receive : Mok M_X12_receive := ⟨w1616, w132, by decide, by decide +kernel⟩
set_option maxRecDepth 20000 in
theorem na_X12_receive : Nargs (my M_X12_receive) 0 := by unfold Nargs; decide +kernel
set_option maxRecDepth 20000 in
theorem n_X12_receive {Ω : Om} (a0 : Nat) : (lg_sl [vR Ω (some a0)]).length ≤ mL M_X12_receive := by rw [ls_R, ls_0]; decide
def M_X12_send : Mt := (yX12_send, cX12_send, 5, (some .int), 0, 0)
set_option maxRecDepth 20000 in
theorem mo_X12_send : Mok M_X12_send := ⟨w1310, w132, by decide, by decide +kernel⟩
set_option maxRecDepth 20000 in
theorem na_X12_send : Nargs (my M_X12_send) 2 := by unfold Nargs; decide +kernel
set_option maxRecDepth 20000 in
theorem n_X12_send {Ω : Om} (a0 : Nat) (x1 : Int64) (x3 : Int32) : (lg_sl [vR Ω (some a0), .long x1, .int x3]).length ≤ mL M_X12_send := by rw [ls_R, ls_J, ls_I, ls_0]; decide
def M_X12_put : Mt := (yX12_put, cX12_put, 2, none, 0, 0)
set_option maxRecDepth 20000 in
theorem mo_X12_put : Mok M_X12_put := ⟨w1336, w132, by decide, by decide +kernel⟩
set_option maxRecDepth 20000 in
theorem na_X12_put : Nargs (my M_X12_put) 1 := by unfold Nargs; decide +kernel
set_option maxRecDepth 20000 in
theorem n_X12_put {Ω : Om} (a0 : Nat) (x1 : Int32) : (lg_sl [vR Ω (some a0), .int x1]).length ≤ mL M_X12_put := by rw [ls_R, ls_I, ls_0]; decide
def M_X12_finish : Mt := (yX12_finish, cX12_finish, 1, none, 1, 21)
set_option maxRecDepth 20000 in
theorem mo_X12_finish : Mok M_X12_finish := ⟨w1344, w132, by decide, by decide +kernel⟩
set_option maxRecDepth 20000 in
theorem na_X12_finish : Nargs (my M_X12_finish) 0 := by unfold Nargs; decide +kernel
set_option maxRecDepth 20000 in
theorem n_X12_finish {Ω : Om} (a0 : Nat) : (lg_sl [vR Ω (some a0)]).length ≤ mL M_X12_finish := by rw [ls_R, ls_0]; decide
def M_X12_begin : Mt := (yX12_begin, cX12_begin, 3, none, 1, 21)
set_option maxRecDepth 20000 in
theorem mo_X12_begin : Mok M_X12_begin := ⟨w1332, w132, by decide, by decide +kernel⟩
set_option maxRecDepth 20000 in
theorem na_X12_begin : Nargs (my M_X12_begin) 2 := by unfold Nargs; decide +kernel
set_option maxRecDepth 20000 in
theorem n_X12_begin {Ω : Om} (a0 : Nat) (x1 : Int32) (x2 : Int32) : (lg_sl [vR Ω (some a0), .int x1, .int x2]).length ≤ mL M_X12_begin := by rw [ls_R, ls_I, ls_I, ls_0]; decide
def M_X12_method : Mt := (yX12_method, cX12_method, 4, none, 2, 43)
set_option maxRecDepth 20000 in
theorem mo_X12_method : Mok M_X12_method := ⟨w1328, w132, by decide, by decide +kernel⟩
set_option maxRecDepth 20000 in
theorem na_X12_method : Nargs (my M_X12_method) 3 := by unfold Nargs; decide +kernel
set_option maxRecDepth 20000 in
theorem n_X12_method {Ω : Om} (a0 : Nat) (x1 : Int32) (x2 : Int32) (x3 : Int32) : (lg_sl [vR Ω (some a0), .int x1, .int x2, .int x3]).length ≤ mL M_X12_method := by rw [ls_R, ls_I, ls_I, ls_I, ls_0]; decide
def M_X12_canTake : Mt := (yX12_canTake, cX12_canTake, 3, (some .boolean), 1, 23)
set_option maxRecDepth 20000 in
theorem mo_X12_canTake : Mok M_X12_canTake := ⟨w1604, w132, by decide, by decide +kernel⟩
set_option maxRecDepth 20000 in
theorem na_X12_canTake : Nargs (my M_X12_canTake) 1 := by unfold Nargs; decide +kernel
set_option maxRecDepth 20000 in
theorem n_X12_canTake {Ω : Om} (a0 : Nat) (x1 : Int32) : (lg_sl [vR Ω (some a0), .int x1]).length ≤ mL M_X12_canTake := by rw [ls_R, ls_I, ls_0]; decide
def M_X12_nextConsumer : Mt := (yX12_nextConsumer, cX12_nextConsumer, 4, (some .int), 2, 45)
set_option maxRecDepth 20000 in
theorem mo_X12_nextConsumer : Mok M_X12_nextConsumer := ⟨w1600, w132, by decide, by decide +kernel⟩
set_option maxRecDepth 20000 in
theorem na_X12_nextConsumer : Nargs (my M_X12_nextConsumer) 1 := by unfold Nargs; decide +kernel
set_option maxRecDepth 20000 in
theorem n_X12_nextConsumer {Ω : Om} (a0 : Nat) (x1 : Int32) : (lg_sl [vR Ω (some a0), .int x1]).length ≤ mL M_X12_nextConsumer := by rw [ls_R, ls_I, ls_0]; decide
def M_X12_putLetter : Mt := (yX12_putLetter, cX12_putLetter, 6, none, 2, 43)
set_option maxRecDepth 20000 in
theorem mo_X12_putLetter : Mok M_X12_putLetter := ⟨w1530, w132, by decide, by decide +kernel⟩
set_option maxRecDepth 20000 in
theorem na_X12_putLetter : Nargs (my M_X12_putLetter) 3 := by unfold Nargs; decide +kernel
set_option maxRecDepth 20000 in
theorem n_X12_putLetter {Ω : Om} (a0 : Nat) (x1 : Int32) (x2 : Int32) (x3 : Int64) : (lg_sl [vR Ω (some a0), .int x1, .int x2, .long x3]).length ≤ mL M_X12_putLetter := by rw [ls_R, ls_I, ls_I, ls_J, ls_0]; decide
def M_X12_length : Mt := (yX12_length, cX12_length, 5, (some .int), 0, 0)
set_option maxRecDepth 20000 in
theorem mo_X12_length : Mok M_X12_length := ⟨w1466, w132, by decide, by decide +kernel⟩
set_option maxRecDepth 20000 in
theorem na_X12_length : Nargs (my M_X12_length) 1 := by unfold Nargs; decide +kernel
set_option maxRecDepth 20000 in
theorem n_X12_length (x0 : Int64) : (lg_sl [.long x0]).length ≤ mL M_X12_length := by rw [ls_J, ls_0]; decide
def M_X12_putName : Mt := (yX12_putName, cX12_putName, 5, none, 1, 24)
set_option maxRecDepth 20000 in
theorem mo_X12_putName : Mok M_X12_putName := ⟨w1463, w132, by decide, by decide +kernel⟩
set_option maxRecDepth 20000 in
theorem na_X12_putName : Nargs (my M_X12_putName) 1 := by unfold Nargs; decide +kernel
set_option maxRecDepth 20000 in
theorem n_X12_putName {Ω : Om} (a0 : Nat) (x1 : Int64) : (lg_sl [vR Ω (some a0), .long x1]).length ≤ mL M_X12_putName := by rw [ls_R, ls_J, ls_0]; decide
def M_X12_moveLetter : Mt := (yX12_moveLetter, cX12_moveLetter, 3, none, 0, 0)
set_option maxRecDepth 20000 in
theorem mo_X12_moveLetter : Mok M_X12_moveLetter := ⟨w1376, w132, by decide, by decide +kernel⟩
set_option maxRecDepth 20000 in
theorem na_X12_moveLetter : Nargs (my M_X12_moveLetter) 2 := by unfold Nargs; decide +kernel
set_option maxRecDepth 20000 in
theorem n_X12_moveLetter {Ω : Om} (a0 : Nat) (x1 : Int32) (x2 : Int32) : (lg_sl [vR Ω (some a0), .int x1, .int x2]).length ≤ mL M_X12_moveLetter := by rw [ls_R, ls_I, ls_I, ls_0]; decide
def M_X12_removeLetter : Mt := (yX12_removeLetter, cX12_removeLetter, 3, none, 1, 22)
set_option maxRecDepth 20000 in
theorem mo_X12_removeLetter : Mok M_X12_removeLetter := ⟨w1372, w132, by decide, by decide +kernel⟩
set_option maxRecDepth 20000 in
theorem na_X12_removeLetter : Nargs (my M_X12_removeLetter) 1 := by unfold Nargs; decide +kernel
set_option maxRecDepth 20000 in
theorem n_X12_removeLetter {Ω : Om} (a0 : Nat) (x1 : Int32) : (lg_sl [vR Ω (some a0), .int x1]).length ≤ mL M_X12_removeLetter := by rw [ls_R, ls_I, ls_0]; decide
def M_X12_take : Mt := (yX12_take, cX12_take, 4, none, 2, 44)
set_option maxRecDepth 20000 in
theorem mo_X12_take : Mok M_X12_take := ⟨w1534, w132, by decide, by decide +kernel⟩
set_option maxRecDepth 20000 in
theorem na_X12_take : Nargs (my M_X12_take) 3 := by unfold Nargs; decide +kernel
set_option maxRecDepth 20000 in
theorem n_X12_take {Ω : Om} (a0 : Nat) (x1 : Int32) (x2 : Int32) (x3 : Int32) : (lg_sl [vR Ω (some a0), .int x1, .int x2, .int x3]).length ≤ mL M_X12_take := by rw [ls_R, ls_I, ls_I, ls_I, ls_0]; decide
def M_X12_putShort : Mt := (yX12_putShort, cX12_putShort, 2, none, 1, 21)
set_option maxRecDepth 20000 in
theorem mo_X12_putShort : Mok M_X12_putShort := ⟨w1340, w132, by decide, by decide +kernel⟩
set_option maxRecDepth 20000 in
theorem na_X12_putShort : Nargs (my M_X12_putShort) 1 := by unfold Nargs; decide +kernel
set_option maxRecDepth 20000 in
theorem n_X12_putShort {Ω : Om} (a0 : Nat) (x1 : Int32) : (lg_sl [vR Ω (some a0), .int x1]).length ≤ mL M_X12_putShort := by rw [ls_R, ls_I, ls_0]; decide
def M_X12_tell : Mt := (yX12_tell, cX12_tell, 3, none, 2, 48)
set_option maxRecDepth 20000 in
theorem mo_X12_tell : Mok M_X12_tell := ⟨w1526, w132, by decide, by decide +kernel⟩
set_option maxRecDepth 20000 in
theorem na_X12_tell : Nargs (my M_X12_tell) 2 := by unfold Nargs; decide +kernel
set_option maxRecDepth 20000 in
theorem n_X12_tell {Ω : Om} (a0 : Nat) (x1 : Int32) (x2 : Int32) : (lg_sl [vR Ω (some a0), .int x1, .int x2]).length ≤ mL M_X12_tell := by rw [ls_R, ls_I, ls_I, ls_0]; decide
def M_X12_deliver : Mt := (yX12_deliver, cX12_deliver, 5, (some .boolean), 3, 70)
set_option maxRecDepth 20000 in
theorem mo_X12_deliver : Mok M_X12_deliver := ⟨w1596, w132, by decide, by decide +kernel⟩
set_option maxRecDepth 20000 in
theorem na_X12_deliver : Nargs (my M_X12_deliver) 0 := by unfold Nargs; decide +kernel
set_option maxRecDepth 20000 in
theorem n_X12_deliver {Ω : Om} (a0 : Nat) : (lg_sl [vR Ω (some a0)]).length ≤ mL M_X12_deliver := by rw [ls_R, ls_0]; decide
def M_X12_drop : Mt := (yX12_drop, cX12_drop, 3, none, 0, 0)
set_option maxRecDepth 20000 in
theorem mo_X12_drop : Mok M_X12_drop := ⟨w1380, w132, by decide, by decide +kernel⟩
set_option maxRecDepth 20000 in
theorem na_X12_drop : Nargs (my M_X12_drop) 1 := by unfold Nargs; decide +kernel
set_option maxRecDepth 20000 in
theorem n_X12_drop {Ω : Om} (a0 : Nat) (x1 : Int32) : (lg_sl [vR Ω (some a0), .int x1]).length ≤ mL M_X12_drop := by rw [ls_R, ls_I, ls_0]; decide
def M_X12_exchangeOf : Mt := (yX12_exchangeOf, cX12_exchangeOf, 4, (some .int), 0, 0)
set_option maxRecDepth 20000 in
theorem mo_X12_exchangeOf : Mok M_X12_exchangeOf := ⟨w1431, w132, by decide, by decide +kernel⟩
set_option maxRecDepth 20000 in
theorem na_X12_exchangeOf : Nargs (my M_X12_exchangeOf) 1 := by unfold Nargs; decide +kernel
set_option maxRecDepth 20000 in
theorem n_X12_exchangeOf {Ω : Om} (a0 : Nat) (x1 : Int64) : (lg_sl [vR Ω (some a0), .long x1]).length ≤ mL M_X12_exchangeOf := by rw [ls_R, ls_J, ls_0]; decide
def M_X12_fitsAt : Mt := (yX12_fitsAt, cX12_fitsAt, 6, (some .boolean), 0, 0)
set_option maxRecDepth 20000 in
theorem mo_X12_fitsAt : Mok M_X12_fitsAt := ⟨w1578, w132, by decide, by decide +kernel⟩
set_option maxRecDepth 20000 in
theorem na_X12_fitsAt : Nargs (my M_X12_fitsAt) 3 := by unfold Nargs; decide +kernel
set_option maxRecDepth 20000 in
theorem n_X12_fitsAt {Ω : Om} (a0 : Nat) (x1 : Int32) (x2 : Int32) (x3 : Int32) : (lg_sl [vR Ω (some a0), .int x1, .int x2, .int x3]).length ≤ mL M_X12_fitsAt := by rw [ls_R, ls_I, ls_I, ls_I, ls_0]; decide
def M_X12_split : Mt := (yX12_split, cX12_split, 7, (some .int), 1, 24)
set_option maxRecDepth 20000 in
theorem mo_X12_split : Mok M_X12_split := ⟨w1573, w132, by decide, by decide +kernel⟩
set_option maxRecDepth 20000 in
theorem na_X12_split : Nargs (my M_X12_split) 2 := by unfold Nargs; decide +kernel
set_option maxRecDepth 20000 in
theorem n_X12_split {Ω : Om} (x0 : Int64) (r2 : Option Nat) : (lg_sl [.long x0, vR Ω r2]).length ≤ mL M_X12_split := by rw [ls_J, ls_R, ls_0]; decide
def M_X12_fits : Mt := (yX12_fits, cX12_fits, 9, (some .boolean), 2, 50)
set_option maxRecDepth 20000 in
theorem mo_X12_fits : Mok M_X12_fits := ⟨w1570, w132, by decide, by decide +kernel⟩
set_option maxRecDepth 20000 in
theorem na_X12_fits : Nargs (my M_X12_fits) 2 := by unfold Nargs; decide +kernel
set_option maxRecDepth 20000 in
theorem n_X12_fits {Ω : Om} (a0 : Nat) (x1 : Int64) (x3 : Int64) : (lg_sl [vR Ω (some a0), .long x1, .long x3]).length ≤ mL M_X12_fits := by rw [ls_R, ls_J, ls_J, ls_0]; decide
def M_X12_reaches : Mt := (yX12_reaches, cX12_reaches, 9, (some .boolean), 3, 78)
set_option maxRecDepth 20000 in
theorem mo_X12_reaches : Mok M_X12_reaches := ⟨w1566, w132, by decide, by decide +kernel⟩
set_option maxRecDepth 20000 in
theorem na_X12_reaches : Nargs (my M_X12_reaches) 3 := by unfold Nargs; decide +kernel
set_option maxRecDepth 20000 in
theorem n_X12_reaches {Ω : Om} (a0 : Nat) (x1 : Int32) (x2 : Int32) (x3 : Int64) : (lg_sl [vR Ω (some a0), .int x1, .int x2, .long x3]).length ≤ mL M_X12_reaches := by rw [ls_R, ls_I, ls_I, ls_J, ls_0]; decide
def M_X12_isThere : Mt := (yX12_isThere, cX12_isThere, 4, (some .boolean), 0, 0)
set_option maxRecDepth 20000 in
theorem mo_X12_isThere : Mok M_X12_isThere := ⟨w1368, w132, by decide, by decide +kernel⟩
set_option maxRecDepth 20000 in
theorem na_X12_isThere : Nargs (my M_X12_isThere) 1 := by unfold Nargs; decide +kernel
set_option maxRecDepth 20000 in
theorem n_X12_isThere {Ω : Om} (a0 : Nat) (x1 : Int32) : (lg_sl [vR Ω (some a0), .int x1]).length ≤ mL M_X12_isThere := by rw [ls_R, ls_I, ls_0]; decide
def M_X12_goesBack : Mt := (yX12_goesBack, cX12_goesBack, 2, (some .boolean), 2, 44)
set_option maxRecDepth 20000 in
theorem mo_X12_goesBack : Mok M_X12_goesBack := ⟨w1364, w132, by decide, by decide +kernel⟩
set_option maxRecDepth 20000 in
theorem na_X12_goesBack : Nargs (my M_X12_goesBack) 1 := by unfold Nargs; decide +kernel
set_option maxRecDepth 20000 in
theorem n_X12_goesBack {Ω : Om} (a0 : Nat) (x1 : Int32) : (lg_sl [vR Ω (some a0), .int x1]).length ≤ mL M_X12_goesBack := by rw [ls_R, ls_I, ls_0]; decide
def M_X12_allBack : Mt := (yX12_allBack, cX12_allBack, 3, none, 3, 65)
set_option maxRecDepth 20000 in
theorem mo_X12_allBack : Mok M_X12_allBack := ⟨w1360, w132, by decide, by decide +kernel⟩
set_option maxRecDepth 20000 in
theorem na_X12_allBack : Nargs (my M_X12_allBack) 1 := by unfold Nargs; decide +kernel
set_option maxRecDepth 20000 in
theorem n_X12_allBack {Ω : Om} (a0 : Nat) (x1 : Int32) : (lg_sl [vR Ω (some a0), .int x1]).length ≤ mL M_X12_allBack := by rw [ls_R, ls_I, ls_0]; decide
def M_X12_removeConsumer : Mt := (yX12_removeConsumer, cX12_removeConsumer, 3, none, 0, 0)
set_option maxRecDepth 20000 in
theorem mo_X12_removeConsumer : Mok M_X12_removeConsumer := ⟨w1356, w132, by decide, by decide +kernel⟩
set_option maxRecDepth 20000 in
theorem na_X12_removeConsumer : Nargs (my M_X12_removeConsumer) 1 := by unfold Nargs; decide +kernel
set_option maxRecDepth 20000 in
theorem n_X12_removeConsumer {Ω : Om} (a0 : Nat) (x1 : Int32) : (lg_sl [vR Ω (some a0), .int x1]).length ≤ mL M_X12_removeConsumer := by rw [ls_R, ls_I, ls_0]; decide
def M_X12_endChannel : Mt := (yX12_endChannel, cX12_endChannel, 4, none, 4, 87)
set_option maxRecDepth 20000 in
theorem mo_X12_endChannel : Mok M_X12_endChannel := ⟨w1352, w132, by decide, by decide +kernel⟩
set_option maxRecDepth 20000 in
theorem na_X12_endChannel : Nargs (my M_X12_endChannel) 2 := by unfold Nargs; decide +kernel
set_option maxRecDepth 20000 in
theorem n_X12_endChannel {Ω : Om} (a0 : Nat) (x1 : Int32) (x2 : Int32) : (lg_sl [vR Ω (some a0), .int x1, .int x2]).length ≤ mL M_X12_endChannel := by rw [ls_R, ls_I, ls_I, ls_0]; decide
def M_X12_soft : Mt := (yX12_soft, cX12_soft, 3, none, 5, 110)
set_option maxRecDepth 20000 in
theorem mo_X12_soft : Mok M_X12_soft := ⟨w1435, w132, by decide, by decide +kernel⟩
set_option maxRecDepth 20000 in
theorem na_X12_soft : Nargs (my M_X12_soft) 2 := by unfold Nargs; decide +kernel
set_option maxRecDepth 20000 in
theorem n_X12_soft {Ω : Om} (a0 : Nat) (x1 : Int32) (x2 : Int32) : (lg_sl [vR Ω (some a0), .int x1, .int x2]).length ≤ mL M_X12_soft := by rw [ls_R, ls_I, ls_I, ls_0]; decide
def M_X12_route : Mt := (yX12_route, cX12_route, 13, (some .boolean), 6, 132)
set_option maxRecDepth 20000 in
theorem mo_X12_route : Mok M_X12_route := ⟨w1562, w132, by decide, by decide +kernel⟩
set_option maxRecDepth 20000 in
theorem na_X12_route : Nargs (my M_X12_route) 6 := by unfold Nargs; decide +kernel
set_option maxRecDepth 20000 in
theorem n_X12_route {Ω : Om} (a0 : Nat) (x1 : Int32) (x2 : Int64) (x4 : Int64) (x6 : Int32) (x7 : Int32) (x8 : Int64) : (lg_sl [vR Ω (some a0), .int x1, .long x2, .long x4, .int x6, .int x7, .long x8]).length ≤ mL M_X12_route := by rw [ls_R, ls_I, ls_J, ls_J, ls_I, ls_I, ls_J, ls_0]; decide
def M_X12_complete : Mt := (yX12_complete, cX12_complete, 3, none, 7, 164)
set_option maxRecDepth 20000 in
theorem mo_X12_complete : Mok M_X12_complete := ⟨w1588, w132, by decide, by decide +kernel⟩
set_option maxRecDepth 20000 in
theorem na_X12_complete : Nargs (my M_X12_complete) 1 := by unfold Nargs; decide +kernel
set_option maxRecDepth 20000 in
theorem n_X12_complete {Ω : Om} (a0 : Nat) (x1 : Int32) : (lg_sl [vR Ω (some a0), .int x1]).length ≤ mL M_X12_complete := by rw [ls_R, ls_I, ls_0]; decide
def M_X12_shut : Mt := (yX12_shut, cX12_shut, 2, none, 5, 110)
set_option maxRecDepth 20000 in
theorem mo_X12_shut : Mok M_X12_shut := ⟨w1348, w132, by decide, by decide +kernel⟩
set_option maxRecDepth 20000 in
theorem na_X12_shut : Nargs (my M_X12_shut) 0 := by unfold Nargs; decide +kernel
set_option maxRecDepth 20000 in
theorem n_X12_shut {Ω : Om} (a0 : Nat) : (lg_sl [vR Ω (some a0)]).length ≤ mL M_X12_shut := by rw [ls_R, ls_0]; decide
def M_X12_hard : Mt := (yX12_hard, cX12_hard, 2, none, 6, 131)
set_option maxRecDepth 20000 in
theorem mo_X12_hard : Mok M_X12_hard := ⟨w1324, w132, by decide, by decide +kernel⟩
set_option maxRecDepth 20000 in
theorem na_X12_hard : Nargs (my M_X12_hard) 1 := by unfold Nargs; decide +kernel
set_option maxRecDepth 20000 in
theorem n_X12_hard {Ω : Om} (a0 : Nat) (x1 : Int32) : (lg_sl [vR Ω (some a0), .int x1]).length ≤ mL M_X12_hard := by rw [ls_R, ls_I, ls_0]; decide
def M_X12_body : Mt := (yX12_body, cX12_body, 3, none, 8, 186)
set_option maxRecDepth 20000 in
theorem mo_X12_body : Mok M_X12_body := ⟨w1592, w132, by decide, by decide +kernel⟩
set_option maxRecDepth 20000 in
theorem na_X12_body : Nargs (my M_X12_body) 0 := by unfold Nargs; decide +kernel
set_option maxRecDepth 20000 in
theorem n_X12_body {Ω : Om} (a0 : Nat) : (lg_sl [vR Ω (some a0)]).length ≤ mL M_X12_body := by rw [ls_R, ls_0]; decide
def M_X12_isJust : Mt := (yX12_isJust, cX12_isJust, 1, (some .boolean), 7, 152)
set_option maxRecDepth 20000 in
theorem mo_X12_isJust : Mok M_X12_isJust := ⟨w1408, w132, by decide, by decide +kernel⟩
set_option maxRecDepth 20000 in
theorem na_X12_isJust : Nargs (my M_X12_isJust) 0 := by unfold Nargs; decide +kernel
set_option maxRecDepth 20000 in
theorem n_X12_isJust {Ω : Om} (a0 : Nat) : (lg_sl [vR Ω (some a0)]).length ≤ mL M_X12_isJust := by rw [ls_R, ls_0]; decide
def M_X12_next : Mt := (yX12_next, cX12_next, 1, (some .int), 0, 0)
set_option maxRecDepth 20000 in
theorem mo_X12_next : Mok M_X12_next := ⟨w1400, w132, by decide, by decide +kernel⟩
set_option maxRecDepth 20000 in
theorem na_X12_next : Nargs (my M_X12_next) 0 := by unfold Nargs; decide +kernel
set_option maxRecDepth 20000 in
theorem n_X12_next {Ω : Om} (a0 : Nat) : (lg_sl [vR Ω (some a0)]).length ≤ mL M_X12_next := by rw [ls_R, ls_0]; decide
def M_X12_say : Mt := (yX12_say, cX12_say, 4, none, 3, 66)
set_option maxRecDepth 20000 in
theorem mo_X12_say : Mok M_X12_say := ⟨w1384, w132, by decide, by decide +kernel⟩
set_option maxRecDepth 20000 in
theorem na_X12_say : Nargs (my M_X12_say) 3 := by unfold Nargs; decide +kernel
set_option maxRecDepth 20000 in
theorem n_X12_say {Ω : Om} (a0 : Nat) (x1 : Int32) (x2 : Int32) (x3 : Int32) : (lg_sl [vR Ω (some a0), .int x1, .int x2, .int x3]).length ≤ mL M_X12_say := by rw [ls_R, ls_I, ls_I, ls_I, ls_0]; decide
def M_X12_channelMethod : Mt := (yX12_channelMethod, cX12_channelMethod, 4, none, 8, 172)
set_option maxRecDepth 20000 in
theorem mo_X12_channelMethod : Mok M_X12_channelMethod := ⟨w1415, w132, by decide, by decide +kernel⟩
set_option maxRecDepth 20000 in
theorem na_X12_channelMethod : Nargs (my M_X12_channelMethod) 1 := by unfold Nargs; decide +kernel
set_option maxRecDepth 20000 in
theorem n_X12_channelMethod {Ω : Om} (a0 : Nat) (x1 : Int32) : (lg_sl [vR Ω (some a0), .int x1]).length ≤ mL M_X12_channelMethod := by rw [ls_R, ls_I, ls_0]; decide
def M_X12_hasBindings : Mt := (yX12_hasBindings, cX12_hasBindings, 5, (some .boolean), 0, 0)
set_option maxRecDepth 20000 in
theorem mo_X12_hasBindings : Mok M_X12_hasBindings := ⟨w1439, w132, by decide, by decide +kernel⟩
set_option maxRecDepth 20000 in
theorem na_X12_hasBindings : Nargs (my M_X12_hasBindings) 1 := by unfold Nargs; decide +kernel
set_option maxRecDepth 20000 in
theorem n_X12_hasBindings {Ω : Om} (a0 : Nat) (x1 : Int64) : (lg_sl [vR Ω (some a0), .long x1]).length ≤ mL M_X12_hasBindings := by rw [ls_R, ls_J, ls_0]; decide
def M_X12_nextName : Mt := (yX12_nextName, cX12_nextName, 6, (some .long), 1, 20)
set_option maxRecDepth 20000 in
theorem mo_X12_nextName : Mok M_X12_nextName := ⟨w1423, w132, by decide, by decide +kernel⟩
set_option maxRecDepth 20000 in
theorem na_X12_nextName : Nargs (my M_X12_nextName) 0 := by unfold Nargs; decide +kernel
set_option maxRecDepth 20000 in
theorem n_X12_nextName {Ω : Om} (a0 : Nat) : (lg_sl [vR Ω (some a0)]).length ≤ mL M_X12_nextName := by rw [ls_R, ls_0]; decide
def M_X12_nextTruth : Mt := (yX12_nextTruth, cX12_nextTruth, 1, (some .boolean), 1, 20)
set_option maxRecDepth 20000 in
theorem mo_X12_nextTruth : Mok M_X12_nextTruth := ⟨w1427, w132, by decide, by decide +kernel⟩
set_option maxRecDepth 20000 in
theorem na_X12_nextTruth : Nargs (my M_X12_nextTruth) 0 := by unfold Nargs; decide +kernel
set_option maxRecDepth 20000 in
theorem n_X12_nextTruth {Ω : Om} (a0 : Nat) : (lg_sl [vR Ω (some a0)]).length ≤ mL M_X12_nextTruth := by rw [ls_R, ls_0]; decide
def M_X12_removeBinding : Mt := (yX12_removeBinding, cX12_removeBinding, 3, none, 0, 0)
set_option maxRecDepth 20000 in
theorem mo_X12_removeBinding : Mok M_X12_removeBinding := ⟨w1447, w132, by decide, by decide +kernel⟩
set_option maxRecDepth 20000 in
theorem na_X12_removeBinding : Nargs (my M_X12_removeBinding) 1 := by unfold Nargs; decide +kernel
set_option maxRecDepth 20000 in
theorem n_X12_removeBinding {Ω : Om} (a0 : Nat) (x1 : Int32) : (lg_sl [vR Ω (some a0), .int x1]).length ≤ mL M_X12_removeBinding := by rw [ls_R, ls_I, ls_0]; decide
def M_X12_removeExchange : Mt := (yX12_removeExchange, cX12_removeExchange, 3, none, 1, 22)
set_option maxRecDepth 20000 in
theorem mo_X12_removeExchange : Mok M_X12_removeExchange := ⟨w1443, w132, by decide, by decide +kernel⟩
set_option maxRecDepth 20000 in
theorem na_X12_removeExchange : Nargs (my M_X12_removeExchange) 1 := by unfold Nargs; decide +kernel
set_option maxRecDepth 20000 in
theorem n_X12_removeExchange {Ω : Om} (a0 : Nat) (x1 : Int32) : (lg_sl [vR Ω (some a0), .int x1]).length ≤ mL M_X12_removeExchange := by rw [ls_R, ls_I, ls_0]; decide
def M_X12_exchangeMethod : Mt := (yX12_exchangeMethod, cX12_exchangeMethod, 8, none, 8, 172)
set_option maxRecDepth 20000 in
theorem mo_X12_exchangeMethod : Mok M_X12_exchangeMethod := ⟨w1419, w132, by decide, by decide +kernel⟩
set_option maxRecDepth 20000 in
theorem na_X12_exchangeMethod : Nargs (my M_X12_exchangeMethod) 1 := by unfold Nargs; decide +kernel
set_option maxRecDepth 20000 in
theorem n_X12_exchangeMethod {Ω : Om} (a0 : Nat) (x1 : Int32) : (lg_sl [vR Ω (some a0), .int x1]).length ≤ mL M_X12_exchangeMethod := by rw [ls_R, ls_I, ls_0]; decide
def M_X12_isMethod : Mt := (yX12_isMethod, cX12_isMethod, 2, (some .boolean), 0, 0)
set_option maxRecDepth 20000 in
theorem mo_X12_isMethod : Mok M_X12_isMethod := ⟨w1411, w132, by decide, by decide +kernel⟩
set_option maxRecDepth 20000 in
theorem na_X12_isMethod : Nargs (my M_X12_isMethod) 2 := by unfold Nargs; decide +kernel
set_option maxRecDepth 20000 in
theorem n_X12_isMethod (x0 : Int32) (x1 : Int32) : (lg_sl [.int x0, .int x1]).length ≤ mL M_X12_isMethod := by rw [ls_I, ls_I, ls_0]; decide
def M_X12_cancel : Mt := (yX12_cancel, cX12_cancel, 4, none, 8, 172)
set_option maxRecDepth 20000 in
theorem mo_X12_cancel : Mok M_X12_cancel := ⟨w1514, w132, by decide, by decide +kernel⟩
set_option maxRecDepth 20000 in
theorem na_X12_cancel : Nargs (my M_X12_cancel) 0 := by unfold Nargs; decide +kernel
set_option maxRecDepth 20000 in
theorem n_X12_cancel {Ω : Om} (a0 : Nat) : (lg_sl [vR Ω (some a0)]).length ≤ mL M_X12_cancel := by rw [ls_R, ls_0]; decide
def M_X12_hasTag : Mt := (yX12_hasTag, cX12_hasTag, 6, (some .boolean), 0, 0)
set_option maxRecDepth 20000 in
theorem mo_X12_hasTag : Mok M_X12_hasTag := ⟨w1510, w132, by decide, by decide +kernel⟩
set_option maxRecDepth 20000 in
theorem na_X12_hasTag : Nargs (my M_X12_hasTag) 2 := by unfold Nargs; decide +kernel
set_option maxRecDepth 20000 in
theorem n_X12_hasTag {Ω : Om} (a0 : Nat) (x1 : Int32) (x2 : Int64) : (lg_sl [vR Ω (some a0), .int x1, .long x2]).length ≤ mL M_X12_hasTag := by rw [ls_R, ls_I, ls_J, ls_0]; decide
def M_X12_queueOf : Mt := (yX12_queueOf, cX12_queueOf, 4, (some .int), 0, 0)
set_option maxRecDepth 20000 in
theorem mo_X12_queueOf : Mok M_X12_queueOf := ⟨w1459, w132, by decide, by decide +kernel⟩
set_option maxRecDepth 20000 in
theorem na_X12_queueOf : Nargs (my M_X12_queueOf) 1 := by unfold Nargs; decide +kernel
set_option maxRecDepth 20000 in
theorem n_X12_queueOf {Ω : Om} (a0 : Nat) (x1 : Int64) : (lg_sl [vR Ω (some a0), .long x1]).length ≤ mL M_X12_queueOf := by rw [ls_R, ls_J, ls_0]; decide
def M_X12_consume : Mt := (yX12_consume, cX12_consume, 8, none, 8, 172)
set_option maxRecDepth 20000 in
theorem mo_X12_consume : Mok M_X12_consume := ⟨w1506, w132, by decide, by decide +kernel⟩
set_option maxRecDepth 20000 in
theorem na_X12_consume : Nargs (my M_X12_consume) 0 := by unfold Nargs; decide +kernel
set_option maxRecDepth 20000 in
theorem n_X12_consume {Ω : Om} (a0 : Nat) : (lg_sl [vR Ω (some a0)]).length ≤ mL M_X12_consume := by rw [ls_R, ls_0]; decide
def M_X12_get : Mt := (yX12_get, cX12_get, 7, none, 8, 172)
set_option maxRecDepth 20000 in
theorem mo_X12_get : Mok M_X12_get := ⟨w1522, w132, by decide, by decide +kernel⟩
set_option maxRecDepth 20000 in
theorem na_X12_get : Nargs (my M_X12_get) 0 := by unfold Nargs; decide +kernel
set_option maxRecDepth 20000 in
theorem n_X12_get {Ω : Om} (a0 : Nat) : (lg_sl [vR Ω (some a0)]).length ≤ mL M_X12_get := by rw [ls_R, ls_0]; decide
def M_X12_nextShort : Mt := (yX12_nextShort, cX12_nextShort, 2, (some .int), 1, 20)
set_option maxRecDepth 20000 in
theorem mo_X12_nextShort : Mok M_X12_nextShort := ⟨w1538, w132, by decide, by decide +kernel⟩
set_option maxRecDepth 20000 in
theorem na_X12_nextShort : Nargs (my M_X12_nextShort) 0 := by unfold Nargs; decide +kernel
set_option maxRecDepth 20000 in
theorem n_X12_nextShort {Ω : Om} (a0 : Nat) : (lg_sl [vR Ω (some a0)]).length ≤ mL M_X12_nextShort := by rw [ls_R, ls_0]; decide
def M_X12_publish : Mt := (yX12_publish, cX12_publish, 7, none, 8, 172)
set_option maxRecDepth 20000 in
theorem mo_X12_publish : Mok M_X12_publish := ⟨w1518, w132, by decide, by decide +kernel⟩
set_option maxRecDepth 20000 in
theorem na_X12_publish : Nargs (my M_X12_publish) 0 := by unfold Nargs; decide +kernel
set_option maxRecDepth 20000 in
theorem n_X12_publish {Ω : Om} (a0 : Nat) : (lg_sl [vR Ω (some a0)]).length ≤ mL M_X12_publish := by rw [ls_R, ls_0]; decide
def M_X12_isMeant : Mt := (yX12_isMeant, cX12_isMeant, 5, (some .boolean), 0, 0)
set_option maxRecDepth 20000 in
theorem mo_X12_isMeant : Mok M_X12_isMeant := ⟨w1546, w132, by decide, by decide +kernel⟩
set_option maxRecDepth 20000 in
theorem na_X12_isMeant : Nargs (my M_X12_isMeant) 4 := by unfold Nargs; decide +kernel
set_option maxRecDepth 20000 in
theorem n_X12_isMeant {Ω : Om} (a0 : Nat) (x1 : Int32) (x2 : Int32) (x3 : Int32) (x4 : Int32) : (lg_sl [vR Ω (some a0), .int x1, .int x2, .int x3, .int x4]).length ≤ mL M_X12_isMeant := by rw [ls_R, ls_I, ls_I, ls_I, ls_I, ls_0]; decide
def M_X12_settle : Mt := (yX12_settle, cX12_settle, 7, none, 3, 65)
set_option maxRecDepth 20000 in
theorem mo_X12_settle : Mok M_X12_settle := ⟨w1550, w132, by decide, by decide +kernel⟩
set_option maxRecDepth 20000 in
theorem na_X12_settle : Nargs (my M_X12_settle) 4 := by unfold Nargs; decide +kernel
set_option maxRecDepth 20000 in
theorem n_X12_settle {Ω : Om} (a0 : Nat) (x1 : Int32) (x2 : Int32) (x3 : Int32) (x4 : Int32) : (lg_sl [vR Ω (some a0), .int x1, .int x2, .int x3, .int x4]).length ≤ mL M_X12_settle := by rw [ls_R, ls_I, ls_I, ls_I, ls_I, ls_0]; decide
def M_X12_settleOrKeep : Mt := (yX12_settleOrKeep, cX12_settleOrKeep, 7, none, 6, 132)
set_option maxRecDepth 20000 in
theorem mo_X12_settleOrKeep : Mok M_X12_settleOrKeep := ⟨w1542, w132, by decide, by decide +kernel⟩
set_option maxRecDepth 20000 in
theorem na_X12_settleOrKeep : Nargs (my M_X12_settleOrKeep) 4 := by unfold Nargs; decide +kernel
set_option maxRecDepth 20000 in
theorem n_X12_settleOrKeep {Ω : Om} (a0 : Nat) (x1 : Int32) (x2 : Int32) (x3 : Int32) (x4 : Int32) : (lg_sl [vR Ω (some a0), .int x1, .int x2, .int x3, .int x4]).length ≤ mL M_X12_settleOrKeep := by rw [ls_R, ls_I, ls_I, ls_I, ls_I, ls_0]; decide
def M_X12_letterMethod : Mt := (yX12_letterMethod, cX12_letterMethod, 7, none, 9, 199)
set_option maxRecDepth 20000 in
theorem mo_X12_letterMethod : Mok M_X12_letterMethod := ⟨w1502, w132, by decide, by decide +kernel⟩
set_option maxRecDepth 20000 in
theorem na_X12_letterMethod : Nargs (my M_X12_letterMethod) 1 := by unfold Nargs; decide +kernel
set_option maxRecDepth 20000 in
theorem n_X12_letterMethod {Ω : Om} (a0 : Nat) (x1 : Int32) : (lg_sl [vR Ω (some a0), .int x1]).length ≤ mL M_X12_letterMethod := by rw [ls_R, ls_I, ls_0]; decide
def M_X12_lineMethod : Mt := (yX12_lineMethod, cX12_lineMethod, 4, none, 8, 172)
set_option maxRecDepth 20000 in
theorem mo_X12_lineMethod : Mok M_X12_lineMethod := ⟨w1404, w132, by decide, by decide +kernel⟩
set_option maxRecDepth 20000 in
theorem na_X12_lineMethod : Nargs (my M_X12_lineMethod) 2 := by unfold Nargs; decide +kernel
set_option maxRecDepth 20000 in
theorem n_X12_lineMethod {Ω : Om} (a0 : Nat) (x1 : Int32) (x2 : Int32) : (lg_sl [vR Ω (some a0), .int x1, .int x2]).length ≤ mL M_X12_lineMethod := by rw [ls_R, ls_I, ls_I, ls_0]; decide
def M_X12_bindingOf : Mt := (yX12_bindingOf, cX12_bindingOf, 8, (some .int), 0, 0)
set_option maxRecDepth 20000 in
theorem mo_X12_bindingOf : Mok M_X12_bindingOf := ⟨w1482, w132, by decide, by decide +kernel⟩
set_option maxRecDepth 20000 in
theorem na_X12_bindingOf : Nargs (my M_X12_bindingOf) 3 := by unfold Nargs; decide +kernel
set_option maxRecDepth 20000 in
theorem n_X12_bindingOf {Ω : Om} (a0 : Nat) (x1 : Int64) (x3 : Int64) (x5 : Int64) : (lg_sl [vR Ω (some a0), .long x1, .long x3, .long x5]).length ≤ mL M_X12_bindingOf := by rw [ls_R, ls_J, ls_J, ls_J, ls_0]; decide
def M_X12_bind : Mt := (yX12_bind, cX12_bind, 10, none, 8, 172)
set_option maxRecDepth 20000 in
theorem mo_X12_bind : Mok M_X12_bind := ⟨w1478, w132, by decide, by decide +kernel⟩
set_option maxRecDepth 20000 in
theorem na_X12_bind : Nargs (my M_X12_bind) 1 := by unfold Nargs; decide +kernel
set_option maxRecDepth 20000 in
theorem n_X12_bind {Ω : Om} (a0 : Nat) (x1 : Int32) : (lg_sl [vR Ω (some a0), .int x1]).length ≤ mL M_X12_bind := by rw [ls_R, ls_I, ls_0]; decide
def M_X12_declareQueue : Mt := (yX12_declareQueue, cX12_declareQueue, 6, none, 8, 172)
set_option maxRecDepth 20000 in
theorem mo_X12_declareQueue : Mok M_X12_declareQueue := ⟨w1455, w132, by decide, by decide +kernel⟩
set_option maxRecDepth 20000 in
theorem na_X12_declareQueue : Nargs (my M_X12_declareQueue) 0 := by unfold Nargs; decide +kernel
set_option maxRecDepth 20000 in
theorem n_X12_declareQueue {Ω : Om} (a0 : Nat) : (lg_sl [vR Ω (some a0)]).length ≤ mL M_X12_declareQueue := by rw [ls_R, ls_0]; decide
def M_X12_purge : Mt := (yX12_purge, cX12_purge, 4, (some .int), 2, 44)
set_option maxRecDepth 20000 in
theorem mo_X12_purge : Mok M_X12_purge := ⟨w1490, w132, by decide, by decide +kernel⟩
set_option maxRecDepth 20000 in
theorem na_X12_purge : Nargs (my M_X12_purge) 1 := by unfold Nargs; decide +kernel
set_option maxRecDepth 20000 in
theorem n_X12_purge {Ω : Om} (a0 : Nat) (x1 : Int32) : (lg_sl [vR Ω (some a0), .int x1]).length ≤ mL M_X12_purge := by rw [ls_R, ls_I, ls_0]; decide
def M_X12_removeQueue : Mt := (yX12_removeQueue, cX12_removeQueue, 3, none, 1, 22)
set_option maxRecDepth 20000 in
theorem mo_X12_removeQueue : Mok M_X12_removeQueue := ⟨w1498, w132, by decide, by decide +kernel⟩
set_option maxRecDepth 20000 in
theorem na_X12_removeQueue : Nargs (my M_X12_removeQueue) 1 := by unfold Nargs; decide +kernel
set_option maxRecDepth 20000 in
theorem n_X12_removeQueue {Ω : Om} (a0 : Nat) (x1 : Int32) : (lg_sl [vR Ω (some a0), .int x1]).length ≤ mL M_X12_removeQueue := by rw [ls_R, ls_I, ls_0]; decide
def M_X12_emptyQueue : Mt := (yX12_emptyQueue, cX12_emptyQueue, 11, none, 8, 172)
set_option maxRecDepth 20000 in
theorem mo_X12_emptyQueue : Mok M_X12_emptyQueue := ⟨w1486, w132, by decide, by decide +kernel⟩
set_option maxRecDepth 20000 in
theorem na_X12_emptyQueue : Nargs (my M_X12_emptyQueue) 1 := by unfold Nargs; decide +kernel
set_option maxRecDepth 20000 in
theorem n_X12_emptyQueue {Ω : Om} (a0 : Nat) (x1 : Int32) : (lg_sl [vR Ω (some a0), .int x1]).length ≤ mL M_X12_emptyQueue := by rw [ls_R, ls_I, ls_0]; decide
def M_X12_queueMethod : Mt := (yX12_queueMethod, cX12_queueMethod, 2, none, 9, 202)
set_option maxRecDepth 20000 in
theorem mo_X12_queueMethod : Mok M_X12_queueMethod := ⟨w1451, w132, by decide, by decide +kernel⟩
set_option maxRecDepth 20000 in
theorem na_X12_queueMethod : Nargs (my M_X12_queueMethod) 1 := by unfold Nargs; decide +kernel
set_option maxRecDepth 20000 in
theorem n_X12_queueMethod {Ω : Om} (a0 : Nat) (x1 : Int32) : (lg_sl [vR Ω (some a0), .int x1]).length ≤ mL M_X12_queueMethod := by rw [ls_R, ls_I, ls_0]; decide
def M_X12_commit : Mt := (yX12_commit, cX12_commit, 5, none, 7, 164)
set_option maxRecDepth 20000 in
theorem mo_X12_commit : Mok M_X12_commit := ⟨w1558, w132, by decide, by decide +kernel⟩
set_option maxRecDepth 20000 in
theorem na_X12_commit : Nargs (my M_X12_commit) 1 := by unfold Nargs; decide +kernel
set_option maxRecDepth 20000 in
theorem n_X12_commit {Ω : Om} (a0 : Nat) (x1 : Int32) : (lg_sl [vR Ω (some a0), .int x1]).length ≤ mL M_X12_commit := by rw [ls_R, ls_I, ls_0]; decide
def M_X12_transactionMethod : Mt := (yX12_transactionMethod, cX12_transactionMethod, 3, none, 8, 188)
set_option maxRecDepth 20000 in
theorem mo_X12_transactionMethod : Mok M_X12_transactionMethod := ⟨w1554, w132, by decide, by decide +kernel⟩
set_option maxRecDepth 20000 in
theorem na_X12_transactionMethod : Nargs (my M_X12_transactionMethod) 1 := by unfold Nargs; decide +kernel
set_option maxRecDepth 20000 in
theorem n_X12_transactionMethod {Ω : Om} (a0 : Nat) (x1 : Int32) : (lg_sl [vR Ω (some a0), .int x1]).length ≤ mL M_X12_transactionMethod := by rw [ls_R, ls_I, ls_0]; decide
def M_X12_doMethod : Mt := (yX12_doMethod, cX12_doMethod, 4, none, 10, 225)
set_option maxRecDepth 20000 in
theorem mo_X12_doMethod : Mok M_X12_doMethod := ⟨w1396, w132, by decide, by decide +kernel⟩
set_option maxRecDepth 20000 in
theorem na_X12_doMethod : Nargs (my M_X12_doMethod) 0 := by unfold Nargs; decide +kernel
set_option maxRecDepth 20000 in
theorem n_X12_doMethod {Ω : Om} (a0 : Nat) : (lg_sl [vR Ω (some a0)]).length ≤ mL M_X12_doMethod := by rw [ls_R, ls_0]; decide
def M_X12_head : Mt := (yX12_head, cX12_head, 2, none, 8, 186)
set_option maxRecDepth 20000 in
theorem mo_X12_head : Mok M_X12_head := ⟨w1584, w132, by decide, by decide +kernel⟩
set_option maxRecDepth 20000 in
theorem na_X12_head : Nargs (my M_X12_head) 0 := by unfold Nargs; decide +kernel
set_option maxRecDepth 20000 in
theorem n_X12_head {Ω : Om} (a0 : Nat) : (lg_sl [vR Ω (some a0)]).length ≤ mL M_X12_head := by rw [ls_R, ls_0]; decide
def M_X12_frame : Mt := (yX12_frame, cX12_frame, 4, none, 11, 248)
set_option maxRecDepth 20000 in
theorem mo_X12_frame : Mok M_X12_frame := ⟨w1392, w132, by decide, by decide +kernel⟩
set_option maxRecDepth 20000 in
theorem na_X12_frame : Nargs (my M_X12_frame) 1 := by unfold Nargs; decide +kernel
set_option maxRecDepth 20000 in
theorem n_X12_frame {Ω : Om} (a0 : Nat) (x1 : Int32) : (lg_sl [vR Ω (some a0), .int x1]).length ≤ mL M_X12_frame := by rw [ls_R, ls_I, ls_0]; decide
def M_X12_frameLength : Mt := (yX12_frameLength, cX12_frameLength, 1, (some .int), 0, 0)
set_option maxRecDepth 20000 in
theorem mo_X12_frameLength : Mok M_X12_frameLength := ⟨w1388, w132, by decide, by decide +kernel⟩
set_option maxRecDepth 20000 in
theorem na_X12_frameLength : Nargs (my M_X12_frameLength) 0 := by unfold Nargs; decide +kernel
set_option maxRecDepth 20000 in
theorem n_X12_frameLength {Ω : Om} (a0 : Nat) : (lg_sl [vR Ω (some a0)]).length ≤ mL M_X12_frameLength := by rw [ls_R, ls_0]; decide
def M_X12_greet : Mt := (yX12_greet, cX12_greet, 2, (some .int), 7, 152)
set_option maxRecDepth 20000 in
theorem mo_X12_greet : Mok M_X12_greet := ⟨w1319, w132, by decide, by decide +kernel⟩
set_option maxRecDepth 20000 in
theorem na_X12_greet : Nargs (my M_X12_greet) 0 := by unfold Nargs; decide +kernel
set_option maxRecDepth 20000 in
theorem n_X12_greet {Ω : Om} (a0 : Nat) : (lg_sl [vR Ω (some a0)]).length ≤ mL M_X12_greet := by rw [ls_R, ls_0]; decide
def M_X12_step : Mt := (yX12_step, cX12_step, 2, (some .int), 12, 271)
set_option maxRecDepth 20000 in
theorem mo_X12_step : Mok M_X12_step := ⟨w1315, w132, by decide, by decide +kernel⟩
set_option maxRecDepth 20000 in
theorem na_X12_step : Nargs (my M_X12_step) 0 := by unfold Nargs; decide +kernel
set_option maxRecDepth 20000 in
theorem n_X12_step {Ω : Om} (a0 : Nat) : (lg_sl [vR Ω (some a0)]).length ≤ mL M_X12_step := by rw [ls_R, ls_0]; decide
def M_L_law : Mt := (yL_law, cL_law, 4, (some .boolean), 13, 301)

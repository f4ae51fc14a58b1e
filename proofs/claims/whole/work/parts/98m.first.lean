/-! ===== the first state ===== -/
def i0 : AH := al hI 12 0 (cnf 12)
def iA : AH := match f_X11_init 4 i0 with
  | some q => q.2
  | none => hI
def iB : AH := al iA 13 0 (cnf 13)
def iC : AH := match f_X12_init 26 iB with
  | some q => q.2
  | none => hI
set_option maxRecDepth 100000 in
theorem iA_s : (f_X11_init 4 i0).isSome = true := by decide +kernel
theorem iA_e : f_X11_init 4 i0 = some ((), iA) := by
  unfold iA
  have := iA_s
  cases h : f_X11_init 4 i0 with
  | none => rw [h] at this; cases this
  | some q => rfl
theorem iA_z : hz iA = 22 := by decide +kernel
theorem iC_s : (f_X12_init 26 iB).isSome = true := by decide +kernel
theorem iC_e : f_X12_init 26 iB = some ((), iC) := by
  unfold iC
  have := iC_s
  cases h : f_X12_init 26 iB with
  | none => rw [h] at this; cases this
  | some q => rfl
theorem iC_z : hz iC = 69 ∧ hs iC ≤ 300000 := by decide +kernel
theorem iC_k : (List.range 27).map (kd iC) = [90, 91, 92, 93, 12, 7, 100, 10, 100, 9, 0, 0, 0, 0, 6, 103, 104, 2, 0, 0, 2, 0, 0, 2, 0, 0, 13] := by decide +kernel
set_option maxRecDepth 100000 in
set_option maxHeartbeats 4000000 in
theorem iA_t : ∀ n, kd iA (n + 26) = 999 := fun n => rfl

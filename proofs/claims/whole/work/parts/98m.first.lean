/-! ===== the first state ===== -/
def i0 : AH := al hI 12 0 (cnf 12)
def iA : AH := match f_X11_init 4 i0 with
  | some q => q.2
  | none => hI
def iB : AH := al iA 13 0 (cnf 13)
def iC : AH := match f_X12_init 26 iB with
  | some q => q.2
  | none => hI
set_option maxRecDepth 100000 in
theorem iA_s : (f_X11_init 4 i0).isSome = true := by decide +kernel
theorem iA_e : f_X11_init 4 i0 = some ((), iA) := by
  unfold iA
  have := iA_s
  cases h : f_X11_init 4 i0 with
  | none => rw [h] at this; cases this
  | some q => rfl
theorem iA_z : hz iA = 22 := by decide +kernel
theorem iC_s : (f_X12_init 26 iB).isSome = true := by decide +kernel
theorem iC_e : f_X12_init 26 iB = some ((), iC) := by
  unfold iC
  have := iC_s
  cases h : f_X12_init 26 iB with
  | none => rw [h] at this; cases this
  | some q => rfl
theorem iC_z : hz iC = 69 ∧ hs iC ≤ 300000 := by decide +kernel
theorem iC_k : (List.range 27).map (kd iC) = [90, 91, 92, 93, 12, 7, 100, 10, 100, 9, 0, 0, 0, 0, 6, 103, 104, 2, 0, 0, 2, 0, 0, 2, 0, 0, 13] := by decide +kernel
set_option maxRecDepth 100000 in
set_option maxHeartbeats 4000000 in
theorem iA_t : ∀ n, kd iA (n + 26) = 999 := fun n => rfl
set_option maxRecDepth 100000 in
set_option maxHeartbeats 4000000 in
theorem iC_t : ∀ n, kd iC (n + 73) = 999 := fun n => rfl
set_option maxRecDepth 100000 in
set_option maxHeartbeats 4000000 in
theorem iC_r : ∀ n, gR iC (n + 73) = fun _ => none := fun n => rfl
theorem iC_k2 : ∀ a, a < 73 → 27 ≤ a → kd iC a ∈ [100, 101, 102] := by decide +kernel
theorem iC_m : MSh 26 iC := ⟨by decide +kernel, by decide +kernel⟩
set_option maxRecDepth 100000 in
set_option maxHeartbeats 4000000 in
theorem iC_g : ∀ b, 27 ≤ b → b ≤ 72 → gI iC b = fun _ => 0 := by
  intro b h1 h2
  have e : b = 27 ∨ b = 28 ∨ b = 29 ∨ b = 30 ∨ b = 31 ∨ b = 32 ∨ b = 33 ∨ b = 34 ∨ b = 35 ∨ b = 36 ∨ b = 37 ∨ b = 38 ∨ b = 39 ∨ b = 40 ∨ b = 41 ∨ b = 42 ∨ b = 43 ∨ b = 44 ∨ b = 45 ∨ b = 46 ∨ b = 47 ∨ b = 48 ∨ b = 49 ∨ b = 50 ∨ b = 51 ∨ b = 52 ∨ b = 53 ∨ b = 54 ∨ b = 55 ∨ b = 56 ∨ b = 57 ∨ b = 58 ∨ b = 59 ∨ b = 60 ∨ b = 61 ∨ b = 62 ∨ b = 63 ∨ b = 64 ∨ b = 65 ∨ b = 66 ∨ b = 67 ∨ b = 68 ∨ b = 69 ∨ b = 70 ∨ b = 71 ∨ b = 72 := by omega
  rcases e with rfl | rfl | rfl | rfl | rfl | rfl | rfl | rfl | rfl | rfl | rfl | rfl | rfl | rfl | rfl | rfl | rfl | rfl | rfl | rfl | rfl | rfl | rfl | rfl | rfl | rfl | rfl | rfl | rfl | rfl | rfl | rfl | rfl | rfl | rfl | rfl | rfl | rfl | rfl | rfl | rfl | rfl | rfl | rfl | rfl | rfl <;> rfl
set_option maxRecDepth 100000 in
set_option maxHeartbeats 4000000 in
theorem iC_j : ∀ b, 27 ≤ b → b ≤ 72 → gJ iC b = fun _ => 0 := by
  intro b h1 h2
  have e : b = 27 ∨ b = 28 ∨ b = 29 ∨ b = 30 ∨ b = 31 ∨ b = 32 ∨ b = 33 ∨ b = 34 ∨ b = 35 ∨ b = 36 ∨ b = 37 ∨ b = 38 ∨ b = 39 ∨ b = 40 ∨ b = 41 ∨ b = 42 ∨ b = 43 ∨ b = 44 ∨ b = 45 ∨ b = 46 ∨ b = 47 ∨ b = 48 ∨ b = 49 ∨ b = 50 ∨ b = 51 ∨ b = 52 ∨ b = 53 ∨ b = 54 ∨ b = 55 ∨ b = 56 ∨ b = 57 ∨ b = 58 ∨ b = 59 ∨ b = 60 ∨ b = 61 ∨ b = 62 ∨ b = 63 ∨ b = 64 ∨ b = 65 ∨ b = 66 ∨ b = 67 ∨ b = 68 ∨ b = 69 ∨ b = 70 ∨ b = 71 ∨ b = 72 := by omega
  rcases e with rfl | rfl | rfl | rfl | rfl | rfl | rfl | rfl | rfl | rfl | rfl | rfl | rfl | rfl | rfl | rfl | rfl | rfl | rfl | rfl | rfl | rfl | rfl | rfl | rfl | rfl | rfl | rfl | rfl | rfl | rfl | rfl | rfl | rfl | rfl | rfl | rfl | rfl | rfl | rfl | rfl | rfl | rfl | rfl | rfl | rfl <;> rfl

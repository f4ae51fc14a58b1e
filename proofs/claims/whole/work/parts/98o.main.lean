/-! ===== the law holds ===== -/
theorem iC_lo : ∀ a, a < 26 → ∀ k, k < 10 → (gR iC a k).getD 0 < 26 := by decide +kernel
set_option maxRecDepth 100000 in
set_option maxHeartbeats 4000000 in
theorem iC_hi : ∀ a, a < 26 → ∀ n, gR iC a (n + 10) = none := by
  intro a h n
  have e : a = 0 ∨ a = 1 ∨ a = 2 ∨ a = 3 ∨ a = 4 ∨ a = 5 ∨ a = 6 ∨ a = 7 ∨ a = 8 ∨ a = 9 ∨ a = 10 ∨ a = 11 ∨ a = 12 ∨ a = 13 ∨ a = 14 ∨ a = 15 ∨ a = 16 ∨ a = 17 ∨ a = 18 ∨ a = 19 ∨ a = 20 ∨ a = 21 ∨ a = 22 ∨ a = 23 ∨ a = 24 ∨ a = 25 := by omega
  rcases e with rfl | rfl | rfl | rfl | rfl | rfl | rfl | rfl | rfl | rfl | rfl | rfl | rfl | rfl | rfl | rfl | rfl | rfl | rfl | rfl | rfl | rfl | rfl | rfl | rfl | rfl <;> rfl
theorem iC_rp : RP iC := by
  refine ⟨iC_m, Nat.le_of_eq iC_z.1.symm, fun a ha k => ?_⟩
  unfold na at ha
  by_cases c : a < 26
  · intro b hb
    have lt : b < 26 := by
      by_cases c2 : k < 10
      · have := iC_lo a c k c2
        rw [hb] at this
        exact this
      · obtain ⟨n, rfl⟩ : ∃ n, k = n + 10 := ⟨k - 10, by omega⟩
        rw [iC_hi a c n] at hb
        cases hb
    unfold na
    omega
  · obtain ⟨n, rfl⟩ : ∃ n, a = n + 73 := ⟨a - 73, by omega⟩
    rw [iC_r n]
    exact nr_n
theorem vI_kp : KP vI = 0 := by decide +kernel
theorem law_first (Ω : Om) : f_L_law Ω hI = f_L_law_18 Ω FU (some 4) (some 26) 0 iC := by
  unfold f_L_law nwO
  show (bd (f_X11_init 4 i0) fun _ h_4 => bd (f_X12_init (hz h_4 + 4) (al h_4 13 0 (cnf 13))) fun _ h_8 => f_L_law_18 Ω FU (some 4) (some (hz h_4 + 4)) 0 h_8) = _
  rw [iA_e, bd_s, iA_z]
  show (bd (f_X12_init 26 iB) fun _ h_8 => f_L_law_18 Ω FU (some 4) (some 26) 0 h_8) = _
  rw [iC_e, bd_s]
theorem pure_ok (Ω : Om) (hN : oN Ω ≤ 2048) : ∃ h' : AH, f_L_law Ω hI = some (1, h') ∧ hz h' ≤ 600000 ∧ hs h' ≤ 7302250 := by
  have H : HI iC := ⟨0, by decide, by decide +kernel⟩
  have L : LV vI := ⟨0, by decide, by decide +kernel⟩
  have b1 : hz iC + 24 * KP vI ≤ 69 + 136 * 0 := by rw [vI_kp, iC_z.1]; decide
  have b2 : hs iC + 2400 * KP vI ≤ 300000 + 13600 * 0 := by rw [vI_kp, Nat.mul_zero, Nat.add_zero]; exact iC_z.2
  have A : Al iC vI G0 (124 * 0) := iC_al
  obtain ⟨h', e1, e2, e3⟩ := law_l hN (Z := 69) (S := 300000) 512 0 FU iC vI G0 rfl (by unfold FU; decide) A H L iC_rp b1 b2
  rw [iC_p] at e1
  refine ⟨h', ?_, Nat.le_trans e2 (by decide), Nat.le_trans e3 (by decide)⟩
  rw [law_first]
  exact e1

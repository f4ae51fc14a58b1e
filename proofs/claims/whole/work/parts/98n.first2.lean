/-! ===== the first state is right ===== -/
def vI : MV := (gI iC 26, fun _ _ => 0, fun _ _ => 0)
def G0 : GH := (([14], [], [], []), fun _ => [], fun _ => [], fun _ => [])
theorem vI_1 : vI.1 = gI iC 26 := by
  unfold vI
  dsimp only
theorem ah_eta (h : AH) : (hz h, hs h, kd h, ln h, gI h, gJ h, gR h) = h := rfl
theorem iC_p : mput iC 26 vI = iC := by
  have e1 : gI (mput iC 26 vI) = gI iC := by
    funext b
    show (if b = 26 then vI.1 else if 26 < b ∧ b ≤ 26 + 46 then vI.2.1 (xa (b - 26)) else gI iC b) = gI iC b
    by_cases c : b = 26
    · rw [if_pos c, c, vI_1]
    · rw [if_neg c]
      by_cases c2 : 26 < b ∧ b ≤ 26 + 46
      · rw [if_pos c2, iC_g b (by omega) (by omega)]; rfl
      · rw [if_neg c2]
  have e2 : gJ (mput iC 26 vI) = gJ iC := by
    funext b
    show (if 26 < b ∧ b ≤ 26 + 46 then vI.2.2 (xa (b - 26)) else gJ iC b) = gJ iC b
    by_cases c2 : 26 < b ∧ b ≤ 26 + 46
    · rw [if_pos c2, iC_j b (by omega) (by omega)]; rfl
    · rw [if_neg c2]
  show (hz iC, hs iC, kd iC, ln iC, gI (mput iC 26 vI), gJ (mput iC 26 vI), gR iC) = iC
  rw [e1, e2]
  exact ah_eta iC
theorem iC_out {a : Nat} (h : 73 ≤ a) : kd iC a = 999 := by
  obtain ⟨n, rfl⟩ : ∃ n, a = n + 73 := ⟨a - 73, by omega⟩
  exact iC_t n
theorem iC_4 : ∀ a, a < 4 → kd iC a = 90 + a := by decide +kernel
theorem iC_90 : ∀ a, a < 73 → 4 ≤ a → kd iC a < 90 ∨ 100 ≤ kd iC a := by decide +kernel
theorem iC_0 : ∀ a, a < 73 → kd iC a = 0 → a = 10 ∨ gR iC a 1 = some 0 := by decide +kernel
theorem iC_11 : ∀ a, a < 73 → kd iC a ≠ 11 := by decide +kernel
theorem iC_nq {q : Nat} (h : kd iC q = 11) : False := by
  by_cases c : q < 73
  · exact iC_11 q c h
  · rw [iC_out (by omega)] at h; cases h
theorem iC_wh : WH iC := by
  have z : hz iC = 69 := iC_z.1
  have in0 : ∀ a, kd iC a = 0 → a < 73 := fun a h => by
    by_cases c : a < 73
    · exact c
    · rw [iC_out (by omega)] at h; cases h
  have r10 : gR iC 10 1 = some 15 := by decide +kernel
  refine ⟨⟨iC_4, fun a h => iC_out (by omega), fun a h1 h2 => iC_90 a (by omega) h1⟩, fun a d h1 h2 => ?_, fun a b d h1 h2 h3 h4 h5 => ?_⟩
  · rcases iC_0 a (in0 a h1) h1 with e | e
    · rw [e, r10] at h2
      cases h2
      decide +kernel
    · rw [e] at h2
      cases h2
      decide +kernel
  · have n0 : kd iC 0 ≠ 103 := by decide +kernel
    rcases iC_0 a (in0 a h1) h1 with e | e
    · rcases iC_0 b (in0 b h2) h2 with e' | e'
      · rw [e, e']
      · rw [e'] at h4; cases h4; exact absurd h5 n0
    · rw [e] at h3; cases h3; exact absurd h5 n0
theorem c123 {P : Nat → Prop} (a : P 1) (b : P 2) (c : P 3) : ∀ k, 1 ≤ k → k ≤ 3 → P k := by
  intro k h1 h2
  have e : k = 1 ∨ k = 2 ∨ k = 3 := by omega
  rcases e with rfl | rfl | rfl
  · exact a
  · exact b
  · exact c
theorem iC_sk : Sk iC := ⟨by decide +kernel, by decide +kernel, by decide +kernel, by decide +kernel, by decide +kernel, by decide +kernel, by decide +kernel, by decide +kernel, by decide +kernel, by decide +kernel, c123 (by decide +kernel) (by decide +kernel) (by decide +kernel)⟩
theorem iC_sc : Sc iC vI := ⟨by decide +kernel, by decide +kernel, c123 (by decide +kernel) (by decide +kernel) (by decide +kernel)⟩
theorem vI_ex : exL vI = [(0, 0)] := by
  have e : cN vI 5 = 1 := by decide +kernel
  unfold exL
  rw [e]
  rfl
theorem vI_qu : quL vI = [] := by
  have e : cN vI 8 = 0 := by decide +kernel
  unfold quL
  rw [e]; rfl
theorem vI_bi : biL vI = [] := by
  have e : cN vI 13 = 0 := by decide +kernel
  unfold biL
  rw [e]; rfl
theorem vI_co : coL vI = [] := by
  have e : cN vI 17 = 0 := by decide +kernel
  unfold coL
  rw [e]; rfl
theorem vI_le : leL vI = [] := by
  have e : cN vI 24 = 0 := by decide +kernel
  unfold leL
  rw [e]; rfl
theorem vI_out : outL vI = [] := by
  have e : (vI.1 4).toNatClampNeg = 0 := by decide +kernel
  unfold outL
  rw [e]; rfl
theorem iC_li {a : Nat} (h1 : kd iC a = 0) (h2 : gI iC a 2 = nI 0) (h3 : gR iC a 1 = some 0) : LI iC a [] := ⟨h1, h2, by simp, 0, h3, .inl ⟨rfl, rfl⟩⟩
theorem iC_10 : LI iC 10 [14] := by
  refine ⟨by decide +kernel, by decide +kernel, ?_, 15, by decide +kernel, .inr ⟨by decide +kernel, by decide +kernel, by decide +kernel, by decide +kernel, ?_⟩⟩
  · intro x hx
    simp at hx
    subst hx
    decide +kernel
  · intro i hi
    simp at hi
    subst hi
    decide +kernel
theorem iC_ls : Ls iC G0 := ⟨iC_10, iC_li (by decide +kernel) (by decide +kernel) (by decide +kernel), iC_li (by decide +kernel) (by decide +kernel) (by decide +kernel), iC_li (by decide +kernel) (by decide +kernel) (by decide +kernel), c123 ⟨iC_li (by decide +kernel) (by decide +kernel) (by decide +kernel), iC_li (by decide +kernel) (by decide +kernel) (by decide +kernel)⟩ ⟨iC_li (by decide +kernel) (by decide +kernel) (by decide +kernel), iC_li (by decide +kernel) (by decide +kernel) (by decide +kernel)⟩ ⟨iC_li (by decide +kernel) (by decide +kernel) (by decide +kernel), iC_li (by decide +kernel) (by decide +kernel) (by decide +kernel)⟩, fun q h => (iC_nq h).elim⟩
theorem iC_ob : Ob iC vI G0 := by
  unfold Ob
  rw [vI_ex, vI_qu, vI_bi, vI_co]
  refine ⟨?_, F2.nil, List.nodup_nil, by decide, F2.nil, F2.nil⟩
  have e : ExR iC 14 (0, 0) := ⟨by decide +kernel, by decide +kernel, by decide +kernel⟩
  exact (F2.nil (R := ExR iC)).snoc e
theorem iC_ch : Ch iC vI G0 := by
  have kp : ∀ c, kpL vI c = [] := fun c => rfl
  have r8 : ∀ c, 1 ≤ c → c ≤ 3 → gR iC (chA c) 8 = none := c123 (by decide +kernel) (by decide +kernel) (by decide +kernel)
  refine ⟨fun c h1 h2 => ⟨?_, .inl ⟨rfl, r8 c h1 h2⟩⟩, fun c c' d h1 h2 h3 h4 h5 h6 => ?_⟩
  · rw [kp]; exact F2.nil
  · rw [r8 c h1 h2] at h5; cases h5
theorem iC_cl : Cl iC vI G0 (leL vI) (gH G0) := by
  rw [vI_le]
  refine ⟨iC_wh, ⟨iC_sk, iC_sc, iC_ob, iC_ch⟩, iC_ls, ⟨List.Pairwise.nil, fun i q r h => ?_, fun c _ _ => ⟨[], F2.nil, List.Perm.refl _⟩⟩, fun q h => (iC_nq h).elim⟩
  simp [gQ, G0] at h
theorem nmO_0 : NmO 0 := ⟨[], by decide, by unfold NmL; simp, by decide⟩
theorem vI_vi : VI vI 0 := by
  have cv : ∀ k N, vI.1 k = nI 0 → N < 2 ^ 31 → CV vI k N := fun k N e h => (CV.of e (Nat.zero_le _) h).1
  refine ⟨⟨(CV.of (n := 1) (by decide +kernel) (by decide) (by decide)).1, cv 8 5 (by decide +kernel) (by decide), cv 13 12 (by decide +kernel) (by decide), cv 17 6 (by decide +kernel) (by decide), cv 24 24 (by decide +kernel) (by decide), ?_, ?_, ?_, ?_, ?_, ?_, ?_⟩, ⟨0, by decide +kernel, by decide, ?_, ?_, ?_, 0, by decide +kernel, by decide, ?_⟩, ⟨fun _ => .inl rfl, fun _ => .inl rfl, fun _ => .inl rfl, fun _ => .inl rfl, fun _ => .inl rfl, fun _ => .inl rfl, fun _ => .inl rfl⟩, ?_, rfl, fun c h1 h2 => ⟨⟨0, by decide, rfl⟩, ⟨0, by decide, rfl⟩, ⟨0, by decide, rfl⟩, ⟨0, by decide, rfl⟩, fun _ => ⟨rfl, rfl, rfl, ?_, ?_⟩⟩⟩
  · rw [vI_ex]; rfl
  · rw [vI_ex]; decide
  · rw [vI_ex]
    intro r hr
    simp at hr
    subst hr
    exact ⟨nmO_0, 0, by decide, rfl⟩
  · rw [vI_qu]; decide
  · rw [vI_qu]; decide
  · rw [vI_qu]; simp
  · rw [vI_co]; decide
  · rw [vI_qu]; simp
  · rw [vI_co]; simp
  · rw [vI_le]; simp
  · rw [vI_le]; simp
  · unfold ViM
    rw [vI_le]; simp
  · rw [vI_co]; simp
  · rw [vI_le]; simp
theorem iC_al : Al iC vI G0 0 := by
  refine ⟨iC_cl, vI_vi, by decide +kernel, ⟨?_, 0, ?_⟩, ⟨by decide +kernel, by decide +kernel, by decide +kernel, by decide +kernel, (CV.of (n := 0) (by decide +kernel) (by decide) (by decide)).1, by decide +kernel, fun i hi => ?_⟩⟩
  · unfold OV
    rw [vI_out]
    decide +kernel
  · rw [vI_out]
    exact ⟨by decide +kernel, by decide +kernel, by decide +kernel, by decide +kernel, by decide, by decide +kernel, by decide, by decide +kernel, fun i hi => by simp at hi⟩
  · have e : cN vI 2 = 0 := by decide +kernel
    omega

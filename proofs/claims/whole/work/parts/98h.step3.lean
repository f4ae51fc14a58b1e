/-! ===== steps agree ===== -/
section Sr
variable {t : Nat} {h h' : AH} {v v' : MV} {G G' : GH}
theorem SP.stay {x : Int32} (a : Al h v G t) (H : HI h) (L : LV v) : SP t h v (some (x, h)) (some (x, v)) := ⟨x, h, v, G, rfl, rfl, a.mono (by omega), H, L, by omega, by omega⟩
theorem out4 (a : Al h v G t) : v.1 4 = nI (outL v).length ∧ (outL v).length ≤ 2400 ∧ gI h 7 0 = nI (outL v).length := by
  obtain ⟨o1, s, o3⟩ := a.2.2.2.1
  exact ⟨o1, o3.2.2.2.2.1, o3.2.2.2.2.2.1⟩
theorem stepC (a : Al h v G t) (H : HI h) (L : LV v) (hh : 27 ≤ hz h) (ht : t + 126 < 65536) : SP t h v (f_X11_step 4 h) (m_step v) := by
  have k4 := a.1.2.1.1.1
  obtain ⟨o1, o2, o3⟩ := out4 a
  unfold f_X11_step m_step
  rw [rdI_e k4, a.2.2.1]
  by_cases e5 : v.1 0 = 5
  · rw [if_pos e5, if_pos e5]; exact SP.stay a H L
  rw [if_neg e5, if_neg e5, rdR_e k4, a.1.2.1.1.2.2.1, nn_s, rdI_e a.2.2.2.1.kk.1, o3, o1]
  by_cases c5 : ¬ (outL v).length < 500
  · have d : ¬ nI (outL v).length < (500 : Int32) := nI_nlt (b := 500) (by omega) (by omega)
    rw [if_neg d, if_neg d]; exact SP.stay a H L
  have c5 : (outL v).length < 500 := by omega
  have d : nI (outL v).length < (500 : Int32) := nI_lt (b := 500) c5 (by omega)
  rw [if_pos d, if_pos d, rdI_e k4, a.2.2.1]
  by_cases e0 : v.1 0 = 0
  · rw [if_pos e0, if_pos e0, inE a]
    have bi : ∀ {X : Option (Int32 × MV)}, (bdm X fun x_13 v_12 => some (x_13, v_12)) = X := fun {X} => by cases X <;> rfl
    rw [bi]
    rcases greet_ok a.2.2.2.2 with ⟨g1, g2⟩ | ⟨g1, g2⟩ | ⟨g1, g2, g3⟩
    · rw [g1, g2, bd_s]
      unfold f_X11_step_47
      rw [if_pos rfl]
      exact SP.stay a H L
    · rw [g1, g2, bd_s]
      unfold f_X11_step_47 m_greet_44
      rw [if_neg (by decide), if_neg (by decide)]
      obtain ⟨h', v', G', z1, z2, z3, z4, z5, z6, z7, z8⟩ := hardS a H c5
      rw [z1, z2, bdm_s]
      exact ⟨1, h', v', G', rfl, rfl, z3.mono (by omega), z4, z5, by omega, by omega⟩
    · rw [g1, g2, bd_s]
      exact greetS a H e0 c5 g3
  · rw [if_neg e0, if_neg e0, inE a]
    have L4' : L4 (v.1 0) := by
      obtain ⟨l, l1, l2⟩ := L
      refine ⟨l, ?_, ?_, l2⟩
      · by_cases z : l = 0
        · exact absurd (by rw [l2, z]; rfl) e0
        · omega
      · by_cases z : l = 5
        · exact absurd (by rw [l2, z]; rfl) e5
        · omega
    rcases look_ok a.2.2.2.2 with ⟨g1, g2⟩ | ⟨ha, g1, g2, g3, g4⟩ | ⟨ha, p, g1, g2, g3, g4, ⟨k, k0, k1, k3⟩, ⟨c, c0, c3⟩, g7, g8, g9, g10, g11, g12⟩
    · rw [g1, g2, bd_s, bdm_s, if_pos rfl]
      unfold f_X11_step_47
      rw [if_pos rfl]
      exact SP.stay a H L
    · have H1 := lookHI a.2.2.2.2 H g1
      have A1 : Al ha v G t := a.inb (g3.mono (by simp)) (Fr.rf v) (by simp) (by simp) (a.2.2.2.2.fr g3.lf (Fr.rf v) (by decide) (by simp) (by simp) g4 (by rw [g3.R]))
      obtain ⟨h', v', G', z1, z2, z3, z4, z5, z6, z7, z8⟩ := hardS A1 H1 c5
      rw [g1, g2, bd_s, bdm_s, if_neg (by decide), if_neg (by decide), z2, bdm_s]
      unfold f_X11_step_47
      rw [if_neg (by decide), if_neg (by decide), z1]
      have q1 := g3.1
      have q2 := g3.2.1
      exact ⟨1, h', v', G', rfl, rfl, z3.mono (by omega), z4, z5, by omega, by omega⟩
    · rw [g1, g2, bd_s, bdm_s, if_neg (show ¬ nI (p + 4) = (0 : Int32) from fun z => by have := (nI_eq (b := 0) (by omega) (by omega)).mp z; omega), if_pos (show (0 : Int32) ≤ nI (p + 4) from nI_le (a := 0) (by omega) (by omega))]
      exact frameS a L4' hh ht c5 g3 g4 k0 k1 k3 c0 c3 g7 g8 g9 g10 g11 g12
end Sr

/-! ===== what a channel tells ===== -/
section Aq
variable {t : Nat} {h h' : AH} {v v' : MV} {G G' : GH}
theorem hd_len (a : Al h v G t) {c : Nat} (h1 : 1 ≤ c) (h2 : c ≤ 3) : (gH G c).length = (leL v).countP (fun r : R_le => decide (r.2.2.1 = nI c)) := by
  obtain ⟨rs, f, p⟩ := a.1.2.2.2.1.2.2 c h1 h2
  rw [f.1, p.length_eq, List.countP_eq_length_filter]
  rfl
theorem i32_13 {x : Int32} (c1 : ¬ x < 1) (c3 : x ≤ 3) : ∃ c, 1 ≤ c ∧ c ≤ 3 ∧ x = nI c := by
  have e1 : ¬ x.toInt < 1 := fun z => c1 (Int32.lt_iff_toInt_lt.mpr z)
  have e3 : x.toInt ≤ 3 := Int32.le_iff_toInt_le.mp c3
  have e : x.toInt = 1 ∨ x.toInt = 2 ∨ x.toInt = 3 := by omega
  rcases e with z | z | z
  · exact ⟨1, by decide, by decide, Int32.toInt_inj.mp z⟩
  · exact ⟨2, by decide, by decide, Int32.toInt_inj.mp z⟩
  · exact ⟨3, by decide, by decide, Int32.toInt_inj.mp z⟩
theorem channelA (a : Al h v G t) (H : HI h) (L : LV v) (x y : Int32) : SP t h v (f_X11_channel 4 x y h) (m_channel x y v) := by
  have s0 := a.1.2.1.1
  unfold f_X11_channel m_channel
  rw [kg_e s0.1]
  by_cases c1 : x < 1
  · unfold f_X11_channelNumbered
    rw [if_pos c1, if_pos c1, bd_s, nb_n]
    exact SP.stay a H L
  rw [if_neg c1]
  by_cases c3 : ¬ x ≤ 3
  · unfold f_X11_channelNumbered
    rw [if_neg c1, if_neg c3, if_neg c3, bd_s, nb_n]
    exact SP.stay a H L
  have c3 : x ≤ 3 := Classical.not_not.mp c3
  obtain ⟨c, h1, h2, rfl⟩ := i32_13 c1 c3
  obtain ⟨q1, q2, q3, q4⟩ := s0.ch h1 h2
  obtain ⟨s1, s2, s3, s4, s5⟩ := a.1.2.1.2.1.2.2 c h1 h2
  obtain ⟨l1, l2⟩ := a.1.2.2.1.2.2.2.2.1 c h1 h2
  rw [if_pos c3, cn_ok a h2, bd_s, if_neg (by omega), nb_s]
  by_cases y0 : y = 0
  · rw [if_pos y0, if_pos y0, rdI_e q1, s1, mrI_e (show c < alen 35 by show c < 4; omega) (by decide)]
    exact SP.stay a H L
  rw [if_neg y0, if_neg y0]
  by_cases y1 : y = 1
  · rw [if_pos y1, if_pos y1, rdR_e q1, q2, nn_s, kg_e l1.1, l1.size, bd_s, held_ok a.2.1.1.2.2.2.2.1, bdm_s, hd_len a h1 h2]
    exact SP.stay a H L
  rw [if_neg y1, if_neg y1]
  by_cases y2 : y = 2
  · rw [if_pos y2, if_pos y2, rdI_e q1, s5, mrI_e (show c < alen 38 by show c < 4; omega) (by decide)]
    exact SP.stay a H L
  rw [if_neg y2, if_neg y2]
  by_cases y3 : y = 3
  · obtain ⟨n, n1, n2, n3, n4⟩ := kc_n a h1 h2
    rw [if_pos y3, if_pos y3, rdR_e q1, q3, nn_s, kg_e l2.1, l2.size, bd_s, mrI_e (show c < alen 47 by show c < 4; omega) (by decide), n2, n4]
    exact SP.stay a H L
  rw [if_neg y3, if_neg y3]
  exact SP.stay a H L
end Aq

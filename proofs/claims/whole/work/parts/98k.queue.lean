/-! ===== what a queue tells ===== -/
section Ar
variable {t : Nat} {h h' : AH} {v v' : MV} {G G' : GH}
theorem biM_l {v : MV} (h13 : CV v 13 12) (h8 : CV v 8 5) {iq : Nat} {x : R_qu} (hq : (quL v)[iq]? = some x) : ∀ (d i f : Nat) (n : Int32), i + d = cN v 13 → d < f → m_queue_71 f (nI iq) n (nI i) v = some (n + nI (((biL v).drop i).countP (fun r : R_bi => decide (r.1 = x.1))), v) := by
  have hN := h13.2
  have h8' := h8.2
  obtain ⟨q1, q2⟩ := qu_k hq
  have x1 : x.1 = v.2.2 10 iq := by rw [q2]
  intro d
  induction d with
  | zero =>
    intro i f n hi hf
    obtain ⟨g, rfl⟩ : ∃ g, f = g + 1 := ⟨f - 1, by omega⟩
    have hd : (biL v).drop i = [] := List.drop_eq_nil_of_le (by rw [biL_len]; omega)
    rw [m_queue_71, if_pos (by rw [h13.1]; exact nI_le (by omega) (by omega)), hd]
    simp [nI_0]
  | succ d ih =>
    intro i f n hi hf
    obtain ⟨g, rfl⟩ : ∃ g, f = g + 1 := ⟨f - 1, by omega⟩
    have hd : (biL v).drop i = (v.2.2 14 i, v.2.2 15 i, v.2.2 16 i) :: (biL v).drop (i + 1) := lst_drop _ (by omega)
    rw [m_queue_71, if_neg (by rw [h13.1]; exact nI_ge (by omega) (by omega)), hd, mrJ_e (show i < alen 14 by show i < 12; omega) (by decide), mrJ_e (show iq < alen 10 by show iq < 5; omega) (by decide), List.countP_cons, ← x1]
    have next : ∀ s0 : Int32, m_queue_103 (fun x1 x3 x4 v => m_queue_71 g x1 x3 x4 v) (nI iq) (nI i) s0 n v = some (n + s0 + nI (((biL v).drop (i + 1)).countP (fun r : R_bi => decide (r.1 = x.1))), v) := by
      intro s0
      unfold m_queue_103
      rw [ltd, nI_1]
      exact ih (i + 1) g (n + s0) (by omega) (by omega)
    by_cases e : v.2.2 14 i = x.1
    · rw [if_pos (cmp_eq.mpr e), next, cadd1, if_pos (decide_eq_true e)]
    · rw [if_neg (fun z => e (cmp_eq.mp z)), next, Int32.add_zero, if_neg (by simp [e])]
      rfl
theorem le_k {k : Nat} {r : R_le} (h : (leL v)[k]? = some r) : k < cN v 24 ∧ r.1 = v.2.1 26 k := by
  have hk : k < cN v 24 := by
    rw [← leL_len]
    exact (List.getElem?_eq_some_iff.mp h).1
  refine ⟨hk, ?_⟩
  unfold leL at h
  rw [lst_get _ hk] at h
  injection h with h
  rw [← h]
theorem queueA (a : Al h v G t) (H : HI h) (L : LV v) (x y : Int32) : SP t h v (f_X11_queue 4 x y h) (m_queue x y v) := by
  have s0 := a.1.2.1.1
  have k4 := s0.1
  have ls := a.1.2.2.1
  have o := a.1.2.1.2.2.1
  obtain ⟨v5, v8, v13, v17, v24, -, -, -, nd, -⟩ := a.2.1.1
  have h8 := v8.2
  have h24 := v24.2
  have r9 : ∀ {β : Type} {X : Nat → Option β}, (rdR h 4 12 2 fun r => nn r X) = X 9 := fun {β X} => by
    rw [rdR_e k4, s0.2.2.2.1, nn_s]
  have r91 : ∀ {β : Type} {X : Nat → Option β}, (rdR h 9 9 1 fun r => nn r X) = X 11 := fun {β X} => by
    rw [rdR_e s0.k9, s0.r9 (by decide), nn_s]
  have len : (gQ G).length = cN v 8 := by rw [o.2.1.1, quL_len]
  unfold f_X11_queue m_queue
  by_cases c0 : x < 0
  · rw [if_pos c0, if_pos c0]; exact SP.stay a H L
  rw [if_neg c0, if_neg c0, r9, r91, kg_e ls.2.1.1, ls.2.1.size, bd_s, len, v8.1]
  by_cases c1 : ¬ x < nI (cN v 8)
  · rw [if_neg c1, if_neg c1]; exact SP.stay a H L
  have c1 : x < nI (cN v 8) := Classical.not_not.mp c1
  obtain ⟨j, j1, rfl⟩ : ∃ j, j < cN v 8 ∧ x = nI j := by
    have e0 : ¬ x.toInt < 0 := fun z => c0 (Int32.lt_iff_toInt_lt.mpr z)
    have e1 : x.toInt < (nI (cN v 8)).toInt := Int32.lt_iff_toInt_lt.mp c1
    rw [nI_toInt (by omega)] at e1
    refine ⟨x.toInt.toNat, by omega, Int32.toInt_inj.mp ?_⟩
    rw [nI_toInt (by omega)]
    omega
  obtain ⟨q, z, k1, k2, qr⟩ := o.2.1.get (show j < (gQ G).length by omega)
  have kq := qr.1
  obtain ⟨b1, b2⟩ := qu_k k2
  have z21 : v.2.1 11 j = z.2.1 := by rw [b2]
  obtain ⟨-, w2, w3, w4⟩ := ls.2.2.2.2.2 q kq
  rw [if_pos c1, if_pos c1, r9, r91, kg_e ls.2.1.1, ls.2.1.get (show j < (gQ G).length by omega), bd_s, k1, ckc_e kq]
  by_cases y0 : y = 0
  · rw [if_pos y0, if_pos y0, nn_s, rdR_e kq, w2, nn_s, kg_e w3.1, w3.size, bd_s, mrI_e (show j < alen 11 by show j < 5; omega) (by decide), waiting_ok v24, bdm_s, wt_len a k1 k2, z21]
    exact SP.stay a H L
  rw [if_neg y0, if_neg y0]
  by_cases y1 : y = 1
  · have co := coO_ok (iq := j) (q := q) (x := z) a.1.1.1 s0 ls.2.2.2.1 o.2.2.2.2.2 kq k1 k2
    rw [if_pos y1, if_pos y1, r9, kg_e s0.k9, co, bd_s, mrI_e (show j < alen 11 by show j < 5; omega) (by decide), consumersOf_ok v17, bdm_s, z21]
    exact SP.stay a H L
  rw [if_neg y1, if_neg y1]
  by_cases y2 : y = 2
  · have hb := ls.2.2.1.len
    have bo := biO_l (iq := j) (q := q) (x := z) a.1.1.1 s0 ls.2.2.1 o.2.2.2.2.1 o.2.2.1 nd (fun y hy => by obtain ⟨b, -, z⟩ := o.2.1.ofL hy; exact z.1) k1 k2 (gB G).length 0 FU 0 (by omega) (by unfold FU; omega)
    have h13 := v13.2
    have bm := biM_l v13 v8 k2 (cN v 13) 0 FU 0 (by omega) (by unfold FU; omega)
    rw [nI_0] at bo bm
    unfold f_X8_bindingsOf
    rw [if_pos y2, if_pos y2, r9, kg_e s0.k9, bo, bd_s, bm]
    exact SP.stay a H L
  rw [if_neg y2, if_neg y2]
  by_cases y3 : y = 3
  · rw [if_pos y3, if_pos y3, nn_s, rdR_e kq, w2, nn_s, kg_e w3.1, w3.emp, bd_s, mrI_e (show j < alen 11 by show j < 5; omega) (by decide), firstOf_ok v24, bdm_s, z21]
    rcases wt_split a k1 k2 with ⟨p1, p2⟩ | ⟨k, A, r, B, a0, rest, p1, p2, p3, p4, p5, p6, p7, p8⟩
    · have p1' : (leL v).findIdx? (fun r : R_le => decide (r.2.1 = z.2.1 ∧ r.2.2.1 = 0)) = none := p1
      rw [p1', p2, if_neg (by decide), if_neg (by decide)]
      exact SP.stay a H L
    · have p1' : (leL v).findIdx? (fun r : R_le => decide (r.2.1 = z.2.1 ∧ r.2.2.1 = 0)) = some k := p1
      have gk : (leL v)[k]? = some r := by rw [p2, p3]; simp
      obtain ⟨m1, m2⟩ := le_k gk
      rw [p1', show fiR 0 (some k) = nI (0 + k) from rfl, Nat.zero_add, if_pos (show (0 : Int32) ≤ nI k from nI_le (a := 0) (by omega) (by omega)), mrI_e (show k < alen 26 by show k < 24; omega) (by decide), p6, if_pos (show bit (a0 :: rest).isEmpty = 0 from rfl), rdR_e kq, w2, nn_s, kg_e w3.1, show (0 : Int32) = nI 0 from rfl, w3.get (by rw [p6]; simp), bd_s, p6, show (a0 :: rest)[0]? = some a0 from rfl, ckc_e p7.1, nn_s, rdI_e p7.1, p7.2.1, m2]
      exact SP.stay a H L
  rw [if_neg y3, if_neg y3]
  exact SP.stay a H L
end Ar

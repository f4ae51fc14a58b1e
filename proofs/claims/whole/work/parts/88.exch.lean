/-! ===== publish; exchanges ===== -/
section Ex
variable {t : Nat} {h h' : AH} {v v' : MV} {c d : Nat} {G : GH} {M : List R_le} {hl : Nat → List Nat} {w : Bool}
theorem drf_new (w : WH h) (e k : Int64) (m : Bool) (ne : NmO e) (nk : NmO k) : ∃ h', (∀ {β : Type} (F : Nat → AH → Option β), (nwO h 5 fun a h_28 => bd (f_X4_init a e k (bit m) h_28) fun _ h_30 => F a h_30) = F (hz h + 4) h') ∧ LF h h' [] ∧ WH h' ∧ NoQ h h' ∧ hz h' ≤ hz h + 2 ∧ hs h' ≤ hs h + 100 * 2 ∧ DpR h' (hz h + 4) e k m ∧ gI h' (hz h + 4) 4 = -1 ∧ gI h' (hz h + 4) 6 = 0 ∧ gJ h' (hz h + 4) 5 = 0 := by
  have t9 := w.1.top
  have kt : kd (al h 5 0 (cnf 5)) (hz h + 4) = 5 := by rw [kd_al, if_pos rfl]
  have wa : WH (sI (sJ (sJ (sI (al h 5 0 (cnf 5)) (hz h + 4) 4 (-1)) (hz h + 4) 0 e) (hz h + 4) 1 k) (hz h + 4) 2 (bit m)) := ((((w.fA (by omega) (by decide)).fI).fJ).fJ).fI
  have fa : LF h (sI (sJ (sJ (sI (al h 5 0 (cnf 5)) (hz h + 4) 4 (-1)) (hz h + 4) 0 e) (hz h + 4) 1 k) (hz h + 4) 2 (bit m)) [] := ((((LF.fA w.1).nI t9).nJ t9).nJ t9).nI t9
  obtain ⟨hb, x1, x2, x3, x4, x5, x6, x7⟩ := words_ok wa k
  have zt : hz (sI (sJ (sJ (sI (al h 5 0 (cnf 5)) (hz h + 4) 4 (-1)) (hz h + 4) 0 e) (hz h + 4) 1 k) (hz h + 4) 2 (bit m)) = hz h + 1 := rfl
  have st : hs (sI (sJ (sJ (sI (al h 5 0 (cnf 5)) (hz h + 4) 4 (-1)) (hz h + 4) 0 e) (hz h + 4) 1 k) (hz h + 4) 2 (bit m)) = hs h + 7 := rfl
  have kg5 : kd (sI (sJ (sJ (sI (al h 5 0 (cnf 5)) (hz h + 4) 4 (-1)) (hz h + 4) 0 e) (hz h + 4) 1 k) (hz h + 4) 2 (bit m)) (hz h + 4) = 5 := kt
  have g4 : gI (sI (sJ (sJ (sI (al h 5 0 (cnf 5)) (hz h + 4) 4 (-1)) (hz h + 4) 0 e) (hz h + 4) 1 k) (hz h + 4) 2 (bit m)) (hz h + 4) 4 = -1 := by rw [gI_sI, if_neg (by simp), gI_sJ, gI_sJ, gI_sI, if_pos ⟨rfl, rfl⟩]
  have g6 : gI (sI (sJ (sJ (sI (al h 5 0 (cnf 5)) (hz h + 4) 4 (-1)) (hz h + 4) 0 e) (hz h + 4) 1 k) (hz h + 4) 2 (bit m)) (hz h + 4) 6 = 0 := by rw [gI_sI, if_neg (by simp), gI_sJ, gI_sJ, gI_sI, if_neg (by simp), gI_al, if_pos rfl]
  have g2 : gI (sI (sJ (sJ (sI (al h 5 0 (cnf 5)) (hz h + 4) 4 (-1)) (hz h + 4) 0 e) (hz h + 4) 1 k) (hz h + 4) 2 (bit m)) (hz h + 4) 2 = bit m := by rw [gI_sI, if_pos ⟨rfl, rfl⟩]
  have j0 : gJ (sI (sJ (sJ (sI (al h 5 0 (cnf 5)) (hz h + 4) 4 (-1)) (hz h + 4) 0 e) (hz h + 4) 1 k) (hz h + 4) 2 (bit m)) (hz h + 4) 0 = e := by rw [gJ_sI, gJ_sJ, if_neg (by simp), gJ_sJ, if_pos ⟨rfl, rfl⟩]
  have j1 : gJ (sI (sJ (sJ (sI (al h 5 0 (cnf 5)) (hz h + 4) 4 (-1)) (hz h + 4) 0 e) (hz h + 4) 1 k) (hz h + 4) 2 (bit m)) (hz h + 4) 1 = k := by rw [gJ_sI, gJ_sJ, if_pos ⟨rfl, rfl⟩]
  have j5 : gJ (sI (sJ (sJ (sI (al h 5 0 (cnf 5)) (hz h + 4) 4 (-1)) (hz h + 4) 0 e) (hz h + 4) 1 k) (hz h + 4) 2 (bit m)) (hz h + 4) 5 = 0 := by rw [gJ_sI, gJ_sJ, if_neg (by simp), gJ_sJ, if_neg (by simp), gJ_sI, gJ_al, if_pos rfl]
  have nqa : NoQ h (sI (sJ (sJ (sI (al h 5 0 (cnf 5)) (hz h + 4) 4 (-1)) (hz h + 4) 0 e) (hz h + 4) 1 k) (hz h + 4) 2 (bit m)) := fun q hq => noq_al (c := 5) (n := 0) (s := cnf 5) (by decide) q hq
  have fwr : ∀ {β : Type} (F : Unit → AH → Option β), bd (f_X4_init (hz h + 4) e k (bit m) (al h 5 0 (cnf 5))) F = bd (f_X0_wordsOf k (sI (sJ (sJ (sI (al h 5 0 (cnf 5)) (hz h + 4) 4 (-1)) (hz h + 4) 0 e) (hz h + 4) 1 k) (hz h + 4) 2 (bit m))) fun r h_6 => wrR h_6 (hz h + 4) 5 3 r fun h_8 => F () h_8 := by
    intro β F
    unfold f_X4_init
    rw [wrI_e kt, wrJ_e (by exact kt), wrJ_e (by exact kt), wrZ_e (by exact kt) (by cases m <;> simp [bit]), x1, bd_s, bd_s, wrR_e (by rw [x7 _ (by omega)]; exact kt), wrR_e (by rw [x7 _ (by omega)]; exact kt), bd_s]
  generalize sI (sJ (sJ (sI (al h 5 0 (cnf 5)) (hz h + 4) 4 (-1)) (hz h + 4) 0 e) (hz h + 4) 1 k) (hz h + 4) 2 (bit m) = g at *
  rw [zt, show hz h + 1 + 4 = hz h + 4 + 1 by omega] at x2 x7
  have kp := x3.kp kg5 (by decide) (by decide) (by simp)
  have kb : kd hb (hz h + 4) = 5 := kp.k kg5
  have nt : hz h + 4 + 1 ≠ hz h + 4 := by omega
  refine ⟨sR hb (hz h + 4) 3 (some (hz h + 4 + 1)), fun F => ?_, ?_, x4.fR (by rw [kb]; decide), fun q hq => ?_, ?_, ?_, ⟨kb, by rw [gJ_sR, kp.2.2.2.1]; exact j0, by rw [gJ_sR, kp.2.2.2.1]; exact j1, by rw [gI_sR, kp.2.2.1]; exact g2, by rw [gR_sR, if_pos ⟨rfl, rfl⟩], x2, ne, nk⟩, by rw [gI_sR, kp.2.2.1]; exact g4, by rw [gI_sR, kp.2.2.1]; exact g6, by rw [gJ_sR, kp.2.2.2.1]; exact j5⟩
  · rw [nwO_e, fwr, x1, bd_s, wrR_e kb, zt, show hz h + 1 + 4 = hz h + 4 + 1 by omega]
  · exact (fa.tr x3).nR t9
  · have hq : kd hb q = 11 := hq
    by_cases z : q = hz h + 4 + 1
    · rw [z, x2.1] at hq; exact absurd hq (by decide)
    · rw [x7 q z] at hq; exact nqa q hq
  · show hz hb ≤ _; omega
  · show hs hb ≤ _; omega
theorem publishC (p : Pre t h v c G w) (st : v.2.1 35 c = 1) : HC t h v c (f_X11_publish 4 (some (chA c)) h) (m_publish v) := by
  have e54 := p.2.2.1
  unfold f_X11_publish m_publish
  rw [inE p.1, ltd, e54]
  obtain ⟨e, ha, va, wa, x1, x2, x4, x5, x6⟩ := name_ok p.2.1
  rw [x1, bd_s, x2, bdm_s, inE (p.1.rd x5)]
  refine HC.rd x5 ?_
  have p := p.rd x5 x4
  have st : va.2.1 35 c = 1 := by rw [(x5.2.1.2 35 (by decide)).1]; exact st
  obtain ⟨k, hb, vb, wb, y1, y2, y4, y5, y6⟩ := name_ok p.2.1
  rw [y1, bd_s, y2, bdm_s, inE (p.1.rd y5)]
  refine HC.rd y5 ?_
  have p := p.rd y5 y4
  have st : vb.2.1 35 c = 1 := by rw [(y5.2.1.2 35 (by decide)).1]; exact st
  obtain ⟨m, hd, vd, wd, z1, z2, z4, z5, z6⟩ := flag_ok p.2.1
  rw [z1, bd_s, z2, bdm_s, inE (p.1.rd z5)]
  refine HC.rd z5 ?_
  have p := p.rd z5 z4
  have st : vd.2.1 35 c = 1 := by rw [(z5.2.1.2 35 (by decide)).1]; exact st
  refine just_hc p (fun w0 => ?_)
  have nk := (y6 (z6 w0)).2
  have ne := (x6 (y6 (z6 w0)).1).2
  obtain ⟨a, i, e54, h1, h2, hl, ht⟩ := p
  have o := a.1.2.1.2.2.1
  rw [ofE a, exN_ok a.1.2.1.1 a.1.2.2.1.1 o.1 e, bd_s, exchangeOf_ok a.2.1.1.1, bdm_s]
  cases hf : (exL vd).findIdx? (fun r => decide (r.1 = e)) with
  | none =>
    show HC t hd vd c (nb none _ _) _
    rw [nb_n, if_neg (by decide), bdm_id]
    exact HC.soft a h1 h2 (e := 404) (by decide)
  | some j =>
    obtain ⟨r, hr, -⟩ := fi_some hf
    obtain ⟨q, rr, hq, -, -⟩ := o.1.get (i := j) (by rw [o.1.1]; exact (List.getElem?_eq_some_iff.mp hr).1)
    have hj := (ex_k hr).1
    have := a.2.1.1.1.2
    show HC t hd vd c (nb ((gX G)[j]?) _ _) _
    rw [hq, nb_s, fiR_s, if_pos (nI_pos' (by omega)), msI_e (show c < 4 by omega) (by decide), msJ_e (show c < 4 by omega) (by decide), msJ_e (show c < 4 by omega) (by decide), msZ_e (k := 43) (show c < 4 by omega) (by decide)]
    obtain ⟨hn, u1, u2, u3, u4, u5, u6, u7, u8, u9, u10⟩ := drf_new a.1.1 e k m ne nk
    obtain ⟨a1, g1⟩ := a.nw u2 u3 u4 u5 u6
    have k2 := (a1.1.2.1.1.ch h1 h2).1
    rw [u1, nn_s, wrR_e k2]
    have fv : Fr vd (mseA (mseJ (mseJ (mseA vd 40 c 1) 41 c e) 42 c k) 43 c (bit m)) [] [40, 41, 42, 43, 44, 45, 46] := (((Fr.updA.tr Fr.updJ).tr Fr.updJ).tr Fr.updA).mono (by simp) (by simp)
    have oth : ∀ c', c' ≠ c → ∀ j, 40 ≤ j → j ≤ 46 → (mseA (mseJ (mseJ (mseA vd 40 c 1) 41 c e) 42 c k) 43 c (bit m)).2.1 j c' = vd.2.1 j c' ∧ (mseA (mseJ (mseJ (mseA vd 40 c 1) 41 c e) 42 c k) 43 c (bit m)).2.2 j c' = vd.2.2 j c' := fun c' hc j q1 q2 => by
      have : j = 40 ∨ j = 41 ∨ j = 42 ∨ j = 43 ∨ j = 44 ∨ j = 45 ∨ j = 46 := by omega
      rcases this with y | y | y | y | y | y | y <;> subst y <;> simp [mseA, mseJ, rw1, upd, vp_updL, hc]
    have t9 := a.1.1.1.top
    have nc : hz hd + 4 ≠ chA c := fun y => by rw [y, (a.1.2.1.1.ch h1 h2).1] at t9; exact absurd t9 (by decide)
    obtain ⟨j1, j2, j3, j4, j5, j6, j7, j8⟩ := u7
    have D : ChD (sR hn (chA c) 8 (some (hz hd + 4))) (mseA (mseJ (mseJ (mseA vd 40 c 1) 41 c e) 42 c k) 43 c (bit m)) c := by
      refine .inr ⟨hz hd + 4, m, by rw [gR_sR, if_pos ⟨rfl, rfl⟩], ⟨j1, by rw [gJ_sR, j2]; simp [mseA, mseJ, rw1, vp_updL], by rw [gJ_sR, j3]; simp [mseA, mseJ, rw1, vp_updL], j4, by rw [gR_sRn nc]; exact j5, ?_, by simpa [mseA, mseJ, rw1, vp_updL] using j7, by simpa [mseA, mseJ, rw1, vp_updL] using j8⟩, by simp [mseA, mseJ, rw1, upd], .inl ⟨by simp [mseA, mseJ, rw1, upd], u8, u9, u10⟩⟩
      rw [show (mseA (mseJ (mseJ (mseA vd 40 c 1) 41 c e) 42 c k) 43 c (bit m)).2.2 42 c = k by simp [mseA, mseJ, rw1, vp_updL]]
      exact j6
    have C := a1.1.dchg h1 h2 fv oth D (fun d c' ed k1 k3 hc y => by
      cases ed
      obtain ⟨q1, q2⟩ := a.1.2.1.2.2.2.1 c' k1 k3
      have y0 : gR hd (chA c') 8 = some (hz hd + 4) := by rw [← (u2.kp (a.1.2.1.1.ch k1 k3).1 (by decide) (by decide) (by simp)).2.2.2.2]; exact y
      rcases q2 with ⟨-, s⟩ | ⟨d', b, s1, s2, -⟩
      · rw [s] at y0; cases y0
      · rw [s1] at y0; cases y0
        rw [s2.1] at t9; exact absurd t9 (by decide))
    have b43 : Bo (mseA (mseJ (mseJ (mseA vd 40 c 1) 41 c e) 42 c k) 43 c (bit m)) 43 := Bo.setA (a.2.1.2.2.1.2.2.2.2.1.fr (((Fr.updA (k := 40) (i := c) (x := 1)).tr (Fr.updJ (k := 41) (i := c) (x := e))).tr (Fr.updJ (k := 42) (i := c) (x := k))) (by decide))
    obtain ⟨A, gr⟩ := a1.dr C fv (a1.2.1.r40 fv (c := c) (fun j hj => (oth j hj 40 (by omega) (by omega)).1) st b43) (LF.fR (by rw [k2]; decide)) (by simp [k2]) (Nat.le_refl _) (Nat.le_refl _)
    exact ⟨0, _, _, G, rfl, A.mono (by omega), (g1.tr gr).mono (by omega) (by split <;> omega), .inl ⟨rfl, rfl⟩⟩
theorem lkX (a : Al h v G t) (x : Int64) : (f_X8_exchangeNamed 9 x h = some (none, h) ∧ m_exchangeOf x v = some (-1, v) ∧ ∀ r ∈ exL v, r.1 ≠ x) ∨ ∃ j e r, f_X8_exchangeNamed 9 x h = some (some e, h) ∧ m_exchangeOf x v = some (nI j, v) ∧ (gX G)[j]? = some e ∧ (exL v)[j]? = some r ∧ ExR h e r ∧ r.1 = x ∧ j < 6 := by
  have o := a.1.2.1.2.2.1
  rw [exN_ok a.1.2.1.1 a.1.2.2.1.1 o.1 x, exchangeOf_ok a.2.1.1.1]
  cases hf : (exL v).findIdx? (fun r => decide (r.1 = x)) with
  | none => exact .inl ⟨rfl, rfl, fun r hr => by simpa using fi_none hf r hr⟩
  | some j =>
    right
    obtain ⟨r, hr, e2⟩ := fi_some hf
    obtain ⟨q, rr, hq, hrr, er⟩ := o.1.get (i := j) (by rw [o.1.1]; exact (List.getElem?_eq_some_iff.mp hr).1)
    have hj := (ex_k hr).1
    have := a.2.1.1.1.2
    rw [hr] at hrr
    cases hrr
    exact ⟨j, q, r, by show some ((gX G)[j]?, h) = _; rw [hq], by rw [fiR_s], hq, hr, er, by simpa using e2, by omega⟩
theorem lkQ (a : Al h v G t) (x : Int64) : (f_X8_queueNamed 9 x h = some (none, h) ∧ m_queueOf x v = some (-1, v) ∧ ∀ r ∈ quL v, r.1 ≠ x) ∨ ∃ j e r, f_X8_queueNamed 9 x h = some (some e, h) ∧ m_queueOf x v = some (nI j, v) ∧ (gQ G)[j]? = some e ∧ (quL v)[j]? = some r ∧ QuR h e r ∧ r.1 = x ∧ j < 5 := by
  have o := a.1.2.1.2.2.1
  rw [quN_ok a.1.2.1.1 a.1.2.2.1.2.1 o.2.1 x, queueOf_ok a.2.1.1.2.1]
  cases hf : (quL v).findIdx? (fun r => decide (r.1 = x)) with
  | none => exact .inl ⟨rfl, rfl, fun r hr => by simpa using fi_none hf r hr⟩
  | some j =>
    right
    obtain ⟨r, hr, e2⟩ := fi_some hf
    obtain ⟨q, rr, hq, hrr, er⟩ := o.2.1.get (i := j) (by rw [o.2.1.1]; exact (List.getElem?_eq_some_iff.mp hr).1)
    have hj := (qu_k hr).1
    have := a.2.1.1.2.1.2
    rw [hr] at hrr
    cases hrr
    exact ⟨j, q, r, by show some ((gQ G)[j]?, h) = _; rw [hq], by rw [fiR_s], hq, hr, er, by simpa using e2, by omega⟩
theorem fresh_n {l : List Nat} (w : WH h) (hl : ∀ a ∈ l, kd h a ≠ 999) : hz h + 4 ∉ l := fun z => hl _ z w.1.top
theorem BiR.app {xs qs : List Nat} {E : List R_ex} {Q : List R_qu} {a : Nat} {r : R_bi} (b : BiR h xs qs E Q a r) (xs' qs' : List Nat) (E' : List R_ex) (Q' : List R_qu) : BiR h (xs ++ xs') (qs ++ qs') (E ++ E') (Q ++ Q') a r := by
  obtain ⟨i1, i2, i3, i4, i5, ⟨i, q, x, q1, q2, q3⟩, ⟨j, e, y, e1, e2, e3⟩⟩ := b
  have g : ∀ {α : Type} {l m : List α} {i : Nat} {x : α}, l[i]? = some x → (l ++ m)[i]? = some x := fun hx => by
    rw [List.getElem?_append_left (List.getElem?_eq_some_iff.mp hx).1]; exact hx
  exact ⟨i1, i2, i3, i4, i5, ⟨i, q, x, g q1, g q2, q3⟩, ⟨j, e, y, g e1, g e2, e3⟩⟩
/-- an exchange more -/
theorem xadd {n : Int64} {kk : Nat} (a : Al h v G t) (n0 : n ≠ 0) (nn' : NmO n) (nw : ∀ r ∈ exL v, r.1 ≠ n) (k2 : kk ≤ 2) (lt6 : cN v 5 < 6) : ∃ h' v' G', (∀ {β : Type} (F : AH → Option β), (rdR h 4 12 2 fun r_9 => nn r_9 fun a_10 => rdR h a_10 9 0 fun r_11 => nwO h 6 fun a_12 h_13 => bd (f_X5_init a_12 n (nI kk) h_13) fun _ h_15 => nn r_11 fun a_16 => kg h_15 a_16 0 (bd (f_Jx4a65c_add_9ea2d a_16 (some a_12) h_15) fun x_19 h_18 => F h_18)) = F h') ∧ (∀ {β : Type} (F : MV → Option β), (msJ v 6 (v.1 5) n fun v_1 => msI v_1 7 (v_1.1 5) (nI kk) fun v_2 => mwI v_2 5 ((v_2.1 5) + 1) fun v_3 => F v_3) = F v') ∧ Al h' v' G' t ∧ Gr h v h' v' 2 0 := by
  have s0 := a.1.2.1.1
  have t9 := a.1.1.1.top
  have c5 := a.2.1.1.1
  have kt : kd (al h 6 0 (cnf 6)) (hz h + 4) = 6 := by rw [kd_al, if_pos rfl]
  have fa : LF h (sI (sJ (al h 6 0 (cnf 6)) (hz h + 4) 0 n) (hz h + 4) 1 (nI kk)) [] := ((LF.fA a.1.1.1).nJ t9).nI t9
  have wa : WH (sI (sJ (al h 6 0 (cnf 6)) (hz h + 4) 0 n) (hz h + 4) 1 (nI kk)) := ((a.1.1.fA (by omega) (by decide)).fJ).fI
  have nqa : NoQ h (sI (sJ (al h 6 0 (cnf 6)) (hz h + 4) 0 n) (hz h + 4) 1 (nI kk)) := fun q hq => noq_al (c := 6) (n := 0) (s := cnf 6) (by decide) q hq
  have eR : ExR (sI (sJ (al h 6 0 (cnf 6)) (hz h + 4) 0 n) (hz h + 4) 1 (nI kk)) (hz h + 4) (n, nI kk) := ⟨kt, by rw [gJ_sI, gJ_sJ, if_pos ⟨rfl, rfl⟩], by rw [gI_sI, if_pos ⟨rfl, rfl⟩]⟩
  obtain ⟨a1, g1⟩ := a.nw fa wa nqa (n := 1) (by show hz h + 1 ≤ _; omega) (by show hs h + cnf 6 ≤ _; simp [cnf])
  have ini : ∀ {β : Type} (F : Unit → AH → Option β), bd (f_X5_init (hz h + 4) n (nI kk) (al h 6 0 (cnf 6))) F = F () (sI (sJ (al h 6 0 (cnf 6)) (hz h + 4) 0 n) (hz h + 4) 1 (nI kk)) := by
    intro β F
    unfold f_X5_init
    rw [wrJ_e kt, wrI_e (by exact kt), bd_s]
  have zg : hz (sI (sJ (al h 6 0 (cnf 6)) (hz h + 4) 0 n) (hz h + 4) 1 (nI kk)) = hz h + 1 := rfl
  generalize sI (sJ (al h 6 0 (cnf 6)) (hz h + 4) 0 n) (hz h + 4) 1 (nI kk) = g at *
  have o := a1.1.2.1.2.2.1
  have ls := a1.1.2.2.1
  have lx := o.1.1
  rw [exL_len] at lx
  obtain ⟨hb, x1, L, f2, w2, z1, z2, kx⟩ := ls.1.add (x := hz h + 4) a1.1.1 (by omega) (by rw [eR.1]; omega)
  have k0 := ls.1.1
  have fv : Fr v (mset (mseA (mseJ v 6 (cN v 5) n) 7 (cN v 5) (nI kk)) 5 (nI (cN v 5 + 1))) [5] [6, 7] := ((Fr.updJ.tr Fr.updA).tr Fr.upd).mono (by simp) (by simp)
  have ev : exL (mset (mseA (mseJ v 6 (cN v 5) n) 7 (cN v 5) (nI kk)) 5 (nI (cN v 5 + 1))) = exL v ++ [(n, nI kk)] := by
    have c1 : cN (mset (mseA (mseJ v 6 (cN v 5) n) 7 (cN v 5) (nI kk)) 5 (nI (cN v 5 + 1))) 5 = cN v 5 + 1 := by
      show (Int32.toNatClampNeg _) = _
      rw [ms_s]; exact nI_clamp (by omega)
    unfold exL
    rw [c1, lst_succ]
    congr 1
    · exact lst_congr (fun j hj => by
        have : j ≠ cN v 5 := by omega
        simp [mset, mseA, mseJ, rw1, upd, vp_updL, this])
    · simp [mset, mseA, mseJ, rw1, upd, vp_updL]
  have qv : quL (mset (mseA (mseJ v 6 (cN v 5) n) 7 (cN v 5) (nI kk)) 5 (nI (cN v 5 + 1))) = quL v := quL_fr fv (by decide) (by decide) (by decide) (by decide)
  have bv : biL (mset (mseA (mseJ v 6 (cN v 5) n) 7 (cN v 5) (nI kk)) 5 (nI (cN v 5 + 1))) = biL v := biL_fr fv (by decide) (by decide) (by decide) (by decide)
  have cv : coL (mset (mseA (mseJ v 6 (cN v 5) n) 7 (cN v 5) (nI kk)) 5 (nI (cN v 5 + 1))) = coL v := coL_fr fv (by decide) (by decide) (by decide) (by decide) (by decide) (by decide)
  have lv : leL (mset (mseA (mseJ v 6 (cN v 5) n) 7 (cN v 5) (nI kk)) 5 (nI (cN v 5 + 1))) = leL v := leL_fr fv (by decide) (by decide) (by decide) (by decide) (by decide) (by decide) (by decide) (by decide) (by decide) (by decide)
  have C : Cl hb (mset (mseA (mseJ v 6 (cN v 5) n) 7 (cN v 5) (nI kk)) 5 (nI (cN v 5 + 1))) (sX G (gX G ++ [hz h + 4])) (leL v) (gH G) := by
    refine a1.1.ob f2 (by simp [k0]) w2 kx fv (by decide) (by decide) rfl rfl (ls.x f2 kx L) ?_
    obtain ⟨p1, p2, p3, p4, p5, p6⟩ := o.fr f2 (XK.l k0 (by decide))
    unfold Ob
    rw [ev, qv, bv, cv]
    refine ⟨p1.snoc (eR.kp (f2.kp eR.1 (by decide) (by decide) ((XK.l k0 (K := [6]) (by decide)).no eR.1 (by simp)))), p2, p3, ?_, ?_, p6⟩
    · show (gX G ++ [hz h + 4]).Nodup
      rw [List.nodup_append]
      refine ⟨p4, by simp, fun x hx y hy => ?_⟩
      simp at hy
      rw [hy]
      intro z
      obtain ⟨r, -, er⟩ := a.1.2.1.2.2.1.1.ofL hx
      have er := er.1
      rw [z, t9] at er
      exact absurd er (by decide)
    · exact p5.imp (fun a b _ _ z => by
        have := z.app [hz h + 4] [] [(n, nI kk)] []
        rw [List.append_nil, List.append_nil] at this
        exact this)
  have V : VI (mset (mseA (mseJ v 6 (cN v 5) n) 7 (cN v 5) (nI kk)) 5 (nI (cN v 5 + 1))) t := by
    obtain ⟨⟨q1, q2, q3, q4, q5, q6, q7, q8, q9⟩, b, ⟨c1, c2, c3, c4, c5, c6, c7⟩, d, e⟩ := a.2.1
    refine ⟨⟨(CV.of (n := cN v 5 + 1) ms_s (by omega) (by decide)).1, (q2.fr fv (by decide)).1, (q3.fr fv (by decide)).1, (q4.fr fv (by decide)).1, (q5.fr fv (by decide)).1, ?_, ?_, ?_, ?_⟩, ?_, ⟨c1.fr fv (by decide), c2.fr fv (by decide), c3.fr fv (by decide), c4.fr fv (by decide), c5.fr fv (by decide), c6.fr fv (by decide), c7.fr fv (by decide)⟩, ?_, ?_⟩
    · rw [ev, List.getElem?_append_left (List.getElem?_eq_some_iff.mp q6).1]; exact q6
    · rw [ev, List.map_append, List.nodup_append]
      refine ⟨q7, by simp, fun x hx y hy => ?_⟩
      simp at hy
      obtain ⟨r, hr, er⟩ := List.mem_map.mp hx
      rw [hy, ← er]
      exact nw r hr
    · rw [ev]
      intro r hr
      rcases List.mem_append.mp hr with z | z
      · exact q8 r z
      · simp at z; rw [z]; exact ⟨nn', kk, k2, rfl⟩
    · rw [qv, cv]; exact q9
    · unfold ViN
      rw [qv, cv, lv, fv.1 9 (by decide), fv.1 25 (by decide)]
      exact b
    · unfold ViM; rw [qv, lv]; exact d
    · unfold ViC
      rw [cv, lv, (fv.2 35 (by decide)).1, (fv.2 36 (by decide)).1, (fv.2 38 (by decide)).1, (fv.2 39 (by decide)).1, (fv.2 40 (by decide)).1, (fv.2 47 (by decide)).1]
      exact e
  rw [← lv] at C
  have T : Tr g hb [0] 1 := ⟨f2.kf (by simp [k0]), z1, by omega⟩
  obtain ⟨A, i2, i3, i4, i5⟩ := a1.mk (G' := sX G (gX G ++ [hz h + 4])) C V T.1 (by decide) fv (by decide) (by decide)
  refine ⟨hb, _, _, fun F => ?_, fun F => ?_, A, (g1.tr (T.gr i2 (Nat.le_of_eq (KP_fr fv (by decide))) i3 i4 i5)).mono (by omega) (by omega)⟩
  · rw [rdR_e s0.1, s0.2.2.2.1, nn_s, rdR_e s0.k9, s0.r9 (by decide), nwO_e, ini, nn_s, ls.1.kgg, x1, bd_s]
  · rw [c5.1, msJ_e (show cN v 5 < 6 from lt6) (by decide), mJ_1, c5.1, msI_e (show cN v 5 < 6 from lt6) (by decide), mA_1, mJ_1, mwI_e, c5.1, nI_1]
theorem flag_wrong (i : IRR h v false) : ∃ b v2, m_nextTruth (mset v 57 1) = some (bit b, v2) ∧ m_isJust v2 = (bdm (m_hard 501 v2) fun _ v_1 => rz 0 (some (0, v_1))) ∧ Fr v v2 [55, 57] [] := by
  have s := (i.setW (w' := true)).1
  obtain ⟨b, hb, vb, wb, y1, y2, y4, y5, y6⟩ := flag_ok s
  refine ⟨b, vb, y2, ?_, ((Fr.upd (k := 57) (x := bit true)).tr y5.2.1).mono (by simp) (by simp)⟩
  obtain ⟨g, x1, x2, x3⟩ := just_ok y4
  cases g with
  | true => exact absurd (y6 (x2 rfl).1) (by decide)
  | false => exact x3 rfl
theorem declXC (p : Pre t h v c G w) : HC t h v c (f_X11_declareExchange 4 (some (chA c)) h) (m_exchangeMethod 10 v) := by
  have e54 := p.2.2.1
  unfold f_X11_declareExchange m_exchangeMethod
  rw [inE p.1, ltd, e54]
  obtain ⟨n, ha, va, wa, x1, x2, x4, x5, x6⟩ := name_ok p.2.1
  rw [x1, bd_s, x2, bdm_s, inE (p.1.rd x5), if_pos rfl]
  refine HC.rd x5 ?_
  have p := p.rd x5 x4
  obtain ⟨k, hb, vb, wb, y1, y2, y3, y4, y5, y6, y7⟩ := byte_ok p.2.1
  rw [y1, bd_s, y2, bdm_s, inE (p.1.rd y5)]
  refine HC.rd y5 ?_
  have p := p.rd y5 y4
  clear x1 x2 y1 y2
  have e57 := y4.v57
  have go : ∀ s0 : Int32, s0 = bit wb → (wb = false → k ≤ 2) → HC t hb vb c (bd (f_X6_readFlag 5 hb) fun x_15 h_14 => rdR h_14 4 12 0 fun r_16 => nn r_16 fun a_17 => kg h_14 a_17 7 (bd (f_X6_isJustRead a_17 h_14) fun x_20 h_19 => if x_20 = 0 then some (501, h_19) else if nI k ≤ 2 then rdR h_19 4 12 2 fun r_21 => nn r_21 fun a_22 => kg h_19 a_22 9 (bd (f_X8_exchangeNamed a_22 n h_19) fun r_25 h_24 => nb r_25 (if x_15 = 0 then f_X11_declareExchange_70 4 (some (chA c)) n (nI k) none h_24 else some (404, h_24)) fun a_26 => f_X11_declareExchange_70 4 (some (chA c)) n (nI k) (some a_26) h_24) else some (501, h_19))) (m_exchangeMethod_45 10 (nI c) n (nI k) s0 vb) := by
    intro s0 hs hk
    unfold m_exchangeMethod_45
    rw [hs, mwZ_id e57]
    obtain ⟨f, hd, vd, wd, z1, z2, z4, z5, z6⟩ := flag_ok p.2.1
    rw [z1, bd_s, z2, bdm_s, inE (p.1.rd z5)]
    refine HC.rd z5 ?_
    have p := p.rd z5 z4
    refine just_hc p (fun w0 => ?_)
    have k2 := hk (z6 w0)
    have nm := (x6 (y6 (z6 w0))).2
    obtain ⟨a, i, e54, h1, h2, hl, ht⟩ := p
    rw [if_pos (show nI k ≤ 2 from nI_le (b := 2) k2 (by decide)), ofE a]
    have tell : ∀ {h0 : AH} {v0 : MV} {G0 : GH}, Al h0 v0 G0 t → Gr hd vd h0 v0 2 0 → HC t hd vd c (f_X11_declareExchange_148 4 (some (chA c)) h0) (m_exchangeMethod_202 (nI c) v0) := by
      intro h0 v0 G0 A g
      unfold f_X11_declareExchange_148 m_exchangeMethod_202
      rw [teN A h1 h2]
      exact HC.say g (by omega) (by omega) (A.mono (by omega)) h2 (by decide) (by decide) hl
    rcases lkX a n with ⟨q1, q2, q3⟩ | ⟨j, e, r, q1, q2, q3, q4, q5, q6, q7⟩
    · rw [q1, bd_s, nb_n, q2, bdm_s, if_pos rfl]
      cases f with
      | true =>
        rw [bit_t, if_neg (by decide), if_neg (by decide), if_neg (by decide), bdm_id]
        exact HC.soft a h1 h2 (e := 404) (by decide)
      | false =>
        rw [bit_f, if_pos rfl, if_pos rfl]
        unfold f_X11_declareExchange_70 m_exchangeMethod_96
        by_cases n0 : lg_cmp n 0 = 0
        · rw [if_pos n0, if_pos n0, bdm_id]
          exact HC.soft a h1 h2 (e := 403) (by decide)
        · rw [if_neg n0, if_neg n0, nb_n, if_pos (by decide)]
          unfold f_X11_declareExchange_99 m_exchangeMethod_141
          have s0 := a.1.2.1.1
          have lx := a.1.2.1.2.2.1.1.1
          rw [exL_len] at lx
          have c5 := a.2.1.1.1
          rw [nb_n, rdR_e s0.1, s0.2.2.2.1, nn_s, szL (s0.r9 (by decide)) s0.k9 a.1.2.2.1.1, lx, if_neg (show ¬ (0 : Int32) ≤ -1 by decide), c5.1]
          have hc5 := c5.2
          by_cases full : cN vd 5 = 6
          · rw [full, if_neg (by decide), if_pos (by decide), bdm_id]
            exact HC.soft a h1 h2 (e := 506) (by decide)
          · rw [if_pos (show nI (cN vd 5) < 6 from nI_lt (b := 6) (by omega) (by decide)), if_neg (show ¬ nI (cN vd 5) = (6 : Int32) from fun y => full ((nI_eq (b := 6) (by omega) (by omega)).mp y))]
            obtain ⟨h', v', G', u1, u2, u3, u4⟩ := xadd (kk := k) a (fun y => n0 (cmp_eq.mpr y)) nm q3 k2 (by omega)
            unfold m_exchangeMethod_166
            rw [u1, if_neg (by decide), u2]
            exact tell u3 u4
    · rw [q1, bd_s, nb_s, q2, bdm_s, if_pos rfl]
      have e96 : (if bit f = 0 then m_exchangeMethod_96 (nI c) n (nI k) (nI j) vd else if 0 ≤ nI j then m_exchangeMethod_96 (nI c) n (nI k) (nI j) vd else bdm (m_soft (nI c) 404 vd) fun _ v_13 => some ((), v_13)) = m_exchangeMethod_96 (nI c) n (nI k) (nI j) vd := by
        rw [if_pos (nI_pos' (show j < 2 ^ 31 by omega))]
        split <;> rfl
      rw [e96]
      unfold f_X11_declareExchange_70 m_exchangeMethod_96
      have hN := a.2.1.1.1.2
      obtain ⟨jl, er⟩ := ex_k q4
      by_cases n0 : lg_cmp n 0 = 0
      · rw [if_pos n0, if_pos n0, bdm_id]
        exact HC.soft a h1 h2 (e := 403) (by decide)
      · rw [if_neg n0, if_neg n0, nb_s, rdI_e q5.1, q5.2.2, if_neg (nI_pos (show j < 2 ^ 31 by omega)), mrI_e (show j < 6 from q7) (by decide), show vd.2.1 7 j = r.2 by rw [er]]
        by_cases ek : r.2 = nI k
        · rw [if_pos ek, if_pos ek]
          unfold f_X11_declareExchange_99 m_exchangeMethod_141 m_exchangeMethod_166
          rw [nb_s, if_pos (nI_pos' (show j < 2 ^ 31 by omega)), if_pos (nI_pos' (show j < 2 ^ 31 by omega))]
          exact tell a ((Gr.rf hd vd).mono (by omega) (by omega))
        · rw [if_neg ek, if_neg ek, bdm_id]
          exact HC.soft a h1 h2 (e := 406) (by decide)
  unfold m_exchangeMethod_24
  rw [e57]
  cases hw : wb with
  | true =>
    rw [bit_t, if_neg (by decide)]
    exact go 1 (by rw [hw]; rfl) (fun y => by rw [hw] at y; cases y)
  | false =>
    rw [bit_f, if_pos rfl]
    by_cases k2 : k ≤ 2
    · rw [if_pos (show nI k ≤ 2 from nI_le (b := 2) k2 (by decide))]
      exact go 0 (by rw [hw]; rfl) (fun _ => k2)
    · rw [if_neg (show ¬ nI k ≤ 2 from nI_ge (b := k) (a := 2) (by omega) (by omega))]
      subst hw
      unfold m_exchangeMethod_45
      obtain ⟨b, v2, u1, u2, u3⟩ := flag_wrong p.2.1
      rw [show (1 : Int32) = bit true from rfl, mwZ_b, show bit true = (1 : Int32) from rfl, u1, bdm_s, u2]
      obtain ⟨f, hd, vd, wd, z1, z2, z4, z5, z6⟩ := flag_ok p.2.1
      have rd : Rd hb vb hd v2 := ⟨z5.1, u3, z5.2.2.1, z5.2.2.2⟩
      have jr : ∃ g : Bool, f_X6_isJustRead 5 hd = some (bit g, hd) := by
        obtain ⟨g, x1, -⟩ := just_ok z4
        exact ⟨g, x1⟩
      obtain ⟨g, jr⟩ := jr
      rw [z1, bd_s, inE (p.1.rd z5), jr, bd_s]
      have ec : (if bit g = 0 then (some ((501 : Int32), hd)) else if nI k ≤ 2 then rdR hd 4 12 2 fun r_21 => nn r_21 fun a_22 => kg hd a_22 9 (bd (f_X8_exchangeNamed a_22 n hd) fun r_25 h_24 => nb r_25 (if bit f = 0 then f_X11_declareExchange_70 4 (some (chA c)) n (nI k) none h_24 else some (404, h_24)) fun a_26 => f_X11_declareExchange_70 4 (some (chA c)) n (nI k) (some a_26) h_24) else some (501, hd)) = some (501, hd) := by
        rw [if_neg (show ¬ nI k ≤ 2 from nI_ge (b := k) (a := 2) (by omega) (by omega))]
        split <;> rfl
      rw [ec]
      have em : ∀ Y : Int32 → MV → Option (Unit × MV), (bdm (bdm (m_hard 501 v2) fun _ v_1 => rz 0 (some ((0 : Int32), v_1))) fun x v' => if x = 0 then some ((), v') else Y x v') = m_hard 501 v2 := by
        intro Y
        cases hx : m_hard 501 v2 with
        | none => rfl
        | some q => rfl
      rw [em]
      exact HC.rd rd (HC.hard (p.1.rd rd) (e := 501) (by decide))
end Ex

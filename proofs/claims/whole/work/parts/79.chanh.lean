/-! ===== handlers: the channel itself ===== -/
section Ch
variable {t t' : Nat} {h h' : AH} {v v' : MV} {c : Nat} {G : GH} {w : Bool}
theorem Al.chan (a : Al h v G t) (h1 : 1 ≤ c) (h2 : c ≤ 3) (C : Cl h' v' G (leL v) (gH G)) (f : Fr v v' [] [35, 36, 37, 38, 39]) (V : VI v' t') (T : Ci h h' [chA c]) : Al h' v' G t' ∧ Gr h v h' v' 0 0 := by
  have k2 := (a.1.2.1.1.ch h1 h2).1
  rw [← leL_fr f (by decide) (by decide) (by decide) (by decide) (by decide) (by decide) (by decide) (by decide) (by decide) (by decide)] at C
  have T0 : Tr h h' [2] 0 := T.tr0 (by simp [k2])
  obtain ⟨x1, x2, x3, x4, x5⟩ := a.mk C V T0.1 (by decide) f (by decide) (by decide)
  exact ⟨x1, T0.gr x2 (Nat.le_of_eq (KP_fr f (by decide))) x3 x4 x5⟩
theorem openC (p : Pre t h v c G w) (st : v.2.1 35 c ≠ 1) : HC t h v c (f_X11_openChannel 4 (some (chA c)) h) (m_channelMethod 10 v) := by
  obtain ⟨a, i, e54, h1, h2, hl, ht⟩ := p
  unfold f_X11_openChannel m_channelMethod
  rw [inE a, ltd, if_neg (by decide), e54]
  unfold m_channelMethod_19
  refine just_hc ⟨a, i, e54, h1, h2, hl, ht⟩ (fun _ => ?_)
  have k2 := (a.1.2.1.1.ch h1 h2).1
  obtain ⟨g1, g2, g3, g4, g5⟩ := a.2.1.2.2.2.2.2 c h1 h2
  obtain ⟨q1, q2, q3, q4, q5⟩ := g5 st
  have C := (((a.1.chan (x := 1) h1 h2 (.inl ⟨rfl, rfl⟩)).chan (x := 0) h1 h2 (.inr (.inl ⟨rfl, rfl⟩))).chan (x := bit true) h1 h2 (.inr (.inr (.inl ⟨rfl, rfl⟩)))).chan (x := 0) h1 h2 (.inr (.inr (.inr (.inr ⟨rfl, rfl⟩))))
  have f : Fr v (mseA (mseA (mseA (mseA v 35 c 1) 36 c 0) 37 c (bit true)) 38 c 0) [] [35, 36, 37, 38, 39] := (((Fr.updA.tr Fr.updA).tr Fr.updA).tr Fr.updA).mono (by simp) (by simp)
  have V := a.2.1.ch (v' := mseA (mseA (mseA (mseA v 35 c 1) 36 c 0) 37 c (bit true)) 38 c 0) (t' := t + 100) (c := c) (by omega) f h1 (fun j hj => by simp [mseA, rw1, upd, hj]) (by simp [mseA, rw1, upd]) ⟨0, by omega, by simp [mseA, rw1, upd]; rfl⟩ (.inr (by simp [mseA, rw1, upd]; rfl)) ⟨0, by omega, by simp [mseA, rw1, upd]; rfl⟩ (.inl (by simp [mseA, rw1, upd]; exact q1))
  obtain ⟨A, g⟩ := a.chan h1 h2 C f V ((((Ci.fI (by simp)).tr (Ci.fI (by simp))).tr (Ci.fI (by simp))).tr (Ci.fI (by simp)))
  rw [nn_s, kg_e k2]
  unfold f_X1_begin
  rw [wrI_e k2, wrI_e (by exact k2), wrZ_e (by exact k2) (.inr rfl), wrI_e (by exact k2), bd_s, if_pos rfl, msI_e (show c < 4 by omega) (by decide), msI_e (show c < 4 by omega) (by decide), show (1 : Int32) = bit true from rfl, msZ_e (k := 37) (show c < 4 by omega) (by decide), msI_e (show c < 4 by omega) (by decide), teE (h := sI (sI (sI (sI h (chA c) 3 (bit true)) (chA c) 4 0) (chA c) 5 (bit true)) (chA c) 7 0) A h1 h2]
  exact HC.say g (by omega) (by omega) A h2 (by decide) (by decide) hl
theorem flowC (p : Pre t h v c G w) (st : v.2.1 35 c = 1) : HC t h v c (f_X11_setFlow 4 (some (chA c)) h) (m_channelMethod 20 v) := by
  have e54 := p.2.2.1
  unfold f_X11_setFlow m_channelMethod
  rw [inE p.1, ltd, if_pos rfl, e54]
  obtain ⟨b, ha, va, wa, x1, x2, x3, x4, x5, x6, x7⟩ := byte_ok p.2.1
  rw [x1, bd_s, x2, bdm_s, inE (p.1.rd x5)]
  refine HC.rd x5 ?_
  have p := p.rd x5 x4
  have st : va.2.1 35 c = 1 := by rw [(x5.2.1.2 35 (by decide)).1]; exact st
  clear x1 x2 x4 x5 x6 x7
  unfold m_channelMethod_19
  refine just_hc p (fun _ => ?_)
  obtain ⟨a, i, e54, h1, h2, hl, ht⟩ := p
  have k2 := (a.1.2.1.1.ch h1 h2).1
  rw [if_neg (show ¬ (20 : Int32) = 10 by decide), if_pos (show (20 : Int32) = 20 from rfl)]
  have key : ∀ z : Bool, HC t ha va c (f_X11_setFlow_32 4 (some (chA c)) (nI b) (bit z) (some (chA c)) ha) (m_channelMethod_94 (nI c) (nI b) (bit z) (nI c) va) := by
    intro z
    have C := a.1.chan (k := 5) (row := 37) (x := bit z) h1 h2 (by simp)
    have f : Fr va (mseA va 37 c (bit z)) [] [35, 36, 37, 38, 39] := Fr.updA.mono (by simp) (by simp)
    obtain ⟨g1, g2, ⟨n, g3, g3'⟩, g4, g5⟩ := a.2.1.2.2.2.2.2 c h1 h2
    have V := a.2.1.ch (v' := mseA va 37 c (bit z)) (t' := t + 100) (c := c) (by omega) f h1 (fun j hj => by simp [mseA, rw1, upd, hj]) (by simpa [mseA, rw1, upd] using st) (by simpa [mseA, rw1, upd] using g2) (by cases z <;> simp [mseA, rw1, upd, bit]) ⟨n, by omega, by simpa [mseA, rw1, upd] using g3'⟩ (by simpa [mseA, rw1, upd] using a.2.1.2.2.1.2.2.2.1 c)
    obtain ⟨A, g⟩ := a.chan h1 h2 C f V (Ci.fI (by simp))
    unfold f_X11_setFlow_32 m_channelMethod_94
    rw [nn_s, wrZ_e k2 (by cases z <;> simp [bit]), teN A h1 h2, msZ_e (k := 37) (show c < 4 by omega) (by decide)]
    have gl := g.2.2.2.1
    obtain ⟨hb, vb, y1, y2, y3, y4, y5⟩ := beg_j A.2.2.2.1 (c := nI c) (m := 5141) (a := 20) (b := 21) (nI_255 h2) (by decide) (by decide) (by omega)
    obtain ⟨hc, vc, z1, z2, z3, z4, z5⟩ := put_j y3 (x := nI b) (nI_byte x3) (by simp; omega)
    obtain ⟨hd, vd, u1, u2, u3, u4, u5, u6⟩ := fin_j z3 (by simp; omega)
    have sb : Sk hb := A.1.2.1.1.fr (SkF.of A.1.2.1.1 y4.lf (by decide))
    have sc : Sk hc := sb.fr (SkF.of sb z4.lf (by decide))
    rw [y1, bd_s, ouE' sb y3.k7, z1, bd_s, ouE' sc z3.k7, u1, bd_s, y2, bdm_s, z2, bdm_s, u2, bdm_s]
    refine ⟨0, hd, vd, G, rfl, A.ou u3 ((y4.tr z4).tr u5) u6, (g.tr (ou_gr (o := 10) ((y4.tr z4).tr u5) u6 (by rw [u4]; simp))).mono (by omega) (by split <;> omega), .inl ⟨rfl, rfl⟩⟩
  by_cases z : nI b = 0
  · rw [if_pos z, if_pos z]; exact key false
  · rw [if_neg z, if_neg z]; exact key true
theorem limitC (p : Pre t h v c G w) (st : v.2.1 35 c = 1) : HC t h v c (f_X11_setLimit 4 (some (chA c)) h) (m_letterMethod 10 v) := by
  have e54 := p.2.2.1
  unfold f_X11_setLimit m_letterMethod
  rw [inE p.1, ltd, if_pos rfl, e54]
  obtain ⟨b, ha, va, wa, x1, x2, x3, x4, x5, x6, x7⟩ := byte_ok p.2.1
  rw [x1, bd_s, x2, bdm_s, inE (p.1.rd x5)]
  refine HC.rd x5 ?_
  have p := p.rd x5 x4
  have st : va.2.1 35 c = 1 := by rw [(x5.2.1.2 35 (by decide)).1]; exact st
  refine just_hc p (fun _ => ?_)
  obtain ⟨a, i, e54, h1, h2, hl, ht⟩ := p
  have k2 := (a.1.2.1.1.ch h1 h2).1
  have C := a.1.chan (k := 4) (row := 36) (x := nI b) h1 h2 (by simp)
  have f : Fr va (mseA va 36 c (nI b)) [] [35, 36, 37, 38, 39] := Fr.updA.mono (by simp) (by simp)
  obtain ⟨g1, g2, ⟨n, g3, g3'⟩, g4, g5⟩ := a.2.1.2.2.2.2.2 c h1 h2
  have V := a.2.1.ch (v' := mseA va 36 c (nI b)) (t' := t + 100) (c := c) (by omega) f h1 (fun j hj => by simp [mseA, rw1, upd, hj]) (by simpa [mseA, rw1, upd] using st) ⟨b, by omega, by simp [mseA, rw1, upd]⟩ (by simpa [mseA, rw1, upd] using a.2.1.2.2.1.2.2.1 c) ⟨n, by omega, by simpa [mseA, rw1, upd] using g3'⟩ (by simpa [mseA, rw1, upd] using a.2.1.2.2.1.2.2.2.1 c)
  obtain ⟨A, g⟩ := a.chan h1 h2 C f V (Ci.fI (by simp))
  rw [nn_s, wrI_e k2, teE A h1 h2, msI_e (show c < 4 by omega) (by decide)]
  exact HC.say g (by omega) (by omega) A h2 (by decide) (by decide) hl
theorem transC (p : Pre t h v c G w) (st : v.2.1 35 c = 1) : HC t h v c (f_X11_transact 4 (some (chA c)) h) (m_transactionMethod 10 v) := by
  have e54 := p.2.2.1
  unfold f_X11_transact m_transactionMethod
  rw [inE p.1, ltd, e54]
  refine just_hc p (fun _ => ?_)
  obtain ⟨a, i, e54, h1, h2, hl, ht⟩ := p
  have k2 := (a.1.2.1.1.ch h1 h2).1
  have C := a.1.chan (k := 6) (row := 39) (x := bit true) h1 h2 (by simp)
  have f : Fr v (mseA v 39 c (bit true)) [] [35, 36, 37, 38, 39] := Fr.updA.mono (by simp) (by simp)
  obtain ⟨g1, g2, ⟨n, g3, g3'⟩, g4, g5⟩ := a.2.1.2.2.2.2.2 c h1 h2
  have V := a.2.1.ch (v' := mseA v 39 c (bit true)) (t' := t + 100) (c := c) (by omega) f h1 (fun j hj => by simp [mseA, rw1, upd, hj]) (by simpa [mseA, rw1, upd] using st) (by simpa [mseA, rw1, upd] using g2) (by simpa [mseA, rw1, upd] using a.2.1.2.2.1.2.2.1 c) ⟨n, by omega, by simpa [mseA, rw1, upd] using g3'⟩ (by simp [mseA, rw1, upd, bit])
  obtain ⟨A, g⟩ := a.chan h1 h2 C f V (Ci.fI (by simp))
  rw [nn_s, wrZ_e k2 (.inr rfl), if_pos rfl, show (1 : Int32) = bit true from rfl, msZ_e (k := 39) (show c < 4 by omega) (by decide), teE (h := sI h (chA c) 6 (bit true)) A h1 h2]
  exact HC.say g (by omega) (by omega) A h2 (by decide) (by decide) hl
theorem closeC (p : Pre t h v c G w) : HC t h v c (f_X11_closeChannel 4 (some (chA c)) h) (m_channelMethod 40 v) := by
  have e54 := p.2.2.1
  unfold f_X11_closeChannel m_channelMethod
  rw [inE p.1, ltd, if_neg (by decide), e54]
  unfold m_channelMethod_19
  refine just_hc p (fun _ => ?_)
  obtain ⟨a, i, e54, h1, h2, hl, ht⟩ := p
  obtain ⟨hb, vb, Gb, y1, y2, y3, y4, y5, y6, y7, y8, y9, -⟩ := lv_ok (s := 0) a h1 h2 (by decide)
  rw [if_neg (by decide), if_neg (by decide), kg_e a.1.2.1.1.1, show (0 : Int32) = nI 0 from rfl, y1, bd_s, y2, bdm_s, teN y3 h1 h2]
  exact HC.say (y5.gr y4 y6 y7 y8 y9) (by omega) (by omega) (y3.mono (by omega)) h2 (by decide) (by decide) hl
theorem recoverC (p : Pre t h v c G w) : HC t h v c (f_X11_recover 4 (some (chA c)) h) (m_letterMethod 110 v) := by
  have e54 := p.2.2.1
  unfold f_X11_recover m_letterMethod
  rw [inE p.1, ltd, if_neg (by decide), if_neg (by decide), if_neg (by decide), if_neg (by decide), if_neg (by decide), if_neg (by decide), if_neg (by decide), if_neg (by decide), e54]
  refine just_hc p (fun _ => ?_)
  obtain ⟨a, i, e54, h1, h2, hl, ht⟩ := p
  have k2 := (a.1.2.1.1.ch h1 h2).1
  obtain ⟨hb, Gb, y1, y2, y3, y4, y5⟩ := ga_ok h1 h2 a.1
  obtain ⟨vb, z1, z2, z3⟩ := ab_ok (nI c) a.2.1.1.2.1 a.2.1.1.2.2.2.2.1 a.2.1.2.2.1.2.1
  have C : Cl hb vb Gb (leL vb) (gH Gb) := by
    rw [z2]; exact y2.vv z3.1 (by decide) (by decide)
  have V := a.2.1.le z3 (fm_ok z2 (fun r r' hr => gAB_m hr))
  obtain ⟨A, x2, x3, x4, x5⟩ := a.mk C V y5.1 (by decide) z3.1 (by decide) (by decide)
  have hle := hl_24 a.1 h1 h2
  rw [leL_len] at hle
  have := a.2.1.1.2.2.2.2.1.2
  rw [nn_s, kg_e k2, y1, bd_s, teE A h1 h2, z1, bdm_s]
  exact HC.say (y5.gr x2 (Nat.le_of_eq (KP_fr z3.1 (by decide))) x3 x4 x5) (by omega) (by omega) (A.mono (by omega)) h2 (by decide) (by decide) hl
end Ch

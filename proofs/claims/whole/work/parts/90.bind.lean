/-! ===== bindings ===== -/
section Bi
variable {t : Nat} {h h' : AH} {v v' : MV} {c d : Nat} {G : GH} {w : Bool}
theorem oiE (a : Al h v G t) {β : Type} {X : Option Nat → Nat → Option β} : (rdR h 4 12 2 fun r1 => rdR h 4 12 0 fun r2 => nn r2 fun b => kg h b 7 (X r1 b)) = X (some 9) 5 := by
  rw [rdR_e a.1.2.1.1.1, a.1.2.1.1.2.2.2.1, rdR_e a.1.2.1.1.1, a.1.2.1.1.2.1, nn_s, kg_e a.2.2.2.2.1]
theorem quN_rd {x : Int64} {r : Option Nat} (a : Al h v G t) (rd : Rd h v h' v') (e : f_X8_queueNamed 9 x h' = some (r, h')) : f_X8_queueNamed 9 x h = some (r, h) := by
  have a' := a.rd rd
  have o := a.1.2.1.2.2.1
  have o' := a'.1.2.1.2.2.1
  rw [quN_ok a'.1.2.1.1 a'.1.2.2.1.2.1 o'.2.1 x, quL_fr rd.2.1 (by decide) (by decide) (by decide) (by decide)] at e
  rw [quN_ok a.1.2.1.1 a.1.2.2.1.2.1 o.2.1 x]
  cases e
  rfl
theorem exN_rd {x : Int64} {r : Option Nat} (a : Al h v G t) (rd : Rd h v h' v') (e : f_X8_exchangeNamed 9 x h' = some (r, h')) : f_X8_exchangeNamed 9 x h = some (r, h) := by
  have a' := a.rd rd
  have o := a.1.2.1.2.2.1
  have o' := a'.1.2.1.2.2.1
  rw [exN_ok a'.1.2.1.1 a'.1.2.2.1.1 o'.1 x, exL_fr rd.2.1 (by decide) (by decide) (by decide)] at e
  rw [exN_ok a.1.2.1.1 a.1.2.2.1.1 o.1 x]
  cases e
  rfl
theorem bnd_new (w : WH h) (q e : Nat) (k : Int64) : ∃ h', (∀ {β : Type} (F : Nat → AH → Option β), (nwO h 1 fun a h_28 => bd (f_X0_init a (some q) (some e) k h_28) fun _ h_30 => F a h_30) = F (hz h + 4) h') ∧ LF h h' [] ∧ WH h' ∧ NoQ h h' ∧ hz h' ≤ hz h + 2 ∧ hs h' ≤ hs h + 100 * 2 ∧ kd h' (hz h + 4) = 1 ∧ gJ h' (hz h + 4) 2 = k ∧ gR h' (hz h + 4) 3 = some (hz h + 4 + 1) ∧ WdR h' (hz h + 4 + 1) k ∧ gR h' (hz h + 4) 0 = some q ∧ gR h' (hz h + 4) 1 = some e := by
  have t9 := w.1.top
  have kt : kd (al h 1 0 (cnf 1)) (hz h + 4) = 1 := by rw [kd_al, if_pos rfl]
  have wa : WH (sJ (sR (sR (al h 1 0 (cnf 1)) (hz h + 4) 0 (some q)) (hz h + 4) 1 (some e)) (hz h + 4) 2 k) := (((w.fA (by omega) (by decide)).fR (by rw [kt]; decide)).fR (by rw [kd_sR, kt]; decide)).fJ
  have fa : LF h (sJ (sR (sR (al h 1 0 (cnf 1)) (hz h + 4) 0 (some q)) (hz h + 4) 1 (some e)) (hz h + 4) 2 k) [] := (((LF.fA w.1).nR t9).nR t9).nJ t9
  obtain ⟨hb, x1, x2, x3, x4, x5, x6, x7⟩ := words_ok wa k
  have zt : hz (sJ (sR (sR (al h 1 0 (cnf 1)) (hz h + 4) 0 (some q)) (hz h + 4) 1 (some e)) (hz h + 4) 2 k) = hz h + 1 := rfl
  have st : hs (sJ (sR (sR (al h 1 0 (cnf 1)) (hz h + 4) 0 (some q)) (hz h + 4) 1 (some e)) (hz h + 4) 2 k) = hs h + 4 := rfl
  have kg5 : kd (sJ (sR (sR (al h 1 0 (cnf 1)) (hz h + 4) 0 (some q)) (hz h + 4) 1 (some e)) (hz h + 4) 2 k) (hz h + 4) = 1 := kt
  have j2 : gJ (sJ (sR (sR (al h 1 0 (cnf 1)) (hz h + 4) 0 (some q)) (hz h + 4) 1 (some e)) (hz h + 4) 2 k) (hz h + 4) 2 = k := by rw [gJ_sJ, if_pos ⟨rfl, rfl⟩]
  have r0 : gR (sJ (sR (sR (al h 1 0 (cnf 1)) (hz h + 4) 0 (some q)) (hz h + 4) 1 (some e)) (hz h + 4) 2 k) (hz h + 4) 0 = some q := by rw [gR_sJ, gR_sR, if_neg (by simp), gR_sR, if_pos ⟨rfl, rfl⟩]
  have r1 : gR (sJ (sR (sR (al h 1 0 (cnf 1)) (hz h + 4) 0 (some q)) (hz h + 4) 1 (some e)) (hz h + 4) 2 k) (hz h + 4) 1 = some e := by rw [gR_sJ, gR_sR, if_pos ⟨rfl, rfl⟩]
  have nqa : NoQ h (sJ (sR (sR (al h 1 0 (cnf 1)) (hz h + 4) 0 (some q)) (hz h + 4) 1 (some e)) (hz h + 4) 2 k) := fun q hq => noq_al (c := 1) (n := 0) (s := cnf 1) (by decide) q hq
  have fwr : ∀ {β : Type} (F : Unit → AH → Option β), bd (f_X0_init (hz h + 4) (some q) (some e) k (al h 1 0 (cnf 1))) F = bd (f_X0_wordsOf k (sJ (sR (sR (al h 1 0 (cnf 1)) (hz h + 4) 0 (some q)) (hz h + 4) 1 (some e)) (hz h + 4) 2 k)) fun r h_6 => wrR h_6 (hz h + 4) 1 3 r fun h_8 => F () h_8 := by
    intro β F
    unfold f_X0_init
    rw [wrR_e kt, wrR_e (by exact kt), wrJ_e (by exact kt), x1, bd_s, bd_s, wrR_e (by rw [x7 _ (by omega)]; exact kt), wrR_e (by rw [x7 _ (by omega)]; exact kt), bd_s]
  generalize sJ (sR (sR (al h 1 0 (cnf 1)) (hz h + 4) 0 (some q)) (hz h + 4) 1 (some e)) (hz h + 4) 2 k = g at *
  rw [zt, show hz h + 1 + 4 = hz h + 4 + 1 by omega] at x2 x7
  have kp := x3.kp kg5 (by decide) (by decide) (by simp)
  have kb : kd hb (hz h + 4) = 1 := kp.k kg5
  refine ⟨sR hb (hz h + 4) 3 (some (hz h + 4 + 1)), fun F => ?_, ?_, x4.fR (by rw [kb]; decide), fun q hq => ?_, ?_, ?_, kb, by rw [gJ_sR, kp.2.2.2.1]; exact j2, by rw [gR_sR, if_pos ⟨rfl, rfl⟩], x2, by rw [gR_sR, if_neg (by simp), kp.2.2.2.2]; exact r0, by rw [gR_sR, if_neg (by simp), kp.2.2.2.2]; exact r1⟩
  · rw [nwO_e, fwr, x1, bd_s, wrR_e kb, zt, show hz h + 1 + 4 = hz h + 4 + 1 by omega]
  · exact (fa.tr x3).nR t9
  · have hq : kd hb q = 11 := hq
    by_cases z : q = hz h + 4 + 1
    · rw [z, x2.1] at hq; exact absurd hq (by decide)
    · rw [x7 q z] at hq; exact nqa q hq
  · show hz hb ≤ _; omega
  · show hs hb ≤ _; omega
theorem badd {iq ie q e : Nat} {x : R_qu} {y : R_ex} {k : Int64} (a : Al h v G t) (nk : NmO k) (q1 : (gQ G)[iq]? = some q) (q2 : (quL v)[iq]? = some x) (e1 : (gX G)[ie]? = some e) (e2 : (exL v)[ie]? = some y) (lt : cN v 13 < 12) : ∃ h' v' G', (∀ {β : Type} (F : AH → Option β), (rdR h 4 12 2 fun r_8 => nn r_8 fun a_9 => rdR h a_9 9 2 fun r_10 => nwO h 1 fun a_11 h_12 => bd (f_X0_init a_11 (some q) (some e) k h_12) fun _ h_14 => nn r_10 fun a_15 => kg h_14 a_15 0 (bd (f_Jx4a65c_add_9ea2d a_15 (some a_11) h_14) fun x_18 h_17 => F h_17)) = F h') ∧ (∀ {β : Type} (F : MV → Option β), (msJ v 14 (v.1 13) x.1 fun v_1 => msJ v_1 15 (v_1.1 13) y.1 fun v_2 => msJ v_2 16 (v_2.1 13) k fun v_3 => mwI v_3 13 ((v_3.1 13) + 1) fun v_4 => F v_4) = F v') ∧ Al h' v' G' t ∧ Gr h v h' v' 3 0 := by
  have s0 := a.1.2.1.1
  have c13 := a.2.1.1.2.2.1
  obtain ⟨g, u1, u2, u3, u4, u5, u6, d1, d2, d3, d4, d5, d6⟩ := bnd_new a.1.1 q e k
  obtain ⟨a1, g1⟩ := a.nw u2 u3 u4 u5 u6
  have o := a1.1.2.1.2.2.1
  have ls := a1.1.2.2.1
  have lx := o.2.2.2.2.1.1
  rw [biL_len] at lx
  obtain ⟨hb, x1, L, f2, w2, z1, z2, kx⟩ := ls.2.2.1.add (x := hz h + 4) a1.1.1 (by omega) (by rw [d1]; omega)
  have k0 := ls.2.2.1.1
  have fv : Fr v (mset (mseJ (mseJ (mseJ v 14 (cN v 13) x.1) 15 (cN v 13) y.1) 16 (cN v 13) k) 13 (nI (cN v 13 + 1))) [13] [14, 15, 16] := (((Fr.updJ.tr Fr.updJ).tr Fr.updJ).tr Fr.upd).mono (by simp) (by simp)
  have ev : biL (mset (mseJ (mseJ (mseJ v 14 (cN v 13) x.1) 15 (cN v 13) y.1) 16 (cN v 13) k) 13 (nI (cN v 13 + 1))) = biL v ++ [(x.1, y.1, k)] := by
    have c1 : cN (mset (mseJ (mseJ (mseJ v 14 (cN v 13) x.1) 15 (cN v 13) y.1) 16 (cN v 13) k) 13 (nI (cN v 13 + 1))) 13 = cN v 13 + 1 := by
      show (Int32.toNatClampNeg _) = _
      rw [ms_s]; exact nI_clamp (by omega)
    unfold biL
    rw [c1, lst_succ]
    congr 1
    · exact lst_congr (fun j hj => by
        have : j ≠ cN v 13 := by omega
        simp [mset, mseJ, rw1, vp_updL, this])
    · simp [mset, mseJ, rw1, vp_updL]
  generalize hV : mset (mseJ (mseJ (mseJ v 14 (cN v 13) x.1) 15 (cN v 13) y.1) 16 (cN v 13) k) 13 (nI (cN v 13 + 1)) = V at *
  have qv : quL V = quL v := quL_fr fv (by decide) (by decide) (by decide) (by decide)
  have xv : exL V = exL v := exL_fr fv (by decide) (by decide) (by decide)
  have cv : coL V = coL v := coL_fr fv (by decide) (by decide) (by decide) (by decide) (by decide) (by decide)
  have lv : leL V = leL v := leL_fr fv (by decide) (by decide) (by decide) (by decide) (by decide) (by decide) (by decide) (by decide) (by decide) (by decide)
  have C : Cl hb V (sB G (gB G ++ [hz h + 4])) (leL v) (gH G) := by
    refine a1.1.ob f2 (by simp [k0]) w2 kx fv (by decide) (by decide) rfl rfl (ls.b f2 kx L) ?_
    obtain ⟨p1, p2, p3, p4, p5, p6⟩ := o.fr f2 (XK.l k0 (by decide))
    unfold Ob
    rw [ev, qv, xv, cv]
    have nb : BiR g (gX G) (gQ G) (exL v) (quL v) (hz h + 4) (x.1, y.1, k) := ⟨d1, d2, d3, d4, nk, ⟨iq, q, x, q1, q2, d5, rfl⟩, ⟨ie, e, y, e1, e2, d6, rfl⟩⟩
    exact ⟨p1, p2, p3, p4, p5.snoc (nb.fr f2 (XK.l k0 (by decide))), p6⟩
  have V2 : VI V t := a.2.1.sub fv (by simp) (by simp) (a.2.1.1.1.fr fv (by decide)).1 (CV.of (n := cN v 13 + 1) (by rw [← hV]; exact ms_s) (by omega) (by decide)).1 (by rw [xv]; exact List.Sublist.refl _) (by rw [xv]; exact a.2.1.1.2.2.2.2.2.1)
  rw [← lv] at C
  have T : Tr g hb [0] 1 := ⟨f2.kf (by simp [k0]), z1, by omega⟩
  obtain ⟨A, i2, i3, i4, i5⟩ := a1.mk (G' := sB G (gB G ++ [hz h + 4])) C V2 T.1 (by decide) fv (by decide) (by decide)
  refine ⟨hb, V, _, fun F => ?_, fun F => ?_, A, (g1.tr (T.gr i2 (Nat.le_of_eq (KP_fr fv (by decide))) i3 i4 i5)).mono (by omega) (by omega)⟩
  · rw [rdR_e s0.1, s0.2.2.2.1, nn_s, rdR_e s0.k9, s0.r9 (by decide), u1, nn_s, ls.2.2.1.kgg, x1, bd_s]
  · rw [c13.1, msJ_e (show cN v 13 < 12 from lt) (by decide), mJ_1, c13.1, msJ_e (show cN v 13 < 12 from lt) (by decide), mJ_1, mJ_1, c13.1, msJ_e (show cN v 13 < 12 from lt) (by decide), mJ_1, mJ_1, mJ_1, mwI_e, c13.1, nI_1, hV]
theorem bdel {j : Nat} (a : Al h v G t) (hj : j < cN v 13) : ∃ h' v' G', (∃ x, f_Jx4a65c_remove_915e3 12 (nI j) h = some (x, h')) ∧ m_removeBinding (nI j) v = some ((), v') ∧ Al h' v' G' t ∧ Gr h v h' v' 0 0 := by
  have o := a.1.2.1.2.2.1
  have ls := a.1.2.2.1
  have lx := o.2.2.2.2.1.1
  rw [biL_len] at lx
  obtain ⟨hb, x1, L, f2, w2, z1, z2, kx⟩ := ls.2.2.1.rem a.1.1 (j := j) (by omega)
  obtain ⟨V, y1, y2, y3, y4, y5⟩ := bi_rm a.2.1.1.2.2.1 hj
  have k0 := ls.2.2.1.1
  have qv : quL V = quL v := quL_fr y5 (by decide) (by decide) (by decide) (by decide)
  have xv : exL V = exL v := exL_fr y5 (by decide) (by decide) (by decide)
  have cv : coL V = coL v := coL_fr y5 (by decide) (by decide) (by decide) (by decide) (by decide) (by decide)
  have lv : leL V = leL v := leL_fr y5 (by decide) (by decide) (by decide) (by decide) (by decide) (by decide) (by decide) (by decide) (by decide) (by decide)
  have C : Cl hb V (sB G ((gB G).eraseIdx j)) (leL v) (gH G) := by
    refine a.1.ob f2 (by simp [k0]) w2 kx y5 (by decide) (by decide) rfl rfl (ls.b f2 kx L) ?_
    obtain ⟨p1, p2, p3, p4, p5, p6⟩ := o.fr f2 (XK.l k0 (by decide))
    unfold Ob
    rw [y2, qv, xv, cv]
    exact ⟨p1, p2, p3, p4, p5.erase j, p6⟩
  have V2 : VI V t := a.2.1.sub y5 (by simp) (by simp) (a.2.1.1.1.fr y5 (by decide)).1 y3 (by rw [xv]; exact List.Sublist.refl _) (by rw [xv]; exact a.2.1.1.2.2.2.2.2.1)
  rw [← lv] at C
  have T : Tr h hb [0] 0 := ⟨f2.kf (by simp [k0]), by omega, by omega⟩
  obtain ⟨A, i2, i3, i4, i5⟩ := a.mk (G' := sB G ((gB G).eraseIdx j)) C V2 T.1 (by decide) y5 (by decide) (by decide)
  exact ⟨hb, V, _, ⟨_, x1⟩, y1, A, T.gr i2 (Nat.le_of_eq (KP_fr y5 (by decide))) i3 i4 i5⟩
theorem bindC {x2 two : Int32} (p : Pre t h v c G w) (hx : (x2 = 12820 ∧ two = 20) ∨ (x2 = 12850 ∧ two = 50)) : HC t h v c (f_X11_changeBinding 4 (some (chA c)) x2 h) (m_bind two v) := by
  have e54 := p.2.2.1
  have a0 := p.1
  unfold f_X11_changeBinding m_bind
  obtain ⟨qn, ha, va, wa, x1, x2', x4, x5, x6⟩ := name_ok p.2.1
  have pa := p.rd x5 x4
  obtain ⟨en, hb, vb, wb, y1, y2, y4, y5, y6⟩ := name_ok pa.2.1
  have pb := pa.rd y5 y4
  obtain ⟨k, hd, vd, wd, z1, z2, z4, z5, z6⟩ := name_ok pb.2.1
  have pd := pb.rd z5 z4
  obtain ⟨a, i, e54d, h1, h2, hl, ht⟩ := pd
  have lq := lkQ a qn
  have lx := lkX a en
  have qr : ∃ ro, f_X8_queueNamed 9 qn hd = some (ro, hd) := by
    rcases lq with ⟨q, -⟩ | ⟨_, e, _, q, -⟩
    · exact ⟨_, q⟩
    · exact ⟨_, q⟩
  have er : ∃ ro, f_X8_exchangeNamed 9 en hd = some (ro, hd) := by
    rcases lx with ⟨q, -⟩ | ⟨_, e, _, q, -⟩
    · exact ⟨_, q⟩
    · exact ⟨_, q⟩
  obtain ⟨ro, qro⟩ := qr
  obtain ⟨xo, exo⟩ := er
  rw [oiE a0, ltd, e54, x1, bd_s, nn_s, kg_e pa.1.1.2.1.1.k9, quN_rd pa.1 (y5.tr z5) qro, bd_s, oiE pa.1, y1, bd_s, nn_s, kg_e pb.1.1.2.1.1.k9, exN_rd pb.1 z5 exo, bd_s, inE pb.1, z1, bd_s, inE a, x2', bdm_s, y2, bdm_s, z2, bdm_s]
  refine HC.rd ((x5.tr y5).tr z5) ?_
  refine just_hc ⟨a, i, e54d, h1, h2, hl, ht⟩ (fun w0 => ?_)
  have nk := (z6 w0).2
  rw [bindingOf_ok a.2.1.1.2.2.1, bdm_s]
  have soft404 : HC t hd vd c (some (404, hd)) (m_bind_58 (nI c) vd) := by
    unfold m_bind_58
    rw [bdm_id]
    exact HC.soft a h1 h2 (e := 404) (by decide)
  rcases lq with ⟨q1, q2, q3⟩ | ⟨iq, q, x, q1, q2, q3, q4, q5, q6, q7⟩
  · rw [qro] at q1
    cases q1
    rw [nb_n, q2, bdm_s, if_pos (by decide)]
    exact soft404
  · rw [qro] at q1
    cases q1
    rw [nb_s, q2, bdm_s, if_neg (nI_pos (show iq < 2 ^ 31 by omega))]
    rcases lx with ⟨u1, u2, u3⟩ | ⟨ie, e, y, u1, u2, u3, u4, u5, u6, u7⟩
    · rw [exo] at u1
      cases u1
      rw [nb_n, u2, bdm_s, if_neg (by decide)]
      exact soft404
    · rw [exo] at u1
      cases u1
      rw [nb_s, u2, bdm_s, if_pos (nI_pos' (show ie < 2 ^ 31 by omega)), rdJ_e u5.1, u5.2.1, u6]
      by_cases n0 : lg_cmp en 0 = 0
      · rw [if_pos n0, if_pos n0, bdm_id]
        exact HC.soft a h1 h2 (e := 403) (by decide)
      · rw [if_neg n0, if_neg n0]
        have o := a.1.2.1.2.2.1
        have hlen := a.1.2.2.1.2.2.1.len
        have ba := biA_l (iq := iq) (ie := ie) a.1.1.1 a.1.2.1.1 a.1.2.2.1.2.2.1 o.2.2.2.2.1 o.2.2.1 a.2.1.1.2.2.2.2.2.2.2.2.1 o.2.2.2.1 a.2.1.1.2.2.2.2.2.2.1 (kinds a).2 (kinds a).1 q3 q4 u3 u4 k (gB G).length 0 FU (by omega) (by unfold FU; omega)
        rw [List.drop_zero, q6, u6] at ba
        have ba : f_X8_bindingAt_3 FU 9 (some q) (some e) k 0 hd = _ := ba
        rw [ofE a]
        unfold f_X8_bindingAt
        rw [ba, bd_s]
        have tell : ∀ {h0 : AH} {v0 : MV} {G0 : GH} {m b : Int32}, Al h0 v0 G0 t → Gr hd vd h0 v0 3 0 → (x2 + 1) >>> ((8 : Int32) &&& 31) = 50 &&& 255 → (x2 + 1) &&& 255 = b &&& 255 → HC t hd vd c (f_X11_changeBinding_180 4 (some (chA c)) x2 h0) (bdm (m_say (nI c) 50 b v0) fun _ v_1 => some ((), v_1)) := by
          intro h0 v0 G0 m b A g e1 e2
          unfold f_X11_changeBinding_180
          rw [teN A h1 h2]
          exact HC.say g (by omega) (by omega) (A.mono (by omega)) h2 e1 e2 hl
        have c13 := a.2.1.1.2.2.1
        have hc13 := c13.2
        rcases hx with ⟨e1, e2⟩ | ⟨e1, e2⟩
        · subst e1
          subst e2
          rw [if_neg (show ¬ (12820 : Int32) = 12850 by decide), if_neg (show ¬ (20 : Int32) = 50 by decide)]
          unfold f_X11_changeBinding_122 m_bind_141 m_bind_188
          rw [if_pos (show (12820 : Int32) = 12820 from rfl)]
          cases hf : (biL vd).findIdx? (fun r => decide (r.1 = qn ∧ r.2.1 = en ∧ r.2.2 = k)) with
          | some j =>
            have := (List.getElem?_eq_some_iff.mp (fi_some hf).choose_spec.1).1
            rw [biL_len] at this
            rw [fiR_s, if_pos (nI_pos' (show j < 2 ^ 31 by omega)), if_pos (nI_pos' (show j < 2 ^ 31 by omega)), if_pos (nI_pos' (show j < 2 ^ 31 by omega))]
            exact tell (m := 0) a ((Gr.rf hd vd).mono (by omega) (by omega)) (by decide) (by decide)
          | none =>
            have s0 := a.1.2.1.1
            have lb := o.2.2.2.2.1.1
            rw [biL_len] at lb
            rw [show fiR 0 none = (-1 : Int32) from rfl, if_neg (show ¬ (0 : Int32) ≤ -1 by decide), if_neg (show ¬ (0 : Int32) ≤ -1 by decide), if_neg (show ¬ (0 : Int32) ≤ -1 by decide), rdR_e s0.1, s0.2.2.2.1, nn_s, szL (s0.r9 (by decide)) s0.k9 a.1.2.2.1.2.2.1, lb, c13.1]
            by_cases full : cN vd 13 = 12
            · rw [full, if_neg (show ¬ nI 12 < (12 : Int32) by decide), if_pos (show nI 12 = (12 : Int32) by decide), bdm_id]
              exact HC.soft a h1 h2 (e := 506) (by decide)
            · rw [if_pos (show nI (cN vd 13) < 12 from nI_lt (b := 12) (by omega) (by decide)), if_neg (show ¬ nI (cN vd 13) = (12 : Int32) from fun y => full ((nI_eq (b := 12) (by omega) (by omega)).mp y))]
              obtain ⟨h', v', G', p1, p2, p3, p4⟩ := badd (k := k) a nk q3 q4 u3 u4 (by omega)
              rw [q6, u6, c13.1] at p2
              rw [p1, p2]
              exact tell (m := 0) p3 p4 (by decide) (by decide)
        · subst e1
          subst e2
          rw [if_pos (show (12850 : Int32) = 12850 from rfl), if_pos (show (50 : Int32) = 50 from rfl)]
          unfold f_X11_changeBinding_122 m_bind_104
          rw [if_neg (show ¬ (12850 : Int32) = 12820 by decide)]
          cases hf : (biL vd).findIdx? (fun r => decide (r.1 = qn ∧ r.2.1 = en ∧ r.2.2 = k)) with
          | some j =>
            have hj := (List.getElem?_eq_some_iff.mp (fi_some hf).choose_spec.1).1
            rw [biL_len] at hj
            rw [fiR_s, if_neg (nI_pos (show j < 2 ^ 31 by omega)), if_neg (nI_pos (show j < 2 ^ 31 by omega))]
            have s0 := a.1.2.1.1
            obtain ⟨h', v', G', ⟨xr, p1⟩, p2, p3, p4⟩ := bdel a hj
            rw [rdR_e s0.1, s0.2.2.2.1, nn_s, rdR_e s0.k9, s0.r9 (by decide), nn_s, a.1.2.2.1.2.2.1.kgg, p1, bd_s, p2, bdm_s, if_neg (show ¬ (12850 : Int32) = 12820 by decide)]
            exact tell (m := 0) p3 (p4.mono (by omega) (by omega)) (by decide) (by decide)
          | none =>
            show HC t hd vd c (if (-1 : Int32) < 0 then _ else _) (if (-1 : Int32) < 0 then _ else _)
            rw [if_pos (show (-1 : Int32) < 0 by decide), if_pos (show (-1 : Int32) < 0 by decide)]
            exact tell (m := 0) a ((Gr.rf hd vd).mono (by omega) (by omega)) (by decide) (by decide)
end Bi

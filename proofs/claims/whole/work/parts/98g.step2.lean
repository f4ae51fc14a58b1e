/-! ===== one step, whole ===== -/
section Sq
variable {t : Nat} {h h' h1 h2 : AH} {v v' : MV} {G G' : GH} {F A : List Nat}
/-- the room a step takes -/
def RmS (h : AH) (v : MV) (h' : AH) (v' : MV) (n : Nat) : Prop := hz h' + 24 * KP v' ≤ hz h + 24 * KP v + n ∧ hs h' + 2400 * KP v' ≤ hs h + 2400 * KP v + 100 * n
def SP (t : Nat) (h : AH) (v : MV) (X : Option (Int32 × AH)) (Y : Option (Int32 × MV)) : Prop := ∃ x h' v' G', X = some (x, h') ∧ Y = some (x, v') ∧ Al h' v' G' (t + 124) ∧ HI h' ∧ LV v' ∧ RmS h v h' v' 136
theorem greetS (a : Al h v G t) (H : HI h) (e0 : v.1 0 = 0) (hl : (outL v).length < 500) (c8 : 8 ≤ cN v 2) : SP t h v (f_X11_step_47 4 1 (sI h 5 2 8)) (m_greet_59 v) := by
  have k4 := a.1.2.1.1.1
  have c0 : Ci h (sI h 5 2 8) [5] := Ci.fI (by simp)
  have i0 : IR (sI h 5 2 8) v := a.2.2.2.2.fr c0.lf (Fr.rf v) (by decide) (by simp) (by simp) (by rw [gI_sI, if_neg (by simp)]) rfl
  have A0 : Al (sI h 5 2 8) v G t := a.inb (c0.mono (by simp)) (Fr.rf v) (by simp) (by simp) i0
  generalize hh0 : sI h 5 2 8 = h0 at *
  have g2 : gI h0 5 2 = nI 8 := by rw [← hh0, gI_sI, if_pos ⟨rfl, rfl⟩]; rfl
  obtain ⟨h1, va, y1, -, -, -, y5, y6⟩ := say_j A0.2.2.2.1 (c := 0) (m := 2570) (a := 10) (b := 10) (by decide) (by decide) (by decide) (by omega)
  have k41 : kd h1 4 = 12 := by rw [y5.k, c0.k]; exact k4
  have i1 : IR h1 v := i0.fr y5.lf (Fr.rf v) (by decide) (by simp) (by simp) (by rw [y5.I (by decide)]) (by rw [y5.R])
  have f12 : LF h1 (sI h1 4 4 1) [4] := LF.fI
  have i2 : IR (sI h1 4 4 1) v := i1.fr f12 (Fr.rf v) (by decide) (by simp) (by simp) (by rw [gI_sIn (by decide)]) rfl
  obtain ⟨h3, v1, d3, d4, d5, d6, d7⟩ := drop_ok i2 (n := 8) c8 (by rw [gI_sIn (by decide), y5.I (by decide)]; exact g2)
  have o1 : OR h0 v1 := A0.2.2.2.1.fr (LF.rf h0 []) d7 (by simp) (by simp) (by decide) (by decide)
  obtain ⟨h1', v2, z1, z2, z3, z4, z5, z6⟩ := say_j o1 (c := 0) (m := 2570) (a := 10) (b := 10) (by decide) (by decide) (by decide) (by rw [outL_fr d7 (by decide) (by decide)]; omega)
  have eh : h1' = h1 := by
    rw [y1] at z1
    injection z1 with z1
    injection z1 with _ z1
    exact z1.symm
  subst eh
  have B := a.line (x := 1)
  have cc : Ci (sI h 4 4 1) h3 [5, 6, 7, 8] := by
    obtain ⟨p1, p2, p3, p4, p5, p6, p7⟩ := d6
    obtain ⟨r1, r2, r3, r4, r5, r6, r7⟩ := y5
    obtain ⟨s1, s2, s3, s4, s5, s6, s7⟩ := c0
    refine ⟨p1.trans (r1.trans s1), p2.trans (r2.trans s2), p3.trans (r3.trans s3), p4.trans (r4.trans s4), p5.trans (r5.trans s5), p6.trans (r6.trans s6), fun b hb => ?_⟩
    simp only [List.mem_cons, List.not_mem_nil, or_false, not_or] at hb
    have eb : gI h1' b = gI h b := (r7 b (by simp; omega)).trans (s7 b (by simp; omega))
    rw [p7 b (by simp; omega)]
    funext j
    rw [gI_sI, gI_sI, eb]
  have fv : Fr (mset v 0 1) (mset v2 0 1) [2, 4, 61] [1, 3] := by
    refine ⟨fun j hj => ?_, fun j hj => ?_⟩
    · by_cases e : j = 0
      · subst e; rw [ms_s, ms_s]
      · rw [ms_n e, ms_n e, z6.1 j (fun z => hj (by simp at z ⊢; omega)), d7.1 j (fun z => hj (by simp at z ⊢; omega))]
    · have q1 := z6.2 j (fun z => hj (by simp at z ⊢; omega))
      have q2 := d7.2 j (fun z => hj (by simp at z ⊢; omega))
      exact ⟨q1.1.trans q2.1, q1.2.trans q2.2⟩
  have i3 : IR h3 (mset v2 0 1) := d5.fr (LF.rf h3 []) (z6.tr Fr.upd) (by simp) (by decide) (by decide) rfl rfl
  have o3 : OR h3 (mset v2 0 1) := (z3.fr (LF.trW f12 d6.lf (Z := [4, 5, 6]) (by simp) (by simp)) Fr.upd (by decide) (by decide) (by decide) (by simp))
  obtain ⟨b1, b2, b3, b4⟩ := B.st
  have A3 : Al h3 (mset v2 0 1) G t := by
    refine St.al ⟨cc.wh b1, ?_, o3, b4.fr0 cc (by decide) ⟨B.2.2.2.2.1, B.2.2.2.2.2.2.1, b3.kk.1, b3.kk.2⟩ fv (by decide) (by decide)⟩ i3
    rw [cc.I (by decide), fv.1 0 (by decide)]
    exact b2
  have kp : KP (mset v2 0 1) = KP v := (KP_fr fv (by decide)).trans (KP_fr (v := v) (v' := mset v 0 1) Fr.upd (by simp))
  unfold f_X11_step_47
  rw [if_neg (by decide), if_pos rfl, rdI_e A0.1.2.1.1.1, A0.2.2.1, e0, if_pos rfl, kg_e A0.1.2.1.1.1]
  unfold f_X11_greet m_greet_59
  rw [ouE A0, y1, bd_s, wrI_e k41, bd_s, show (8 : Int32) = nI 8 from rfl, d4, bdm_s, z2, bdm_s, mwI_e]
  unfold f_X11_step_82
  rw [kg_e (by exact k41), sm_0, bd_s, rdR_e (by exact k41)]
  refine ⟨1, h3, mset v2 0 1, G, ?_, rfl, A3.mono (by omega), ⟨8, by decide, ?_⟩, ⟨1, by decide, ms_s⟩, ?_, ?_⟩
  · rw [gR_sI, y5.R, c0.R, a.1.2.1.1.2.1, nn_s, kg_e (by exact i2.1), d3, bd_s, kg_e A3.1.2.1.1.1, da_no A3 (by rw [ms_s]; decide), bd_s]
  · rw [drop_2 i2 d3, gI_sIn (by decide), y5.I (by decide)]; exact g2
  · have q := cc.1
    have q' : hz (sI h 4 4 1) = hz h := rfl
    omega
  · have q := cc.2.1
    have q' : hs (sI h 4 4 1) = hs h := rfl
    omega
theorem frameS {p k c : Nat} (a : Al h v G t) (L : L4 (v.1 0)) (hh : 27 ≤ hz h) (ht : t + 126 < 65536) (hl : (outL v).length < 500) (p40 : p ≤ 40) (pc : p + 4 ≤ cN v 2) (e0 : v.2.1 1 0 = nI k) (k1 : 1 ≤ k) (k3 : k ≤ 3) (e1 : v.2.1 1 1 = nI c) (c3 : c ≤ 3) (ci : Ci h h' [5]) (g0 : gI h' 5 0 = gI h 5 0) (g2 : gI h' 5 2 = nI (p + 4)) (g3 : gI h' 5 3 = nI 3) (g4 : gI h' 5 4 = nI (p + 3)) (g5 : gI h' 5 5 = bit false) : SP t h v (f_X11_step_47 4 1 h') (mrI v 1 1 fun x_3 => mwI v 54 x_3 fun v_4 => mwI v_4 55 3 fun v_5 => mwI v_5 56 (nI (p + 4) - 1) fun v_6 => mwZ v_6 57 0 fun v_7 => mrI v_7 1 0 fun x_8 => bdm (m_frame x_8 v_7) fun _ v_9 => (if (v_9.1 0) = 5 then m_step_106 FU v_9 else bdm (m_drop (nI (p + 4)) v_9) fun _ v_10 => m_step_106 FU v_10)) := by
  have hc := a.2.2.2.2.2.2.2.2.1.2
  have m1 : ∀ {w : MV} {β : Type} {F : Int32 → Option β}, mrI w 1 1 F = F (w.2.1 1 1) := fun {w _ F} => mrI_e (v := w) (k := 1) (i := 1) (F := F) (by decide) (by decide)
  have m0 : ∀ {w : MV} {β : Type} {F : Int32 → Option β}, mrI w 1 0 F = F (w.2.1 1 0) := fun {w _ F} => mrI_e (v := w) (k := 1) (i := 0) (F := F) (by decide) (by decide)
  rw [m1, e1, mwI_e, mwI_e, mwI_e, mwZ_e (.inl rfl), m0]
  generalize hw : mset (mset (mset (mset v 54 (nI c)) 55 3) 56 (nI (p + 4) - 1)) 57 0 = w
  have fw : Fr v w [54, 55, 56, 57] [] := by
    rw [← hw]
    exact (((Fr.upd.tr Fr.upd).tr Fr.upd).tr Fr.upd).mono (by simp) (by simp)
  have w54 : w.1 54 = nI c := by rw [← hw, ms_n (by decide), ms_n (by decide), ms_n (by decide), ms_s]
  have w55 : w.1 55 = nI 3 := by rw [← hw, ms_n (by decide), ms_n (by decide), ms_s]; rfl
  have w56 : w.1 56 = nI (p + 3) := by rw [← hw, ms_n (by decide), ms_s, nI_s1 (by omega)]; congr 1
  have w57 : w.1 57 = bit false := by rw [← hw, ms_s]; rfl
  have c56 : Ci h h' [5, 6] := ci.mono (by simp)
  have iw : IR h' w := a.2.2.2.2.fr ci.lf fw (by decide) (by decide) (by simp) g0 (by rw [ci.R])
  have ec : cN w 2 = cN v 2 := cN_fr fw (by decide)
  have A : Al h' w G t := a.inb c56 fw (by decide) (by simp) iw
  have ir : IRR h' w false := ⟨iw, 3, p + 3, g3, w55, g4, w56, g5, w57, by omega, by omega⟩
  have b0 := a.2.2.2.2.2.2.2.2.2.2 0 (by omega)
  have b1 := a.2.2.2.2.2.2.2.2.2.2 1 (by omega)
  have fc : gI h' 6 1 = nI c := by rw [ci.I (by decide), b1.1, e1]
  have fk : gI h' 6 0 = nI k := by rw [ci.I (by decide), b0.1, e0]
  have w0 : w.1 0 = v.1 0 := fw.1 0 (by decide)
  have ow : outL w = outL v := outL_fr fw (by decide) (by simp)
  have S := frameC A ir w54 c3 fc fk k1 k3 (by rw [ow]; exact hl) (by omega) (by rw [ci.1]; exact hh) (by rw [w0]; exact L)
  obtain ⟨e, ha, hb, vb, Gb, x1, x2, x3, x4, ⟨x5, x6, x7⟩, x8⟩ := S
  have n0 : v.1 0 ≠ 0 := by
    obtain ⟨l, l1, l2, l3⟩ := L
    rw [l3]
    exact fun z => by have := (nI_eq (b := 0) (by omega) (by omega)).mp z; omega
  have ew : (w.2.1 1 0) = nI k := by rw [(fw.2 1 (by simp)).1]; exact e0
  have kw : KP w = KP v := KP_fr fw (by simp)
  rw [ow] at x7
  rw [kw] at x5 x6
  have cl : f_X11_step_47 4 1 h' = f_X11_step_82 4 e ha := by
    unfold f_X11_step_47
    rw [if_neg (by decide), if_pos rfl, rdI_e A.1.2.1.1.1, A.2.2.1, w0, if_neg n0, kg_e A.1.2.1.1.1, x1, bd_s]
  rw [cl, ew, x3, bdm_s]
  unfold f_X11_step_82
  rw [kg_e (sm_k4 x2 x4.1.2.1.1.1), x2, bd_s, inE x4]
  rcases x8 with ⟨y1, y2, y3⟩ | ⟨y1, y2, y3⟩
  · have n5 : vb.1 0 ≠ 5 := by
      obtain ⟨l, l1, l2, l3⟩ := y1
      rw [l3]
      exact fun z => by have := (nI_eq (b := 5) (by omega) (by omega)).mp z; omega
    have eb : cN vb 2 = cN v 2 := by
      unfold cN at ec ⊢
      rw [y3]; exact ec
    have d2 : gI hb 5 2 = nI (p + 4) := by rw [y2.2.1]; exact g2
    obtain ⟨hd, vd, d3, d4, d5, d6, d7⟩ := drop_ok x4.2.2.2.2 (n := p + 4) (by omega) d2
    have D := x4.inb d6 d7 (by decide) (by decide) d5
    have od : outL vd = outL vb := outL_fr d7 (by decide) (by decide)
    have kdd : KP vd = KP vb := KP_fr d7 (by decide)
    obtain ⟨hq, vq, Gq, q1, q2, q3, q4⟩ := da_ok D (by omega) (by rw [od]; omega)
    obtain ⟨r1, r2, r3, r4, r5, r6⟩ := q4
    rw [d3, bd_s, kg_e D.1.2.1.1.1, q1, bd_s, if_neg n5, d4, bdm_s, q2]
    have dz := d6.1
    have ds := d6.2.1
    refine ⟨1, hq, vq, Gq, rfl, rfl, q3, ⟨p + 4, by omega, ?_⟩, ?_, ?_⟩
    · rw [r1.2.1, drop_2 x4.2.2.2.2 d3]; exact d2
    · obtain ⟨l, l1, l2, l3⟩ := y1
      exact ⟨l, by omega, by rw [r6, d7.1 0 (by decide)]; exact l3⟩
    · have z := ci.1
      have z' := ci.2.1
      constructor <;> omega
  · have H' : HI hb := ⟨p + 4, by omega, by rw [y3]; exact g2⟩
    obtain ⟨hq, vq, Gq, q1, q2, q3, q4⟩ := da_ok x4 (by omega) (by omega)
    obtain ⟨r1, r2, r3, r4, r5, r6⟩ := q4
    rw [drop5 x4.2.2.2.2 y2 H', bd_s, kg_e x4.1.2.1.1.1, q1, bd_s, if_pos y1, q2]
    refine ⟨1, hq, vq, Gq, rfl, rfl, q3, ⟨p + 4, by omega, ?_⟩, ⟨5, by decide, by rw [r6]; exact y1⟩, ?_⟩
    · rw [r1.2.1, y3]; exact g2
    · have z := ci.1
      have z' := ci.2.1
      constructor <;> omega
end Sq

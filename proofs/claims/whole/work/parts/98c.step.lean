/-! ===== frames, and steps ===== -/
section Fr2
variable {t t' : Nat} {h h' h1 : AH} {v v' w : MV} {c d : Nat} {G G' : GH} {wr : Bool}
theorem fk_ok (a : Al h v G t) : f_X6_frameKind 5 h = some (gI h 6 0, h) := by
  obtain ⟨i1, i2, i3, i4, -⟩ := a.2.2.2.2
  unfold f_X6_frameKind
  rw [rdR_e i1, i2, nn_s, show (0 : Int32) = nI 0 from rfl, arI_e i3 (by rw [i4]; exact inb_nI (by decide) (by decide))]
  rfl
theorem methodC (a : Al h v G t) (i : IRR h v false) (e54 : v.1 54 = nI c) (h2 : c ≤ 3) (fc : gI h 6 1 = nI c) (hl : (outL v).length < 500) (ht : t + 100 < 65536) (hh : 27 ≤ hz h) (l0 : ∃ l, 1 ≤ l ∧ l ≤ 4 ∧ v.1 0 = nI l) : SC t h v (rdR h 4 12 0 fun r_2 => nn r_2 fun a_3 => kg h a_3 7 (bd (f_X6_unread a_3 h) fun x_6 h_5 => if 2 ≤ x_6 then rdR h_5 4 12 0 fun r_7 => nn r_7 fun a_8 => kg h_5 a_8 7 (bd (f_X6_readShort a_8 h_5) fun x_11 h_10 => nb (if c = 0 then none else some (chA c)) (kg h_10 4 12 (bd (f_X11_doLineMethod 4 x_11 h_10) fun x_15 h_14 => some (x_15, h_14))) fun a_12 => kg h_10 4 12 (bd (f_X11_doMethod 4 (some a_12) x_11 h_10) fun x_18 h_17 => some (x_18, h_17))) else some (501, h_5))) (m_doMethod v) := by
  have i0 := i
  obtain ⟨ir, at0, e, r1, r2, r3, r4, r5, r6, r7, r8⟩ := i
  have hin := ir.2.2.2.2.1.2
  have k5 := ir.1
  have un : f_X6_unread 5 h = some (nI (e - at0), h) := by
    unfold f_X6_unread
    rw [rdI_e k5, rdI_e k5, r1, r3, pk_sub r7]
  unfold m_doMethod
  rw [inE a, un, bd_s, r2, r4, pk_sub r7]
  by_cases two : 2 ≤ e - at0
  · rw [if_pos (show (2 : Int32) ≤ nI (e - at0) from nI_le (a := 2) two (by omega)), if_pos (show (2 : Int32) ≤ nI (e - at0) from nI_le (a := 2) two (by omega)), inE a]
    obtain ⟨p, ha, va, wa, x1, x2, x3, x4, x5, x6, x7⟩ := byte_ok i0
    obtain ⟨q, hb, vb, wb, y1, y2, y3, y4, y5, y6, y7⟩ := byte_ok x4
    have rs : f_X6_readShort 5 h = some (nI (p * 256 + q), hb) := by
      unfold f_X6_readShort
      rw [kg_e k5, x1, bd_s, kg_e x4.1.1, y1, bd_s, shor_I x3 y3]
    rw [rs, bd_s, x2, bdm_s, y2, bdm_s]
    have rd := x5.tr y5
    have A := a.rd rd
    refine SC.rd rd ?_
    have e54b : vb.1 54 = nI c := by rw [rd.2.1.1 54 (by decide)]; exact e54
    have fcb : gI hb 6 1 = nI c := by rw [rd.1.I (by decide)]; exact fc
    have hlb : (outL vb).length < 500 := by rw [outL_fr rd.2.1 (by decide) (by decide)]; exact hl
    rw [e54b]
    by_cases c0 : c = 0
    · subst c0
      rw [if_pos rfl, nb_n, if_pos (show nI 0 = (0 : Int32) from rfl), kg_e A.1.2.1.1.1, bd_id, bdm_id]
      obtain ⟨l, l1, l2, l3⟩ := l0
      exact lineC A y4 fcb hlb ht x3 y3 ⟨l, l1, l2, by rw [rd.2.1.1 0 (by decide)]; exact l3⟩
    · rw [if_neg c0, nb_s, if_neg (show ¬ nI c = (0 : Int32) from fun z => c0 ((nI_eq (b := 0) (by omega) (by omega)).mp z)), kg_e A.1.2.1.1.1, bd_id]
      have D := domC (p := p) (q := q) (⟨A, y4, e54b, by omega, h2, hlb, ht⟩ : Pre t hb vb c G wb) (by rw [rd.1.1]; exact hh) fcb x3 y3
      rw [e54b] at D
      exact D
  · rw [if_neg (show ¬ (2 : Int32) ≤ nI (e - at0) from nI_ge (b := 2) (by omega) (by decide)), if_neg (show ¬ (2 : Int32) ≤ nI (e - at0) from nI_ge (b := 2) (by omega) (by decide)), bdm_id]
    exact hard_sc a (e := 501) (by decide) h2 fc hl
theorem keep_sc (a : Al h v G t) (a0 : L4 (v.1 0)) : SC t h v (some (0, h)) (some ((), v)) := ⟨0, h, h, v, G, rfl, sm_0, rfl, a.mono (by omega), ⟨by omega, by omega, by omega⟩, .inl ⟨a0, IK.rf h, rfl⟩⟩
theorem lostC {kk : Nat} (a : Al h v G t) (i : IRR h v false) (e54 : v.1 54 = nI c) (h1 : 1 ≤ c) (h2 : c ≤ 3) (hk : kk ≤ 3) (st : v.2.1 35 c = 2) (a0 : L4 (v.1 0)) : SC t h v (f_X11_handleOnLost 4 (some (chA c)) (nI kk) h) (if nI kk = 1 then if v.1 56 - v.1 55 = 2 then mrI v 1 (v.1 55) fun x_5 => if x_5 = 20 then mrI v 1 (v.1 55 + 1) fun x_6 => if x_6 = 41 then msI v 35 (nI c) 0 fun v_7 => some ((), v_7) else some ((), v) else some ((), v) else some ((), v) else some ((), v)) := by
  have i0 := i
  obtain ⟨ir, at0, e, r1, r2, r3, r4, r5, r6, r7, r8⟩ := i
  have hin := ir.2.2.2.2.1.2
  have k5 := ir.1
  unfold f_X11_handleOnLost
  by_cases m1 : nI kk = 1
  · rw [if_pos m1, if_pos m1, inE a, r2, r4, pk_sub r7]
    obtain ⟨p, ha, va, wa, x1, x2, x3, x4, x5, x6, x7⟩ := byte_ok i0
    obtain ⟨q, hb, vb, wb, y1, y2, y3, y4, y5, y6, y7⟩ := byte_ok x4
    have rs : f_X6_readShort 5 h = some (nI (p * 256 + q), hb) := by
      unfold f_X6_readShort
      rw [kg_e k5, x1, bd_s, kg_e x4.1.1, y1, bd_s, shor_I x3 y3]
    have rd0 := x5.tr y5
    have rd : Rd h v hb v := ⟨rd0.1, (Fr.rf v).mono (by simp) (by simp), rd0.2.2.1, rd0.2.2.2⟩
    have A := a.rd rd
    rw [rs, bd_s]
    refine SC.rd rd ?_
    by_cases two : e - at0 = 2
    · -- both bytes are there
      have e1 := rb_lt ir r1 r3 (by omega) r8
      rw [x1] at e1
      have ep : nI p = v.2.1 1 at0 := congrArg (fun z : Option (Int32 × AH) => (z.map Prod.fst).getD 0) e1
      have eh : ha = sI h 5 3 (nI (at0 + 1)) := by
        have := congrArg (fun z : Option (Int32 × AH) => (z.map Prod.snd).getD ha) e1
        exact this
      have rd1 : Rd h v (sI h 5 3 (nI (at0 + 1))) v := Rd.f3 (.inl rfl)
      have ir1 : IR (sI h 5 3 (nI (at0 + 1))) v := ir.rd rd1 rd1.2.2.2
      have e2 := rb_lt (a := at0 + 1) (e := e) ir1 (by rw [gI_sI, if_pos ⟨rfl, rfl⟩]) (by rw [gI_sI, if_neg (by simp)]; exact r3) (by omega) r8
      rw [← eh, y1] at e2
      have eq : nI q = v.2.1 1 (at0 + 1) := congrArg (fun z : Option (Int32 × AH) => (z.map Prod.fst).getD 0) e2
      have eh2 : hb = sI ha 5 3 (nI (at0 + 1 + 1)) := by
        have := congrArg (fun z : Option (Int32 × AH) => (z.map Prod.snd).getD hb) e2
        exact this
      rw [if_pos (show nI (e - at0) = (2 : Int32) by rw [two]; rfl), mrI_e (show at0 < 320 by omega) (by decide), ← ep, nI_1, mrI_e (show at0 + 1 < 320 by omega) (by decide), ← eq]
      by_cases mt' : p = 20 ∧ q = 41
      · obtain ⟨rfl, rfl⟩ := mt'
        have jr : f_X6_isJustRead 5 hb = some (1, hb) := jr_t (a := e) (by rw [rd.1.k]; exact k5) (by rw [eh2, gI_sI, if_pos ⟨rfl, rfl⟩]; congr 1; omega) (by rw [eh2, gI_sI, if_neg (by simp), eh, gI_sI, if_neg (by simp)]; exact r3) (by rw [eh2, gI_sI, if_neg (by simp), eh, gI_sI, if_neg (by simp)]; exact r5)
        have kc := (A.1.2.1.1.ch h1 h2).1
        rw [if_pos (show nI (20 * 256 + 41) = (5161 : Int32) by decide), inE A, jr, bd_s, if_neg (by decide), nn_s, wrI_e kc, if_pos (show nI 20 = (20 : Int32) from rfl), if_pos (show nI 41 = (41 : Int32) from rfl), msI_e (show c < 4 by omega) (by decide)]
        obtain ⟨g1, g2, g3, g4, g5⟩ := A.2.1.2.2.2.2.2 c h1 h2
        obtain ⟨q1, q2, q3, q4, q5⟩ := g5 (by rw [st]; decide)
        have f0 : Fr v (mseA v 35 c 0) [] [35] := Fr.updA
        have oth : OthC v (mseA v 35 c 0) c := fun j hj => ⟨mA_n hj, by rw [mA_k (by decide)], by rw [mA_k (by decide)], by rw [mA_k (by decide)]⟩
        have V : VI (mseA v 35 c 0) t := A.2.1.rows (s := 0) (f0.mono (by simp) (by decide)) h1 oth mA_s (by decide) (by rw [mA_k (by decide)]; exact q1) (by rw [mA_k (by decide)]; exact q3) (by rw [mA_k (by decide)]; exact q2) q4 q5
        have C := A.1.chan (k := 3) (row := 35) (x := 0) h1 h2 (by simp)
        obtain ⟨B, g⟩ := A.chan h1 h2 C (f0.mono (by simp) (by simp)) V (Ci.fI (by simp))
        obtain ⟨g1, g2, g3, g4, g5, g6⟩ := g
        exact ⟨0, _, _, _, G, rfl, sm_0, rfl, B.mono (by omega), ⟨by omega, by omega, by omega⟩, .inl ⟨by rw [g6]; exact a0, g1, g5⟩⟩
      · have em : (if nI p = 20 then if nI q = 41 then msI v 35 (nI c) 0 fun v_7 => some ((), v_7) else some ((), v) else some ((), v)) = some ((), v) := by
          by_cases z1 : nI p = 20
          · rw [if_pos z1, if_neg]
            intro z2
            exact mt' ⟨(bN8 (k := 20) x3 (by decide)).mp z1, (bN8 (k := 41) y3 (by decide)).mp z2⟩
          · rw [if_neg z1]
        rw [em, if_neg (show ¬ nI (p * 256 + q) = (5161 : Int32) from fun z => mt' ((ab_eq (k := 5161) x3 y3 (by decide)).mp z))]
        exact keep_sc A a0
    · rw [if_neg (show ¬ nI (e - at0) = (2 : Int32) from fun z => two ((nI_eq (b := 2) (by omega) (by omega)).mp z))]
      by_cases z : nI (p * 256 + q) = 5161
      · rw [if_pos z, inE A]
        have jr : f_X6_isJustRead 5 hb = some (0, hb) := by
          have snd : ∀ {x y : Int32} {g g' : AH}, (some (x, g) : Option (Int32 × AH)) = some (y, g') → g = g' := fun z => by
            injection z with z; injection z
          have kb : kd hb 5 = 7 := by rw [rd.1.k]; exact k5
          by_cases c0 : at0 = e
          · have e1 := snd (x1.symm.trans (rb_eq ir r1 r3 c0 r8))
            have rd1 : Rd h v (sI h 5 5 1) v := Rd.f3 (.inr rfl)
            have ir1 : IR (sI h 5 5 1) v := ir.rd rd1 rd1.2.2.2
            rw [e1] at y1
            have e2 := snd (y1.symm.trans (rb_eq (a := at0) (e := e) ir1 (by rw [gI_sI, if_neg (by simp)]; exact r1) (by rw [gI_sI, if_neg (by simp)]; exact r3) c0 r8))
            exact jr_f (a := at0) (e := e) kb (by rw [e2, gI_sI, if_neg (by simp), gI_sI, if_neg (by simp)]; exact r1) (by rw [e2, gI_sI, if_neg (by simp), gI_sI, if_neg (by simp)]; exact r3) (by omega) (by omega) (.inl (by rw [e2, gI_sI, if_pos ⟨rfl, rfl⟩]; decide))
          · have e1 := snd (x1.symm.trans (rb_lt ir r1 r3 (by omega) r8))
            have rd1 : Rd h v (sI h 5 3 (nI (at0 + 1))) v := Rd.f3 (.inl rfl)
            have ir1 : IR (sI h 5 3 (nI (at0 + 1))) v := ir.rd rd1 rd1.2.2.2
            rw [e1] at y1
            by_cases c1 : at0 + 1 = e
            · have e2 := snd (y1.symm.trans (rb_eq (a := at0 + 1) (e := e) ir1 (by rw [gI_sI, if_pos ⟨rfl, rfl⟩]) (by rw [gI_sI, if_neg (by simp)]; exact r3) c1 r8))
              exact jr_f (a := at0 + 1) (e := e) kb (by rw [e2, gI_sI, if_neg (by simp), gI_sI, if_pos ⟨rfl, rfl⟩]) (by rw [e2, gI_sI, if_neg (by simp), gI_sI, if_neg (by simp)]; exact r3) (by omega) (by omega) (.inl (by rw [e2, gI_sI, if_pos ⟨rfl, rfl⟩]; decide))
            · have e2 := snd (y1.symm.trans (rb_lt (a := at0 + 1) (e := e) ir1 (by rw [gI_sI, if_pos ⟨rfl, rfl⟩]) (by rw [gI_sI, if_neg (by simp)]; exact r3) (by omega) r8))
              exact jr_f (a := at0 + 1 + 1) (e := e) kb (by rw [e2, gI_sI, if_pos ⟨rfl, rfl⟩]) (by rw [e2, gI_sI, if_neg (by simp), gI_sI, if_neg (by simp)]; exact r3) (by omega) (by omega) (.inr (by omega))
        rw [jr, bd_s, if_pos rfl]
        exact keep_sc A a0
      · rw [if_neg z]
        exact keep_sc A a0
  · rw [if_neg m1, if_neg m1]
    exact keep_sc a a0
theorem frameC {kk : Nat} (a : Al h v G t) (i : IRR h v false) (e54 : v.1 54 = nI c) (h2 : c ≤ 3) (fc : gI h 6 1 = nI c) (fk : gI h 6 0 = nI kk) (k1 : 1 ≤ kk) (k3 : kk ≤ 3) (hl : (outL v).length < 500) (ht : t + 100 < 65536) (hh : 27 ≤ hz h) (l0 : ∃ l, 1 ≤ l ∧ l ≤ 4 ∧ v.1 0 = nI l) : SC t h v (f_X11_handleFrame 4 h) (m_frame (nI kk) v) := by
  have s0 := a.1.2.1.1
  have n5 : L4 (v.1 0) := l0
  have bad5 : SC t h v (some (505, h)) (m_frame_111 v) := by
    unfold m_frame_111
    rw [bdm_id]
    exact hard_sc a (e := 505) (by decide) h2 fc hl
  have M := methodC a i e54 h2 fc hl ht hh l0
  -- a frame where no letter is due
  have none' : SC t h v (f_X11_handleFrame_85 4 (nI kk) (if c = 0 then none else some (chA c)) none h) (m_frame_91 (nI kk) 0 v) := by
    unfold f_X11_handleFrame_85 m_frame_91 m_frame_121
    rw [nb_n, if_pos (show (0 : Int32) ≤ 0 by decide)]
    by_cases e : nI kk = 1
    · rw [if_pos e, if_pos e, if_pos e, bdm_id]
      exact M
    · rw [if_neg e, if_neg e]
      exact bad5
  unfold f_X11_handleFrame m_frame
  rw [inE a, fk_ok a, bd_s, inE a, fc_ok a, bd_s, kg_e s0.1, fc, cn_ok a h2, bd_s, ltd, e54, mrI_e (show c < 4 by omega) (by decide), fk]
  by_cases c0 : c = 0
  · subst c0
    rw [if_pos rfl] at none' ⊢
    have z0 : v.2.1 35 0 = 0 := a.2.1.2.2.2.2.1
    rw [nb_n, z0, if_neg (by decide), mrI_e (show 0 < 4 by decide) (by decide), z0, if_neg (by decide)]
    unfold f_X11_handleFrame_39 f_X11_handleFrame_51
    rw [nb_n, nb_n]
    exact none'
  · rw [if_neg c0] at none' ⊢
    have h1 : 1 ≤ c := by omega
    have kc := (s0.ch h1 h2).1
    have s3 := (a.1.2.1.2.1.2.2 c h1 h2).1
    rw [nb_s, rdI_e kc, s3]
    by_cases lost : v.2.1 35 c = 2
    · rw [if_pos lost, if_pos lost, kg_e s0.1, bd_id]
      exact lostC a i e54 h1 h2 k3 lost n5
    · rw [if_neg lost, if_neg lost, mrI_e (show c < 4 by omega) (by decide)]
      unfold f_X11_handleFrame_39
      rw [nb_s, rdR_e kc]
      have D := (a.1.2.1.2.2.2.1 c h1 h2).2
      by_cases st : v.2.1 35 c = 1
      · rw [if_pos st, mrI_e (show c < 4 by omega) (by decide)]
        rcases D with ⟨d1, d2⟩ | ⟨d, b, d1, d2, d3, d4⟩
        · rw [d1, d2]
          unfold f_X11_handleFrame_51
          rw [nb_n]
          exact none'
        · rw [d1]
          unfold f_X11_handleFrame_51 f_X4_due
          rw [nb_s, kg_e d2.1, rdI_e d2.1]
          have P : Pre t h v c G false := ⟨a, i, e54, h1, h2, hl, ht⟩
          rcases d4 with ⟨u1, u2, u3, u4⟩ | ⟨u1, n, l, u2, u3, u4, u5, u6, u7, u8, u9⟩
          · rw [u2, if_pos rfl, bd_s, u1]
            unfold m_frame_91
            rw [if_neg (show ¬ (1 : Int32) ≤ 0 by decide)]
            by_cases e : nI kk = 2
            · rw [if_pos e, if_pos e, if_pos (show nI kk = 1 + 1 by rw [e]; decide), kg_e s0.1, bd_id]
              unfold m_frame_121
              rw [if_neg (show ¬ nI kk = 1 by rw [e]; decide), if_pos e, bdm_id]
              exact (headC P st d1 u1).sc n5 h1 h2 fc hl
            · rw [if_neg e, if_neg (show ¬ nI kk = 1 + 1 from fun z => e (by rw [z]; decide))]
              unfold f_X11_handleFrame_85
              rw [nb_s]
              exact bad5
          · rw [u7, if_neg (show ¬ nI n = (-1 : Int32) from fun z => by
              have : ¬ nI n < 0 := nI_pos (show n < 2 ^ 31 by omega)
              rw [z] at this
              exact this (by decide)), bd_s, u1]
            unfold m_frame_91
            rw [if_neg (show ¬ (2 : Int32) ≤ 0 by decide)]
            by_cases e : nI kk = 3
            · rw [if_pos e, if_neg (show ¬ nI kk = 2 by rw [e]; decide), if_pos (show nI kk = 2 + 1 by rw [e]; decide), kg_e s0.1, bd_id]
              unfold m_frame_121
              rw [if_neg (show ¬ nI kk = 1 by rw [e]; decide), if_neg (show ¬ nI kk = 2 by rw [e]; decide), bdm_id]
              exact (bodyC P st d1 u1).sc n5 h1 h2 fc hl
            · rw [if_neg e, if_neg (show ¬ nI kk = 2 + 1 from fun z => e (by rw [z]; decide))]
              unfold f_X11_handleFrame_85
              rw [nb_s]
              exact bad5
      · rw [if_neg st]
        obtain ⟨-, -, -, -, g5⟩ := a.2.1.2.2.2.2.2 c h1 h2
        obtain ⟨q1, q2, q3, q4, q5⟩ := g5 st
        have d8 : gR h (chA c) 8 = none := by
          rcases D with ⟨-, d2⟩ | ⟨d, b, d1, d2, d3, d4⟩
          · exact d2
          · exfalso
            rcases d4 with ⟨u1, -⟩ | ⟨u1, -⟩
            · rw [q3] at u1; exact absurd u1 (by decide)
            · rw [q3] at u1; exact absurd u1 (by decide)
        rw [d8]
        unfold f_X11_handleFrame_51
        rw [nb_n]
        exact none'
end Fr2

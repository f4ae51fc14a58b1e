/-! ===== heads and bodies ===== -/
section Hb
variable {t : Nat} {h h' : AH} {v v' : MV} {c d : Nat} {G : GH} {w : Bool}
theorem rb_lt {a e : Nat} (i : IR h v) (r3 : gI h 5 3 = nI a) (r4 : gI h 5 4 = nI e) (lt : a < e) (he : e < cN v 2) : f_X6_readByte 5 h = some (v.2.1 1 a, sI h 5 3 (nI (a + 1))) := by
  obtain ⟨i1, i2, i3, i4, i5, i6, i7⟩ := i
  have := i5.2
  unfold f_X6_readByte
  rw [rdI_e i1, rdI_e i1, r3, r4, if_pos (nI_lt lt (by omega)), rdI_e i1, wrI_e i1, r3, nI_1, rdR_e (by exact i1), rdI_e (by exact i1), gR_sI, i2, nn_s, gI_sI, if_pos ⟨rfl, rfl⟩, nI_pred, arI_e (by exact i3) (by rw [ln_sI, i4]; exact inb_nI (by omega) (by omega)), nI_clamp (by omega), gI_sIn (by decide), (i7 a (by omega)).1]
theorem rb_eq {a e : Nat} (i : IR h v) (r3 : gI h 5 3 = nI a) (r4 : gI h 5 4 = nI e) (eq : a = e) (he : e < cN v 2) : f_X6_readByte 5 h = some (0, sI h 5 5 1) := by
  have := i.2.2.2.2.1.2
  unfold f_X6_readByte
  rw [rdI_e i.1, rdI_e i.1, r3, r4, if_neg (nI_nlt (by omega) (by omega)), wrZ_e i.1 (.inr rfl)]
theorem jr_f {a e : Nat} (k5 : kd h 5 = 7) (r3 : gI h 5 3 = nI a) (r4 : gI h 5 4 = nI e) (ha : a < 1000) (he : e < 1000) (H : gI h 5 5 ≠ 0 ∨ a ≠ e) : f_X6_isJustRead 5 h = some (0, h) := by
  unfold f_X6_isJustRead
  rw [rdI_e k5]
  by_cases z : gI h 5 5 = 0
  · rw [if_pos z, rdI_e k5, rdI_e k5, r3, r4, if_neg, rz_0]
    rcases H with y | y
    · exact absurd z y
    · exact fun q => y ((nI_eq (by omega) (by omega)).mp q)
  · rw [if_neg z, rz_0]
theorem jr_t {a : Nat} (k5 : kd h 5 = 7) (r3 : gI h 5 3 = nI a) (r4 : gI h 5 4 = nI a) (H : gI h 5 5 = 0) : f_X6_isJustRead 5 h = some (1, h) := by
  unfold f_X6_isJustRead
  rw [rdI_e k5, if_pos H, rdI_e k5, rdI_e k5, r3, r4, if_pos rfl, rz_1]
theorem Rd.f3 {k : Nat} {x : Int32} (hk : k = 3 ∨ k = 5) : Rd h v (sI h 5 k x) v := ⟨Ci.fI (by simp), (Fr.rf v).mono (by simp) (by simp), by rw [gI_sI, if_neg (by rintro ⟨-, z⟩; omega)], by rw [gI_sI, if_neg (by rintro ⟨-, z⟩; omega)]⟩
theorem cmp_pre (k2 : kd h (chA c) = 2) : f_X11_complete 4 (some (chA c)) (some d) h = f_X11_complete 4 (some (chA c)) (some d) (sR h (chA c) 8 none) := by
  have sid : sR (sR h (chA c) 8 none) (chA c) 8 none = sR h (chA c) 8 none := by
    have : va_up (gR (sR h (chA c) 8 none) (chA c)) 8 none = gR (sR h (chA c) 8 none) (chA c) := by
      funext j
      unfold va_up
      split
      · rename_i z; rw [z, gR_sR, if_pos ⟨rfl, rfl⟩]
      · rfl
    show wR (sR h (chA c) 8 none) (chA c) (va_up (gR (sR h (chA c) 8 none) (chA c)) 8 none) = _
    rw [this, wR_id]
  unfold f_X11_complete
  rw [nn_s, nn_s, wrR_e k2, wrR_e (by exact k2), sid]
theorem mcmp_pre (h2 : c ≤ 3) : m_complete (nI c) v = m_complete (nI c) (mseA v 40 c 0) := by
  unfold m_complete
  rw [msI_e (show c < 4 by omega) (by decide), msI_e (show c < 4 by omega) (by decide), mseA_id (v := mseA v 40 c 0) mA_s]
/-- a channel's draft gets its last bytes: it leaves the channel -/
theorem Al.fin {n : Nat} {e k ct : Int64} {b : Bool} (a : Al h v G t) (h1 : 1 ≤ c) (h2 : c ≤ 3) (st : v.2.1 35 c = 1) (r8 : gR h (chA c) 8 = some d) (f : LF h h' [d]) (hd : Inc h d) (w' : WH h') (nq : NoQ h h') (hz' : hz h' = hz h) (hs' : hs h' = hs h) (fv : Fr v v' [] [40, 41, 42, 43, 44, 45, 46]) (oth : ∀ c', c' ≠ c → ∀ k, 40 ≤ k → k ≤ 46 → v'.2.1 k c' = v.2.1 k c' ∧ v'.2.2 k c' = v.2.2 k c') (e40 : v'.2.1 40 c = 0) (b43 : Bo v' 43) (sw : sR h' (chA c) 8 none = sR h' (chA c) 8 none) : Al (sR h' (chA c) 8 none) v' G t ∧ Gr h v (sR h' (chA c) 8 none) v' 0 0 := by
  have k2 := (a.1.2.1.1.ch h1 h2).1
  have nd : chA c ≠ d := fun z => by rw [z, hd.1] at k2; exact absurd k2 (by decide)
  have C1 : Cl (sR h (chA c) 8 none) v' G (leL v) (gH G) := a.1.dchg h1 h2 fv oth (.inl ⟨e40, by rw [gR_sR, if_pos ⟨rfl, rfl⟩]⟩) (fun d c' z => by cases z)
  have k2' : kd h' (chA c) = 2 := f.kk k2 (by decide)
  have f2 : LF (sR h (chA c) 8 none) (sR h' (chA c) 8 none) [d] := by
    refine ⟨f.1, f.2.1, fun b hb hX h3 => ?_, fun b hb kb e eb ke => ?_⟩
    · obtain ⟨p1, p2, p3⟩ := f.2.2.1 b hb hX h3
      refine ⟨p1, p2, ?_⟩
      by_cases z : b = chA c
      · subst z
        funext j
        rw [gR_sR, gR_sR, p3]
      · rw [gR_sRn z, gR_sRn z, p3]
    · have nb : b ≠ chA c := fun z => by rw [z] at kb; rw [show kd (sR h (chA c) 8 none) (chA c) = kd h (chA c) from rfl, k2] at kb; exact absurd kb (by decide)
      have ne : e ≠ chA c := fun z => by rw [z] at ke; rw [show kd (sR h (chA c) 8 none) (chA c) = kd h (chA c) from rfl, k2] at ke; exact absurd ke (by decide)
      rw [gR_sRn nb] at eb
      rw [gR_sRn ne, gR_sRn ne]
      exact f.2.2.2 b hb kb e eb ke
  have C2 : Cl (sR h' (chA c) 8 none) v' G (leL v) (gH G) := C1.dset (v' := v') f2 hd (w'.fR (by rw [k2']; decide)) (fun q hq => nq q hq) ((Fr.rf v').mono (by simp) (by simp)) (fun c' k1 k3 => .inl ⟨by
    by_cases z : c' = c
    · rw [z, gR_sR, if_pos ⟨rfl, rfl⟩]; simp
    · rw [gR_sR, if_neg (fun y => z (chA_inj.mp y.1))]
      exact fun y => z (a.1.2.1.2.2.2.2 c' c d k1 k3 h1 h2 y r8), fun k _ _ => ⟨rfl, rfl⟩⟩)
  have ff : LF h (sR h' (chA c) 8 none) [d, chA c] := (f.mono (Y := [d, chA c]) (by simp)).tr ((LF.fR (by rw [k2']; decide)).mono (by simp))
  exact a.dr C2 fv (a.2.1.r40 fv (c := c) (fun j hj => (oth j hj 40 (by omega) (by omega)).1) st b43) ff (by simp [hd.1, k2]) (Nat.le_of_eq hz') (Nat.le_of_eq hs')
theorem headC (p : Pre t h v c G false) (st : v.2.1 35 c = 1) (r8 : gR h (chA c) 8 = some d) (e40 : v.2.1 40 c = 1) : HC t h v c (f_X11_takeHead 4 (some (chA c)) (some d) h) (m_head v) := by
  obtain ⟨a, i, e54, h1, h2, hl, ht⟩ := p
  have i0 := i
  obtain ⟨ir, at0, e, r1, r2, r3, r4, r5, r6, r7, r8'⟩ := i
  have hin := ir.2.2.2.2.1.2
  have k5 := ir.1
  have D := (a.1.2.1.2.2.2.1 c h1 h2).2
  rcases D with ⟨-, z⟩ | ⟨d0, b, z1, z2, z3, z4⟩
  · rw [r8] at z; cases z
  rw [r8] at z1
  cases z1
  have z5 : gI h d 4 = -1 ∧ gI h d 6 = 0 ∧ gJ h d 5 = 0 := by
    rcases z4 with ⟨-, q⟩ | ⟨z, -⟩
    · exact q
    · rw [e40] at z; exact absurd z (by decide)
  obtain ⟨g4, g6, g5⟩ := z5
  unfold f_X11_takeHead m_head
  rw [inE a, ltd, e54, r2, r4]
  have hsub : nI e - nI at0 = nI (e - at0) := pk_sub r7
  rw [hsub]
  have bad : ∀ (h1' : AH) (x : Int32), Rd h v h1' v → f_X6_readByte 5 h = some (x, h1') → f_X6_isJustRead 5 h1' = some (0, h1') → HC t h v c (bd (f_X6_readByte 5 h) fun x_5 h_4 => rdR h_4 4 12 0 fun r_6 => nn r_6 fun a_7 => kg h_4 a_7 7 (bd (f_X6_isJustRead a_7 h_4) fun x_10 h_9 => if x_10 = 0 then some (501, h_9) else if x_5 ≤ 6 then nn (some d) fun a_11 => wrI h_9 a_11 5 4 x_5 fun h_12 => if x_5 = 0 then kg h_12 4 12 (bd (f_X11_complete 4 (some (chA c)) (some a_11) h_12) fun x_15 h_14 => some (x_15, h_14)) else some (0, h_12) else some (501, h_9))) (m_head_32 v) := by
    intro h1' x rd e1 e2
    rw [e1, bd_s, inE (a.rd rd), e2, bd_s, if_pos rfl]
    unfold m_head_32
    rw [bdm_id]
    exact HC.rd rd (HC.hard (a.rd rd) (e := 501) (by decide))
  by_cases lt : at0 < e
  · have e1 := rb_lt ir r1 r3 lt r8'
    have rd : Rd h v (sI h 5 3 (nI (at0 + 1))) v := Rd.f3 (.inl rfl)
    have q3 : gI (sI h 5 3 (nI (at0 + 1))) 5 3 = nI (at0 + 1) := by rw [gI_sI, if_pos ⟨rfl, rfl⟩]
    have q4 : gI (sI h 5 3 (nI (at0 + 1))) 5 4 = nI e := by rw [gI_sI, if_neg (by simp)]; exact r3
    have q5 : gI (sI h 5 3 (nI (at0 + 1))) 5 5 = 0 := by rw [gI_sI, if_neg (by simp)]; exact r5
    by_cases one : at0 + 1 = e
    · obtain ⟨-, k, hk, ek⟩ := ir.2.2.2.2.2.2 at0 (by omega)
      rw [if_pos (show nI (e - at0) = (1 : Int32) by rw [show e - at0 = 1 by omega]; rfl), mrI_e (show at0 < 320 by omega) (by decide)]
      rw [e1, ek, bd_s, inE (a.rd rd), jr_t (h := sI h 5 3 (nI (at0 + 1))) (a := at0 + 1) (by exact k5) q3 (by rw [q4, one]) q5, bd_s, if_neg (by decide)]
      refine HC.rd rd ?_
      have a1 := a.rd rd
      generalize hg : sI h 5 3 (nI (at0 + 1)) = g at *
      have r8g : gR g (chA c) 8 = some d := by rw [← hg]; exact r8
      have z2g : DpR g d (v.2.2 41 c) (v.2.2 42 c) b := (z2.fr rd.1.lf (by intro x hx y; simp at hx; rw [hx, k5] at y; simp at y)).1
      have n5 : d ≠ 5 := fun y => by have := z2.1; rw [y, k5] at this; exact absurd this (by decide)
      have gg : gI g d = gI h d := by rw [← hg, gI_sIn n5]
      have gj : gJ g d = gJ h d := by rw [← hg]; rfl
      by_cases le6 : nI k ≤ 6
      · have k6 : k ≤ 6 := by
          rcases Nat.lt_or_ge 6 k with y | y
          · exact absurd le6 (nI_ge (b := k) (a := 6) y (by omega))
          · exact y
        rw [if_pos le6, if_pos le6, nn_s, wrI_e z2g.1, mrI_e (show at0 < 320 by omega) (by decide), ek, msI_e (show c < 4 by omega) (by decide), mA_1, r2, mrI_e (show at0 < 320 by omega) (by decide), mA_k (show 1 ≠ 44 by decide), ek, msI_e (show c < 4 by omega) (by decide), msJ_e (show c < 4 by omega) (by decide), msI_e (show c < 4 by omega) (by decide), mrI_e (show c < 4 by omega) (by decide)]
        have e44 : (mseA (mseJ (mseA (mseA v 44 c (nI k)) 45 c (nI k)) 46 c 0) 40 c 2).2.1 44 c = nI k := by simp [mseA, mseJ, rw1, upd]
        rw [e44]
        have inc : Inc g d := ⟨z2g.1, by rw [gg, g4, g6]; decide⟩
        have fd : LF g (sI g d 4 (nI k)) [d] := LF.fI
        by_cases k0 : k = 0
        · subst k0
          rw [if_pos (show nI 0 = (0 : Int32) from rfl), if_pos (show nI 0 = (0 : Int32) from rfl), kg_e (by exact a1.1.2.1.1.1), bdm_id]
          have k2 : kd (sI g d 4 (nI 0)) (chA c) = 2 := (a1.1.2.1.1.ch h1 h2).1
          rw [cmp_pre k2, mcmp_pre h2]
          have fv : Fr v (mseA (mseA (mseJ (mseA (mseA v 44 c (nI 0)) 45 c (nI 0)) 46 c 0) 40 c 2) 40 c 0) [] [40, 41, 42, 43, 44, 45, 46] := ((((Fr.updA.tr Fr.updA).tr Fr.updJ).tr Fr.updA).tr Fr.updA).mono (by simp) (by simp)
          obtain ⟨A, gr⟩ := a1.fin (v' := mseA (mseA (mseJ (mseA (mseA v 44 c (nI 0)) 45 c (nI 0)) 46 c 0) 40 c 2) 40 c 0) (n := 0) (e := 0) (k := 0) (ct := 0) (b := true) h1 h2 st r8g fd inc a1.1.1.fI (fun q hq => hq) rfl rfl fv (fun c' hc k q1 q2 => by
            have : k = 40 ∨ k = 41 ∨ k = 42 ∨ k = 43 ∨ k = 44 ∨ k = 45 ∨ k = 46 := by omega
            rcases this with y | y | y | y | y | y | y <;> subst y <;> simp [mseA, mseJ, rw1, upd, vp_updL, hc]) (by simp [mseA, rw1, upd]) (a1.2.1.2.2.1.2.2.2.2.1.fr (v' := mseA (mseA (mseJ (mseA (mseA v 44 c (nI 0)) 45 c (nI 0)) 46 c 0) 40 c 2) 40 c 0) (F := []) (A := [44, 45, 46, 40]) (((((Fr.updA.tr Fr.updA).tr Fr.updJ).tr Fr.updA).tr Fr.updA).mono (by simp) (by simp)) (by decide)) rfl
          have eo := outL_fr fv (by decide) (by decide)
          obtain ⟨j1, j2, j3, j4, j5, j6, j7, j8⟩ := z2g
          have nw : d + 1 ≠ d := by omega
          have dr : DrR (sR (sI g d 4 (nI 0)) (chA c) 8 none) d (v.2.2 41 c) (v.2.2 42 c) 0 0 := by
            have nc : d ≠ chA c := fun y => by rw [y] at j1; rw [(a1.1.2.1.1.ch h1 h2).1] at j1; exact absurd j1 (by decide)
            have nc1 : d + 1 ≠ chA c := fun y => by have := j6.1; rw [y, (a1.1.2.1.1.ch h1 h2).1] at this; exact absurd this (by decide)
            refine ⟨j1, j2, j3, by rw [gR_sRn nc]; exact j5, ⟨j6.1, j6.2.1, j6.2.2⟩, by rw [gI_sR, gI_sI, if_pos ⟨rfl, rfl⟩], by rw [gI_sR, gI_sI, if_neg (by simp), gg]; exact g6, by show gJ g d 5 = 0; rw [gj]; exact g5, by omega, j7, j8⟩
          have H := completeH (d := d) (n := 0) (e := v.2.2 41 c) (k := v.2.2 42 c) (ct := 0) (b := b) A h1 h2 (by rw [(fv.2 35 (by decide)).1]; exact st) (by rw [eo]; exact hl) ht (by rw [gR_sR, if_pos ⟨rfl, rfl⟩]) (by simp [mseA, rw1, upd]) dr (by rw [gI_sR, gI_sI, if_neg (by simp)]; exact j4) (by simp [mseA, mseJ, rw1, vp_updL]) (by simp [mseA, mseJ, rw1, vp_updL]) (by simpa [mseA, mseJ, rw1, upd] using z3) (by simp [mseA, mseJ, rw1, upd]) (by simp [mseA, mseJ, rw1, vp_updL])
          obtain ⟨e', h', v', G', y1, y2, y3, y4⟩ := H
          exact ⟨e', h', v', G', by rw [y1, bd_s], y2, (gr.tr y3).mono (by omega) (by omega), y4⟩
        · have nk0 : ¬ nI k = (0 : Int32) := fun y => k0 ((nI_eq (b := 0) (by omega) (by omega)).mp y)
          rw [if_neg nk0, if_neg nk0]
          have fv : Fr v (mseA (mseJ (mseA (mseA v 44 c (nI k)) 45 c (nI k)) 46 c 0) 40 c 2) [] [40, 41, 42, 43, 44, 45, 46] := (((Fr.updA.tr Fr.updA).tr Fr.updJ).tr Fr.updA).mono (by simp) (by simp)
          have oth : ∀ c', c' ≠ c → ∀ j, 40 ≤ j → j ≤ 46 → (mseA (mseJ (mseA (mseA v 44 c (nI k)) 45 c (nI k)) 46 c 0) 40 c 2).2.1 j c' = v.2.1 j c' ∧ (mseA (mseJ (mseA (mseA v 44 c (nI k)) 45 c (nI k)) 46 c 0) 40 c 2).2.2 j c' = v.2.2 j c' := fun c' hc j q1 q2 => by
            have : j = 40 ∨ j = 41 ∨ j = 42 ∨ j = 43 ∨ j = 44 ∨ j = 45 ∨ j = 46 := by omega
            rcases this with y | y | y | y | y | y | y <;> subst y <;> simp [mseA, mseJ, rw1, upd, vp_updL, hc]
          obtain ⟨j1, j2, j3, j4, j5, j6, j7, j8⟩ := z2g
          have D' : ChD (sI g d 4 (nI k)) (mseA (mseJ (mseA (mseA v 44 c (nI k)) 45 c (nI k)) 46 c 0) 40 c 2) c := by
            refine .inr ⟨d, b, r8g, ⟨j1, by rw [gJ_sI, j2]; simp [mseA, mseJ, rw1, vp_updL], by rw [gJ_sI, j3]; simp [mseA, mseJ, rw1, vp_updL], by rw [gI_sI, if_neg (by simp)]; exact j4, j5, (by rw [show (mseA (mseJ (mseA (mseA v 44 c (nI k)) 45 c (nI k)) 46 c 0) 40 c 2).2.2 42 c = v.2.2 42 c by simp [mseA, mseJ, rw1, vp_updL]]; exact j6), by simpa [mseA, mseJ, rw1, vp_updL] using j7, by simpa [mseA, mseJ, rw1, vp_updL] using j8⟩, by simpa [mseA, mseJ, rw1, upd] using z3, .inr ⟨by simp [mseA, rw1, upd], k, k, by omega, by omega, k6, e44, by simp [mseA, mseJ, rw1, upd], by rw [gI_sI, if_pos ⟨rfl, rfl⟩], by rw [gI_sI, if_neg (by simp), gg, g6, Nat.sub_self]; rfl, ?_⟩⟩
            rw [gJ_sI, gj, g5]; simp [mseA, mseJ, rw1, vp_updL]
          have C := a1.1.dset fd inc a1.1.1.fI (fun q hq => hq) fv (fun c' k1 k3 => by
            by_cases z : c' = c
            · subst z; exact .inr D'
            · exact .inl ⟨fun y => z (a1.1.2.1.2.2.2.2 c' c d k1 k3 h1 h2 y r8g), oth c' z⟩)
          obtain ⟨A, gr⟩ := a1.dr C fv (a1.2.1.r40 fv (c := c) (fun j hj => (oth j hj 40 (by omega) (by omega)).1) st (a1.2.1.2.2.1.2.2.2.2.1.fr (F := []) (A := [44, 45, 46, 40]) ((((Fr.updA.tr Fr.updA).tr Fr.updJ).tr Fr.updA).mono (by simp) (by simp)) (by decide))) fd (by simp [j1]) (Nat.le_refl _) (Nat.le_refl _)
          exact ⟨0, _, _, G, rfl, A.mono (by omega), gr.mono (by omega) (by split <;> omega), .inl ⟨rfl, rfl⟩⟩
      · rw [if_neg le6, if_neg le6]
        unfold m_head_32
        rw [bdm_id]
        exact HC.hard a1 (e := 501) (by decide)
    · rw [if_neg (show ¬ nI (e - at0) = (1 : Int32) from fun y => one (by have := (nI_eq (a := e - at0) (b := 1) (by omega) (by omega)).mp y; omega))]
      exact bad _ _ rd e1 (jr_f (h := sI h 5 3 (nI (at0 + 1))) (by exact k5) q3 q4 (by omega) (by omega) (.inr one))
  · have eq : at0 = e := by omega
    rw [if_neg (show ¬ nI (e - at0) = (1 : Int32) from fun y => by have := (nI_eq (a := e - at0) (b := 1) (by omega) (by omega)).mp y; omega)]
    exact bad _ _ (Rd.f3 (.inr rfl)) (rb_eq ir r1 r3 eq r8') (jr_f (h := sI h 5 5 1) (a := at0) (e := e) (by exact k5) (by rw [gI_sI, if_neg (by simp)]; exact r1) (by rw [gI_sI, if_neg (by simp)]; exact r3) (by omega) (by omega) (.inl (by rw [gI_sI, if_pos ⟨rfl, rfl⟩]; decide)))
def bf (f : Nat → Int32) : Int64 → Nat → Nat → Int64
  | x, _, 0 => x
  | x, t, s + 1 => bf f ((x <<< ((8 : Int32).toInt64 &&& 63)) ||| (f t).toInt64) (t + 1) s
theorem bf_congr {f g : Nat → Int32} : ∀ (s : Nat) (x : Int64) (t : Nat), (∀ j, j < t + s → f j = g j) → bf f x t s = bf g x t s := by
  intro s
  induction s with
  | zero => intro x t _; rfl
  | succ s ih =>
    intro x t H
    show bf f _ (t + 1) s = bf g _ (t + 1) s
    rw [H t (by omega)]
    exact ih _ _ (fun j hj => H j (by omega))
def Bw (h h' : AH) (d : Nat) : Prop := hz h' = hz h ∧ hs h' = hs h ∧ kd h' = kd h ∧ ln h' = ln h ∧ gR h' = gR h ∧ (∀ b, b ≠ 5 → b ≠ d → gI h' b = gI h b) ∧ (∀ b, b ≠ d → gJ h' b = gJ h b) ∧ (∀ j, j ≠ 3 → gI h' 5 j = gI h 5 j) ∧ (∀ j, j ≠ 6 → gI h' d j = gI h d j) ∧ ∀ j, j ≠ 5 → gJ h' d j = gJ h d j
theorem Bw.tr {h1 h2 : AH} (a : Bw h h1 d) (b : Bw h1 h2 d) : Bw h h2 d := by
  obtain ⟨a1, a2, a3, a4, a5, a6, a7, a8, a9, a10⟩ := a
  obtain ⟨b1, b2, b3, b4, b5, b6, b7, b8, b9, b10⟩ := b
  exact ⟨b1.trans a1, b2.trans a2, b3.trans a3, b4.trans a4, b5.trans a5, fun x h1 h2 => (b6 x h1 h2).trans (a6 x h1 h2), fun x h1 => (b7 x h1).trans (a7 x h1), fun x h1 => (b8 x h1).trans (a8 x h1), fun x h1 => (b9 x h1).trans (a9 x h1), fun x h1 => (b10 x h1).trans (a10 x h1)⟩
theorem rb_h {a e : Nat} (k5 : kd h 5 = 7) (g1 : gR h 5 1 = some 6) (k6 : kd h 6 = 100) (l6 : ln h 6 = 300) (r3 : gI h 5 3 = nI a) (r4 : gI h 5 4 = nI e) (lt : a < e) (he : e < 300) : f_X6_readByte 5 h = some (gI h 6 a, sI h 5 3 (nI (a + 1))) := by
  unfold f_X6_readByte
  rw [rdI_e k5, rdI_e k5, r3, r4, if_pos (nI_lt lt (by omega)), rdI_e k5, wrI_e k5, r3, nI_1, rdR_e (by exact k5), rdI_e (by exact k5), gR_sI, g1, nn_s, gI_sI, if_pos ⟨rfl, rfl⟩, nI_pred, arI_e (by exact k6) (by rw [ln_sI, l6]; exact inb_nI (by omega) (by omega)), nI_clamp (by omega), gI_sIn (by decide)]
theorem tb27 {e sz : Nat} {r1 : Option Nat} (hsz : sz < 300) (he : e < 300) (n5 : d ≠ 5) (n6 : d ≠ 6) : ∀ (s i f a y : Nat) (x : Int64) (h : AH), kd h 4 = 12 → gR h 4 0 = some 5 → kd h 5 = 7 → gR h 5 1 = some 6 → kd h 6 = 100 → ln h 6 = 300 → kd h d = 5 → gI h 5 3 = nI a → gI h 5 4 = nI e → a + s = e → i + s = sz → s < f → gJ h d 5 = x → gI h d 6 = nI y → ∃ h', f_X11_takeBody_27 f 4 r1 (some d) (nI sz) (nI i) h = f_X11_takeBody_50 4 r1 (some d) h' ∧ Bw h h' d ∧ gI h' 5 3 = nI e ∧ gJ h' d 5 = bf (gI h 6) x a s ∧ gI h' d 6 = nI (y + s) := by
  intro s
  induction s with
  | zero =>
    intro i f a y x h k4 g0 k5 g1 k6 l6 kd' r3 r4 ha hi hf hx hy
    obtain ⟨q, rfl⟩ : ∃ q, f = q + 1 := ⟨f - 1, by omega⟩
    refine ⟨h, ?_, ⟨rfl, rfl, rfl, rfl, rfl, fun _ _ _ => rfl, fun _ _ => rfl, fun _ _ => rfl, fun _ _ => rfl, fun _ _ => rfl⟩, by rw [r3, show a = e by omega], hx, hy⟩
    rw [f_X11_takeBody_27, if_pos (nI_le (by omega) (by omega))]
  | succ s ih =>
    intro i f a y x h k4 g0 k5 g1 k6 l6 kd' r3 r4 ha hi hf hx hy
    obtain ⟨q, rfl⟩ : ∃ q, f = q + 1 := ⟨f - 1, by omega⟩
    have e1 := rb_h k5 g1 k6 l6 r3 r4 (by omega) he
    have B1 : Bw h (sI (sJ (sI h 5 3 (nI (a + 1))) d 5 ((x <<< ((8 : Int32).toInt64 &&& 63)) ||| (gI h 6 a).toInt64)) d 6 (nI (y + 1))) d := by
      refine ⟨rfl, rfl, rfl, rfl, rfl, fun b h1 h2 => ?_, fun b h1 => ?_, fun j hj => ?_, fun j hj => ?_, fun j hj => ?_⟩
      · rw [gI_sIn h2, gI_sJ, gI_sIn h1]
      · rw [gJ_sI, gJ_sJn h1]; rfl
      · rw [gI_sIn n5.symm, gI_sJ, gI_sI, if_neg (by simp [hj])]
      · rw [gI_sI, if_neg (by simp [hj]), gI_sJ, gI_sIn n5]
      · rw [gJ_sI, gJ_sJ, if_neg (by simp [hj])]; rfl
    obtain ⟨h', x1, x2, x3, x4, x5⟩ := ih (i + 1) q (a + 1) (y + 1) ((x <<< ((8 : Int32).toInt64 &&& 63)) ||| (gI h 6 a).toInt64) (sI (sJ (sI h 5 3 (nI (a + 1))) d 5 ((x <<< ((8 : Int32).toInt64 &&& 63)) ||| (gI h 6 a).toInt64)) d 6 (nI (y + 1))) k4 g0 k5 g1 k6 l6 kd' (by rw [gI_sIn n5.symm, gI_sJ, gI_sI, if_pos ⟨rfl, rfl⟩]) (by rw [gI_sIn n5.symm, gI_sJ, gI_sI, if_neg (by simp)]; exact r4) (by omega) (by omega) (by omega) (by rw [gJ_sI, gJ_sJ, if_pos ⟨rfl, rfl⟩]) (by rw [gI_sI, if_pos ⟨rfl, rfl⟩])
    refine ⟨h', ?_, B1.tr x2, x3, ?_, by rw [x5]; congr 1; omega⟩
    · rw [f_X11_takeBody_27, if_neg (nI_ge (by omega) (by omega)), rdR_e k4, g0, nn_s, kg_e k5, e1, bd_s, nn_s, kg_e (by exact kd')]
      unfold f_X4_append
      rw [rdJ_e (by exact kd'), wrJ_e (by exact kd'), rdI_e (by exact kd'), wrI_e (by exact kd'), bd_s, show gJ (sI h 5 3 (nI (a + 1))) d 5 = x from hx, gI_sJ, gI_sIn n5, hy, nI_1, nI_1]
      exact x1
    · rw [x4]
      show bf _ _ (a + 1) s = bf _ _ (a + 1) s
      refine bf_congr s _ _ (fun j _ => ?_)
      rw [gI_sIn n6.symm, gI_sJ, gI_sIn (by decide)]
theorem b47 {e : Nat} (h2 : c ≤ 3) (he : e < 320) : ∀ (s a f : Nat) (x : Int64) (v : MV), a + s = e → v.1 56 = nI e → s < f → v.2.2 46 c = x → ∃ v', m_body_47 f (nI c) (nI a) v = m_body_84 (nI c) v' ∧ Fr v v' [] [46] ∧ (∀ j, j ≠ c → v'.2.2 46 j = v.2.2 46 j) ∧ v'.2.2 46 c = bf (v.2.1 1) x a s ∧ v'.2.1 = v.2.1 := by
  intro s
  induction s with
  | zero =>
    intro a f x v ha e56 hf hx
    obtain ⟨q, rfl⟩ : ∃ q, f = q + 1 := ⟨f - 1, by omega⟩
    refine ⟨v, ?_, (Fr.rf v).mono (by simp) (by simp), fun _ _ => rfl, hx, rfl⟩
    rw [m_body_47, e56, if_pos (nI_le (by omega) (by omega))]
  | succ s ih =>
    intro a f x v ha e56 hf hx
    obtain ⟨q, rfl⟩ : ∃ q, f = q + 1 := ⟨f - 1, by omega⟩
    obtain ⟨v', x1, x2, x3, x4, x5⟩ := ih (a + 1) q ((x <<< ((8 : Int32).toInt64 &&& 63)) ||| (v.2.1 1 a).toInt64) (mseJ v 46 c ((x <<< ((8 : Int32).toInt64 &&& 63)) ||| (v.2.1 1 a).toInt64)) (by omega) e56 (by omega) mJ_s
    refine ⟨v', ?_, (Fr.updJ.tr x2).mono (by simp) (by simp), fun j hj => (x3 j hj).trans (mJ_n hj), x4, x5⟩
    rw [m_body_47, e56, if_neg (nI_ge (by omega) (by omega)), mrJ_e (show c < 4 by omega) (by decide), hx, mrI_e (show a < 320 by omega) (by decide), msJ_e (show c < 4 by omega) (by decide), nI_1]
    exact x1
theorem bodyC (p : Pre t h v c G false) (st : v.2.1 35 c = 1) (r8 : gR h (chA c) 8 = some d) (e40 : v.2.1 40 c = 2) : HC t h v c (f_X11_takeBody 4 (some (chA c)) (some d) h) (m_body v) := by
  obtain ⟨a, i, e54, h1, h2, hl, ht⟩ := p
  obtain ⟨ir, at0, e, r1, r2, r3, r4, r5, r6, r7, r8'⟩ := i
  have hin := ir.2.2.2.2.1.2
  have k5 := ir.1
  have D := (a.1.2.1.2.2.2.1 c h1 h2).2
  rcases D with ⟨-, z⟩ | ⟨d0, b, z1, z2, z3, z4⟩
  · rw [r8] at z; cases z
  rw [r8] at z1
  cases z1
  have z5 : ∃ n l, 1 ≤ l ∧ l ≤ n ∧ n ≤ 6 ∧ v.2.1 44 c = nI n ∧ v.2.1 45 c = nI l ∧ gI h d 4 = nI n ∧ gI h d 6 = nI (n - l) ∧ gJ h d 5 = v.2.2 46 c := by
    rcases z4 with ⟨z, -⟩ | ⟨-, q⟩
    · rw [e40] at z; exact absurd z (by decide)
    · exact q
  obtain ⟨n, l, l1, ln', n6', g44, g45, g4, g6, g5⟩ := z5
  have s0 := a.1.2.1.1
  obtain ⟨j1, j2, j3, j4, j5, j6, j7, j8⟩ := z2
  have n5 : d ≠ 5 := fun y => by rw [y, k5] at j1; exact absurd j1 (by decide)
  have n6 : d ≠ 6 := fun y => by rw [y, ir.2.2.1] at j1; exact absurd j1 (by decide)
  have un : f_X6_unread 5 h = some (nI (e - at0), h) := by
    unfold f_X6_unread
    rw [rdI_e k5, rdI_e k5, r1, r3, pk_sub r7]
  have lk : f_X4_lacks d h = some (nI l, h) := by
    unfold f_X4_lacks
    rw [rdI_e j1, rdI_e j1, g4, g6, pk_sub (by omega), show n - (n - l) = l by omega]
  unfold f_X11_takeBody m_body
  rw [inE a, un, bd_s, ltd, e54, r2, r4]
  by_cases eq : at0 = e
  · rw [if_pos (show nI (e - at0) = (0 : Int32) by rw [eq, Nat.sub_self]; rfl), if_pos (by rw [eq])]
    unfold m_body_34
    rw [bdm_id]
    exact HC.hard a (e := 501) (by decide)
  · have lt : at0 < e := by omega
    rw [if_neg (show ¬ nI (e - at0) = (0 : Int32) from fun y => by have := (nI_eq (a := e - at0) (b := 0) (by omega) (by omega)).mp y; omega), if_neg (fun y => eq ((nI_eq (by omega) (by omega)).mp y).symm), nn_s, kg_e j1, lk, bd_s, mrI_e (show c < 4 by omega) (by decide), g45, pk_sub r7]
    by_cases fit : e - at0 ≤ l
    · rw [if_pos (nI_le fit (by omega)), if_pos (nI_le fit (by omega)), ltd]
      obtain ⟨hb, x1, x2, x3, x4, x5⟩ := tb27 (d := d) (e := e) (sz := e - at0) (r1 := some (chA c)) (by omega) (by omega) n5 n6 (e - at0) 0 FU at0 (n - l) (v.2.2 46 c) h s0.1 s0.2.1 k5 ir.2.1 ir.2.2.1 ir.2.2.2.1 j1 r1 r3 (by omega) (by omega) (by unfold FU; omega) g5 g6
      obtain ⟨vb, y1, y2, y3, y4, y5⟩ := b47 (c := c) (e := e) h2 (by omega) (e - at0) at0 FU (v.2.2 46 c) v (by omega) r4 (by unfold FU; omega) rfl
      have bb : bf (gI h 6) (v.2.2 46 c) at0 (e - at0) = bf (v.2.1 1) (v.2.2 46 c) at0 (e - at0) := bf_congr _ _ _ (fun j hj => (ir.2.2.2.2.2.2 j (by omega)).1)
      rw [bb] at x4
      rw [show (0 : Int32) = nI 0 from rfl, x1, y1]
      -- the inbox moves on; then the draft is written
      have rd : Rd h v (sI h 5 3 (nI e)) v := Rd.f3 (.inl rfl)
      have a1 := a.rd rd
      obtain ⟨b1, b2, b3, b4, b5, b6, b7, b8, b9, b10⟩ := x2
      have fd : LF (sI h 5 3 (nI e)) hb [d] := by
        refine ⟨Nat.le_of_eq b1.symm, fun q _ => ⟨by rw [b3]; rfl, by rw [b4]; rfl⟩, fun q _ hq _ => ⟨?_, ?_, by rw [b5]; rfl⟩, fun _ _ _ q _ _ => by rw [b5]; rfl⟩
        · by_cases z : q = 5
          · subst z
            funext j
            rw [gI_sI]
            by_cases y : j = 3
            · rw [if_pos ⟨rfl, y⟩, y]; exact x3
            · rw [if_neg (fun u => y u.2)]; exact b8 j y
          · rw [gI_sIn z]; exact b6 q z (by simpa using hq)
        · exact b7 q (by simpa using hq)
      have inc : Inc (sI h 5 3 (nI e)) d := ⟨j1, by rw [gI_sIn n5, g4, g6]; exact fun y => by have := (nI_eq (by omega) (by omega)).mp y; omega⟩
      have wb : WH hb := by
        obtain ⟨w1, w2⟩ := a1.1.1
        refine ⟨?_, ?_⟩
        · unfold Wf at w1 ⊢
          rw [b3, b1]; exact w1
        · unfold Own at w2 ⊢
          rw [b3, b5]; exact w2
      have nq : NoQ (sI h 5 3 (nI e)) hb := fun q hq => by rw [b3] at hq; exact hq
      have kb : kd hb d = 5 := by rw [b3]; exact j1
      have hb4 : gI hb d 4 = nI n := by rw [b9 4 (by decide)]; exact g4
      have r8g : gR (sI h 5 3 (nI e)) (chA c) 8 = some d := r8
      have lk2 : f_X4_lacks d hb = some (nI (l - (e - at0)), hb) := by
        unfold f_X4_lacks
        rw [rdI_e kb, rdI_e kb, hb4, x5, pk_sub (by omega)]
        congr 3
        omega
      have v45 : vb.2.1 45 c = nI l := by rw [y5]; exact g45
      unfold f_X11_takeBody_50 m_body_84
      rw [nn_s, kg_e kb, lk2, bd_s, mrI_e (show c < 4 by omega) (by decide), v45, y2.1 56 (by simp), y2.1 55 (by simp), r2, r4, pk_sub r7, pk_sub fit, msI_e (show c < 4 by omega) (by decide), mrI_e (show c < 4 by omega) (by decide), mA_s]
      refine HC.rd rd ?_
      have fvb : Fr v (mseA vb 45 c (nI (l - (e - at0)))) [] [45, 46] := (y2.tr Fr.updA).mono (by simp) (by simp)
      have row2 : ∀ k, k ≠ 46 → (mseA vb 45 c (nI (l - (e - at0)))).2.2 k = v.2.2 k := fun k hk => (fvb.2 k · |>.2) |> fun f => by
        by_cases z : k = 45
        · subst z; show vb.2.2 45 = _; exact (y2.2 45 (by simp)).2
        · exact (fvb.2 k (by simp; omega)).2
      have row1 : ∀ k, k ≠ 45 → (mseA vb 45 c (nI (l - (e - at0)))).2.1 k = v.2.1 k := fun k hk => by rw [mA_k hk, y5]
      have oth : ∀ c', c' ≠ c → ∀ j, 40 ≤ j → j ≤ 46 → (mseA vb 45 c (nI (l - (e - at0)))).2.1 j c' = v.2.1 j c' ∧ (mseA vb 45 c (nI (l - (e - at0)))).2.2 j c' = v.2.2 j c' := fun c' hc j q1 q2 => by
        constructor
        · by_cases z : j = 45
          · subst z; rw [mA_n hc, y5]
          · rw [row1 j z]
        · by_cases z : j = 46
          · subst z; exact y3 c' hc
          · rw [row2 j z]
      by_cases full : l - (e - at0) = 0
      · rw [full, if_pos (show nI 0 = (0 : Int32) from rfl), if_pos (show nI 0 = (0 : Int32) from rfl), kg_e (by rw [b3]; exact s0.1), bdm_id]
        rw [full] at row1 row2 oth fvb
        have k2 : kd hb (chA c) = 2 := by rw [b3]; exact (s0.ch h1 h2).1
        rw [cmp_pre k2, mcmp_pre h2]
        have fv : Fr v (mseA (mseA vb 45 c (nI 0)) 40 c 0) [] [40, 41, 42, 43, 44, 45, 46] := (fvb.tr Fr.updA).mono (by simp) (by simp)
        have e46 : (mseA (mseA vb 45 c (nI 0)) 40 c 0).2.2 46 c = gJ hb d 5 := by rw [x4]; exact y4
        obtain ⟨A, gr⟩ := a1.fin (v' := mseA (mseA vb 45 c (nI 0)) 40 c 0) (n := 0) (e := 0) (k := 0) (ct := 0) (b := true) h1 h2 st r8g fd inc wb nq b1 b2 fv (fun c' hc j q1 q2 => by
          obtain ⟨o1, o2⟩ := oth c' hc j q1 q2
          refine ⟨?_, o2⟩
          by_cases z : j = 40
          · subst z; rw [mA_n hc]; exact o1
          · rw [mA_k z]; exact o1) mA_s (a1.2.1.2.2.1.2.2.2.2.1.fr (v' := mseA (mseA vb 45 c (nI 0)) 40 c 0) (F := []) (A := [45, 46, 40]) ((fvb.tr Fr.updA).mono (by simp) (by simp)) (by decide)) rfl
        have eo := outL_fr fv (by decide) (by decide)
        have nc : d ≠ chA c := fun y => by rw [y, (s0.ch h1 h2).1] at j1; exact absurd j1 (by decide)
        have w42 : (mseA (mseA vb 45 c (nI 0)) 40 c 0).2.2 42 c = v.2.2 42 c := by rw [show (mseA (mseA vb 45 c (nI 0)) 40 c 0).2.2 42 = (mseA vb 45 c (nI 0)).2.2 42 from rfl, row2 42 (by decide)]
        have w41 : (mseA (mseA vb 45 c (nI 0)) 40 c 0).2.2 41 c = v.2.2 41 c := by rw [show (mseA (mseA vb 45 c (nI 0)) 40 c 0).2.2 41 = (mseA vb 45 c (nI 0)).2.2 41 from rfl, row2 41 (by decide)]
        have nw : d + 1 ≠ d := by omega
        have dr : DrR (sR hb (chA c) 8 none) d (v.2.2 41 c) (v.2.2 42 c) n (gJ hb d 5) := by
          refine ⟨kb, by show gJ hb d 0 = _; rw [b10 0 (by decide)]; exact j2, by show gJ hb d 1 = _; rw [b10 1 (by decide)]; exact j3, by rw [gR_sRn nc, b5]; exact j5, ⟨by show kd hb (d + 1) = _; rw [b3]; exact j6.1, by show ln hb (d + 1) = _; rw [b4]; exact j6.2.1, by show ∀ i n, _ → gJ hb (d + 1) i = _; rw [b7 (d + 1) nw]; exact j6.2.2⟩, hb4, by show gI hb d 6 = _; rw [x5]; congr 1; omega, rfl, n6', j7, j8⟩
        have H := completeH (d := d) (n := n) (e := v.2.2 41 c) (k := v.2.2 42 c) (ct := gJ hb d 5) (b := b) A h1 h2 (by rw [(fv.2 35 (by decide)).1]; exact st) (by rw [eo]; exact hl) ht (by rw [gR_sR, if_pos ⟨rfl, rfl⟩]) mA_s dr (by show gI hb d 2 = _; rw [b9 2 (by decide)]; exact j4) w41 w42 (by rw [mA_k (by decide), row1 43 (by decide)]; exact z3) (by rw [mA_k (by decide), row1 44 (by decide)]; exact g44) e46
        obtain ⟨e', h', v', G', u1, u2, u3, u4⟩ := H
        exact ⟨e', h', v', G', by rw [u1, bd_s], u2, (gr.tr u3).mono (by omega) (by omega), u4⟩
      · have nz' : ¬ nI (l - (e - at0)) = (0 : Int32) := fun y => full ((nI_eq (b := 0) (by omega) (by omega)).mp y)
        rw [if_neg nz', if_neg nz']
        have fv : Fr v (mseA vb 45 c (nI (l - (e - at0)))) [] [40, 41, 42, 43, 44, 45, 46] := fvb.mono (by simp) (by simp)
        have D' : ChD hb (mseA vb 45 c (nI (l - (e - at0)))) c := by
          refine .inr ⟨d, b, by rw [b5]; exact r8, ⟨kb, by rw [b10 0 (by decide), row2 41 (by decide)]; exact j2, by rw [b10 1 (by decide), row2 42 (by decide)]; exact j3, by rw [b9 2 (by decide)]; exact j4, by rw [b5]; exact j5, ⟨by rw [b3]; exact j6.1, by rw [b4, row2 42 (by decide)]; exact j6.2.1, by rw [row2 42 (by decide), b7 (d + 1) (by omega)]; exact j6.2.2⟩, by rw [row2 41 (by decide)]; exact j7, by rw [row2 42 (by decide)]; exact j8⟩, by rw [row1 43 (by decide)]; exact z3, .inr ⟨by rw [row1 40 (by decide)]; exact e40, n, l - (e - at0), by omega, by omega, n6', by rw [row1 44 (by decide)]; exact g44, mA_s, hb4, by rw [x5]; congr 1; omega, by rw [x4]; exact y4.symm⟩⟩
        have C := a1.1.dset fd inc wb nq fv (fun c' k1 k3 => by
          by_cases z : c' = c
          · subst z; exact .inr D'
          · exact .inl ⟨fun y => z (a1.1.2.1.2.2.2.2 c' c d k1 k3 h1 h2 y r8g), oth c' z⟩)
        obtain ⟨A, gr⟩ := a1.dr C fv (a1.2.1.r40 fv (c := c) (fun j hj => (oth j hj 40 (by omega) (by omega)).1) st (a1.2.1.2.2.1.2.2.2.2.1.fr fvb (by decide))) fd (by show ∀ x ∈ [d], _; simp [show kd (sI h 5 3 (nI e)) d = 5 from j1]) (Nat.le_of_eq b1) (Nat.le_of_eq b2)
        exact ⟨0, hb, _, G, rfl, A.mono (by omega), gr.mono (by omega) (by split <;> omega), .inl ⟨rfl, rfl⟩⟩
    · rw [if_neg (nI_ge (by omega) (by omega)), if_neg (nI_ge (by omega) (by omega))]
      unfold m_body_34
      rw [bdm_id]
      exact HC.hard a (e := 501) (by decide)
end Hb

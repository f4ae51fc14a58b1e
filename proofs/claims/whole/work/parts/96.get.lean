/-! ===== get and deliver ===== -/
section Gt
variable {t t' : Nat} {h h' h'' h1 h2 : AH} {v v' v3 : MV} {c d : Nat} {G G' : GH} {w : Bool} {F A K : List Nat}
theorem OR.kp (o : OR h v) (p7 : Kp h h' 7) (p8 : Kp h h' 8) (f : Fr v v' F A) (h4 : 4 ∉ F) (h3 : 3 ∉ A) : OR h' v' := by
  obtain ⟨o1, s, o2⟩ := o
  refine ⟨?_, s, ?_⟩
  · unfold OV at *
    rw [outL_fr f h4 h3, f.1 4 h4]
    exact o1
  · rw [outL_fr f h4 h3]; exact o2.kp p7 p8
theorem Al.asm (a : Al h v G t) (f : KF h h' K) (hK : 12 ∉ K ∧ 10 ∉ K ∧ 7 ∉ K ∧ 100 ∉ K) (c1 : Ci h' h'' [7, 8]) (fv : Fr v v3 F A) (hF : 0 ∉ F ∧ 2 ∉ F) (hA : 1 ∉ A) (o : OR h'' v3) (C : Cl h'' v3 G' (leL v3) (gH G')) (V : VI v3 t') : Al h'' v3 G' t' ∧ IK h h'' ∧ v3.1 2 = v.1 2 ∧ v3.1 0 = v.1 0 := by
  have ir := a.2.2.2.2
  have p4 : Kp h h' 4 := f.kp a.1.2.1.1.1 (by decide) (by decide) hK.1
  have p5 : Kp h h' 5 := f.kp ir.1 (by decide) (by decide) hK.2.2.1
  have p6 : Kp h h' 6 := f.kp ir.2.2.1 (by decide) (by decide) hK.2.2.2
  refine ⟨⟨C, V, ?_, o, ?_⟩, IK.tr ⟨by rw [p6.2.2.1], by rw [p5.2.2.1], by rw [p5.2.2.1]⟩ (c1.ik (by decide) (by decide)), fv.1 2 hF.2, fv.1 0 hF.1⟩
  · rw [c1.I (by decide), p4.2.2.1, fv.1 0 hF.1]; exact a.2.2.1
  · obtain ⟨i1, i2, i3, i4, i5, i6, i7⟩ := ir
    refine ⟨by rw [c1.k]; exact p5.k i1, by rw [c1.R, p5.2.2.2.2]; exact i2, by rw [c1.k]; exact p6.k i3, by rw [c1.l, p6.2.1]; exact i4, (i5.fr fv hF.2).1, by rw [c1.I (by decide), p5.2.2.1, fv.1 2 hF.2]; exact i6, fun j hj => ?_⟩
    rw [cN_fr fv hF.2] at hj
    rw [c1.I (by decide), p6.2.2.1, (fv.2 1 hA).1]
    exact i7 j hj
def lat (o : Option Int32) (q : Nat) (h : AH) : AH := match o with
  | none => h
  | some s => sI h q 2 s
theorem takeSeq {j q a0 m : Nat} {x : R_qu} {rest : List Nat} {free : Bool} (a : Al h v G t) (h1' : 1 ≤ c) (h2' : c ≤ 3) (k1 : (gQ G)[j]? = some q) (eW : gW G q = a0 :: rest) (em : v.2.1 38 c = nI m) (hM : (gH G c).length < 60) (ser : Option Int32) : ∃ h1 h', f_Jx4a65c_remove_915e3 (q + 1) (nI 0) h = some (some a0, h1) ∧ (∀ b, kd h b ≠ 999 → kd h1 b = kd h b) ∧ (∀ b, kd h b = 3 → gI h1 b = gI h b ∧ gR h1 b = gR h b) ∧ f_X1_take (chA c) (some a0) (bit free) (lat ser q h1) = some ((), h') ∧ LF h h' [a0, q + 1, q, chA c, chA c + 1] ∧ WH h' ∧ NoQ h h' ∧ LI h' (q + 1) rest ∧ LI h' (chA c + 1) (if free then gH G c else gH G c ++ [a0]) ∧ gI h' a0 2 = gI h a0 2 ∧ gI h' a0 3 = gI h a0 3 ∧ gI h' a0 4 = nI (m + 1) ∧ gR h' a0 = gR h a0 ∧ gI h' q 2 = ser.getD (gI h q 2) ∧ gJ h' q = gJ h q ∧ gR h' q = gR h q ∧ (∀ i, gI h' (chA c) i = if i = 7 then nI (m + 1) else gI h (chA c) i) ∧ gR h' (chA c) = gR h (chA c) ∧ Tr h h' [0, 2, 8, 11] 1 ∧ Sk h' := by
  have ls := a.1.2.2.1
  have kq := (kinds a).2 q (List.mem_of_getElem? k1)
  obtain ⟨m0, m1, m2, m3⟩ := ls.2.2.2.2.2 q kq
  have k8 : kd h a0 = 8 := m3 a0 (by rw [eW]; simp)
  have kc := (a.1.2.1.1.ch h1' h2').1
  have rc := (a.1.2.1.1.ch h1' h2').2.1
  have lh := (ls.2.2.2.2.1 c h1' h2').1
  have s7 : gI h (chA c) 7 = nI m := by rw [(a.1.2.1.2.1.2.2 c h1' h2').2.2.2.2]; exact em
  rw [eW] at m2
  obtain ⟨h1, x1, L1, f1, w1, z1, z2, kx1⟩ := m2.rem a.1.1 (j := 0) (by simp)
  have kd1 : ∀ b, kd h b ≠ 999 → kd h1 b = kd h b := fun b hb => (f1.2.1 b hb).1
  have nq1 : NoQ h h1 := kx1.noq
  have n1 : a0 ≠ q + 1 := fun z => by rw [z, m2.1] at k8; exact absurd k8 (by decide)
  have n2 : q ≠ a0 := fun z => by rw [z, k8] at kq; exact absurd kq (by decide)
  have n3 : chA c ≠ a0 := fun z => by rw [z, k8] at kc; exact absurd kc (by decide)
  have n4 : chA c ≠ q := fun z => by rw [z, kq] at kc; exact absurd kc (by decide)
  have n5 : chA c ≠ q + 1 := fun z => by rw [z, m2.1] at kc; exact absurd kc (by decide)
  have n6 : q ≠ q + 1 := by omega
  have n7 : q ≠ chA c + 1 := fun z => by rw [z, lh.1] at kq; exact absurd kq (by decide)
  have n8 : a0 ≠ chA c + 1 := fun z => by rw [z, lh.1] at k8; exact absurd k8 (by decide)
  have n9 : q + 1 ≠ chA c + 1 := by unfold chA; omega
  have pa := f1.kp k8 (by decide) (by decide) (by simpa using n1)
  have pq := f1.kp kq (by decide) (by decide) (by simp)
  have pc := f1.kp kc (by decide) (by decide) (by simpa using n5)
  have L1 : LI h1 (q + 1) rest := L1
  have lh1 : LI h1 (chA c + 1) (gH G c) := lh.fr f1 (by intro z; simp only [List.mem_singleton] at z; exact n9 z.symm)
  -- latestServed
  have f2 : LF h1 (lat ser q h1) [q] := by
    cases ser with
    | none => exact LF.rf _ _
    | some s => exact LF.fI
  have w2 : WH (lat ser q h1) := by
    cases ser with
    | none => exact w1
    | some s => exact w1.fI
  have kd2 : ∀ b, kd h b ≠ 999 → kd (lat ser q h1) b = kd h b := by
    cases ser with
    | none => exact kd1
    | some s => exact kd1
  have nq2 : NoQ h (lat ser q h1) := by
    cases ser with
    | none => exact nq1
    | some s => exact nq1
  have gI2 : ∀ b, b ≠ q → gI (lat ser q h1) b = gI h1 b := fun b hb => by
    cases ser with
    | none => rfl
    | some s => exact gI_sIn hb
  have gq2 : gI (lat ser q h1) q 2 = ser.getD (gI h q 2) := by
    cases ser with
    | none => show gI h1 q 2 = gI h q 2; rw [pq.2.2.1]
    | some s => show gI (sI h1 q 2 s) q 2 = s; rw [gI_sI, if_pos ⟨rfl, rfl⟩]
  have gJ2 : gJ (lat ser q h1) = gJ h1 := by cases ser <;> rfl
  have gR2 : gR (lat ser q h1) = gR h1 := by cases ser <;> rfl
  have hz2 : hz (lat ser q h1) = hz h := by cases ser <;> exact z1
  have hs2 : hs (lat ser q h1) = hs h := by cases ser <;> exact z2
  generalize hg : lat ser q h1 = g at *
  have kcg : kd g (chA c) = 2 := by rw [kd2 _ (by rw [kc]; decide)]; exact kc
  have k8g : kd g a0 = 8 := by rw [kd2 _ (by rw [k8]; decide)]; exact k8
  have e7 : gI g (chA c) 7 = nI m := by rw [gI2 _ n4, pc.2.2.1]; exact s7
  -- the channel's count, the letter's tag
  have f3 : LF g (sI (sI g (chA c) 7 (nI (m + 1))) a0 4 (nI (m + 1))) [chA c, a0] := LF.trW (LF.fI (h := g) (a := chA c) (k := 7) (x := nI (m + 1))) LF.fI (by simp) (by simp)
  have w3 : WH (sI (sI g (chA c) 7 (nI (m + 1))) a0 4 (nI (m + 1))) := w2.fI.fI
  have L3 : LI (sI (sI g (chA c) 7 (nI (m + 1))) a0 4 (nI (m + 1))) (q + 1) rest := (L1.fr f2 (by simp)).fr f3 (by simp; exact ⟨fun z => n5 z.symm, fun z => n1 z.symm⟩)
  have lh3 : LI (sI (sI g (chA c) 7 (nI (m + 1))) a0 4 (nI (m + 1))) (chA c + 1) (gH G c) := (lh1.fr f2 (by simp; exact fun z => n7 z.symm)).fr f3 (by simp; exact fun z => n8 z.symm)
  have f03 : LF h (sI (sI g (chA c) 7 (nI (m + 1))) a0 4 (nI (m + 1))) [a0, q + 1, q, chA c, chA c + 1] := ((f1.mono (Y := [a0, q + 1, q, chA c, chA c + 1]) (by simp)).tr (f2.mono (by simp))).tr (f3.mono (by simp))
  have skg : Sk g := by
    have s1 := f1.sk a.1.2.1.1 m2.1
    rw [← hg]
    cases ser with
    | none => exact s1
    | some s => exact s1.fr (SkF.fI (by decide))
  have sk3 : Sk (sI (sI g (chA c) 7 (nI (m + 1))) a0 4 (nI (m + 1))) := skg.fr ((SkF.fI (by decide)).tr (SkF.fI (by decide)))
  have unf : f_X1_take (chA c) (some a0) (bit free) g = if free then some ((), sI (sI g (chA c) 7 (nI (m + 1))) a0 4 (nI (m + 1))) else bd (f_Jx4a65c_add_9ea2d (chA c + 1) (some a0) (sI (sI g (chA c) 7 (nI (m + 1))) a0 4 (nI (m + 1)))) fun _ h_9 => some ((), h_9) := by
    unfold f_X1_take
    rw [rdI_e kcg, e7, wrI_e kcg, nI_1, rdI_e (by exact kcg), nn_s, wrI_e (by exact k8g), show gI (sI g (chA c) 7 (nI (m + 1))) (chA c) 7 = nI (m + 1) by rw [gI_sI, if_pos ⟨rfl, rfl⟩]]
    cases free with
    | true => rw [bit_t, if_neg (by decide), if_pos rfl]
    | false => rw [bit_f, if_pos rfl, if_neg (by decide), rdR_e (by exact kcg), show gR (sI (sI g (chA c) 7 (nI (m + 1))) a0 4 (nI (m + 1))) (chA c) 1 = some (chA c + 1) by show gR g (chA c) 1 = _; rw [gR2, pc.2.2.2.2]; exact rc, nn_s, lh3.kgg]
  have ga2 : gI (sI (sI g (chA c) 7 (nI (m + 1))) a0 4 (nI (m + 1))) a0 2 = gI h a0 2 := by rw [gI_sI, if_neg (by simp), gI_sIn n3.symm, gI2 _ n2.symm, pa.2.2.1]
  have ga3 : gI (sI (sI g (chA c) 7 (nI (m + 1))) a0 4 (nI (m + 1))) a0 3 = gI h a0 3 := by rw [gI_sI, if_neg (by simp), gI_sIn n3.symm, gI2 _ n2.symm, pa.2.2.1]
  have ga4 : gI (sI (sI g (chA c) 7 (nI (m + 1))) a0 4 (nI (m + 1))) a0 4 = nI (m + 1) := by rw [gI_sI, if_pos ⟨rfl, rfl⟩]
  have gar : gR (sI (sI g (chA c) 7 (nI (m + 1))) a0 4 (nI (m + 1))) a0 = gR h a0 := by show gR g a0 = _; rw [gR2, pa.2.2.2.2]
  have gqq : gI (sI (sI g (chA c) 7 (nI (m + 1))) a0 4 (nI (m + 1))) q 2 = ser.getD (gI h q 2) := by rw [gI_sIn n2, gI_sIn n4.symm]; exact gq2
  have gqj : gJ (sI (sI g (chA c) 7 (nI (m + 1))) a0 4 (nI (m + 1))) q = gJ h q := by show gJ g q = _; rw [gJ2, pq.2.2.2.1]
  have gqr : gR (sI (sI g (chA c) 7 (nI (m + 1))) a0 4 (nI (m + 1))) q = gR h q := by show gR g q = _; rw [gR2, pq.2.2.2.2]
  have gcc : ∀ i, gI (sI (sI g (chA c) 7 (nI (m + 1))) a0 4 (nI (m + 1))) (chA c) i = if i = 7 then nI (m + 1) else gI h (chA c) i := fun i => by
    rw [gI_sIn n3, gI_sI, gI2 _ n4, pc.2.2.1]
    simp
  have gcr : gR (sI (sI g (chA c) 7 (nI (m + 1))) a0 4 (nI (m + 1))) (chA c) = gR h (chA c) := by show gR g (chA c) = _; rw [gR2, pc.2.2.2.2]
  have k13 : ∀ b, kd h b = 3 → gI h1 b = gI h b ∧ gR h1 b = gR h b := fun b hb => by
    have := f1.kp hb (by decide) (by decide) (by intro z; simp at z; rw [z, m2.1] at hb; exact absurd hb (by decide))
    exact ⟨this.2.2.1, this.2.2.2.2⟩
  have kin : ∀ y ∈ [a0, q + 1, q, chA c, chA c + 1], kd h y ∈ [0, 2, 8, 11] ∨ kd h y = 999 := by simp [k8, m2.1, kq, kc, lh.1]
  cases free with
  | true =>
    refine ⟨h1, _, x1, kd1, k13, by rw [hg, unf, if_pos rfl], f03, w3, fun b hb => nq2 b hb, L3, lh3, ga2, ga3, ga4, gar, gqq, gqj, gqr, gcc, gcr, ⟨f03.kf kin, ?_, ?_⟩, sk3⟩
    · show hz g ≤ _; omega
    · show hs g ≤ _; omega
  | false =>
    obtain ⟨h', y1, L4, f4, w4, z5, z6, kx4⟩ := lh3.add (x := a0) w3 hM (by show 0 < kd g a0 ∧ kd g a0 < 14; omega)
    have p4a := f4.kp (show kd (sI (sI g (chA c) 7 (nI (m + 1))) a0 4 (nI (m + 1))) a0 = 8 from k8g) (by decide) (by decide) (by simpa using n8)
    have p4q := f4.kp (show kd (sI (sI g (chA c) 7 (nI (m + 1))) a0 4 (nI (m + 1))) q = 11 by show kd g q = 11; rw [kd2 _ (by rw [kq]; decide)]; exact kq) (by decide) (by decide) (by simpa using n7)
    have p4c := f4.kp (show kd (sI (sI g (chA c) 7 (nI (m + 1))) a0 4 (nI (m + 1))) (chA c) = 2 from kcg) (by decide) (by decide) (by simp)
    have f04 := f03.tr (f4.mono (by simp))
    have zz : hz (sI (sI g (chA c) 7 (nI (m + 1))) a0 4 (nI (m + 1))) = hz h := hz2
    have ss : hs (sI (sI g (chA c) 7 (nI (m + 1))) a0 4 (nI (m + 1))) = hs h := hs2
    refine ⟨h1, h', x1, kd1, k13, by rw [hg, unf, if_neg (by decide), y1, bd_s], f04, w4, fun b hb => nq2 b (kx4.noq b hb), L3.fr f4 (by simpa using n9), L4, by rw [p4a.2.2.1]; exact ga2, by rw [p4a.2.2.1]; exact ga3, by rw [p4a.2.2.1]; exact ga4, by rw [p4a.2.2.2.2]; exact gar, by rw [p4q.2.2.1]; exact gqq, by rw [p4q.2.2.2.1]; exact gqj, by rw [p4q.2.2.2.2]; exact gqr, fun i => by rw [p4c.2.2.1]; exact gcc i, by rw [p4c.2.2.2.2]; exact gcr, ⟨f04.kf kin, by omega, by omega⟩, f4.sk sk3 lh3.1⟩
theorem tell_j {v0 : MV} {ps : List Int32} {cc : Int32} {a0 k n : Nat} {b : Bool} {e kk : Int64} (o : OJ h v0 v ps cc) (h2' : c ≤ 3) (k8 : kd h a0 = 8) (g4 : gI h a0 4 = nI n) (hn : n < 65536) (g3 : gI h a0 3 = bit b) (r0 : gR h a0 0 = some d) (kd5 : kd h d = 5) (j0 : gJ h d 0 = e) (j1 : gJ h d 1 = kk) (ne : NmO e) (nk : NmO kk) (na : a0 ∉ [7, 8]) (hk : k < 24) (e38 : v.2.1 38 c = nI n) (e30 : v.2.1 30 k = bit b) (e31 : v.2.2 31 k = e) (e32 : v.2.2 32 k = kk) (hl : (outL v0).length + ps.length + 30 ≤ 2400) : ∃ h' v' ps', f_X9_putLetter 7 (some a0) h = some ((), h') ∧ m_tell (nI k) (nI c) v = some ((), v') ∧ OJ h' v0 v' (ps ++ ps') cc ∧ ps'.length ≤ 21 ∧ Ci h h' [7, 8] ∧ Fr v v' [4, 61] [3] := by
  have l1 := nmO_le e
  have l2 := nmO_le kk
  obtain ⟨ha, va, x1, x2, x3, x4, x5⟩ := short_j o hn (by omega)
  obtain ⟨hb, vb, y1, y2, y3, y4, y5⟩ := put_j x3 (x := bit b) (by cases b <;> decide) (by simp [shO]; omega)
  obtain ⟨hc, vc, z1, z2, z3, z4, z5⟩ := name_j y3 (x := e) ne.pos (by simp [shO]; omega)
  obtain ⟨hd, vd, u1, u2, u3, u4, u5⟩ := name_j z3 (x := kk) nk.pos (by simp [shO]; omega)
  have ca := x4
  have cb := x4.tr y4
  have cc' := cb.tr z4
  refine ⟨hd, vd, shO (nI n) ++ [bit b] ++ nmO e ++ nmO kk, ?_, ?_, by simpa using u3, by simp [shO]; omega, cc'.tr u4, (((x5.tr y5).tr z5).tr u5).mono (by simp) (by simp)⟩
  · unfold f_X9_putLetter
    rw [nn_s, rdI_e k8, g4, kg_e o.k7, x1, bd_s, rdI_e (by rw [ca.k]; exact k8), ca.I na, g3]
    have e21 : (if bit b = 0 then f_X9_putLetter_21 7 (some a0) 0 (some 7) ha else f_X9_putLetter_21 7 (some a0) 1 (some 7) ha) = f_X9_putLetter_21 7 (some a0) (bit b) (some 7) ha := by
      cases b with
      | true => rw [bit_t, if_neg (by decide)]
      | false => rw [bit_f, if_pos rfl]
    rw [e21]
    unfold f_X9_putLetter_21
    rw [nn_s, kg_e x3.k7, y1, bd_s, nn_s, rdR_e (by rw [cb.k]; exact k8), cb.R, r0, nn_s, rdJ_e (by rw [cb.k]; exact kd5), cb.2.2.2.2.1, j0, kg_e y3.k7, z1, bd_s, rdR_e (by rw [cc'.k]; exact k8), cc'.R, r0, nn_s, rdJ_e (by rw [cc'.k]; exact kd5), cc'.2.2.2.2.1, j1, kg_e z3.k7, u1, bd_s]
  · unfold m_tell
    rw [mrI_e (show c < 4 by omega) (by decide), e38, x2, bdm_s, mrI_e (show k < 24 from hk) (by decide), show va.2.1 30 k = bit b by rw [(x5.2 30 (by decide)).1]; exact e30]
    have e21 : (if bit b = 0 then m_tell_25 (nI k) 0 va else m_tell_25 (nI k) 1 va) = m_tell_25 (nI k) (bit b) va := by
      cases b with
      | true => rw [bit_t, if_neg (by decide)]
      | false => rw [bit_f, if_pos rfl]
    rw [e21]
    unfold m_tell_25
    rw [y2, bdm_s, mrJ_e (show k < 24 from hk) (by decide), show vb.2.2 31 k = e by rw [(y5.2 31 (by decide)).2, (x5.2 31 (by decide)).2]; exact e31, z2, bdm_s, mrJ_e (show k < 24 from hk) (by decide), show vc.2.2 32 k = kk by rw [(z5.2 32 (by decide)).2, (y5.2 32 (by decide)).2, (x5.2 32 (by decide)).2]; exact e32, u2, bdm_s]
theorem takeM {k n : Nat} {free : Bool} {A B : List R_le} {r : R_le} (h2' : c ≤ 3) (h24 : CV v 24 24) (b30 : Bo v 30) (e : leL v = A ++ r :: B) (hk : k = A.length) (e38 : v.2.1 38 c = nI n) : ∃ v', m_take (nI k) (nI c) (bit free) v = some ((), v') ∧ leL v' = A ++ tkO free r c n ++ B ∧ ReF v v' := by
  subst hk
  have he : (leL v)[A.length]? = some r := by rw [e]; simp
  obtain ⟨hk, er⟩ := le_lt he
  have hN := h24.2
  unfold m_take tkO
  cases free with
  | true =>
    obtain ⟨v', y1, y2, y3, y4, y5, y6⟩ := le_rm h24 b30 hk
    refine ⟨v', ?_, ?_, y5, y3, y6⟩
    · rw [bit_t, if_neg (by decide), y1, bdm_s]
    · rw [y2, e, erase_mid]; rfl
  | false =>
    refine ⟨mseA (mseA v 28 A.length (nI c)) 29 A.length (nI n), ?_, ?_, ?_, h24, ?_⟩
    · rw [bit_f, if_pos rfl, msI_e (show A.length < 24 by omega) (by decide), mrI_e (show c < 4 by omega) (by decide), mA_k (by decide), e38, msI_e (show A.length < 24 by omega) (by decide)]
    · rw [leL_set (v := v) (v' := mseA (mseA v 28 A.length (nI c)) 29 A.length (nI n)) (k := A.length) hk rfl (fun j hj => by simp [leAt, mseA, rw1, upd, hj]) rfl, e, set_mid, er]
      simp [leAt, mseA, rw1, upd]
    · exact ⟨fun _ _ => rfl, fun j hj => ⟨by rw [mA_k (fun z => hj (by rw [z]; decide)), mA_k (fun z => hj (by rw [z]; decide))], rfl⟩⟩
    · exact (b30.fr ((Fr.updA (k := 28) (i := A.length) (x := nI c)).tr (Fr.updA (k := 29) (i := A.length) (x := nI n))) (by decide))
theorem first_split {p : R_le → Bool} : ∀ {M : List R_le} {k : Nat}, M.findIdx? p = some k → ∃ A r B, M = A ++ r :: B ∧ k = A.length ∧ (∀ y ∈ A, p y = false) ∧ p r = true := by
  intro M
  induction M with
  | nil => intro k h; simp at h
  | cons y M ih =>
    intro k h
    rw [List.findIdx?_cons] at h
    cases hp : p y with
    | true =>
      rw [hp] at h
      simp at h
      exact ⟨[], y, M, rfl, h.symm, by simp, hp⟩
    | false =>
      rw [hp] at h
      simp at h
      obtain ⟨k', h1, h2⟩ := h
      obtain ⟨A, r, B, e1, e2, e3, e4⟩ := ih h1
      exact ⟨y :: A, r, B, by rw [e1]; rfl, by simp [← h2, e2], fun z hz' => by
        rcases List.mem_cons.mp hz' with u | u
        · rw [u]; exact hp
        · exact e3 z u, e4⟩
theorem set_id {α : Type} {l : List α} {j : Nat} {x : α} (e : l[j]? = some x) : l.set j x = l := by
  apply List.ext_getElem?
  intro i
  rw [List.getElem?_set]
  by_cases z : j = i
  · subst z; rw [if_pos rfl, if_pos (List.getElem?_eq_some_iff.mp e).1, e]
  · rw [if_neg z]
/-- the reference's letters that wait -/
def wtN (v : MV) : Nat := (leL v).countP (fun r => decide (r.2.2.1 = 0))
theorem fin_take {j q a0 m k o : Nat} {x : R_qu} {s : Int32} {rest : List Nat} {A B : List R_le} {r : R_le} {free : Bool} {v1 v2 : MV} {F1 : List Nat} (a : Al h v G t) (h1' : 1 ≤ c) (h2' : c ≤ 3) (st : v.2.1 35 c = 1) (ht : t < 65536) (k1 : (gQ G)[j]? = some q) (k2 : (quL v)[j]? = some x) (eM : leL v = A ++ r :: B) (hk : k = A.length) (hA : ∀ y ∈ A, qW x.2.1 y = false) (hr : qW x.2.1 r = true) (eW : gW G q = a0 :: rest) (em : v.2.1 38 c = nI m) (hm : m ≤ t) (f : LF h h' [a0, q + 1, q, chA c, chA c + 1]) (w' : WH h') (nq : NoQ h h') (Lq : LI h' (q + 1) rest) (Lh : LI h' (chA c + 1) (if free then gH G c else gH G c ++ [a0])) (g2 : gI h' a0 2 = gI h a0 2) (g3 : gI h' a0 3 = gI h a0 3) (g4 : gI h' a0 4 = nI (m + 1)) (gr : gR h' a0 = gR h a0) (gq : gI h' q 2 = s) (gqj : gJ h' q = gJ h q) (gqr : gR h' q = gR h q) (gc : ∀ i, gI h' (chA c) i = if i = 7 then nI (m + 1) else gI h (chA c) i) (gcr : gR h' (chA c) = gR h (chA c)) (T : Tr h h' [0, 2, 8, 11] 1) (fv1 : Fr v v1 [] [12, 38]) (e38 : v1.2.1 38 c = nI (m + 1)) (o38 : ∀ i, i ≠ c → v1.2.1 38 i = v.2.1 38 i) (eQ : quL v1 = (quL v).set j (x.1, x.2.1, s)) (o2 : OR h'' v2) (c2 : Ci h' h'' [7, 8]) (fv2 : Fr v1 v2 [4, 61] [3]) (ol : (outL v2).length ≤ (outL v).length + o) : ∃ v3 G', m_take (nI k) (nI c) (bit free) v2 = some ((), v3) ∧ Al h'' v3 G' (t + 1) ∧ Gr h v h'' v3 1 o ∧ wtN v3 + 1 = wtN v := by
  have V := a.2.1
  have f02 : Fr v v2 [4, 61] [12, 38, 3] := (fv1.tr fv2).mono (by simp) (by simp)
  have l2 : leL v2 = A ++ r :: B := by rw [leL_fr f02 (by decide) (by decide) (by decide) (by decide) (by decide) (by decide) (by decide) (by decide) (by decide) (by decide)]; exact eM
  obtain ⟨v3, y1, y2, y3⟩ := takeM (free := free) (k := k) (n := m + 1) h2' (V.1.2.2.2.2.1.fr f02 (by decide)).1 (V.2.2.1.2.1.fr f02 (by decide)) l2 hk (by rw [(fv2.2 38 (by decide)).1]; exact e38)
  have f03 : Fr v v3 [24, 4, 61] (lrw ++ [12, 38, 3]) := (f02.tr y3.1).mono (by decide) (by decide)
  have qv3 : quL v3 = (quL v).set j (x.1, x.2.1, s) := by rw [quL_le y3, quL_fr fv2 (by decide) (by decide) (by decide) (by decide)]; exact eQ
  have C0 : Cl h v G (A ++ r :: B) (gH G) := by rw [← eM]; exact a.1
  have C := C0.take (v' := v3) (n := m + 1) (free := free) h1' h2' k1 k2 V.1.2.2.2.2.2.2.2.2.2.1 hA hr eW f w' nq Lq Lh g2 g3 g4 gr gq gqj gqr gc gcr f03 (by decide) (by decide) (by rw [(y3.1.2 38 (by decide)).1, (fv2.2 38 (by decide)).1]; exact e38) (fun i hi => by rw [(y3.1.2 38 (by decide)).1, (fv2.2 38 (by decide)).1]; exact o38 i hi) qv3
  rw [← y2] at C
  have o7 : kd h' 7 = 10 ∧ kd h' 8 = 100 := ⟨T.1.kk a.2.2.2.1.kk.1 (by decide), T.1.kk a.2.2.2.1.kk.2 (by decide)⟩
  have C2 := C.ci o7 c2
  have o3 : OR h'' v3 := o2.fr (LF.rf h'' []) y3.1 (by simp) (by simp) (by decide) (by decide)
  -- the reference's own facts
  have r0 : r.2.2.1 = 0 := by simp only [qW, decide_eq_true_eq] at hr; exact hr.2
  have sQ : ∀ y ∈ quL v1, ∃ z ∈ quL v, z.1 = y.1 ∧ z.2.1 = y.2.1 := fun y hy => by
    rw [eQ] at hy
    obtain ⟨i, hi, ei⟩ := List.mem_iff_getElem.mp hy
    obtain ⟨b0, u1, u2, u3, -, -⟩ := set_get k2 (show ((quL v).set j (x.1, x.2.1, s))[i]? = some y by rw [List.getElem?_eq_getElem hi, ei])
    exact ⟨b0, List.mem_of_getElem? u1, u2.symm, u3.symm⟩
  have V1 : VI v1 (t + 1) := by
    obtain ⟨⟨a1, a2, a3, a4, a5, a6, a7, a8, a9, a10, a11, a12⟩, ⟨n, b1, b2, b3, b4, b5, m', b6, b7, b8⟩, ⟨c1, c2, c3, c4, c5, c6, c7⟩, d, e0, e⟩ := V
    have xv : exL v1 = exL v := exL_fr fv1 (by decide) (by decide) (by decide)
    have cv : coL v1 = coL v := coL_fr fv1 (by decide) (by decide) (by decide) (by decide) (by decide) (by decide)
    have lv : leL v1 = leL v := leL_fr fv1 (by decide) (by decide) (by decide) (by decide) (by decide) (by decide) (by decide) (by decide) (by decide) (by decide)
    have mp1 : (quL v1).map (fun r => r.1) = (quL v).map (fun r => r.1) := by
      rw [eQ, List.map_set]
      exact set_id (show ((quL v).map (fun r => r.1))[j]? = some x.1 from map_get (f := fun r : R_qu => r.1) k2)
    have mp2 : (quL v1).map (fun r => r.2.1) = (quL v).map (fun r => r.2.1) := by
      rw [eQ, List.map_set]
      exact set_id (show ((quL v).map (fun r => r.2.1))[j]? = some x.2.1 from map_get (f := fun r : R_qu => r.2.1) k2)
    refine ⟨⟨(a1.fr fv1 (by decide)).1, (a2.fr fv1 (by decide)).1, (a3.fr fv1 (by decide)).1, (a4.fr fv1 (by decide)).1, (a5.fr fv1 (by decide)).1, by rw [xv]; exact a6, by rw [xv]; exact a7, by rw [xv]; exact a8, by rw [mp1]; exact a9, by rw [mp2]; exact a10, ?_, by rw [cv]; exact a12⟩, ⟨n, by rw [fv1.1 9 (by simp)]; exact b1, by omega, ?_, by rw [cv]; exact b4, by rw [lv]; exact b5, m', by rw [fv1.1 25 (by simp)]; exact b6, by omega, by rw [lv]; exact b8⟩, ⟨c1.fr fv1 (by decide), c2.fr fv1 (by decide), c3.fr fv1 (by decide), c4.fr fv1 (by decide), c5.fr fv1 (by decide), c6.fr fv1 (by decide), c7.fr fv1 (by decide)⟩, ?_, by rw [(fv1.2 35 (by decide)).1]; exact e0, ?_⟩
    · intro y hy
      obtain ⟨z, hz', z1, z2⟩ := sQ y hy
      rw [← z1]; exact a11 z hz'
    · intro y hy
      obtain ⟨z, hz', z1, z2⟩ := sQ y hy
      rw [← z2]; exact b3 z hz'
    · unfold ViM
      rw [lv]
      intro y hy
      obtain ⟨d1, d2⟩ := d y hy
      refine ⟨d1, fun z => ?_⟩
      obtain ⟨x', hx', ex'⟩ := d2 z
      have : x'.2.1 ∈ (quL v1).map (fun r => r.2.1) := by rw [mp2]; exact List.mem_map.mpr ⟨x', hx', rfl⟩
      obtain ⟨y', hy', ey'⟩ := List.mem_map.mp this
      exact ⟨y', hy', by rw [ey']; exact ex'⟩
    · intro c' e1 e2
      rw [(fv1.2 35 (by decide)).1, (fv1.2 36 (by decide)).1, (fv1.2 39 (by decide)).1, (fv1.2 40 (by decide)).1, (fv1.2 47 (by decide)).1, lv, cv]
      obtain ⟨g1, g2, ⟨gg, g3, g3'⟩, g4, g5⟩ := e c' e1 e2
      by_cases z : c' = c
      · subst z
        exact ⟨g1, g2, ⟨m + 1, by omega, e38⟩, g4, g5⟩
      · rw [o38 c' z]
        exact ⟨g1, g2, ⟨gg, by omega, g3'⟩, g4, g5⟩
  have V2 : VI v2 (t + 1) := V1.o fv2 (by decide) (by decide)
  have V3 : VI v3 (t + 1) := V2.le y3 (fun r' hr' => by
    rw [y2] at hr'
    rw [l2]
    rcases List.mem_append.mp hr' with z | z
    · rcases List.mem_append.mp z with z | z
      · exact ⟨r', by simp [z], rfl, rfl, .inl rfl⟩
      · refine ⟨r, by simp, ?_⟩
        unfold tkO at z
        cases free with
        | true => simp at z
        | false =>
          simp at z
          rw [z]
          exact ⟨rfl, rfl, .inr (.inr ⟨c, h1', h2', rfl, by rw [(f02.2 35 (by decide)).1]; exact st⟩)⟩
    · exact ⟨r', by simp [z], rfl, rfl, .inl rfl⟩)
  obtain ⟨A', i2, i3, i4⟩ := a.asm T.1 (by decide) c2 f03 (by decide) (by decide) o3 C2 V3
  have kp := KP_fr f03 (by decide)
  obtain ⟨-, t2, t3⟩ := T
  refine ⟨v3, _, y1, A', ⟨i2, ?_, ?_, ?_, i3, i4⟩, ?_⟩
  · rw [kp, c2.1]; omega
  · rw [kp, c2.2.1]; omega
  · rw [outL_fr y3.1 (by decide) (by decide)]; exact ol
  · unfold wtN
    rw [y2, eM]
    have : (tkO free r c (m + 1)).countP (fun r => decide (r.2.2.1 = 0)) = 0 := by
      unfold tkO
      cases free with
      | true => rfl
      | false =>
        have : nI c ≠ 0 := fun z => ne0c h1' h2' z.symm
        simp [this]
    simp only [List.countP_append, List.countP_cons, this]
    simp [r0]
    omega
theorem wt_split {j q : Nat} {x : R_qu} (a : Al h v G t) (k1 : (gQ G)[j]? = some q) (k2 : (quL v)[j]? = some x) : ((leL v).findIdx? (qW x.2.1) = none ∧ gW G q = []) ∨ ∃ k A r B a0 rest, (leL v).findIdx? (qW x.2.1) = some k ∧ leL v = A ++ r :: B ∧ k = A.length ∧ (∀ y ∈ A, qW x.2.1 y = false) ∧ qW x.2.1 r = true ∧ gW G q = a0 :: rest ∧ LeR h (gQ G) (quL v) a0 r ∧ rest.length + 1 = (leL v).countP (qW x.2.1) := by
  have F := a.1.2.2.2.1.2.1 j q x k1 k2
  have wl := wt_len a k1 k2
  cases hf : (leL v).findIdx? (qW x.2.1) with
  | none =>
    left
    refine ⟨rfl, ?_⟩
    have : (leL v).filter (qW x.2.1) = [] := List.filter_eq_nil_iff.mpr (fun r hr => by rw [fi_none hf r hr]; decide)
    rw [this] at F
    exact List.eq_nil_of_length_eq_zero F.1
  | some k =>
    right
    obtain ⟨A, r, B, e1, e2, e3, e4⟩ := first_split hf
    rw [e1, filT e4, show A.filter (qW x.2.1) = [] from List.filter_eq_nil_iff.mpr (fun y hy => by rw [e3 y hy]; decide), List.nil_append] at F
    cases hw : gW G q with
    | nil => rw [hw] at F; have := F.1; simp at this
    | cons a0 rest =>
      rw [hw] at F
      refine ⟨k, A, r, B, a0, rest, rfl, e1, e2, e3, e4, rfl, F.tl.1, ?_⟩
      have : (gW G q).length = (leL v).countP (qW x.2.1) := wl
      rw [hw] at this
      exact this
theorem hl60 (a : Al h v G t) (h1' : 1 ≤ c) (h2' : c ≤ 3) : (gH G c).length < 60 := by
  have := hl_24 a.1 h1' h2'
  rw [leL_len] at this
  have := a.2.1.1.2.2.2.2.1.2
  omega
theorem getC (p : Pre t h v c G w) (st : v.2.1 35 c = 1) : HC t h v c (f_X11_get 4 (some (chA c)) h) (m_get v) := by
  have e54 := p.2.2.1
  have a0' := p.1
  unfold f_X11_get m_get
  obtain ⟨qn, ha, va, wa, x1, x2, x4, x5, x6⟩ := name_ok p.2.1
  have pa := p.rd x5 x4
  obtain ⟨f, hd, vd, wd, z1, z2, z4, z5, z6⟩ := flag_ok pa.2.1
  have pd := pa.rd z5 z4
  obtain ⟨a, i, e54d, h1', h2', hl, ht⟩ := pd
  have lq := lkQ a qn
  have qr : ∃ ro, f_X8_queueNamed 9 qn hd = some (ro, hd) := by
    rcases lq with ⟨q, -⟩ | ⟨_, e, _, q, -⟩
    · exact ⟨_, q⟩
    · exact ⟨_, q⟩
  obtain ⟨ro, qro⟩ := qr
  have st : vd.2.1 35 c = 1 := by rw [(z5.2.1.2 35 (by decide)).1, (x5.2.1.2 35 (by decide)).1]; exact st
  rw [oiE a0', ltd, e54, x1, bd_s, nn_s, kg_e pa.1.1.2.1.1.k9, quN_rd pa.1 z5 qro, bd_s, inE pa.1, z1, bd_s, inE a, x2, bdm_s, z2, bdm_s]
  refine HC.rd (x5.tr z5) ?_
  refine just_hc ⟨a, i, e54d, h1', h2', hl, ht⟩ (fun w0 => ?_)
  rcases lq with ⟨q1, q2, q3⟩ | ⟨iq, q, x, q1, q2, q3, q4, q5, q6, q7⟩
  · rw [qro] at q1
    cases q1
    rw [nb_n, q2, bdm_s, if_neg (by decide), bdm_id]
    exact HC.soft a h1' h2' (e := 404) (by decide)
  · rw [qro] at q1
    cases q1
    obtain ⟨hiq, ex⟩ := qu_k q4
    have kq := (kinds a).2 q (List.mem_of_getElem? q3)
    obtain ⟨m0, m1, m2, m3⟩ := a.1.2.2.1.2.2.2.2.2 q kq
    have fo : m_firstOf x.2.1 vd = some (fiR 0 ((leL vd).findIdx? (qW x.2.1)), vd) := firstOf_ok a.2.1.1.2.2.2.2.1 x.2.1
    rw [nb_s, q2, bdm_s, if_pos (nI_pos' (show iq < 2 ^ 31 by omega)), mrI_e (show iq < 5 by omega) (by decide), show vd.2.1 11 iq = x.2.1 by rw [ex], rdR_e kq, m1, nn_s, m2.kgg, m2.emp, bd_s, fo, bdm_s]
    rcases wt_split a q3 q4 with ⟨u1, u2⟩ | ⟨k, A, r, B, b0, rest, u1, u2, u3, u4, u5, u6, u7, u8⟩
    · rw [u1, u2, show ([] : List Nat).isEmpty = true from rfl, bit_t, if_neg (by decide), show fiR 0 none = (-1 : Int32) from rfl, if_neg (by decide), teN a h1' h2']
      exact HC.say (Gr.rf hd vd) (by omega) (by omega) (a.mono (by omega)) h2' (by decide) (by decide) hl
    · have k24 : k < 24 := by
        have := a.2.1.1.2.2.2.2.1.2
        have ll := leL_len vd
        rw [u2, List.length_append, List.length_cons] at ll
        omega
      rw [u1, u6, show (b0 :: rest).isEmpty = false from rfl, bit_f, if_pos rfl, fiR_s, if_pos (nI_pos' (show k < 2 ^ 31 by omega)), rdR_e kq, m1, nn_s, m2.kgg]
      obtain ⟨-, -, ⟨m, hm, em⟩, -, -⟩ := a.2.1.2.2.2.2.2 c h1' h2'
      obtain ⟨hr1, hx, s1, s2, s3, s4, s5, s6, s7, s8, s9, s10, s11, s12, s13, s14, s15, s16, s17, s18, s19, s20⟩ := takeSeq (x := x) (free := f) a h1' h2' q3 u6 em (hl60 a h1' h2') none
      have s1 : f_Jx4a65c_remove_915e3 (q + 1) 0 hd = some (some b0, hr1) := s1
      have k8 := u7.1
      have k8r : kd hr1 b0 = 8 := by rw [s2 _ (by rw [k8]; decide)]; exact k8
      have kc := (a.1.2.1.1.ch h1' h2').1
      have kcr : kd hr1 (chA c) = 2 := by rw [s2 _ (by rw [kc]; decide)]; exact kc
      have s4 : f_X1_take (chA c) (some b0) (bit f) hr1 = some ((), hx) := s4
      obtain ⟨hb30, d, n', r0, e33, dr⟩ : (∃ b : Bool, r.2.2.2.2.1 = bit b) ∧ ∃ d n', gR hd b0 0 = some d ∧ r.2.2.2.2.2.2.2.1 = nI n' ∧ DrR hd d r.2.2.2.2.2.1 r.2.2.2.2.2.2.1 n' r.2.2.2.2.2.2.2.2 := by
        refine ⟨?_, u7.2.2.2.2.1⟩
        obtain ⟨-, er⟩ := le_lt (show (leL vd)[k]? = some r by rw [u2, u3]; simp)
        rw [er]
        rcases a.2.1.2.2.1.2.1 k with z | z
        · exact ⟨false, z⟩
        · exact ⟨true, z⟩
      obtain ⟨b, hb⟩ := hb30
      obtain ⟨-, er⟩ := le_lt (show (leL vd)[k]? = some r by rw [u2, u3]; simp)
      have lhk := (a.1.2.2.1.2.2.2.2.1 c h1' h2').1.1
      have nin : ∀ y, kd hd y = 5 ∨ kd hd y = 101 → y ∉ [b0, q + 1, q, chA c, chA c + 1] := fun y hy z => by
        have := m2.1
        simp at z
        rcases z with e | e | e | e | e <;> rw [e] at hy <;> omega
      have drx : DrR hx d r.2.2.2.2.2.1 r.2.2.2.2.2.2.1 n' r.2.2.2.2.2.2.2.2 := dr.fr s5 (nin _ (.inl dr.1)) (nin _ (.inr dr.2.2.2.2.1.1))
      have k8x : kd hx b0 = 8 := s5.kk k8 (by decide)
      have f1 : Fr vd (mseA vd 38 c (nI (m + 1))) [] [38] := Fr.updA
      have oo := a.2.2.2.1
      have p7 : Kp hd hx 7 := s19.1.kp oo.kk.1 (by decide) (by decide) (by decide)
      have p8 : Kp hd hx 8 := s19.1.kp oo.kk.2 (by decide) (by decide) (by decide)
      have ox : OR hx (mseA vd 38 c (nI (m + 1))) := oo.kp p7 p8 f1 (by simp) (by simp)
      have eo : outL (mseA vd 38 c (nI (m + 1))) = outL vd := outL_fr f1 (by simp) (by simp)
      have nb78 : ∀ y, kd hx y = 8 ∨ kd hx y = 0 ∨ kd hx y = 5 → y ∉ [7, 8] := fun y hy z => by
        have := ox.kk
        simp at z
        rcases z with e | e <;> rw [e] at hy <;> omega
      obtain ⟨he, ve, g1, g2, g3, g4, g5⟩ := beg_j ox (c := nI c) (m := 15431) (a := 60) (b := 71) (nI_255 h2') (by decide) (by decide) (by rw [eo]; omega)
      obtain ⟨hf, vf, ps, t1, t2, t3, t4, t5, t6⟩ := tell_j (c := c) (d := d) (a0 := b0) (k := k) (n := m + 1) (b := b) (e := r.2.2.2.2.2.1) (kk := r.2.2.2.2.2.2.1) g3 h2' (by rw [g4.k]; exact k8x) (by rw [g4.I (nb78 _ (.inl k8x))]; exact s12) (by omega) (by rw [g4.I (nb78 _ (.inl k8x)), s11, u7.2.2.2.1]; exact hb) (by rw [g4.R, s13]; exact r0) (by rw [g4.k]; exact drx.1) (by rw [g4.2.2.2.2.1]; exact drx.2.1) (by rw [g4.2.2.2.2.1]; exact drx.2.2.1) drx.2.2.2.2.2.2.2.2.2.1 drx.2.2.2.2.2.2.2.2.2.2 (nb78 _ (.inl k8x)) k24 (by rw [(g5.2 38 (by decide)).1]; exact mA_s) (by rw [(g5.2 30 (by decide)).1, mA_k (by decide), ← hb, er]; rfl) (by rw [(g5.2 31 (by decide)).2]; show vd.2.2 31 k = _; rw [er]; rfl) (by rw [(g5.2 32 (by decide)).2]; show vd.2.2 32 k = _; rw [er]; rfl) (by rw [eo]; simp; omega)
      have wle : (leL vd).countP (qW x.2.1) ≤ 24 := by
        have := List.countP_le_length (p := qW x.2.1) (l := leL vd)
        have := a.2.1.1.2.2.2.2.1.2
        rw [leL_len] at *; omega
      obtain ⟨hg, vg, v1, v2, v3, v4, v5⟩ := put_j t3 (x := nI rest.length) (nI_byte (by omega)) (by rw [eo]; simp; omega)
      obtain ⟨hk, vk, y1, y2, y3, y4, y5, y6⟩ := fin_j v3 (by rw [eo]; simp; omega)
      have cf := g4.tr t5
      have cg := cf.tr v4
      have ck := cg.tr y5
      have se : Sk he := g4.sk s20 (by decide)
      have sf : Sk hf := t5.sk se (by decide)
      have sg : Sk hg := v4.sk sf (by decide)
      have sk' : Sk hk := y5.sk sg (by decide)
      have kqx : kd hx q = 11 := s5.kk kq (by decide)
      have lqf : LI hf (q + 1) rest := s8.fr cf.lf (nb78 _ (.inr (.inl s8.1)))
      have len4 : (outL vk).length + 15 ≤ 2400 := by rw [y4, eo]; simp; omega
      obtain ⟨hm', vm, w1, w2, w3, w4, w5, w6⟩ := content_j y3 (d := d) (n := n') (c := nI c) (x := r.2.2.2.2.2.2.2.2) (by rw [ck.k]; exact drx.1) (by rw [ck.I (nb78 _ (.inr (.inr drx.1)))]; exact drx.2.2.2.2.2.1) drx.2.2.2.2.2.2.2.2.1 (by rw [ck.2.2.2.2.1]; exact drx.2.2.2.2.2.2.2.1) (nI_255 h2') len4
      have f1f : Fr (mseA vd 38 c (nI (m + 1))) vf [4, 61] [3] := (g5.tr t6).mono (by simp) (by simp)
      have fdf : Fr vd vf [4, 61] [38, 3] := (f1.tr f1f).mono (by simp) (by simp)
      have fdk : Fr vd vk [4, 61] [38, 3] := (f1.tr y6).mono (by simp) (by simp)
      have ft := fin_take (k := k) (o := 43) (s := x.2.2) (v1 := mseA vd 38 c (nI (m + 1))) (v2 := vm) (h'' := hm') (F1 := []) a h1' h2' st (by omega) q3 q4 u2 u3 u4 u5 u6 em hm s5 s6 s7 s8 s9 s10 s11 s12 s13 (by rw [s14]; exact q5.2.2) s15 s16 s17 s18 s19 (f1.mono (by simp) (by simp)) mA_s (fun i hi => mA_n hi) (by rw [quL_fr f1 (by simp) (by simp) (by simp) (by simp)]; exact (set_id q4).symm) w3 (ck.tr w5) ((y6.tr w6).mono (by simp) (by simp)) (by rw [y4, eo] at w4; simp at w4; omega)
      obtain ⟨v9, G9, i1, i2, i3, i4⟩ := ft
      rw [s1, bd_s, ckc_e k8r, nn_s, kg_e kcr, s4, bd_s, teE' s20 ox.kk.1 h1' h2', g1, bd_s, ouE' se g3.k7, t1, bd_s, rdR_e sf.1, sf.2.2.1, szL (by rw [cf.R, s16]; exact m1) (by rw [cf.k]; exact kqx) lqf, nn_s, kg_e t3.k7, v1, bd_s, ouE' sg v3.k7, y1, bd_s, rdR_e sk'.1, sk'.2.2.1, rdI_e (sk'.ch h1' h2').1, (sk'.ch h1' h2').2.2.2, nn_s, rdR_e (by rw [ck.k]; exact k8x), ck.R, s13, r0, nn_s, kg_e y3.kk.1, w1, bd_s]
      rw [mrI_e (show c < 4 by omega) (by decide), em, nI_1, msI_e (show c < 4 by omega) (by decide), g2, bdm_s, t2, bdm_s, mrI_e (show iq < 5 by omega) (by decide), show vf.2.1 11 iq = x.2.1 by rw [(fdf.2 11 (by decide)).1, ex], show m_waiting x.2.1 vf = some (nI (rest.length + 1), vf) by rw [waiting_ok (a.2.1.1.2.2.2.2.1.fr fdf (by decide)).1, leL_fr fdf (by decide) (by decide) (by decide) (by decide) (by decide) (by decide) (by decide) (by decide) (by decide) (by decide), u8]; rfl, bdm_s, nI_p1, v2, bdm_s, y2, bdm_s, mrI_e (show k < 24 from k24) (by decide), mrJ_e (show k < 24 from k24) (by decide), show vk.2.1 33 k = nI n' by rw [(fdk.2 33 (by decide)).1, ← e33, er]; rfl, show vk.2.2 34 k = r.2.2.2.2.2.2.2.2 by rw [(fdk.2 34 (by decide)).2, er]; rfl, w2, bdm_s, i1, bdm_s]
      exact ⟨0, hm', v9, G9, rfl, i2.mono (by omega), i3.mono (by omega) (by split <;> omega), .inl ⟨rfl, rfl⟩⟩
end Gt

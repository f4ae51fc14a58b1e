/-! ===== a queue is deleted ===== -/
section Qd
variable {t t' : Nat} {h h1 h2 : AH} {v v' : MV} {c d : Nat} {G G' : GH} {M : List R_le} {hl : Nat → List Nat} {w : Bool} {F A K : List Nat}
theorem Cl.qdel {j q : Nat} {x : R_qu} (C : Cl h v G M hl) (k1 : (gQ G)[j]? = some q) (k2 : (quL v)[j]? = some x) (nq : ((quL v).map (fun r => r.1)).Nodup) (nd : ((quL v).map (fun r => r.2.1)).Nodup) (fv : Fr v v' [8, 13, 17, 24, 4, 61] ([10, 11, 12, 14, 15, 16, 19, 20, 21, 22, 23] ++ lrw ++ [3])) (eQ : quL v' = (quL v).eraseIdx j) (eB : biL v' = (biL v).filter (fun r => !decide (r.1 = x.1))) (eC : coL v' = (coL v).filter (fun r => !decide (r.2.2.2.1 = x.2.1))) : ∃ h' G', f_X8_remove_ 9 (some q) h = some ((), h') ∧ Cl h' v' G' (M.filter (fun r => !qW x.2.1 r)) hl ∧ G'.2 = G.2 ∧ Tr h h' [0] 0 := by
  obtain ⟨w0, ⟨s, sc, o, ch⟩, ls, lt, bd0⟩ := C
  have kq : ∀ a ∈ gQ G, kd h a = 11 := fun a ha => by
    obtain ⟨r, -, z⟩ := o.2.1.ofL ha
    exact z.1
  have kqq := kq q (List.mem_of_getElem? k1)
  obtain ⟨h1, l1, x1, L1, F1, s1, f1, w1, kx1, z1, z2, sub1⟩ := rqb_ok s w0 ls.2.2.1 o.2.2.2.2.1 o.2.2.1 nq kq k1 k2
  have k12 := ls.2.2.1.1
  have o1 := o.fr f1 (XK.l k12 (by decide))
  have ls1 := ls.b f1 kx1 L1
  obtain ⟨h2, l2, y1, L2, F2', s2, f2, w2, kx2, z3, z4, sub2⟩ := rqc_ok s1 w1 ls1.2.2.2.1 o1.2.2.2.2.2 (f1.kk kqq (by decide)) k1 k2
  have k13 : kd h1 13 = 0 := ls1.2.2.2.1.1
  have o2 := o1.fr f2 (XK.l k13 (by decide))
  have ls2 := ls1.c f2 kx2 L2
  have pair : F2 (fun a r => QuR h2 a r ∧ (a = q ↔ r.1 = x.1)) (gQ G) (quL v) := ⟨o2.2.1.1, fun i a r hx hr => ⟨o2.2.1.2 i a r hx hr, by
    constructor
    · intro z
      subst z
      have := Nodup.idx o.2.2.1 hx k1
      subst this
      rw [k2] at hr; cases hr; rfl
    · intro z
      have := Nodup.idx nq (map_get (f := fun r : R_qu => r.1) hr) (by rw [z]; exact map_get (f := fun r : R_qu => r.1) k2)
      subst this
      rw [k1] at hx; cases hx; rfl⟩⟩
  obtain ⟨h3, l3, u1, L3, F3', s3, f3, w3, kx3, z5, z6, sub3⟩ := rqq_ok s2 w2 ls2.2.1 pair (f2.kk (f1.kk kqq (by decide)) (by decide))
  have k11 : kd h2 11 = 0 := ls2.2.1.1
  have ef : (quL v).filter (fun r => !decide (r.1 = x.1)) = (quL v).eraseIdx j := er_fil nq k2
  rw [ef] at F3'
  have o3 := o2.fr f3 (XK.l k11 (by decide))
  have f13 : LF h h3 [12, 13, 11] := ((f1.mono (Y := [12, 13, 11]) (by simp)).tr (f2.mono (by simp))).tr (f3.mono (by simp))
  have k13h : kd h 13 = 0 := ls.2.2.2.1.1
  have k11h : kd h 11 = 0 := ls.2.1.1
  have kx : KX h h3 := (kx1.tr kx2).tr kx3
  -- pairs of the new lists are pairs of the old ones
  have old : ∀ (i q' : Nat) (r : R_qu), l3[i]? = some q' → ((quL v).eraseIdx j)[i]? = some r → ∃ i0, (gQ G)[i0]? = some q' ∧ (quL v)[i0]? = some r ∧ r.1 ≠ x.1 := fun i q' r e1 e2 => by
    have R := (F3'.2 i q' r e1 e2).1
    have me : q' ∈ gQ G := sub3.subset (List.mem_of_getElem? e1)
    obtain ⟨i0, hi0, ei0⟩ := List.mem_iff_getElem.mp me
    obtain ⟨e3, x3, t1, t2, t3⟩ := o3.2.1.get (i := i0) hi0
    rw [List.getElem?_eq_getElem hi0, ei0] at t1
    cases t1
    have mr : r ∈ quL v := List.mem_of_mem_eraseIdx (List.mem_of_getElem? e2)
    obtain ⟨ir, hir, eir⟩ := List.mem_iff_getElem.mp mr
    have gr : (quL v)[ir]? = some r := by rw [List.getElem?_eq_getElem hir, eir]
    have nm : x3.1 = r.1 := by rw [← t3.2.1, R.2.1]
    have := Nodup.idx nq (map_get (f := fun r : R_qu => r.1) t2) (by rw [nm]; exact map_get (f := fun r : R_qu => r.1) gr)
    subst this
    refine ⟨i0, by rw [List.getElem?_eq_getElem hi0, ei0], gr, ?_⟩
    have := List.mem_of_getElem? e2
    rw [← ef] at this
    simpa using (List.mem_filter.mp this).2
  have new : ∀ (i q' : Nat) (r : R_qu), (gQ G)[i]? = some q' → (quL v)[i]? = some r → r.1 ≠ x.1 → ∃ i', l3[i']? = some q' ∧ ((quL v).eraseIdx j)[i']? = some r := fun i q' r e1 e2 ne => by
    have m' : r ∈ (quL v).eraseIdx j := by
      rw [← ef]
      exact List.mem_filter.mpr ⟨List.mem_of_getElem? e2, by simp [ne]⟩
    obtain ⟨i', hi', ei'⟩ := List.mem_iff_getElem.mp m'
    have gi : ((quL v).eraseIdx j)[i']? = some r := by rw [List.getElem?_eq_getElem hi', ei']
    obtain ⟨e'', x'', n1, n2, n3⟩ := F3'.get (i := i') (by rw [F3'.1]; exact hi')
    obtain ⟨i0, g1, g2, -⟩ := old i' e'' r n1 gi
    have := Nodup.idx nq (map_get (f := fun r : R_qu => r.1) g2) (map_get (f := fun r : R_qu => r.1) e2)
    subst this
    rw [e1] at g1; cases g1
    exact ⟨i', n1, gi⟩
  have qid : ∀ q' n', Qid (gQ G) (quL v) q' n' → Qid l3 ((quL v).eraseIdx j) q' n' := fun q' n' i i' q'' r e1 e2 => by
    obtain ⟨i0, g1, g2, -⟩ := old i' q'' r e1 e2
    exact i i0 q'' r g1 g2
  have xk : ∀ K : List Nat, 0 ∉ K → XK h [12, 13, 11] K := fun K k0 y hy z => by
    simp at hy
    rcases hy with e | e | e <;> rw [e] at z
    · rw [k12] at z; exact k0 z
    · rw [k13h] at z; exact k0 z
    · rw [k11h] at z; exact k0 z
  have sk : ∀ a ∈ skc, a ∉ [12, 13, 11] := by decide
  have xv : exL v' = exL v := exL_fr fv (by decide) (by decide) (by decide)
  refine ⟨h3, sQ (sC (sB G l1) l2) l3, ?_, ⟨w3, ⟨s.fr (SkF.of s f13 sk), sc.fr (ScF.of s f13 sk) fv (by decide) (by decide), ?_, ?_⟩, ls2.q f3 kx3 L3, ?_, ?_⟩, rfl, ⟨f13.kf (by simp [k12, k13h, k11h]), by omega, by omega⟩⟩
  · rw [x1, y1]; exact u1
  · unfold Ob
    rw [xv, eQ, eB, eC]
    refine ⟨o3.1, F3'.imp (fun a b _ _ z => z.1), sub3.nodup o.2.2.1, o.2.2.2.1, ?_, ?_⟩
    · refine ((F1.imp (fun a b _ _ z => z.fr f2 (XK.l k13 (by decide)))).imp (fun a b _ _ z => z.fr f3 (XK.l k11 (by decide)))).imp (fun a r _ hr z => ?_)
      have rn : r.1 ≠ x.1 := by simpa using (List.mem_filter.mp hr).2
      obtain ⟨i1, i2, i3, i4, i5, ⟨i, q', x', g1, g2, g3, g4⟩, i7⟩ := z
      obtain ⟨i', n1, n2⟩ := new i q' x' g1 g2 (by rw [g4]; exact rn)
      exact ⟨i1, i2, i3, i4, i5, ⟨i', q', x', n1, n2, g3, g4⟩, i7⟩
    · exact (F2'.imp (fun a b _ _ z => z.fr f3 (XK.l k11 (by decide)))).imp (fun a r _ hr z => z.qs (fun q' _ i => qid q' _ i))
  · exact (ch.fr f13 (xk _ (by decide)) (fun c h1 h2 => by rw [(f13.kp (s.ch h1 h2).1 (by decide) (by decide) (sk _ (skc_ch h1 h2))).2.2.2.2])).fv fv (fun k q1 q2 => by simp [lrw]; omega)
  · rw [eQ]
    show LtR h3 l3 ((quL v).eraseIdx j) (M.filter (fun r => !qW x.2.1 r)) (gW G) hl
    obtain ⟨t1, t2, t3⟩ := lt
    refine ⟨t1.fil, fun i q' r e1 e2 => ?_, fun c' e1 e2 => ?_⟩
    · obtain ⟨i0, g1, g2, g3⟩ := old i q' r e1 e2
      have ne : r.2.1 ≠ x.2.1 := fun y => by
        have := Nodup.idx nd (map_get (f := fun r : R_qu => r.2.1) g2) (by rw [y]; exact map_get (f := fun r : R_qu => r.2.1) k2)
        subst this
        rw [k2] at g2; cases g2; exact g3 rfl
      rw [ff_ne ne]
      exact (t2 i0 q' r g1 g2).imp (fun a b _ _ z => (z.qs (fun q _ i => qid q _ i)).fr f13 (xk _ (by decide)))
    · obtain ⟨rs, p1, p2⟩ := t3 c' e1 e2
      exact ⟨rs, p1.imp (fun a b _ _ z => (z.qs (fun q _ i => qid q _ i)).fr f13 (xk _ (by decide))), by rw [ff_h e1 e2]; exact p2⟩
  · exact bd0.fr (fun a ha => lt.k8a ha) (fun a ha => (f13.kp ha (by decide) (by decide) ((xk [8] (by decide)).no ha (by simp))).2.2.2.2) kx.noq
theorem VI.qdel {j : Nat} {x : R_qu} (V : VI v t) (k2 : (quL v)[j]? = some x) (fv : Fr v v' [8, 13, 17, 24] ([10, 11, 12, 14, 15, 16, 19, 20, 21, 22, 23] ++ lrw)) (c8 : CV v' 8 5) (c13 : CV v' 13 12) (c17 : CV v' 17 6) (c24 : CV v' 24 24) (b23 : Bo v' 23) (b30 : Bo v' 30) (eQ : quL v' = (quL v).eraseIdx j) (eC : coL v' = (coL v).filter (fun r => !decide (r.2.2.2.1 = x.2.1))) (eL : leL v' = (leL v).filter (fun r => !qW x.2.1 r)) : VI v' t := by
  obtain ⟨⟨a1, a2, a3, a4, a5, a6, a7, a8, a9, a10, a11, a12⟩, ⟨n, b1, b2, b3, b4, b5, m, b6, b7, b8⟩, ⟨c1, c2, c3, c4, c5, c6, c7⟩, d, e0, e⟩ := V
  have xv : exL v' = exL v := exL_fr fv (by decide) (by decide) (by decide)
  have sq : (quL v').Sublist (quL v) := by rw [eQ]; exact List.eraseIdx_sublist _ _
  have sc : (coL v').Sublist (coL v) := by rw [eC]; exact List.filter_sublist
  have sl : (leL v').Sublist (leL v) := by rw [eL]; exact List.filter_sublist
  refine ⟨⟨(a1.fr fv (by decide)).1, c8, c13, c17, c24, by rw [xv]; exact a6, by rw [xv]; exact a7, by rw [xv]; exact a8, (sq.map _).nodup a9, (sq.map _).nodup a10, fun r hr => a11 r (sq.subset hr), (sc.map _).nodup a12⟩, ⟨n, by rw [fv.1 9 (by decide)]; exact b1, b2, fun r hr => b3 r (sq.subset hr), fun r hr => b4 r (sc.subset hr), fun r hr => b5 r (sl.subset hr), m, by rw [fv.1 25 (by decide)]; exact b6, b7, fun r hr => b8 r (sl.subset hr)⟩, ⟨b23, b30, c3.fr fv (by decide), c4.fr fv (by decide), c5.fr fv (by decide), c6.fr fv (by decide), c7.fr fv (by decide)⟩, ?_, ?_, ?_⟩
  · intro r hr
    obtain ⟨d1, d2⟩ := d r (sl.subset hr)
    refine ⟨d1, fun z => ?_⟩
    obtain ⟨y, hy, ey⟩ := d2 z
    rw [eL] at hr
    have nr := (List.mem_filter.mp hr).2
    have ny : y.1 ≠ x.1 := fun u => by
      obtain ⟨iy, hiy, eiy⟩ := List.mem_iff_getElem.mp hy
      have gy : (quL v)[iy]? = some y := by rw [List.getElem?_eq_getElem hiy, eiy]
      have := Nodup.idx a9 (map_get (f := fun r : R_qu => r.1) gy) (by rw [u]; exact map_get (f := fun r : R_qu => r.1) k2)
      subst this
      rw [k2] at gy
      cases gy
      simp [qW, ← ey, z] at nr
    exact ⟨y, by rw [eQ, ← er_fil a9 k2]; exact List.mem_filter.mpr ⟨hy, by simp [ny]⟩, ey⟩
  · rw [(fv.2 35 (by decide)).1]; exact e0
  · intro c' k1 k2
    rw [(fv.2 35 (by decide)).1, (fv.2 36 (by decide)).1, (fv.2 38 (by decide)).1, (fv.2 39 (by decide)).1, (fv.2 40 (by decide)).1, (fv.2 47 (by decide)).1]
    obtain ⟨g1, g2, g3, g4, g5⟩ := e c' k1 k2
    refine ⟨g1, g2, g3, g4, fun hs => ?_⟩
    obtain ⟨q1, q2, q3, q4, q5⟩ := g5 hs
    exact ⟨q1, q2, q3, fun r hr => q4 r (sc.subset hr), fun r hr => q5 r (sl.subset hr)⟩
theorem dropQ {j q : Nat} {x : R_qu} (a : Al h v G t) (h1' : 1 ≤ c) (h2' : c ≤ 3) (hl' : (outL v).length < 500) (k1 : (gQ G)[j]? = some q) (k2 : (quL v)[j]? = some x) : HC t h v c (f_X11_deleteQueue_112 4 (some (chA c)) (some q) h) (m_emptyQueue_139 40 (nI c) (nI j) x.2.1 v) := by
  have kq := (kinds a).2 q (List.mem_of_getElem? k1)
  obtain ⟨m0, m1, m2, m3⟩ := a.1.2.2.1.2.2.2.2.2 q kq
  have wl : (gW G q).length = (leL v).countP (qW x.2.1) := wt_len a k1 k2
  have cl : (leL v).countP (qW x.2.1) ≤ 24 := by
    have := List.countP_le_length (p := qW x.2.1) (l := leL v)
    have := a.2.1.1.2.2.2.2.1.2
    rw [leL_len] at *; omega
  have V := a.2.1
  obtain ⟨v1, y1, y2, y3⟩ := pg_ok x.2.1 V.1.2.2.2.2.1 V.2.2.1.2.1
  have q1 := quL_le y3
  have k21 : (quL v1)[j]? = some x := by rw [q1]; exact k2
  obtain ⟨v2, a1, a2, a3⟩ := qb_ok (V.1.2.2.1.fr y3.1 (by decide)).1 (V.1.2.1.fr y3.1 (by decide)).1 k21
  have q2 : quL v2 = quL v1 := quL_fr a3.1 (by decide) (by decide) (by decide) (by decide)
  have f02 : Fr v v2 [24, 13] (lrw ++ [14, 15, 16]) := (y3.1.tr a3.1).mono (by decide) (by decide)
  obtain ⟨v3, b1, b2, b3⟩ := qc_ok (V.1.2.2.2.1.fr f02 (by decide)).1 (V.2.2.1.1.fr f02 (by decide)) (V.1.2.1.fr f02 (by decide)).1 (show (quL v2)[j]? = some x by rw [q2]; exact k21)
  have f03 : Fr v v3 [24, 13, 17] (lrw ++ [14, 15, 16, 19, 20, 21, 22, 23]) := (f02.tr b3.1).mono (by decide) (by decide)
  have jl := (qu_k k2).1
  have q3 : quL v3 = quL v := quL_fr f03 (by decide) (by decide) (by decide) (by decide)
  obtain ⟨v4, d1, d2, d3, d4, d5⟩ := qu_rm (v := v3) (a := j) (V.1.2.1.fr f03 (by decide)).1 (by rw [(V.1.2.1.fr f03 (by decide)).2]; exact jl)
  rw [q3] at d2
  have f04 : Fr v v4 [8, 13, 17, 24] ([10, 11, 12, 14, 15, 16, 19, 20, 21, 22, 23] ++ lrw) := (f03.tr d5).mono (by decide) (by decide)
  have eB : biL v4 = (biL v).filter (fun r => !decide (r.1 = x.1)) := by
    rw [biL_fr d5 (by decide) (by decide) (by decide) (by decide), biL_fr b3.1 (by decide) (by decide) (by decide) (by decide), a2, biL_le y3]
  have eC : coL v4 = (coL v).filter (fun r => !decide (r.2.2.2.1 = x.2.1)) := by
    rw [coL_fr d5 (by decide) (by decide) (by decide) (by decide) (by decide) (by decide), b2, coL_fr a3.1 (by decide) (by decide) (by decide) (by decide) (by decide) (by decide), coL_le y3]
  have eL : leL v4 = (leL v).filter (fun r => !qW x.2.1 r) := by
    rw [leL_fr d5 (by decide) (by decide) (by decide) (by decide) (by decide) (by decide) (by decide) (by decide) (by decide) (by decide), leL_fr b3.1 (by decide) (by decide) (by decide) (by decide) (by decide) (by decide) (by decide) (by decide) (by decide) (by decide), leL_fr a3.1 (by decide) (by decide) (by decide) (by decide) (by decide) (by decide) (by decide) (by decide) (by decide) (by decide), y2]
  have V4 : VI v4 t := V.qdel k2 f04 d3 ((a3.2.fr b3.1 (by decide)).1.fr d5 (by decide)).1 (b3.2.1.fr d5 (by decide)).1 (((y3.2.1.fr a3.1 (by decide)).1.fr b3.1 (by decide)).1.fr d5 (by decide)).1 (b3.2.2.fr d5 (by decide)) (((y3.2.2.fr a3.1 (by decide)).fr b3.1 (by decide)).fr d5 (by decide)) d2 eC eL
  have o1 : OR h v4 := a.2.2.2.1.fr (LF.rf h []) f04 (by simp) (by simp) (by decide) (by decide)
  have eo : outL v4 = outL v := outL_fr f04 (by decide) (by decide)
  obtain ⟨he, ve, p1, p2, p3, p4, p5⟩ := beg_j o1 (c := nI c) (m := 12841) (a := 50) (b := 40 + 1) (nI_255 h2') (by decide) (by decide) (by rw [eo]; omega)
  obtain ⟨hf, vf, r1, r2, r3, r4, r5⟩ := put_j p3 (x := nI ((leL v).countP (qW x.2.1))) (nI_byte (by omega)) (by rw [eo]; simp; omega)
  obtain ⟨hg, vg, s1, s2, s3, s4, s5, s6⟩ := fin_j r3 (by rw [eo]; simp; omega)
  have cg := (p4.tr r4).tr s5
  have se : Sk he := p4.sk a.1.2.1.1 (by decide)
  have sf : Sk hf := r4.sk se (by decide)
  have sg : Sk hg := s5.sk sf (by decide)
  have nq7 : q + 1 ∉ [7, 8] := by simp; omega
  have me : LI he (q + 1) (gW G q) := m2.fr p4.lf nq7
  have kqe : kd he q = 11 := by rw [p4.k]; exact kq
  have rqe : gR he q 1 = some (q + 1) := by rw [p4.R]; exact m1
  have C1 := a.1.ci a.2.2.2.1.kk cg
  have f0g : Fr v vg [8, 13, 17, 24, 4, 61] ([10, 11, 12, 14, 15, 16, 19, 20, 21, 22, 23] ++ lrw ++ [3]) := (f04.tr s6).mono (by decide) (by decide)
  have lg : leL vg = (leL v).filter (fun r => !qW x.2.1 r) := by rw [leL_fr s6 (by decide) (by decide) (by decide) (by decide) (by decide) (by decide) (by decide) (by decide) (by decide) (by decide), eL]
  obtain ⟨hb, Gb, u1, C2, u3, u4⟩ := C1.qdel (v' := vg) k1 k2 V.1.2.2.2.2.2.2.2.2.1 V.1.2.2.2.2.2.2.2.2.2.1 f0g (by rw [quL_fr s6 (by decide) (by decide) (by decide) (by decide), d2]) (by rw [biL_fr s6 (by decide) (by decide) (by decide) (by decide), eB]) (by rw [coL_fr s6 (by decide) (by decide) (by decide) (by decide) (by decide) (by decide), eC])
  rw [← lg, show gH G = gH Gb by unfold gH; rw [u3]] at C2
  have V2 : VI vg t := V4.o s6 (by decide) (by decide)
  obtain ⟨A, i2, i3, i4⟩ := a.post cg f0g (by decide) (by decide) s3 C2 V2 u4.1 (by decide)
  have kp := KP_fr f0g (by decide)
  unfold f_X11_deleteQueue_112 m_emptyQueue_139 m_emptyQueue_159
  rw [teN a h1' h2', p1, bd_s, rdR_e se.1, se.2.2.1, nn_s, szL rqe kqe me, nn_s, kg_e p3.k7, wl, r1, bd_s, ouE' sf r3.k7, s1, bd_s, rdR_e sg.1, sg.2.2.2.1, nn_s, kg_e sg.k9, u1, bd_s, y1, bdm_s, if_pos rfl, a1, b1, d1, bdm_s, p2, bdm_s, r2, bdm_s, s2, bdm_s]
  obtain ⟨-, t2, t3⟩ := u4
  refine ⟨0, hb, vg, Gb, rfl, A.mono (by omega), ⟨i2, ?_, ?_, ?_, i3, i4⟩, .inl ⟨rfl, rfl⟩⟩
  · rw [kp]; rw [cg.1] at t2; omega
  · rw [kp]; rw [cg.2.1] at t3; omega
  · rw [s4, eo]; simp
theorem delQC (p : Pre t h v c G w) : HC t h v c (f_X11_deleteQueue 4 (some (chA c)) h) (m_emptyQueue 40 v) := by
  have e54 := p.2.2.1
  have a0 := p.1
  unfold f_X11_deleteQueue m_emptyQueue
  obtain ⟨qn, ha, va, wa, x1, x2, x4, x5, x6⟩ := name_ok p.2.1
  have pa := p.rd x5 x4
  obtain ⟨b, hd, vd, wd, z1, z2, z3, z4, z5, z6, z7⟩ := byte_ok pa.2.1
  have pd := pa.rd z5 z4
  obtain ⟨a, i, e54d, h1', h2', hl, ht⟩ := pd
  have lq := lkQ a qn
  have qr : ∃ ro, f_X8_queueNamed 9 qn hd = some (ro, hd) := by
    rcases lq with ⟨q, -⟩ | ⟨_, e, _, q, -⟩
    · exact ⟨_, q⟩
    · exact ⟨_, q⟩
  obtain ⟨ro, qro⟩ := qr
  rw [oiE a0, ltd, e54, x1, bd_s, nn_s, kg_e pa.1.1.2.1.1.k9, quN_rd pa.1 z5 qro, bd_s, inE pa.1, z1, bd_s, inE a, x2, bdm_s, if_pos rfl, z2, bdm_s]
  refine HC.rd (x5.tr z5) ?_
  unfold m_emptyQueue_24
  refine just_hc ⟨a, i, e54d, h1', h2', hl, ht⟩ (fun w0 => ?_)
  rcases lq with ⟨q1, q2, q3⟩ | ⟨iq, q, x, q1, q2, q3, q4, q5, q6, q7⟩
  · rw [qro] at q1
    cases q1
    rw [nb_n, q2, bdm_s, if_neg (by decide), bdm_id]
    exact HC.soft a h1' h2' (e := 404) (by decide)
  · rw [qro] at q1
    cases q1
    obtain ⟨hiq, ex⟩ := qu_k q4
    have o := a.1.2.1.2.2.1
    have kq := (kinds a).2 q (List.mem_of_getElem? q3)
    obtain ⟨m0, m1, m2, m3⟩ := a.1.2.2.1.2.2.2.2.2 q kq
    have wl := wt_len a q3 q4
    have wlen := m2.len
    have co := coO_ok (iq := iq) (q := q) (x := x) a.1.1.1 a.1.2.1.1 a.1.2.2.1.2.2.2.1 o.2.2.2.2.2 kq q3 q4
    have cl17 : (coL vd).countP (fun r : R_co => decide (r.2.2.2.1 = x.2.1)) ≤ 6 := by
      have := List.countP_le_length (p := fun r : R_co => decide (r.2.2.2.1 = x.2.1)) (l := coL vd)
      have := a.2.1.1.2.2.2.1.2
      rw [coL_len] at *; omega
    have soft : HC t hd vd c (some (406, hd)) (m_emptyQueue_130 (nI c) vd) := by
      unfold m_emptyQueue_130
      rw [bdm_id]
      exact HC.soft a h1' h2' (e := 406) (by decide)
    have fin := dropQ a h1' h2' hl q3 q4
    have nz2 : ∀ {β : Type} {X : Option β}, nz 2 X = X := fun {β X} => if_neg (by decide)
    -- the second condition
    have part2 : ∀ s : Bool, HC t hd vd c (f_X11_deleteQueue_91 4 (some (chA c)) (some q) (bit s) hd) (if s = true then bdm (m_waiting x.2.1 vd) fun x_2 v_1 => if x_2 ≤ 0 then m_emptyQueue_112 40 (nI c) (nI iq) x.2.1 0 0 v_1 else m_emptyQueue_112 40 (nI c) (nI iq) x.2.1 0 1 v_1 else m_emptyQueue_112 40 (nI c) (nI iq) x.2.1 0 0 vd) := by
      intro s
      unfold f_X11_deleteQueue_91 m_emptyQueue_112
      cases s with
      | false =>
        rw [bit_f, if_pos rfl, if_neg (by decide), if_pos rfl, if_pos rfl, if_pos rfl]
        exact fin
      | true =>
        rw [bit_t, if_neg (by decide), if_pos rfl, nn_s, rdR_e kq, m1, nn_s, m2.kgg, m2.emp, bd_s, waiting_ok a.2.1.1.2.2.2.2.1, bdm_s, ← wl, if_pos rfl, if_pos rfl, if_pos rfl, if_pos rfl, if_pos rfl, if_neg (show ¬ (1 : Int32) = 0 by decide)]
        cases hw : gW G q with
        | nil =>
          rw [show ([] : List Nat).isEmpty = true from rfl, bit_t, if_neg (by decide), if_pos (show nI ([] : List Nat).length ≤ 0 by decide)]
          exact fin
        | cons y l =>
          rw [show (y :: l).isEmpty = false from rfl, bit_f, if_pos rfl, if_neg (show ¬ nI (y :: l).length ≤ (0 : Int32) from nI_ge (b := (y :: l).length) (a := 0) (by simp) (by rw [hw] at wlen; omega))]
          exact soft
    rw [nb_s, q2, bdm_s, if_pos (nI_pos' (show iq < 2 ^ 31 by omega)), mrI_e (show iq < 5 by omega) (by decide), show vd.2.1 11 iq = x.2.1 by rw [ex], nz2, nz2]
    unfold f_X11_deleteQueue_57 m_emptyQueue_86
    rw [nz2, nz2, nz2, nz2]
    have half : ∀ s : Int32, (s = 0 ∨ s = 1) → (if (nI b / 2 - nI b / 2 / 2 * 2) = 1 then f_X11_deleteQueue_73 4 (some (chA c)) (some q) s 1 hd else f_X11_deleteQueue_73 4 (some (chA c)) (some q) s 0 hd) = f_X11_deleteQueue_73 4 (some (chA c)) (some q) s (bit (decide ((nI b / 2 - nI b / 2 / 2 * 2) = 1))) hd := by
      intro s _
      by_cases z : (nI b / 2 - nI b / 2 / 2 * 2) = 1
      · rw [if_pos z, decide_eq_true z]; rfl
      · rw [if_neg z, decide_eq_false z]; rfl
    have p2 := part2 (decide ((nI b / 2 - nI b / 2 / 2 * 2) = 1))
    simp only [decide_eq_true_eq] at p2
    by_cases od : (nI b - nI b / 2 * 2) = 1
    · rw [if_pos od, if_pos od, half 1 (.inr rfl), consumersOf_ok a.2.1.1.2.2.2.1, bdm_s]
      unfold f_X11_deleteQueue_73
      rw [if_neg (by decide), ofE a, co, bd_s]
      by_cases cc : (coL vd).countP (fun r : R_co => decide (r.2.2.2.1 = x.2.1)) = 0
      · rw [cc, if_neg (by decide), if_pos (show nI 0 ≤ (0 : Int32) by decide), nz2, nz2]
        exact p2
      · rw [if_pos (show (0 : Int32) < nI _ from nI_lt (a := 0) (by omega) (by omega)), if_neg (show ¬ nI _ ≤ (0 : Int32) from nI_ge (a := 0) (by omega) (by omega)), nz2, nz2]
        unfold m_emptyQueue_112
        have e : ∀ X : Option (Unit × MV), X = m_emptyQueue_130 (nI c) vd → HC t hd vd c (some (406, hd)) X := fun X hX => by rw [hX]; exact soft
        refine e _ ?_
        split
        · rw [waiting_ok a.2.1.1.2.2.2.2.1, bdm_s]
          split <;> rw [if_pos rfl, if_neg (by decide)]
        · rw [if_pos rfl, if_neg (by decide)]
    · rw [if_neg od, if_neg od, half 0 (.inl rfl)]
      unfold f_X11_deleteQueue_73
      rw [if_pos rfl, nz2, nz2]
      exact p2
end Qd

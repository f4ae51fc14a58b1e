/-! ===== queues ===== -/
section Qu
variable {t : Nat} {h h' : AH} {v v' : MV} {c d : Nat} {G : GH} {w : Bool}
theorem Qid.app {qs : List Nat} {Q : List R_qu} {q b : Nat} {n : Int32} {x : R_qu} (i : Qid qs Q q n) (hl : qs.length = Q.length) (h1 : b ≠ q) (h2 : x.2.1 ≠ n) : Qid (qs ++ [b]) (Q ++ [x]) q n := by
  intro j q' r e1 e2
  by_cases z : j < qs.length
  · rw [List.getElem?_append_left z] at e1
    rw [List.getElem?_append_left (by omega)] at e2
    exact i j q' r e1 e2
  · rw [List.getElem?_append_right (by omega)] at e1
    rw [List.getElem?_append_right (by omega), ← hl] at e2
    have : j - qs.length = 0 := by
      have := (List.getElem?_eq_some_iff.mp e1).1
      simp at this
      omega
    rw [this] at e1 e2
    simp at e1 e2
    subst e1
    subst e2
    exact ⟨fun z => absurd z h1, fun z => absurd z h2⟩
theorem LeR.qs {qs qs' : List Nat} {Q Q' : List R_qu} {a : Nat} {r : R_le} (i : LeR h qs Q a r) (H : ∀ q, kd h q = 11 → Qid qs Q q r.2.1 → Qid qs' Q' q r.2.1) : LeR h qs' Q' a r := by
  obtain ⟨i1, i2, i3, i4, i5, q, i8, i9, i10⟩ := i
  exact ⟨i1, i2, i3, i4, i5, q, i8, i9, H q i9 i10⟩
theorem CoR.qs {qs qs' : List Nat} {Q Q' : List R_qu} {a : Nat} {r : R_co} (i : CoR h qs Q a r) (H : ∀ q, kd h q = 11 → Qid qs Q q r.2.2.2.1 → Qid qs' Q' q r.2.2.2.1) : CoR h qs' Q' a r := by
  obtain ⟨i1, i2, i3, i4, i5, i6, q, i8, i9, i10⟩ := i
  exact ⟨i1, i2, i3, i4, i5, i6, q, i8, i9, H q i9 i10⟩
/-- a queue more -/
theorem qadd {n : Int64} (a : Al h v G t) (hh : 27 ≤ hz h) (nn' : NmO n) (nw : ∀ r ∈ quL v, r.1 ≠ n) (lt5 : cN v 8 < 5) (ht : t < 65536) : ∃ h' v' G', (∀ {β : Type} (F : Nat → AH → Option β), (nwO h 11 fun a_9 h_10 => bd (f_X10_init a_9 n h_10) fun _ h_12 => rdR h_12 4 12 2 fun r_13 => nn r_13 fun a_14 => rdR h_12 a_14 9 1 fun r_15 => nn r_15 fun a_16 => kg h_12 a_16 0 (bd (f_Jx4a65c_add_9ea2d a_16 (some a_9) h_12) fun x_19 h_18 => F a_9 h_18)) = F (hz h + 4) h') ∧ (∀ {β : Type} (F : Int32 → MV → Option β), (lt (v.1 8) fun x_1 => mwI v 9 ((v.1 9) + 1) fun v_2 => msJ v_2 10 x_1 n fun v_3 => msI v_3 11 x_1 (v_3.1 9) fun v_4 => msI v_4 12 x_1 0 fun v_5 => mwI v_5 8 ((v_5.1 8) + 1) fun v_6 => F x_1 v_6) = F (nI (cN v 8)) v') ∧ Al h' v' G' (t + 1) ∧ Gr h v h' v' 3 0 ∧ (gQ G')[cN v 8]? = some (hz h + 4) ∧ (∃ m, (quL v')[cN v 8]? = some (n, nI m, 0)) := by
  have s0 := a.1.2.1.1
  have t9 := a.1.1.1.top
  have c8 := a.2.1.1.2.1
  have kt : kd (al h 11 0 (cnf 11)) (hz h + 4) = 11 := by rw [kd_al, if_pos rfl]
  have w0 : WH (al h 11 0 (cnf 11)) := a.1.1.fA (by omega) (by decide)
  have f0 : LF h (al h 11 0 (cnf 11)) [] := LF.fA a.1.1.1
  have z0 : hz (al h 11 0 (cnf 11)) = hz h + 1 := rfl
  have s00 : hs (al h 11 0 (cnf 11)) = hs h + 3 := rfl
  obtain ⟨hm, x1, x2, x3, x4, x5, x6, x7⟩ := LI.new w0
  rw [z0, show hz h + 1 + 4 = hz h + 4 + 1 by omega] at x1 x2 x7
  have km : kd hm (hz h + 4) = 11 := by rw [(x7 _ (by omega)).1]; exact kt
  -- the queue's object and its list
  have fg : LF h (sJ (sR hm (hz h + 4) 1 (some (hz h + 4 + 1))) (hz h + 4) 0 n) [] := ((f0.tr x3).nR t9).nJ t9
  have wg : WH (sJ (sR hm (hz h + 4) 1 (some (hz h + 4 + 1))) (hz h + 4) 0 n) := (x4.fR (by rw [km]; decide)).fJ
  have Lg : LI (sJ (sR hm (hz h + 4) 1 (some (hz h + 4 + 1))) (hz h + 4) 0 n) (hz h + 4 + 1) [] := (x2.fr (LF.fR (h := hm) (a := hz h + 4) (k := 1) (x := some (hz h + 4 + 1)) (by rw [km]; decide)) (by simp)).fr (LF.fJ (a := hz h + 4)) (by simp)
  have kg11 : kd (sJ (sR hm (hz h + 4) 1 (some (hz h + 4 + 1))) (hz h + 4) 0 n) (hz h + 4) = 11 := km
  have j0 : gJ (sJ (sR hm (hz h + 4) 1 (some (hz h + 4 + 1))) (hz h + 4) 0 n) (hz h + 4) 0 = n := by rw [gJ_sJ, if_pos ⟨rfl, rfl⟩]
  have i2' : gI (sJ (sR hm (hz h + 4) 1 (some (hz h + 4 + 1))) (hz h + 4) 0 n) (hz h + 4) 2 = 0 := by rw [gI_sJ, gI_sR, (x7 _ (by omega)).2.1, gI_al, if_pos rfl]
  have r1 : gR (sJ (sR hm (hz h + 4) 1 (some (hz h + 4 + 1))) (hz h + 4) 0 n) (hz h + 4) 1 = some (hz h + 4 + 1) := by rw [gR_sJ, gR_sR, if_pos ⟨rfl, rfl⟩]
  have kg' : ∀ q, kd (sJ (sR hm (hz h + 4) 1 (some (hz h + 4 + 1))) (hz h + 4) 0 n) q = 11 → q = hz h + 4 ∨ kd h q = 11 := fun q hq => by
    have hq : kd hm q = 11 := hq
    by_cases z : q = hz h + 4 + 1
    · rw [z, x2.1] at hq; exact absurd hq (by decide)
    · rw [(x7 q z).1, kd_al] at hq
      by_cases y : q = hz h + 4
      · exact .inl y
      · rw [if_neg y] at hq; exact .inr hq
  have zg : hz (sJ (sR hm (hz h + 4) 1 (some (hz h + 4 + 1))) (hz h + 4) 0 n) = hz h + 2 := by show hz hm = _; omega
  have sg : hs (sJ (sR hm (hz h + 4) 1 (some (hz h + 4 + 1))) (hz h + 4) 0 n) = hs h + 6 := by show hs hm = _; omega
  have ini : ∀ {β : Type} (F : Unit → AH → Option β), bd (f_X10_init (hz h + 4) n (al h 11 0 (cnf 11))) F = F () (sJ (sR hm (hz h + 4) 1 (some (hz h + 4 + 1))) (hz h + 4) 0 n) := by
    intro β F
    unfold f_X10_init
    rw [nwO_e, z0, show hz h + 1 + 4 = hz h + 4 + 1 by omega, x1, bd_s, wrR_e km, wrJ_e (by exact km), bd_s]
  generalize sJ (sR hm (hz h + 4) 1 (some (hz h + 4 + 1))) (hz h + 4) 0 n = g at *
  -- the list of queues
  have ls := a.1.2.2.1
  have o := a.1.2.1.2.2.1
  have lx := o.2.1.1
  rw [quL_len] at lx
  have L11 : LI g 11 (gQ G) := ls.2.1.fr fg (by simp)
  obtain ⟨hb, y1, L, f2, w2, z1, z2, kx⟩ := L11.add (x := hz h + 4) wg (by omega) (by rw [kg11]; omega)
  have k0 : kd g 11 = 0 := L11.1
  have ff : LF h hb [11] := (fg.mono (by simp)).tr f2
  have k11 := ls.2.1.1
  have nq' : ∀ q, kd hb q = 11 → q = hz h + 4 ∨ kd h q = 11 := fun q hq => kg' q (kx.noq q hq)
  have kpq : Kp g hb (hz h + 4) := f2.kp kg11 (by decide) (by decide) (by intro z; simp at z; omega)
  -- the reference
  obtain ⟨m, m1, m2, m3, m4, m5, m6⟩ := a.2.1.2.1
  have fv : Fr v (mset (mseA (mseA (mseJ (mset v 9 (nI (m + 1))) 10 (cN v 8) n) 11 (cN v 8) (nI (m + 1))) 12 (cN v 8) 0) 8 (nI (cN v 8 + 1))) [9, 8] [10, 11, 12] := ((((Fr.upd.tr Fr.updJ).tr Fr.updA).tr Fr.updA).tr Fr.upd).mono (by simp) (by simp)
  have ev : quL (mset (mseA (mseA (mseJ (mset v 9 (nI (m + 1))) 10 (cN v 8) n) 11 (cN v 8) (nI (m + 1))) 12 (cN v 8) 0) 8 (nI (cN v 8 + 1))) = quL v ++ [(n, nI (m + 1), 0)] := by
    have c1 : cN (mset (mseA (mseA (mseJ (mset v 9 (nI (m + 1))) 10 (cN v 8) n) 11 (cN v 8) (nI (m + 1))) 12 (cN v 8) 0) 8 (nI (cN v 8 + 1))) 8 = cN v 8 + 1 := by
      show (Int32.toNatClampNeg _) = _
      rw [ms_s]; exact nI_clamp (by omega)
    unfold quL
    rw [c1, lst_succ]
    congr 1
    · exact lst_congr (fun j hj => by
        have : j ≠ cN v 8 := by omega
        simp [mset, mseA, mseJ, rw1, upd, vp_updL, this])
    · simp [mset, mseA, mseJ, rw1, upd, vp_updL]
  have e9 : (mset (mseA (mseA (mseJ (mset v 9 (nI (m + 1))) 10 (cN v 8) n) 11 (cN v 8) (nI (m + 1))) 12 (cN v 8) 0) 8 (nI (cN v 8 + 1))).1 9 = nI (m + 1) := by
    rw [ms_n (by decide)]
    show (mset v 9 (nI (m + 1))).1 9 = _
    exact ms_s
  have c8' : CV (mset (mseA (mseA (mseJ (mset v 9 (nI (m + 1))) 10 (cN v 8) n) 11 (cN v 8) (nI (m + 1))) 12 (cN v 8) 0) 8 (nI (cN v 8 + 1))) 8 5 := (CV.of (n := cN v 8 + 1) ms_s (by omega) (by decide)).1
  have refE : ∀ {β : Type} (F : Int32 → MV → Option β), (lt (v.1 8) fun x_1 => mwI v 9 ((v.1 9) + 1) fun v_2 => msJ v_2 10 x_1 n fun v_3 => msI v_3 11 x_1 (v_3.1 9) fun v_4 => msI v_4 12 x_1 0 fun v_5 => mwI v_5 8 ((v_5.1 8) + 1) fun v_6 => F x_1 v_6) = F (nI (cN v 8)) (mset (mseA (mseA (mseJ (mset v 9 (nI (m + 1))) 10 (cN v 8) n) 11 (cN v 8) (nI (m + 1))) 12 (cN v 8) 0) 8 (nI (cN v 8 + 1))) := by
    intro β F
    have a8 : (mset v 9 (nI (m + 1))).1 8 = nI (cN v 8) := by rw [ms_n (by decide)]; exact c8.1
    have a9 : (mset v 9 (nI (m + 1))).1 9 = nI (m + 1) := ms_s
    rw [ltd, mwI_e, m1, nI_1, c8.1, msJ_e (show cN v 8 < 5 from lt5) (by decide)]
    simp only [mA_1, mJ_1, a9]
    rw [msI_e (show cN v 8 < 5 from lt5) (by decide), msI_e (show cN v 8 < 5 from lt5) (by decide)]
    simp only [mA_1, mJ_1, a8]
    rw [mwI_e, nI_1]
  generalize hV : mset (mseA (mseA (mseJ (mset v 9 (nI (m + 1))) 10 (cN v 8) n) 11 (cN v 8) (nI (m + 1))) 12 (cN v 8) 0) 8 (nI (cN v 8 + 1)) = V at *
  have xv : exL V = exL v := exL_fr fv (by decide) (by decide) (by decide)
  have bv : biL V = biL v := biL_fr fv (by decide) (by decide) (by decide) (by decide)
  have cv : coL V = coL v := coL_fr fv (by decide) (by decide) (by decide) (by decide) (by decide) (by decide)
  have lv : leL V = leL v := leL_fr fv (by decide) (by decide) (by decide) (by decide) (by decide) (by decide) (by decide) (by decide) (by decide) (by decide)
  have big : ∀ k, k ≤ m → nI (m + 1) ≠ nI k := fun k hk z => by
    have := (nI_eq (by omega) (by omega)).mp z
    omega
  have qlen : (gQ G).length = (quL v).length := o.2.1.1
  have xk : ∀ K : List Nat, 0 ∉ K → XK h [11] K := fun K k0 x hx z => by simp at hx; rw [hx, k11] at z; exact k0 z
  have sk : ∀ a ∈ skc, a ∉ [11] := by decide
  have leq : ∀ r ∈ leL v, ∀ q, kd h q = 11 → Qid (gQ G) (quL v) q r.2.1 → Qid (gQ G ++ [hz h + 4]) (quL v ++ [(n, nI (m + 1), 0)]) q r.2.1 := fun r hr q hq i => by
    obtain ⟨k, k1, k2⟩ := m5 r hr
    exact i.app qlen (fun z => by rw [← z, t9] at hq; exact absurd hq (by decide)) (by rw [k2]; exact big k k1)
  have lt := a.1.2.2.2.1
  have kpl : ∀ b, kd h b = 8 → Kp h hb b := fun b hb' => ff.kp hb' (by decide) (by decide) ((xk [8] (by decide)).no hb' (by simp))
  have hm0 : ∀ b, b ∈ gH G 1 ++ gH G 2 ++ gH G 3 → gR hb b 1 ≠ some (hz h + 4) := fun b hb' z => by
    have k8 := lt.k8a hb'
    rw [(kpl b k8).2.2.2.2] at z
    simp only [List.mem_append] at hb'
    have : ∃ c, 1 ≤ c ∧ c ≤ 3 ∧ b ∈ gH G c := by
      rcases hb' with (y | y) | y
      · exact ⟨1, by decide, by decide, y⟩
      · exact ⟨2, by decide, by decide, y⟩
      · exact ⟨3, by decide, by decide, y⟩
    obtain ⟨c, c1, c2, c3⟩ := this
    obtain ⟨rs, u1, -⟩ := lt.2.2 c c1 c2
    obtain ⟨r, -, lr⟩ := u1.ofL c3
    obtain ⟨q, g1, g2, -⟩ := lr.2.2.2.2.2
    rw [z] at g1
    cases g1
    rw [t9] at g2; exact absurd g2 (by decide)
  have C : Cl hb V (sQ (sW G (hz h + 4) []) (gQ G ++ [hz h + 4])) (leL v) (gH G) := by
    refine ⟨w2, ⟨s0.fr (SkF.of s0 ff sk), a.1.2.1.2.1.fr (ScF.of s0 ff sk) fv (by decide) (by decide), ?_, ?_⟩, ?_, ?_, ?_⟩
    · obtain ⟨p1, p2, p3, p4, p5, p6⟩ := o.fr ff (xk _ (by decide))
      unfold Ob
      rw [ev, xv, bv, cv]
      refine ⟨p1, p2.snoc ⟨kpq.k kg11, by rw [kpq.2.2.2.1]; exact j0, by rw [kpq.2.2.1]; exact i2'⟩, ?_, p4, p5.imp (fun a b _ _ z => by
        have := z.app [] [hz h + 4] [] [(n, nI (m + 1), 0)]
        rw [List.append_nil, List.append_nil] at this
        exact this), o.2.2.2.2.2.imp (fun a b _ hb' z => (z.qs (fun q hq i => ?_)).fr ff (xk _ (by decide)))⟩
      · show (gQ G ++ [hz h + 4]).Nodup
        rw [List.nodup_append]
        refine ⟨p3, by simp, fun x hx y hy => ?_⟩
        simp at hy
        rw [hy]
        intro z
        have := (kinds a).2 x hx
        rw [z, t9] at this
        exact absurd this (by decide)
      · obtain ⟨k, k1, k2⟩ := m4 b hb'
        exact i.app qlen (fun z => by rw [← z, t9] at hq; exact absurd hq (by decide)) (by rw [k2]; exact big k k1)
    · have := (a.1.2.1.2.2.2.fr ff (xk _ (by decide)) (fun c h1 h2 => by rw [(ff.kp (s0.ch h1 h2).1 (by decide) (by decide) (sk _ (skc_ch h1 h2))).2.2.2.2])).fv fv (fun k q1 q2 => by simp; omega)
      exact this
    · refine ⟨ls.1.fr ff (by simp), L, ls.2.2.1.fr ff (by simp), ls.2.2.2.1.fr ff (by simp), fun c' k1 k2 => ?_, fun q hq => ?_⟩
      · obtain ⟨n1, n2⟩ := ls.2.2.2.2.1 c' k1 k2
        exact ⟨n1.fr ff (by simp [chA]; omega), n2.fr ff (by simp [chA]; omega)⟩
      · show 30 < q ∧ gR hb q 1 = some (q + 1) ∧ LI hb (q + 1) (fu (gW G) (hz h + 4) [] q) ∧ ∀ a ∈ fu (gW G) (hz h + 4) [] q, kd hb a = 8
        by_cases z : q = hz h + 4
        · subst z
          rw [fu_s]
          refine ⟨by omega, by rw [kpq.2.2.2.2]; exact r1, Lg.fr f2 (by simp; omega), fun a ha => by simp at ha⟩
        · rcases nq' q hq with y | y
          · exact absurd y z
          · obtain ⟨n0, n1, n2, n3⟩ := ls.2.2.2.2.2 q y
            rw [fu_n z]
            refine ⟨n0, ?_, n2.fr ff (by simp; omega), fun a ha => ff.kk (n3 a ha) (by decide)⟩
            rw [(ff.kp y (by decide) (by decide) (by simp; omega)).2.2.2.2]
            exact n1
    · rw [ev]
      show LtR hb (gQ G ++ [hz h + 4]) (quL v ++ [(n, nI (m + 1), 0)]) (leL v) (fu (gW G) (hz h + 4) []) (gH G)
      obtain ⟨t1, t2, t3⟩ := lt
      refine ⟨t1, fun j q r u1 u2 => ?_, fun c' k1 k2 => ?_⟩
      · by_cases z : j < (gQ G).length
        · rw [List.getElem?_append_left z] at u1
          rw [List.getElem?_append_left (by omega)] at u2
          have ne : q ≠ hz h + 4 := fun y => by
            have := (kinds a).2 q (List.mem_of_getElem? u1)
            rw [y, t9] at this; exact absurd this (by decide)
          rw [fu_n ne]
          exact (t2 j q r u1 u2).imp (fun x y _ hy z => (z.qs (leq y (List.mem_filter.mp hy).1)).fr ff (xk _ (by decide)))
        · rw [List.getElem?_append_right (by omega)] at u1
          rw [List.getElem?_append_right (by omega), ← qlen] at u2
          have j0' : j - (gQ G).length = 0 := by
            have := (List.getElem?_eq_some_iff.mp u1).1
            simp at this
            omega
          rw [j0'] at u1 u2
          simp at u1 u2
          rw [← u1, ← u2, fu_s]
          have : (leL v).filter (qW (nI (m + 1))) = [] := by
            rw [List.filter_eq_nil_iff]
            intro r hr
            obtain ⟨k, k1, k2⟩ := m5 r hr
            simp only [qW, decide_eq_true_eq]
            exact fun z => big k k1 (by rw [← k2]; exact z.1.symm)
          show F2 _ [] ((leL v).filter (qW (nI (m + 1))))
          rw [this]
          exact F2.nil
      · obtain ⟨rs, u1, u2⟩ := t3 c' k1 k2
        exact ⟨rs, u1.imp (fun x y _ hy z => (z.qs (leq y (List.mem_filter.mp (u2.mem_iff.mp hy)).1)).fr ff (xk _ (by decide))), u2⟩
    · intro q hq
      show (fu (gW G) (hz h + 4) [] q).length + _ ≤ 24
      by_cases z : q = hz h + 4
      · subst z
        rw [fu_s]
        have : List.countP (fun a => decide (gR hb a 1 = some (hz h + 4))) (gH G 1 ++ gH G 2 ++ gH G 3) = 0 := by
          rw [List.countP_eq_zero]
          intro b hb'
          simp only [decide_eq_true_eq]
          exact hm0 b hb'
        rw [this]; simp
      · rcases nq' q hq with y | y
        · exact absurd y z
        · rw [fu_n z]
          have ce : (gH G 1 ++ gH G 2 ++ gH G 3).countP (fun a => decide (gR hb a 1 = some q)) = (gH G 1 ++ gH G 2 ++ gH G 3).countP (fun a => decide (gR h a 1 = some q)) := List.countP_congr (fun b hb' => by rw [(kpl b (lt.k8a hb')).2.2.2.2])
          rw [ce]
          exact a.1.2.2.2.2 q y
  have V2 : VI V (t + 1) := by
    obtain ⟨⟨q1, q2, q3, q4, q5, q6, q7, q8, q9, q10, q11, q12⟩, -, ⟨c1, c2, c3, c4, c5, c6, c7⟩, d, e0, e⟩ := a.2.1
    refine ⟨⟨(q1.fr fv (by decide)).1, c8', (q3.fr fv (by decide)).1, (q4.fr fv (by decide)).1, (q5.fr fv (by decide)).1, ?_, ?_, ?_, ?_, ?_, ?_, ?_⟩, ⟨m + 1, e9, by omega, ?_, ?_, ?_, ?_⟩, ⟨c1.fr fv (by decide), c2.fr fv (by decide), c3.fr fv (by decide), c4.fr fv (by decide), c5.fr fv (by decide), c6.fr fv (by decide), c7.fr fv (by decide)⟩, ?_, ?_, ?_⟩
    · rw [xv]; exact q6
    · rw [xv]; exact q7
    · rw [xv]; exact q8
    · rw [ev, List.map_append, List.nodup_append]
      refine ⟨q9, by simp, fun x hx y hy => ?_⟩
      simp at hy
      obtain ⟨r, hr, er⟩ := List.mem_map.mp hx
      rw [hy, ← er]
      exact nw r hr
    · rw [ev, List.map_append, List.nodup_append]
      refine ⟨q10, by simp, fun x hx y hy => ?_⟩
      simp at hy
      obtain ⟨r, hr, er⟩ := List.mem_map.mp hx
      obtain ⟨k, k0, k1, k2⟩ := m3 r hr
      rw [hy, ← er, k2]
      exact fun z => big k k1 z.symm
    · rw [ev]
      intro r hr
      rcases List.mem_append.mp hr with z | z
      · exact q11 r z
      · simp at z; rw [z]; exact nn'
    · rw [cv]; exact q12
    · rw [ev]
      intro r hr
      rcases List.mem_append.mp hr with z | z
      · obtain ⟨k, k0, k1, k2⟩ := m3 r z
        exact ⟨k, k0, by omega, k2⟩
      · simp at z; rw [z]; exact ⟨m + 1, by omega, by omega, rfl⟩
    · rw [cv]
      intro r hr
      obtain ⟨k, k1, k2⟩ := m4 r hr
      exact ⟨k, by omega, k2⟩
    · rw [lv]
      intro r hr
      obtain ⟨k, k1, k2⟩ := m5 r hr
      exact ⟨k, by omega, k2⟩
    · rw [lv, fv.1 25 (by decide)]
      obtain ⟨m', u1, u2, u3⟩ := m6
      exact ⟨m', u1, by omega, u3⟩
    · unfold ViM
      rw [lv, ev]
      intro r hr
      obtain ⟨u1, u2⟩ := d r hr
      refine ⟨u1, fun z => ?_⟩
      obtain ⟨x, hx, ex⟩ := u2 z
      exact ⟨x, List.mem_append.mpr (.inl hx), ex⟩
    · rw [(fv.2 35 (by decide)).1]; exact e0
    · intro c' k1 k2
      rw [(fv.2 35 (by decide)).1, (fv.2 36 (by decide)).1, (fv.2 38 (by decide)).1, (fv.2 39 (by decide)).1, (fv.2 40 (by decide)).1, (fv.2 47 (by decide)).1, lv, cv]
      obtain ⟨g1, g2, ⟨g, g3, g3'⟩, g4, g5⟩ := e c' k1 k2
      exact ⟨g1, g2, ⟨g, by omega, g3'⟩, g4, g5⟩
  rw [← lv] at C
  have T : Tr h hb [0] 3 := ⟨ff.kf (by simp [k11]), by omega, by omega⟩
  obtain ⟨A, j2, j3, j4, j5⟩ := a.mk (G' := sQ (sW G (hz h + 4) []) (gQ G ++ [hz h + 4])) C V2 T.1 (by decide) fv (by decide) (by decide)
  refine ⟨hb, V, _, fun F => ?_, refE, A, T.gr j2 (Nat.le_of_eq (KP_fr fv (by decide))) j3 j4 j5, ?_, m + 1, ?_⟩
  · have sg' : Sk g := s0.fr (SkF.of s0 fg (by simp))
    rw [nwO_e, ini, rdR_e sg'.1, sg'.2.2.2.1, nn_s, rdR_e sg'.k9, sg'.r9 (by decide), nn_s, L11.kgg, y1, bd_s]
  · show (gQ G ++ [hz h + 4])[cN v 8]? = _
    rw [List.getElem?_append_right (by omega), lx]; simp
  · rw [ev, List.getElem?_append_right (by rw [quL_len]; omega), quL_len]; simp
theorem wt_len (a : Al h v G t) {j q : Nat} {x : R_qu} (k1 : (gQ G)[j]? = some q) (k2 : (quL v)[j]? = some x) : (gW G q).length = (leL v).countP (fun r : R_le => decide (r.2.1 = x.2.1 ∧ r.2.2.1 = 0)) := by
  rw [(a.1.2.2.2.1.2.1 j q x k1 k2).1, List.countP_eq_length_filter]
  rfl
theorem declQC (p : Pre t h v c G w) (hh : 27 ≤ hz h) : HC t h v c (f_X11_declareQueue 4 (some (chA c)) h) (m_declareQueue v) := by
  have e54 := p.2.2.1
  unfold f_X11_declareQueue m_declareQueue
  rw [inE p.1, ltd, e54]
  obtain ⟨n, ha, va, wa, x1, x2, x4, x5, x6⟩ := name_ok p.2.1
  rw [x1, bd_s, x2, bdm_s, inE (p.1.rd x5)]
  refine HC.rd x5 ?_
  have p := p.rd x5 x4
  have hh : 27 ≤ hz ha := by rw [x5.1.1]; exact hh
  obtain ⟨f, hd, vd, wd, z1, z2, z4, z5, z6⟩ := flag_ok p.2.1
  rw [z1, bd_s, z2, bdm_s, inE (p.1.rd z5)]
  refine HC.rd z5 ?_
  have p := p.rd z5 z4
  have hh : 27 ≤ hz hd := by rw [z5.1.1]; exact hh
  refine just_hc p (fun w0 => ?_)
  have nm := (x6 (z6 w0)).2
  obtain ⟨a, i, e54, h1, h2, hl, ht⟩ := p
  rw [ofE a]
  have tell : ∀ {h0 : AH} {v0 : MV} {G0 : GH} {j q : Nat} {x : R_qu}, Al h0 v0 G0 (t + 1) → Gr hd vd h0 v0 3 0 → (gQ G0)[j]? = some q → (quL v0)[j]? = some x → HC t hd vd c (f_X11_declareQueue_115 4 (some (chA c)) n (some q) h0) (m_declareQueue_151 (nI c) n (nI j) v0) := by
    intro h0 v0 G0 j q x A g k1 k2
    have gl := g.2.2.2.1
    have kq := (kinds A).2 q (List.mem_of_getElem? k1)
    obtain ⟨m0, m1, m2, m3⟩ := A.1.2.2.1.2.2.2.2.2 q kq
    have wl := wt_len A k1 k2
    obtain ⟨hj, ex⟩ := qu_k k2
    have h82 := A.2.1.1.2.1.2
    have h242 := A.2.1.1.2.2.2.2.1.2
    have h172 := A.2.1.1.2.2.2.1.2
    have cle : (leL v0).countP (fun r : R_le => decide (r.2.1 = x.2.1 ∧ r.2.2.1 = 0)) ≤ 24 := by
      have := List.countP_le_length (p := fun r : R_le => decide (r.2.1 = x.2.1 ∧ r.2.2.1 = 0)) (l := leL v0)
      rw [leL_len] at this; omega
    have cle2 : (coL v0).countP (fun r : R_co => decide (r.2.2.2.1 = x.2.1)) ≤ 6 := by
      have := List.countP_le_length (p := fun r : R_co => decide (r.2.2.2.1 = x.2.1)) (l := coL v0)
      rw [coL_len] at this; omega
    unfold f_X11_declareQueue_115 m_declareQueue_151
    have nl := nmO_le n
    obtain ⟨he, ve, p1, p2, p3, p4, p5⟩ := beg_j A.2.2.2.1 (c := nI c) (m := 12811) (a := 50) (b := 11) (nI_255 h2) (by decide) (by decide) (by omega)
    obtain ⟨hf, vf, r1, r2, r3, r4, r5⟩ := name_j p3 (x := n) nm.pos (by simp; omega)
    have se : Sk he := p4.sk A.1.2.1.1 (by decide)
    have sf : Sk hf := r4.sk se (by decide)
    have cf := p4.tr r4
    have n78 : ∀ b, kd h0 b = 0 ∨ kd h0 b = 11 ∨ kd h0 b = 9 ∨ kd h0 b = 3 → b ∉ [7, 8] := fun b hb z => by
      have := A.2.2.2.1.kk
      simp at z
      rcases z with y | y <;> subst y <;> omega
    have mf : LI hf (q + 1) (gW G0 q) := m2.fr cf.lf (n78 _ (.inl m2.1))
    have kqf : kd hf q = 11 := by rw [cf.k]; exact kq
    have rqf : gR hf q 1 = some (q + 1) := by rw [cf.R]; exact m1
    obtain ⟨hg, vg, s1, s2, s3, s4, s5⟩ := put_j r3 (x := nI (gW G0 q).length) (nI_byte (by omega)) (by simp; omega)
    have sg : Sk hg := s4.sk sf (by decide)
    have cg := cf.tr s4
    have ffr : Fr v0 vf [4, 61] [3] := (p5.tr r5).mono (by simp) (by simp)
    have fgr : Fr v0 vg [4, 61] [3] := (ffr.tr s5).mono (by simp) (by simp)
    have og := A.1.2.1.2.2.1.fr cg.lf (by intro y hy z; have := A.2.2.2.1.kk; simp at hy; rcases hy with u | u <;> subst u <;> simp [this.1, this.2] at z)
    have whg : WH hg := cg.wh A.1.1
    have l13 : LI hg 13 (gC G0) := A.1.2.2.1.2.2.2.1.fr cg.lf (by decide)
    have co := coO_ok (iq := j) (q := q) (x := x) whg.1 sg l13 og.2.2.2.2.2 (by rw [cg.k]; exact kq) k1 k2
    obtain ⟨hi, vi, t1, t2, t3, t4, t5⟩ := put_j s3 (x := nI ((coL v0).countP (fun r : R_co => decide (r.2.2.2.1 = x.2.1)))) (nI_byte (by omega)) (by simp; omega)
    have si : Sk hi := t4.sk sg (by decide)
    obtain ⟨hk, vk, u1, u2, u3, u4, u5, u6⟩ := fin_j t3 (by simp; omega)
    rw [teN A h1 h2, p1, bd_s, ouE' se p3.k7, r1, bd_s, rdR_e sf.1, sf.2.2.1, nn_s, szL rqf kqf mf, nn_s, kg_e r3.k7, s1, bd_s, rdR_e sg.1, sg.2.2.1, rdR_e sg.1, sg.2.2.2.1, nn_s, kg_e sg.k9, co, bd_s, nn_s, kg_e s3.k7, t1, bd_s, ouE' si t3.k7, u1, bd_s, p2, bdm_s, r2, bdm_s, mrI_e (show j < 5 by omega) (by decide), show vf.2.1 11 j = x.2.1 by rw [(ffr.2 11 (by decide)).1, ex], waiting_ok (A.2.1.1.2.2.2.2.1.fr ffr (by decide)).1, bdm_s, leL_fr ffr (by decide) (by decide) (by decide) (by decide) (by decide) (by decide) (by decide) (by decide) (by decide) (by decide), ← wl, s2, bdm_s, mrI_e (show j < 5 by omega) (by decide), show vg.2.1 11 j = x.2.1 by rw [(fgr.2 11 (by decide)).1, ex], consumersOf_ok (A.2.1.1.2.2.2.1.fr fgr (by decide)).1, bdm_s, coL_fr fgr (by decide) (by decide) (by decide) (by decide) (by decide) (by decide), t2, bdm_s, u2, bdm_s]
    exact ⟨0, hk, vk, G0, rfl, (A.ou u3 ((cg.tr t4).tr u5) u6).mono (by omega), (g.tr (ou_gr (o := 30) ((cg.tr t4).tr u5) u6 (by rw [u4]; simp; omega))).mono (by omega) (by split <;> omega), .inl ⟨rfl, rfl⟩⟩
  rcases lkQ a n with ⟨q1, q2, q3⟩ | ⟨j, e, r, q1, q2, q3, q4, q5, q6, q7⟩
  · rw [q1, bd_s, nb_n, q2, bdm_s]
    cases f with
    | true =>
      rw [bit_t, if_neg (by decide), if_neg (by decide), if_neg (by decide), bdm_id]
      exact HC.soft a h1 h2 (e := 404) (by decide)
    | false =>
      rw [bit_f, if_pos rfl, if_pos rfl]
      unfold f_X11_declareQueue_55 m_declareQueue_52
      by_cases n0 : lg_cmp n 0 = 0
      · rw [if_pos n0, if_pos n0, bdm_id]
        exact HC.soft a h1 h2 (e := 403) (by decide)
      · have s0 := a.1.2.1.1
        have lx := a.1.2.1.2.2.1.2.1.1
        rw [quL_len] at lx
        have c8 := a.2.1.1.2.1
        have hc8 := c8.2
        rw [if_neg n0, if_neg n0, nb_n, if_neg (show ¬ (0 : Int32) ≤ -1 by decide), rdR_e s0.1, s0.2.2.2.1, nn_s, szL (s0.r9 (by decide)) s0.k9 a.1.2.2.1.2.1, lx, c8.1]
        by_cases full : cN vd 8 = 5
        · rw [full, if_neg (show ¬ nI 5 < (5 : Int32) by decide), if_pos (show nI 5 = (5 : Int32) by decide), bdm_id]
          exact HC.soft a h1 h2 (e := 506) (by decide)
        · rw [if_pos (show nI (cN vd 8) < 5 from nI_lt (b := 5) (by omega) (by decide)), if_neg (show ¬ nI (cN vd 8) = (5 : Int32) from fun y => full ((nI_eq (b := 5) (by omega) (by omega)).mp y))]
          obtain ⟨h', v', G', u1, u2, u3, u4, u5, m, u6⟩ := qadd a hh nm q3 (by omega) (by omega)
          unfold m_declareQueue_93
          rw [u1, if_neg (show ¬ (0 : Int32) ≤ -1 by decide), u2]
          exact tell u3 u4 u5 u6
  · rw [q1, bd_s, nb_s, q2, bdm_s]
    have e52 : (if bit f = 0 then m_declareQueue_52 (nI c) n (nI j) vd else if 0 ≤ nI j then m_declareQueue_52 (nI c) n (nI j) vd else bdm (m_soft (nI c) 404 vd) fun _ v_10 => some ((), v_10)) = m_declareQueue_52 (nI c) n (nI j) vd := by
      rw [if_pos (nI_pos' (show j < 2 ^ 31 by omega))]
      split <;> rfl
    rw [e52]
    unfold f_X11_declareQueue_55 m_declareQueue_52 m_declareQueue_93
    by_cases n0 : lg_cmp n 0 = 0
    · rw [if_pos n0, if_pos n0, bdm_id]
      exact HC.soft a h1 h2 (e := 403) (by decide)
    · rw [if_neg n0, if_neg n0, nb_s, if_pos (nI_pos' (show j < 2 ^ 31 by omega)), if_pos (nI_pos' (show j < 2 ^ 31 by omega))]
      exact tell (a.mono (by omega)) ((Gr.rf hd vd).mono (by omega) (by omega)) q3 q4
end Qu

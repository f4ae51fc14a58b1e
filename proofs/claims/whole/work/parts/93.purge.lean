/-! ===== queues are emptied and deleted ===== -/
section Pg
variable {t t' : Nat} {h h1 h2 : AH} {v v' : MV} {c d : Nat} {G G' : GH} {M : List R_le} {hl : Nat → List Nat} {w : Bool} {F A K : List Nat}
theorem Al.post (a : Al h v G t) (c1 : Ci h h1 [7, 8]) (fv : Fr v v' F A) (hF : 0 ∉ F ∧ 2 ∉ F) (hA : 1 ∉ A) (o : OR h1 v') (C : Cl h2 v' G' (leL v') (gH G')) (V : VI v' t') (f : KF h1 h2 K) (hK : 12 ∉ K ∧ 10 ∉ K ∧ 7 ∉ K ∧ 100 ∉ K) : Al h2 v' G' t' ∧ IK h h2 ∧ v'.1 2 = v.1 2 ∧ v'.1 0 = v.1 0 := by
  have ir : IR h1 v' := a.2.2.2.2.fr c1.lf fv (by decide) hF.2 hA (by rw [c1.I (by decide)]) (by rw [c1.R])
  have p4 : Kp h1 h2 4 := f.kp (by rw [c1.k]; exact a.1.2.1.1.1) (by decide) (by decide) hK.1
  have p7 : Kp h1 h2 7 := f.kp o.kk.1 (by decide) (by decide) hK.2.1
  have p8 : Kp h1 h2 8 := f.kp o.kk.2 (by decide) (by decide) hK.2.2.2
  have p5 : Kp h1 h2 5 := f.kp ir.1 (by decide) (by decide) hK.2.2.1
  have p6 : Kp h1 h2 6 := f.kp ir.2.2.1 (by decide) (by decide) hK.2.2.2
  refine ⟨⟨C, V, ?_, ?_, ?_⟩, (c1.ik (by decide) (by decide)).tr ⟨by rw [p6.2.2.1], by rw [p5.2.2.1], by rw [p5.2.2.1]⟩, fv.1 2 hF.2, fv.1 0 hF.1⟩
  · rw [p4.2.2.1, c1.I (by decide), fv.1 0 hF.1]; exact a.2.2.1
  · obtain ⟨o1, s, o2⟩ := o
    exact ⟨o1, s, o2.kp p7 p8⟩
  · obtain ⟨i1, i2, i3, i4, i5, i6, i7⟩ := ir
    exact ⟨p5.k i1, by rw [p5.2.2.2.2]; exact i2, p6.k i3, by rw [p6.2.1]; exact i4, i5, by rw [p5.2.2.1]; exact i6, fun j hj => by rw [p6.2.2.1]; exact i7 j hj⟩
theorem Cl.ci (C : Cl h v G M hl) (o : kd h 7 = 10 ∧ kd h 8 = 100) (c1 : Ci h h1 [7, 8]) : Cl h1 v G M hl := C.io c1.lf (by intro x hx z; simp at hx; rcases hx with e | e <;> subst e <;> simp [o.1, o.2] at z) (c1.wh C.1) (fun q hq => by rw [c1.k] at hq; exact hq) (SkF.of C.2.1.1 c1.lf (by decide))
theorem pg_l (n : Int32) : ∀ (d f : Nat) (x : Int32) (v : MV), (leL v).countP (qW n) = d → d < f → CV v 24 24 → Bo v 30 → ∃ v', m_purge_8 f n x (fiR 0 ((leL v).findIdx? (qW n))) v = some (x + nI d, v') ∧ leL v' = (leL v).filter (fun r => !qW n r) ∧ ReF v v' := by
  intro d
  induction d with
  | zero =>
    intro f x v hd hf h24 b
    obtain ⟨q, rfl⟩ : ∃ q, f = q + 1 := ⟨f - 1, by omega⟩
    have z : ∀ r ∈ leL v, qW n r = false := fun r hr => by
      rw [List.countP_eq_zero] at hd
      simpa using hd r hr
    have e : (leL v).findIdx? (qW n) = none := by
      rw [List.findIdx?_eq_none_iff]; exact z
    refine ⟨v, ?_, ?_, ReF.rf h24 b⟩
    · rw [e, show fiR 0 none = (-1 : Int32) from rfl, m_purge_8, if_pos (by decide)]
      congr 2
      exact (Int32.add_zero x).symm
    · rw [List.filter_eq_self.mpr]
      intro r hr
      rw [z r hr]; rfl
  | succ d ih =>
    intro f x v hd hf h24 b
    obtain ⟨q, rfl⟩ : ∃ q, f = q + 1 := ⟨f - 1, by omega⟩
    have pos : 0 < (leL v).countP (qW n) := by omega
    obtain ⟨r0, hr0, hp0⟩ := List.countP_pos_iff.mp pos
    obtain ⟨j, ej⟩ := fi_of hr0 hp0
    obtain ⟨r, er, hp⟩ := fi_some ej
    obtain ⟨hj, -⟩ := le_lt er
    have h242 := h24.2
    obtain ⟨v1, y1, y2, y3, y4, y5, y6⟩ := le_rm h24 b hj
    have cnt : (leL v1).countP (qW n) = d := by
      have := (erase_perm er).countP_eq (qW n)
      rw [List.countP_cons, if_pos hp, hd] at this
      rw [y2]; omega
    obtain ⟨v', z1, z2, z3⟩ := ih q (x + 1) v1 cnt (by omega) y3 y6
    have e1 : m_firstOf n v1 = some (fiR 0 ((leL v1).findIdx? (qW n)), v1) := firstOf_ok y3 n
    refine ⟨v', ?_, ?_, ReF.tr ⟨y5, y3, y6⟩ z3⟩
    · rw [ej, fiR_s, m_purge_8, if_neg (nI_pos (show j < 2 ^ 31 by omega)), y1, bdm_s, e1, bdm_s, z1, cadd1]
    · rw [z2, y2]
      have : ∀ (l : List R_le) (j : Nat), l[j]? = some r → (l.eraseIdx j).filter (fun r => !qW n r) = l.filter (fun r => !qW n r) := by
        intro l
        induction l with
        | nil => intro j h; simp at h
        | cons y l ihl =>
          intro j h
          cases j with
          | zero => simp at h; subst h; rw [List.eraseIdx_cons_zero, List.filter_cons, if_neg (by simp [hp])]
          | succ j => simp at h; rw [List.eraseIdx_cons_succ, List.filter_cons, List.filter_cons, ihl j h]
      exact this _ _ er
theorem pg_ok (n : Int32) (h24 : CV v 24 24) (b : Bo v 30) : ∃ v', m_purge n v = some (nI ((leL v).countP (qW n)), v') ∧ leL v' = (leL v).filter (fun r => !qW n r) ∧ ReF v v' := by
  have h242 := h24.2
  have cl := List.countP_le_length (p := qW n) (l := leL v)
  rw [leL_len] at cl
  obtain ⟨v', z1, z2, z3⟩ := pg_l n _ FU 0 v rfl (by unfold FU; omega) h24 b
  refine ⟨v', ?_, z2, z3⟩
  have e1 : m_firstOf n v = some (fiR 0 ((leL v).findIdx? (qW n)), v) := firstOf_ok h24 n
  unfold m_purge
  rw [e1, bdm_s, z1, show (0 : Int32) + nI ((leL v).countP (qW n)) = nI ((leL v).countP (qW n)) from Int32.zero_add _]
theorem ff_ne {n n' : Int32} (ne : n' ≠ n) (M : List R_le) : (M.filter (fun r => !qW n r)).filter (qW n') = M.filter (qW n') := by
  rw [List.filter_filter]
  refine List.filter_congr (fun r _ => ?_)
  cases z : qW n' r with
  | false => rfl
  | true =>
    have : r.2.1 = n' := by
      simp only [qW, decide_eq_true_eq] at z
      exact z.1
    have : qW n r = false := by simp [qW, this, ne]
    simp [this]
theorem ff_h {n : Int32} (h1' : 1 ≤ c) (h2' : c ≤ 3) (M : List R_le) : (M.filter (fun r => !qW n r)).filter (cH (nI c)) = M.filter (cH (nI c)) := by
  rw [List.filter_filter]
  refine List.filter_congr (fun r _ => ?_)
  cases z : cH (nI c) r with
  | false => rfl
  | true =>
    have e : r.2.2.1 = nI c := by simpa [cH] using z
    rw [qW_held h1' h2' e n]; rfl
theorem Srt.fil {p : R_le → Bool} (s : Srt M) : Srt (M.filter p) := List.Pairwise.filter p s
theorem emptyQ {j q : Nat} {x : R_qu} (a : Al h v G t) (h1' : 1 ≤ c) (h2' : c ≤ 3) (hl' : (outL v).length < 500) (ht : t + 100 < 65536) (k1 : (gQ G)[j]? = some q) (k2 : (quL v)[j]? = some x) : HC t h v c (rdR h 4 12 1 fun r_17 => nn (some (chA c)) fun a_18 => rdI h a_18 2 0 fun x_19 => nn r_17 fun a_20 => kg h a_20 10 (bd (f_X9_begin a_20 x_19 12831 h) fun _ h_22 => rdR h_22 4 12 1 fun r_23 => rdR h_22 q 11 1 fun r_24 => nn r_24 fun a_25 => kg h_22 a_25 0 (bd (f_Jx4a65c_size_8abf5 a_25 h_22) fun x_28 h_27 => nn r_23 fun a_29 => kg h_27 a_29 10 (bd (f_X9_put a_29 x_28 h_27) fun _ h_31 => rdR h_31 4 12 1 fun r_32 => nn r_32 fun a_33 => kg h_31 a_33 10 (bd (f_X9_end a_33 h_31) fun _ h_35 => rdR h_35 q 11 1 fun r_36 => nn r_36 fun a_37 => kg h_35 a_37 0 (bd (f_Jx4a65c_clear_da8c8 a_37 h_35) fun _ h_39 => some (0, h_39))))))) (m_emptyQueue_139 30 (nI c) (nI j) x.2.1 v) := by
  have kq := (kinds a).2 q (List.mem_of_getElem? k1)
  obtain ⟨m0, m1, m2, m3⟩ := a.1.2.2.1.2.2.2.2.2 q kq
  have wl := wt_len a k1 k2
  have cl : (leL v).countP (qW x.2.1) ≤ 24 := by
    have := List.countP_le_length (p := qW x.2.1) (l := leL v)
    have := a.2.1.1.2.2.2.2.1.2
    rw [leL_len] at *; omega
  have wl : (gW G q).length = (leL v).countP (qW x.2.1) := wl
  obtain ⟨v1, y1, y2, y3⟩ := pg_ok x.2.1 a.2.1.1.2.2.2.2.1 a.2.1.2.2.1.2.1
  have o1 : OR h v1 := a.2.2.2.1.fr (LF.rf h []) y3.1 (by simp) (by simp) (by decide) (by decide)
  have eo : outL v1 = outL v := outL_fr y3.1 (by decide) (by decide)
  obtain ⟨he, ve, p1, p2, p3, p4, p5⟩ := beg_j o1 (c := nI c) (m := 12831) (a := 50) (b := 30 + 1) (nI_255 h2') (by decide) (by decide) (by rw [eo]; omega)
  obtain ⟨hf, vf, r1, r2, r3, r4, r5⟩ := put_j p3 (x := nI ((leL v).countP (qW x.2.1))) (nI_byte (by omega)) (by rw [eo]; simp; omega)
  obtain ⟨hg, vg, s1, s2, s3, s4, s5, s6⟩ := fin_j r3 (by rw [eo]; simp; omega)
  have cg := (p4.tr r4).tr s5
  have se : Sk he := p4.sk a.1.2.1.1 (by decide)
  have sf : Sk hf := r4.sk se (by decide)
  have nq7 : q + 1 ∉ [7, 8] := by simp; omega
  have me : LI he (q + 1) (gW G q) := m2.fr p4.lf nq7
  have mg : LI hg (q + 1) (gW G q) := m2.fr cg.lf nq7
  have kqe : kd he q = 11 := by rw [p4.k]; exact kq
  have rqe : gR he q 1 = some (q + 1) := by rw [p4.R]; exact m1
  have kqg : kd hg q = 11 := by rw [cg.k]; exact kq
  have rqg : gR hg q 1 = some (q + 1) := by rw [cg.R]; exact m1
  have C1 := a.1.ci a.2.2.2.1.kk cg
  obtain ⟨hb, u1, L, f2, w2, z1, z2, kx⟩ := mg.clr C1.1
  have k0 := mg.1
  have fv : Fr v vg [24, 4, 61] (lrw ++ [3]) := (y3.1.tr s6).mono (by decide) (by decide)
  have lg : leL vg = (leL v).filter (fun r => !qW x.2.1 r) := by rw [leL_fr s6 (by decide) (by decide) (by decide) (by decide) (by decide) (by decide) (by decide) (by decide) (by decide) (by decide), y2]
  have nd := a.2.1.1.2.2.2.2.2.2.2.2.2.1
  have C2 : Cl hb v (sW G q []) ((leL v).filter (fun r => !qW x.2.1 r)) (gH G) := by
    obtain ⟨c1, c2, c3, c4, c5⟩ := C1
    refine ⟨w2, c2.fr f2 (by simp [k0]), c3.w kqg f2 kx L (by simp), ?_, ?_⟩
    · obtain ⟨t1, t2, t3⟩ := c4.fr f2 (XK.l k0 (by decide))
      refine ⟨t1.fil, fun i q' r e1 e2 => ?_, fun c' e1 e2 => ?_⟩
      · have e1 : (gQ G)[i]? = some q' := e1
        show F2 _ (fu (gW G) q [] q') _
        by_cases z : q' = q
        · subst z
          have := Nodup.idx a.1.2.1.2.2.1.2.2.1 e1 k1
          subst this
          rw [k2] at e2
          cases e2
          have : ((leL v).filter (fun r => !qW x.2.1 r)).filter (qW x.2.1) = [] := by
            rw [List.filter_filter, List.filter_eq_nil_iff]
            intro r _
            cases qW x.2.1 r <;> simp
          rw [fu_s, this]
          exact F2.nil
        · rw [fu_n z, ff_ne]
          · exact t2 i q' r e1 e2
          · intro y
            have := Nodup.idx nd (map_get (f := fun r : R_qu => r.2.1) e2) (by rw [y]; exact map_get (f := fun r : R_qu => r.2.1) k2)
            subst this
            rw [k1] at e1; cases e1; exact z rfl
      · obtain ⟨rs, u1, u2⟩ := t3 c' e1 e2
        exact ⟨rs, u1, by rw [ff_h e1 e2]; exact u2⟩
    · have b := c5.fr (h' := hb) (fun a ha => c4.k8a ha) (fun a ha => (f2.kp ha (by decide) (by decide) ((XK.l k0 (K := [8]) (by decide)).no ha (by simp))).2.2.2.2) kx.noq
      intro q' hq'
      have := b q' hq'
      show (fu (gW G) q [] q').length + _ ≤ 24
      unfold fu
      split
      · simp only [List.length_nil]; omega
      · exact this
  have C3 : Cl hb vg (sW G q []) (leL vg) (gH (sW G q [])) := by
    rw [lg]; exact C2.vv fv (by decide) (by decide)
  have V1 : VI v1 t := a.2.1.le y3 (fun r' hr' => ⟨r', by rw [y2] at hr'; exact (List.mem_filter.mp hr').1, rfl, rfl, .inl rfl⟩)
  have V2 : VI vg t := V1.o s6 (by decide) (by decide)
  obtain ⟨A, i2, i3, i4⟩ := a.post cg fv (by decide) (by decide) s3 C3 V2 (f2.kf (K := [0]) (by simp [k0])) (by decide)
  have kp := KP_fr fv (by decide)
  unfold m_emptyQueue_139 m_emptyQueue_159
  rw [teN a h1' h2', p1, bd_s, rdR_e se.1, se.2.2.1, szL rqe kqe me, nn_s, kg_e p3.k7, wl, r1, bd_s, ouE' sf r3.k7, s1, bd_s, rdR_e kqg, rqg, nn_s, mg.kgg, u1, bd_s, y1, bdm_s, if_neg (by decide), p2, bdm_s, r2, bdm_s, s2, bdm_s]
  refine ⟨0, hb, vg, _, rfl, A.mono (by omega), ⟨i2, ?_, ?_, ?_, i3, i4⟩, .inl ⟨rfl, rfl⟩⟩
  · rw [z1, cg.1, kp]; omega
  · rw [z2, cg.2.1, kp]; omega
  · rw [s4, eo]; simp
theorem purgeC (p : Pre t h v c G w) : HC t h v c (f_X11_purge 4 (some (chA c)) h) (m_emptyQueue 30 v) := by
  have e54 := p.2.2.1
  have a0 := p.1
  unfold f_X11_purge m_emptyQueue
  obtain ⟨qn, ha, va, wa, x1, x2, x4, x5, x6⟩ := name_ok p.2.1
  have pa := p.rd x5 x4
  obtain ⟨a, i, e54d, h1', h2', hl, ht⟩ := pa
  have lq := lkQ a qn
  have qr : ∃ ro, f_X8_queueNamed 9 qn ha = some (ro, ha) := by
    rcases lq with ⟨q, -⟩ | ⟨_, e, _, q, -⟩
    · exact ⟨_, q⟩
    · exact ⟨_, q⟩
  obtain ⟨ro, qro⟩ := qr
  rw [oiE a0, ltd, e54, x1, bd_s, nn_s, kg_e a.1.2.1.1.k9, qro, bd_s, inE a, x2, bdm_s, if_neg (by decide)]
  refine HC.rd x5 ?_
  unfold m_emptyQueue_24
  refine just_hc ⟨a, i, e54d, h1', h2', hl, ht⟩ (fun w0 => ?_)
  rcases lq with ⟨q1, q2, q3⟩ | ⟨iq, q, x, q1, q2, q3, q4, q5, q6, q7⟩
  · rw [qro] at q1
    cases q1
    rw [nb_n, q2, bdm_s, if_neg (by decide), bdm_id]
    exact HC.soft a h1' h2' (e := 404) (by decide)
  · rw [qro] at q1
    cases q1
    obtain ⟨hiq, ex⟩ := qu_k q4
    rw [nb_s, q2, bdm_s, if_pos (nI_pos' (show iq < 2 ^ 31 by omega)), mrI_e (show iq < 5 by omega) (by decide), show va.2.1 11 iq = x.2.1 by rw [ex]]
    have e : (nz 2 (if ((0 : Int32) - 0 / 2 * 2) = 1 then bdm (m_consumersOf x.2.1 va) fun x_7 v_6 => if x_7 ≤ 0 then m_emptyQueue_86 30 (nI c) 0 (nI iq) x.2.1 0 v_6 else m_emptyQueue_86 30 (nI c) 0 (nI iq) x.2.1 1 v_6 else m_emptyQueue_86 30 (nI c) 0 (nI iq) x.2.1 0 va)) = m_emptyQueue_139 30 (nI c) (nI iq) x.2.1 va := by
      unfold nz
      rw [if_neg (by decide), if_neg (by decide)]
      unfold m_emptyQueue_86 nz
      rw [if_neg (by decide), if_neg (by decide), if_neg (by decide)]
      unfold m_emptyQueue_112
      rw [if_neg (by decide)]
    rw [e]
    exact emptyQ a h1' h2' hl ht q3 q4
end Pg

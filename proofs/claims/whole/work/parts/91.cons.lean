/-! ===== consumers ===== -/
section Co
variable {t : Nat} {h h' : AH} {v v' : MV} {c d : Nat} {G : GH} {M : List R_le} {hl : Nat → List Nat} {w : Bool}
theorem VI.fF {F : List Nat} {V : MV} (i : VI v t) (f1 : Fr v V F []) (hF : ∀ k ∈ F, k ∉ [5, 8, 9, 13, 17, 24, 25]) : VI V t := by
  obtain ⟨⟨a1, a2, a3, a4, a5, a6⟩, b, ⟨c1, c2, c3, c4, c5, c6, c7⟩, d, e⟩ := i
  have nF : ∀ k, k ∈ [5, 8, 9, 13, 17, 24, 25] → k ∉ F := fun k hk z => hF k z hk
  have q : quL V = quL v := quL_fr f1 (nF _ (by decide)) (by simp) (by simp) (by simp)
  have x : exL V = exL v := exL_fr f1 (nF _ (by decide)) (by simp) (by simp)
  have l : leL V = leL v := leL_fr f1 (nF _ (by decide)) (by simp) (by simp) (by simp) (by simp) (by simp) (by simp) (by simp) (by simp) (by simp)
  have co : coL V = coL v := coL_fr f1 (nF _ (by decide)) (by simp) (by simp) (by simp) (by simp) (by simp)
  refine ⟨⟨(a1.fr f1 (nF _ (by decide))).1, (a2.fr f1 (nF _ (by decide))).1, (a3.fr f1 (nF _ (by decide))).1, (a4.fr f1 (nF _ (by decide))).1, (a5.fr f1 (nF _ (by decide))).1, ?_⟩, ?_, ⟨c1.fr f1 (by simp), c2.fr f1 (by simp), c3.fr f1 (by simp), c4.fr f1 (by simp), c5.fr f1 (by simp), c6.fr f1 (by simp), c7.fr f1 (by simp)⟩, ?_, ?_⟩
  · rw [q, x, co]; exact a6
  · unfold ViN
    rw [q, co, l, f1.1 9 (nF _ (by decide)), f1.1 25 (nF _ (by decide))]
    exact b
  · unfold ViM; rw [q, l]; exact d
  · unfold ViC
    rw [co, l, (f1.2 35 (by simp)).1, (f1.2 36 (by simp)).1, (f1.2 38 (by simp)).1, (f1.2 39 (by simp)).1, (f1.2 40 (by simp)).1, (f1.2 47 (by simp)).1]
    exact e
theorem Cl.ser {x : Int32} (C : Cl h v G M hl) : Cl (sI h 9 5 x) (mset v 18 x) G M hl := by
  have k9 := C.2.1.1.k9
  have f : LF h (sI h 9 5 x) [9] := LF.fI
  have fv : Fr v (mset v 18 x) [18] [] := Fr.upd
  have xk : ∀ K : List Nat, 9 ∉ K → XK h [9] K := fun K z y hy q => by simp at hy; rw [hy, k9] at q; exact z q
  refine C.up f (xk _ (by decide)) C.1.fI (fun q hq => hq) (SkF.fI (by decide)) ?_ (C.2.2.1.fr f (xk _ (by decide)) (fun q hq => hq)) ((C.2.1.2.2.2.fr f (xk _ (by decide)) (fun _ _ _ => rfl)).fv fv (fun k _ _ => by simp)) rfl rfl rfl rfl rfl rfl
  obtain ⟨s1, s2, s3⟩ := C.2.1.2.1
  refine ⟨by rw [gI_sI, if_neg (by simp), ms_n (by decide)]; exact s1, by rw [gI_sI, if_pos ⟨rfl, rfl⟩, ms_s], fun c h1 h2 => ?_⟩
  rw [gI_sIn (by unfold chA; omega)]
  exact s3 c h1 h2
theorem VI.cadd {V : MV} {r : R_co} (i : VI v t) (f1 : Fr v V [17] [19, 20, 21, 22, 23]) (c17 : CV V 17 6) (b23 : Bo V 23) (ev : coL V = coL v ++ [r]) (nw : ∀ y ∈ coL v, (y.2.1, y.2.2.1) ≠ (r.2.1, r.2.2.1)) (rq : ∃ x ∈ quL v, x.2.1 = r.2.2.2.1) (hc : r.2.1 = nI c) (h2 : c ≤ 3) (st : v.2.1 35 c = 1) : VI V t := by
  obtain ⟨⟨a1, a2, a3, a4, a5, a6, a7, a8, a9, a10, a11, a12⟩, ⟨n, b1, b2, b3, b4, b5, m, b6, b7, b8⟩, ⟨c1, c2, c3, c4, c5, c6, c7⟩, d, e0, e⟩ := i
  have q : quL V = quL v := quL_fr f1 (by decide) (by decide) (by decide) (by decide)
  have x : exL V = exL v := exL_fr f1 (by decide) (by decide) (by decide)
  have l : leL V = leL v := leL_fr f1 (by decide) (by decide) (by decide) (by decide) (by decide) (by decide) (by decide) (by decide) (by decide) (by decide)
  refine ⟨⟨(a1.fr f1 (by decide)).1, (a2.fr f1 (by decide)).1, (a3.fr f1 (by decide)).1, c17, (a5.fr f1 (by decide)).1, ?_⟩, ⟨n, ?_, b2, ?_, ?_, ?_, m, ?_, b7, ?_⟩, ⟨b23, c2.fr f1 (by decide), c3.fr f1 (by decide), c4.fr f1 (by decide), c5.fr f1 (by decide), c6.fr f1 (by decide), c7.fr f1 (by decide)⟩, ?_, ?_, ?_⟩
  · rw [q, x, ev]
    refine ⟨a6, a7, a8, a9, a10, a11, ?_⟩
    rw [List.map_append, List.nodup_append]
    refine ⟨a12, by simp, fun y hy z hz' => ?_⟩
    obtain ⟨y', h', e'⟩ := List.mem_map.mp hy
    simp at hz'
    rw [hz', ← e']
    exact nw y' h'
  · rw [f1.1 9 (by decide)]; exact b1
  · rw [q]; exact b3
  · rw [ev]
    intro y hy
    rcases List.mem_append.mp hy with z | z
    · exact b4 y z
    · simp at z; rw [z]
      obtain ⟨x, hx, ex⟩ := rq
      obtain ⟨k, -, k2, k3⟩ := b3 x hx
      exact ⟨k, k2, by rw [← ex]; exact k3⟩
  · rw [l]; exact b5
  · rw [f1.1 25 (by decide)]; exact b6
  · rw [l]; exact b8
  · unfold ViM; rw [q, l]; exact d
  · rw [(f1.2 35 (by decide)).1]; exact e0
  · intro c' k1 k2
    rw [(f1.2 35 (by decide)).1, (f1.2 36 (by decide)).1, (f1.2 38 (by decide)).1, (f1.2 39 (by decide)).1, (f1.2 40 (by decide)).1, (f1.2 47 (by decide)).1, l, ev]
    obtain ⟨g1, g2, g3, g4, g5⟩ := e c' k1 k2
    refine ⟨g1, g2, g3, g4, fun hs => ?_⟩
    obtain ⟨q1, q2, q3, q4, q5⟩ := g5 hs
    refine ⟨q1, q2, q3, fun y hy => ?_, q5⟩
    rcases List.mem_append.mp hy with z | z
    · exact q4 y z
    · simp at z
      rw [z, hc]
      intro u
      rw [nI_inj3 h2 k2 u] at st
      exact hs st
theorem coAdd {iq q : Nat} {x : R_qu} {tg : Int64} {f : Bool} (a : Al h v G t) (h1 : 1 ≤ c) (h2 : c ≤ 3) (st : v.2.1 35 c = 1) (nt : NmO tg) (q1 : (gQ G)[iq]? = some q) (q2 : (quL v)[iq]? = some x) (nw : ∀ y ∈ coL v, ¬ (y.2.1 = nI c ∧ y.2.2.1 = tg)) (lt : cN v 17 < 6) : ∃ h' v' G', f_X8_addConsumer 9 (some q) (some (chA c)) tg (bit f) h = some ((), h') ∧ (∀ {β : Type} (F : MV → Option β), (mwI v 18 ((v.1 18) + 1) fun v_14 => msI v_14 19 (v_14.1 17) (v_14.1 18) fun v_15 => msI v_15 20 (v_15.1 17) (nI c) fun v_16 => msJ v_16 21 (v_16.1 17) tg fun v_17 => mrI v_17 11 (nI iq) fun x_18 => msI v_17 22 (v_17.1 17) x_18 fun v_19 => msZ v_19 23 (v_19.1 17) (bit f) fun v_20 => mwI v_20 17 ((v_20.1 17) + 1) fun v_21 => F v_21) = F v') ∧ Al h' v' G' t ∧ Gr h v h' v' 2 0 := by
  have s0 := a.1.2.1.1
  have c17 := a.2.1.1.2.2.2.1
  have e95 : gI h 9 5 = v.1 18 := a.1.2.1.2.1.2.1
  -- the serial
  have fv1 : Fr v (mset v 18 (v.1 18 + 1)) [18] [] := Fr.upd
  have C1 := a.1.ser (x := v.1 18 + 1)
  have V1 := a.2.1.fF fv1 (by decide)
  have T1 : Tr h (sI h 9 5 (v.1 18 + 1)) [9] 0 := ⟨LF.fI.kf (by simp [s0.k9]), Nat.le_refl _, Nat.le_refl _⟩
  obtain ⟨a1, i2, i3, i4, i5⟩ := a.mk (G' := G) (v' := mset v 18 (v.1 18 + 1)) C1 V1 T1.1 (by decide) fv1 (by decide) (by simp)
  have G1 := T1.gr i2 (Nat.le_of_eq (KP_fr fv1 (by simp))) i3 i4 i5
  have t9 := a.1.1.1.top
  have kt : kd (al (sI h 9 5 (v.1 18 + 1)) 3 0 (cnf 3)) (hz h + 4) = 3 := by rw [kd_al, hz_sI, if_pos rfl]
  have n9 : (9 : Nat) ≠ hz h + 4 := fun z => by rw [← z, s0.k9] at t9; exact absurd t9 (by decide)
  have fa : LF (sI h 9 5 (v.1 18 + 1)) (sI (sI (sJ (sR (sR (al (sI h 9 5 (v.1 18 + 1)) 3 0 (cnf 3)) (hz h + 4) 0 (some q)) (hz h + 4) 1 (some (chA c))) (hz h + 4) 2 tg) (hz h + 4) 3 (bit f)) (hz h + 4) 4 (v.1 18 + 1)) [] := (((((LF.fA a1.1.1.1).nR t9).nR t9).nJ t9).nI t9).nI t9
  have wa : WH (sI (sI (sJ (sR (sR (al (sI h 9 5 (v.1 18 + 1)) 3 0 (cnf 3)) (hz h + 4) 0 (some q)) (hz h + 4) 1 (some (chA c))) (hz h + 4) 2 tg) (hz h + 4) 3 (bit f)) (hz h + 4) 4 (v.1 18 + 1)) := ((((a1.1.1.fA (by omega) (by decide)).fR (by rw [kt]; decide)).fR (by rw [kd_sR, kt]; decide)).fJ).fI.fI
  have nqa : NoQ (sI h 9 5 (v.1 18 + 1)) (sI (sI (sJ (sR (sR (al (sI h 9 5 (v.1 18 + 1)) 3 0 (cnf 3)) (hz h + 4) 0 (some q)) (hz h + 4) 1 (some (chA c))) (hz h + 4) 2 tg) (hz h + 4) 3 (bit f)) (hz h + 4) 4 (v.1 18 + 1)) := fun q hq => noq_al (c := 3) (n := 0) (s := cnf 3) (by decide) q hq
  obtain ⟨a2, g2⟩ := a1.nw fa wa nqa (n := 1) (by show hz h + 1 ≤ hz h + 1; omega) (by show hs h + cnf 3 ≤ hs h + _; simp [cnf])
  have ini : ∀ {β : Type} (F : Unit → AH → Option β), bd (f_X2_init (hz h + 4) (some q) (some (chA c)) tg (bit f) (v.1 18 + 1) (al (sI h 9 5 (v.1 18 + 1)) 3 0 (cnf 3))) F = F () (sI (sI (sJ (sR (sR (al (sI h 9 5 (v.1 18 + 1)) 3 0 (cnf 3)) (hz h + 4) 0 (some q)) (hz h + 4) 1 (some (chA c))) (hz h + 4) 2 tg) (hz h + 4) 3 (bit f)) (hz h + 4) 4 (v.1 18 + 1)) := by
    intro β F
    unfold f_X2_init
    rw [wrR_e kt, wrR_e (by exact kt), wrJ_e (by exact kt), wrZ_e (by exact kt) (by cases f <;> simp [bit]), wrI_e (by exact kt), bd_s]
  have kg3 : kd (sI (sI (sJ (sR (sR (al (sI h 9 5 (v.1 18 + 1)) 3 0 (cnf 3)) (hz h + 4) 0 (some q)) (hz h + 4) 1 (some (chA c))) (hz h + 4) 2 tg) (hz h + 4) 3 (bit f)) (hz h + 4) 4 (v.1 18 + 1)) (hz h + 4) = 3 := kt
  have d4 : gI (sI (sI (sJ (sR (sR (al (sI h 9 5 (v.1 18 + 1)) 3 0 (cnf 3)) (hz h + 4) 0 (some q)) (hz h + 4) 1 (some (chA c))) (hz h + 4) 2 tg) (hz h + 4) 3 (bit f)) (hz h + 4) 4 (v.1 18 + 1)) (hz h + 4) 4 = v.1 18 + 1 := by rw [gI_sI, if_pos ⟨rfl, rfl⟩]
  have d3 : gI (sI (sI (sJ (sR (sR (al (sI h 9 5 (v.1 18 + 1)) 3 0 (cnf 3)) (hz h + 4) 0 (some q)) (hz h + 4) 1 (some (chA c))) (hz h + 4) 2 tg) (hz h + 4) 3 (bit f)) (hz h + 4) 4 (v.1 18 + 1)) (hz h + 4) 3 = bit f := by rw [gI_sI, if_neg (by simp), gI_sI, if_pos ⟨rfl, rfl⟩]
  have d2 : gJ (sI (sI (sJ (sR (sR (al (sI h 9 5 (v.1 18 + 1)) 3 0 (cnf 3)) (hz h + 4) 0 (some q)) (hz h + 4) 1 (some (chA c))) (hz h + 4) 2 tg) (hz h + 4) 3 (bit f)) (hz h + 4) 4 (v.1 18 + 1)) (hz h + 4) 2 = tg := by rw [gJ_sI, gJ_sI, gJ_sJ, if_pos ⟨rfl, rfl⟩]
  have d0 : gR (sI (sI (sJ (sR (sR (al (sI h 9 5 (v.1 18 + 1)) 3 0 (cnf 3)) (hz h + 4) 0 (some q)) (hz h + 4) 1 (some (chA c))) (hz h + 4) 2 tg) (hz h + 4) 3 (bit f)) (hz h + 4) 4 (v.1 18 + 1)) (hz h + 4) 0 = some q := by rw [gR_sI, gR_sI, gR_sJ, gR_sR, if_neg (by simp), gR_sR, if_pos ⟨rfl, rfl⟩]
  have d1 : gR (sI (sI (sJ (sR (sR (al (sI h 9 5 (v.1 18 + 1)) 3 0 (cnf 3)) (hz h + 4) 0 (some q)) (hz h + 4) 1 (some (chA c))) (hz h + 4) 2 tg) (hz h + 4) 3 (bit f)) (hz h + 4) 4 (v.1 18 + 1)) (hz h + 4) 1 = some (chA c) := by rw [gR_sI, gR_sI, gR_sJ, gR_sR, if_pos ⟨rfl, rfl⟩]
  generalize sI (sI (sJ (sR (sR (al (sI h 9 5 (v.1 18 + 1)) 3 0 (cnf 3)) (hz h + 4) 0 (some q)) (hz h + 4) 1 (some (chA c))) (hz h + 4) 2 tg) (hz h + 4) 3 (bit f)) (hz h + 4) 4 (v.1 18 + 1) = g at *
  have o := a2.1.2.1.2.2.1
  have ls := a2.1.2.2.1
  have lx := o.2.2.2.2.2.1
  rw [coL_len] at lx
  have cN1 : cN (mset v 18 (v.1 18 + 1)) 17 = cN v 17 := rfl
  rw [cN1] at lx
  obtain ⟨hb, x1, L, f2, w2, z1, z2, kx⟩ := ls.2.2.2.1.add (x := hz h + 4) a2.1.1 (by omega) (by rw [kg3]; omega)
  have k0 := ls.2.2.2.1.1
  have e17 : (mset v 18 (v.1 18 + 1)).1 17 = nI (cN v 17) := by rw [ms_n (by decide)]; exact c17.1
  have e18 : (mset v 18 (v.1 18 + 1)).1 18 = v.1 18 + 1 := ms_s
  obtain ⟨hiq, ex⟩ := qu_k q2
  have h82 := a.2.1.1.2.1.2
  have e11 : (mset v 18 (v.1 18 + 1)).2.1 11 iq = x.2.1 := by rw [ex]; rfl
  generalize hv1 : mset v 18 (v.1 18 + 1) = v1 at *
  have fv : Fr v1 (mset (mseA (mseA (mseJ (mseA (mseA v1 19 (cN v 17) (v.1 18 + 1)) 20 (cN v 17) (nI c)) 21 (cN v 17) tg) 22 (cN v 17) x.2.1) 23 (cN v 17) (bit f)) 17 (nI (cN v 17 + 1))) [17] [19, 20, 21, 22, 23] := (((((Fr.updA.tr Fr.updA).tr Fr.updJ).tr Fr.updA).tr Fr.updA).tr Fr.upd).mono (by simp) (by simp)
  have ev : coL (mset (mseA (mseA (mseJ (mseA (mseA v1 19 (cN v 17) (v.1 18 + 1)) 20 (cN v 17) (nI c)) 21 (cN v 17) tg) 22 (cN v 17) x.2.1) 23 (cN v 17) (bit f)) 17 (nI (cN v 17 + 1))) = coL v1 ++ [(v.1 18 + 1, nI c, tg, x.2.1, bit f)] := by
    have c1 : cN (mset (mseA (mseA (mseJ (mseA (mseA v1 19 (cN v 17) (v.1 18 + 1)) 20 (cN v 17) (nI c)) 21 (cN v 17) tg) 22 (cN v 17) x.2.1) 23 (cN v 17) (bit f)) 17 (nI (cN v 17 + 1))) 17 = cN v 17 + 1 := by
      show (Int32.toNatClampNeg _) = _
      rw [ms_s]; exact nI_clamp (by omega)
    unfold coL
    rw [c1, cN1, lst_succ]
    congr 1
    · exact lst_congr (fun j hj => by
        have : j ≠ cN v 17 := by omega
        simp [mset, mseA, mseJ, rw1, upd, vp_updL, this])
    · simp [mset, mseA, mseJ, rw1, upd, vp_updL]
  have b23 : Bo (mset (mseA (mseA (mseJ (mseA (mseA v1 19 (cN v 17) (v.1 18 + 1)) 20 (cN v 17) (nI c)) 21 (cN v 17) tg) 22 (cN v 17) x.2.1) 23 (cN v 17) (bit f)) 17 (nI (cN v 17 + 1))) 23 := by
    intro j
    have b := a1.2.1.2.2.1.1 j
    by_cases z : j = cN v 17
    · cases f <;> simp [mset, mseA, mseJ, rw1, upd, vp_updL, bit, z]
    · simpa [mset, mseA, mseJ, rw1, upd, vp_updL, z] using b
  have refE : ∀ {β : Type} (F : MV → Option β), (mwI v 18 ((v.1 18) + 1) fun v_14 => msI v_14 19 (v_14.1 17) (v_14.1 18) fun v_15 => msI v_15 20 (v_15.1 17) (nI c) fun v_16 => msJ v_16 21 (v_16.1 17) tg fun v_17 => mrI v_17 11 (nI iq) fun x_18 => msI v_17 22 (v_17.1 17) x_18 fun v_19 => msZ v_19 23 (v_19.1 17) (bit f) fun v_20 => mwI v_20 17 ((v_20.1 17) + 1) fun v_21 => F v_21) = F (mset (mseA (mseA (mseJ (mseA (mseA v1 19 (cN v 17) (v.1 18 + 1)) 20 (cN v 17) (nI c)) 21 (cN v 17) tg) 22 (cN v 17) x.2.1) 23 (cN v 17) (bit f)) 17 (nI (cN v 17 + 1))) := by
    intro β F
    rw [mwI_e, hv1, e17, e18, msI_e (show cN v 17 < 6 from lt) (by decide)]
    simp only [mA_1, mJ_1, e17]
    rw [msI_e (show cN v 17 < 6 from lt) (by decide)]
    simp only [mA_1, mJ_1, e17]
    rw [msJ_e (show cN v 17 < 6 from lt) (by decide), mrI_e (show iq < 5 by omega) (by decide)]
    simp only [mA_1, mJ_1, e17]
    rw [show (mseJ (mseA (mseA v1 19 (cN v 17) (v.1 18 + 1)) 20 (cN v 17) (nI c)) 21 (cN v 17) tg).2.1 11 iq = x.2.1 by show (mseA (mseA v1 19 (cN v 17) (v.1 18 + 1)) 20 (cN v 17) (nI c)).2.1 11 iq = _; rw [mA_k (by decide), mA_k (by decide)]; exact e11, msI_e (show cN v 17 < 6 from lt) (by decide)]
    simp only [mA_1, mJ_1, e17]
    rw [msZ_e (k := 23) (show cN v 17 < 6 from lt) (by decide)]
    simp only [mA_1, mJ_1, e17]
    rw [mwI_e, nI_1]
  generalize hV : mset (mseA (mseA (mseJ (mseA (mseA v1 19 (cN v 17) (v.1 18 + 1)) 20 (cN v 17) (nI c)) 21 (cN v 17) tg) 22 (cN v 17) x.2.1) 23 (cN v 17) (bit f)) 17 (nI (cN v 17 + 1)) = V at *
  have qv : quL V = quL v1 := quL_fr fv (by decide) (by decide) (by decide) (by decide)
  have xv : exL V = exL v1 := exL_fr fv (by decide) (by decide) (by decide)
  have bv : biL V = biL v1 := biL_fr fv (by decide) (by decide) (by decide) (by decide)
  have lv : leL V = leL v1 := leL_fr fv (by decide) (by decide) (by decide) (by decide) (by decide) (by decide) (by decide) (by decide) (by decide) (by decide)
  have q1v : quL v1 = quL v := by rw [← hv1]; rfl
  have c1v : coL v1 = coL v := by rw [← hv1]; rfl
  have cor : CoR g (gQ G) (quL v1) (hz h + 4) (v.1 18 + 1, nI c, tg, x.2.1, bit f) := by
    refine ⟨kg3, d4, d2, d3, nt, ⟨c, h1, h2, rfl, d1⟩, q, d0, ?_, fun j' q' x' y1 y2 => ?_⟩
    · exact fa.kk (by show kd h q = 11; exact (kinds a).2 q (List.mem_of_getElem? q1)) (by decide)
    · rw [q1v] at y2
      constructor
      · intro z
        subst z
        have := Nodup.idx o.2.2.1 y1 q1
        subst this
        rw [q2] at y2; cases y2; rfl
      · intro z
        have z : x'.2.1 = x.2.1 := z
        have := Nodup.idx a.2.1.1.2.2.2.2.2.2.2.2.2.1 (map_get (f := fun r : R_qu => r.2.1) y2) (by rw [z]; exact map_get (f := fun r : R_qu => r.2.1) q2)
        subst this
        rw [q1] at y1; cases y1; rfl
  have C : Cl hb V (sC G (gC G ++ [hz h + 4])) (leL v1) (gH G) := by
    refine a2.1.ob f2 (by simp [k0]) w2 kx fv (by decide) (by decide) rfl rfl (ls.c f2 kx L) ?_
    obtain ⟨p1, p2, p3, p4, p5, p6⟩ := o.fr f2 (XK.l k0 (by decide))
    unfold Ob
    rw [ev, qv, xv, bv]
    exact ⟨p1, p2, p3, p4, p5, p6.snoc (cor.fr f2 (XK.l k0 (by decide)))⟩
  have V2 : VI V t := a1.2.1.cadd (c := c) fv (CV.of (n := cN v 17 + 1) (by rw [← hV]; exact ms_s) (by omega) (by decide)).1 b23 ev (fun y hy z => by
    rw [c1v] at hy
    exact nw y hy ⟨congrArg Prod.fst z, congrArg Prod.snd z⟩) ⟨x, by rw [q1v]; exact List.mem_of_getElem? q2, rfl⟩ rfl h2 (by rw [← hv1]; exact st)
  rw [← lv] at C
  have T : Tr g hb [0] 1 := ⟨f2.kf (by simp [k0]), z1, by omega⟩
  obtain ⟨A, j2, j3, j4, j5⟩ := a2.mk (G' := sC G (gC G ++ [hz h + 4])) C V2 T.1 (by decide) fv (by decide) (by decide)
  refine ⟨hb, V, _, ?_, refE, A, ((G1.tr g2).tr (T.gr j2 (Nat.le_of_eq (KP_fr fv (by decide))) j3 j4 j5)).mono (by omega) (by omega)⟩
  unfold f_X8_addConsumer
  rw [rdI_e s0.k9, e95, wrI_e s0.k9, rdR_e (by exact s0.k9), show gR (sI h 9 5 (v.1 18 + 1)) 9 3 = some 13 from s0.r9 (by decide), nwO_e, hz_sI, rdI_e (by rw [kd_al, hz_sI, if_neg n9]; exact s0.k9), show gI (al (sI h 9 5 (v.1 18 + 1)) 3 0 (cnf 3)) 9 5 = v.1 18 + 1 by rw [gI_al, hz_sI, if_neg n9, gI_sI, if_pos ⟨rfl, rfl⟩], ini, nn_s, ls.2.2.2.1.kgg, x1, bd_s]
theorem fi_any {α : Type} {l : List α} {p : α → Bool} : (l.findIdx? p = none ∧ l.any p = false) ∨ (∃ j, l.findIdx? p = some j ∧ j < l.length ∧ l.any p = true) := by
  cases hf : l.findIdx? p with
  | none => exact .inl ⟨rfl, by rw [List.any_eq_false]; intro x hx; rw [fi_none hf x hx]; decide⟩
  | some j =>
    obtain ⟨a, h1, h2⟩ := fi_some hf
    exact .inr ⟨j, rfl, (List.getElem?_eq_some_iff.mp h1).1, List.any_eq_true.mpr ⟨a, List.mem_of_getElem? h1, h2⟩⟩
theorem consumeC (p : Pre t h v c G w) (st : v.2.1 35 c = 1) : HC t h v c (f_X11_consume 4 (some (chA c)) h) (m_consume v) := by
  have e54 := p.2.2.1
  have a0 := p.1
  unfold f_X11_consume m_consume
  obtain ⟨qn, ha, va, wa, x1, x2, x4, x5, x6⟩ := name_ok p.2.1
  have pa := p.rd x5 x4
  obtain ⟨tg, hb, vb, wb, y1, y2, y4, y5, y6⟩ := name_ok pa.2.1
  have pb := pa.rd y5 y4
  obtain ⟨f, hd, vd, wd, z1, z2, z4, z5, z6⟩ := flag_ok pb.2.1
  have pd := pb.rd z5 z4
  obtain ⟨a, i, e54d, h1, h2, hl, ht⟩ := pd
  have lq := lkQ a qn
  have qr : ∃ ro, f_X8_queueNamed 9 qn hd = some (ro, hd) := by
    rcases lq with ⟨q, -⟩ | ⟨_, e, _, q, -⟩
    · exact ⟨_, q⟩
    · exact ⟨_, q⟩
  obtain ⟨ro, qro⟩ := qr
  have st : vd.2.1 35 c = 1 := by rw [(z5.2.1.2 35 (by decide)).1, (y5.2.1.2 35 (by decide)).1, (x5.2.1.2 35 (by decide)).1]; exact st
  rw [oiE a0, ltd, e54, x1, bd_s, nn_s, kg_e pa.1.1.2.1.1.k9, quN_rd pa.1 (y5.tr z5) qro, bd_s, inE pa.1, y1, bd_s, inE pb.1, z1, bd_s, inE a, x2, bdm_s, y2, bdm_s, z2, bdm_s]
  refine HC.rd ((x5.tr y5).tr z5) ?_
  refine just_hc ⟨a, i, e54d, h1, h2, hl, ht⟩ (fun w0 => ?_)
  have nt := (y6 (z6 w0)).2
  rcases lq with ⟨q1, q2, q3⟩ | ⟨iq, q, x, q1, q2, q3, q4, q5, q6, q7⟩
  · rw [qro] at q1
    cases q1
    rw [nb_n, q2, bdm_s, if_neg (by decide), bdm_id]
    exact HC.soft a h1 h2 (e := 404) (by decide)
  · rw [qro] at q1
    cases q1
    have o := a.1.2.1.2.2.1
    rw [nb_s, q2, bdm_s, if_pos (nI_pos' (show iq < 2 ^ 31 by omega)), ofE a, coA_ok a.1.1.1 a.1.2.1.1 a.1.2.2.1.2.2.2.1 o.2.2.2.2.2 h1 h2 tg, bd_s, hasTag_ok a.2.1.1.2.2.2.1, bdm_s]
    have c17 := a.2.1.1.2.2.2.1
    have hc17 := c17.2
    rcases fi_any (l := coL vd) (p := fun r => decide (r.2.1 = nI c ∧ r.2.2.1 = tg)) with ⟨f1, f2⟩ | ⟨j, f1, f2, f3⟩
    · rw [f1, f2, show fiR 0 none = (-1 : Int32) from rfl, if_pos (show (-1 : Int32) < 0 by decide), bit_f, if_pos rfl]
      have s0 := a.1.2.1.1
      have lb := o.2.2.2.2.2.1
      rw [coL_len] at lb
      rw [rdR_e s0.1, s0.2.2.2.1, nn_s, szL (s0.r9 (by decide)) s0.k9 a.1.2.2.1.2.2.2.1, lb, c17.1]
      by_cases full : cN vd 17 = 6
      · rw [full, if_neg (show ¬ nI 6 < (6 : Int32) by decide), if_pos (show nI 6 = (6 : Int32) by decide), bdm_id]
        exact HC.soft a h1 h2 (e := 506) (by decide)
      · rw [if_pos (show nI (cN vd 17) < 6 from nI_lt (b := 6) (by omega) (by decide)), if_neg (show ¬ nI (cN vd 17) = (6 : Int32) from fun y => full ((nI_eq (b := 6) (by omega) (by omega)).mp y))]
        obtain ⟨h', v', G', p1, p2, p3, p4⟩ := coAdd (f := f) a h1 h2 st nt q3 q4 (fun y hy z => by
          rw [List.any_eq_false] at f2
          exact f2 y hy (decide_eq_true z)) (by omega)
        rw [ofE a, p1, bd_s, teN p3 h1 h2, p2]
        have gl := p4.2.2.2.1
        obtain ⟨he, ve, u1, u2, u3, u4, u5⟩ := beg_j p3.2.2.2.1 (c := nI c) (m := 15381) (a := 60) (b := 21) (nI_255 h2) (by decide) (by decide) (by omega)
        obtain ⟨hf, vf, r1, r2, r3, r4, r5⟩ := name_j u3 (x := tg) nt.pos (by simp; omega)
        have nl := nmO_le tg
        obtain ⟨hg, vg, s1, s2, s3, s4, s5, s6⟩ := fin_j r3 (by simp; omega)
        have se : Sk he := u4.sk p3.1.2.1.1 (by decide)
        have sf : Sk hf := r4.sk se (by decide)
        rw [u1, bd_s, ouE' se u3.k7, r1, bd_s, ouE' sf r3.k7, s1, bd_s, u2, bdm_s, r2, bdm_s, s2, bdm_s]
        refine ⟨0, hg, vg, G', rfl, (p3.ou s3 ((u4.tr r4).tr s5) s6).mono (by omega), (p4.tr (ou_gr (o := 20) ((u4.tr r4).tr s5) s6 (by rw [s4]; simp; omega))).mono (by omega) (by split <;> omega), .inl ⟨rfl, rfl⟩⟩
    · rw [f1, f3, fiR_s, if_neg (nI_pos (show j < 2 ^ 31 by rw [coL_len] at f2; omega)), bit_t, if_neg (by decide), bdm_id]
      exact HC.soft a h1 h2 (e := 530) (by decide)
theorem coDel {l' : List Nat} (a : Al h v G t) (f2 : LF h h' [13]) (w2 : WH h') (kx : KX h h') (L : LI h' 13 l') (z1 : hz h' = hz h) (z2 : hs h' = hs h) (fv : CoI v v') (sub : (coL v').Sublist (coL v)) (F : F2 (CoR h' (gQ G) (quL v)) l' (coL v')) : Al h' v' (sC G l') t ∧ Gr h v h' v' 0 0 := by
  have ls := a.1.2.2.1
  have o := a.1.2.1.2.2.1
  have k0 := ls.2.2.2.1.1
  obtain ⟨f1, c17, b23⟩ := fv
  have qv : quL v' = quL v := quL_fr f1 (by decide) (by decide) (by decide) (by decide)
  have xv : exL v' = exL v := exL_fr f1 (by decide) (by decide) (by decide)
  have bv : biL v' = biL v := biL_fr f1 (by decide) (by decide) (by decide) (by decide)
  have lv : leL v' = leL v := leL_fr f1 (by decide) (by decide) (by decide) (by decide) (by decide) (by decide) (by decide) (by decide) (by decide) (by decide)
  have C : Cl h' v' (sC G l') (leL v) (gH G) := by
    refine a.1.ob f2 (by simp [k0]) w2 kx f1 (by decide) (by decide) rfl rfl (ls.c f2 kx L) ?_
    obtain ⟨p1, p2, p3, p4, p5, p6⟩ := o.fr f2 (XK.l k0 (by decide))
    unfold Ob
    rw [qv, xv, bv]
    exact ⟨p1, p2, p3, p4, p5, F⟩
  have V2 : VI v' t := a.2.1.co ⟨f1, c17, b23⟩ sub
  rw [← lv] at C
  have T : Tr h h' [0] 0 := ⟨f2.kf (by simp [k0]), by omega, by omega⟩
  obtain ⟨A, j2, j3, j4, j5⟩ := a.mk (G' := sC G l') C V2 T.1 (by decide) f1 (by decide) (by decide)
  exact ⟨A, T.gr j2 (Nat.le_of_eq (KP_fr f1 (by decide))) j3 j4 j5⟩
theorem cancelM {tg : Int64} (h17 : CV v 17 6) (b : Bo v 23) (e54 : v.1 54 = nI c) : ∃ v', m_cancel_20 FU tg ((v.1 17) - 1) v = m_cancel_59 tg v' ∧ coL v' = (coL v).filter (fun r => !decide (r.2.1 = nI c ∧ r.2.2.1 = tg)) ∧ CoI v v' := by
  have hN := h17.2
  refine dm_fin (ls := coL) (p := fun r : R_co => decide (r.2.1 = nI c ∧ r.2.2.1 = tg)) (n := cN v 17) (coL_len v).symm ?_
  rw [h17.1]
  exact down_m (Lf := fun f x v => m_cancel_20 f tg x v) (p := fun r : R_co => decide (r.2.1 = nI c ∧ r.2.2.1 = tg)) (fin := fun v => m_cancel_59 tg v) (rm := m_removeConsumer) (fun f v _ => by
    show m_cancel_20 (f + 1) tg (nI 0 - 1) v = _
    rw [m_cancel_20, if_pos neg1_lt]) (fun f v1 k r i hr => by
    obtain ⟨hk, er⟩ := co_k hr
    have hN := i.2.1.2
    show m_cancel_20 (f + 1) tg (nI (k + 1) - 1) v1 = _
    rw [m_cancel_20, nI_pred, if_neg (nI_pos (by omega)), mrI_e (show k < 6 by omega) (by decide), show v1.2.1 20 k = r.2.1 by rw [er], i.1.1 54 (by decide), e54, mrJ_e (show k < 6 by omega) (by decide), show v1.2.2 21 k = r.2.2.1 by rw [er]]
    unfold m_cancel_53
    rw [sub1]
    by_cases z : r.2.1 = nI c
    · rw [if_pos z]
      by_cases y : r.2.2.1 = tg
      · rw [if_pos (cmp_eq.mpr y), if_pos (decide_eq_true ⟨z, y⟩)]
      · rw [if_neg (fun u => y (cmp_eq.mp u)), if_neg (by simp only [decide_eq_true_eq]; exact fun u => y u.2)]
    · rw [if_neg z, if_neg (by simp only [decide_eq_true_eq]; exact fun u => z u.1)]) co_HR (cN v 17) FU v ⟨(Fr.rf v).mono (by simp) (by simp), h17, b⟩ (by rw [coL_len]; exact Nat.le_refl _) (by unfold FU; omega)
theorem cancelC (p : Pre t h v c G w) : HC t h v c (f_X11_cancel 4 (some (chA c)) h) (m_cancel v) := by
  have e54 := p.2.2.1
  unfold f_X11_cancel m_cancel
  rw [inE p.1]
  obtain ⟨tg, ha, va, wa, x1, x2, x4, x5, x6⟩ := name_ok p.2.1
  rw [x1, bd_s, x2, bdm_s, inE (p.1.rd x5)]
  refine HC.rd x5 ?_
  have p := p.rd x5 x4
  refine just_hc p (fun w0 => ?_)
  have nt := (x6 w0).2
  obtain ⟨a, i, e54, h1, h2, hl, ht⟩ := p
  have o := a.1.2.1.2.2.1
  have ls := a.1.2.2.1
  rw [ltd, ofE a, coA_ok a.1.1.1 a.1.2.1.1 ls.2.2.2.1 o.2.2.2.2.2 h1 h2 tg, bd_s]
  obtain ⟨vb, u1, u2, u3⟩ := cancelM (tg := tg) a.2.1.1.2.2.2.1 a.2.1.2.2.1.1 e54
  rw [u1]
  have fin : ∀ {hb : AH} {Gb : GH}, Al hb vb Gb t → Gr ha va hb vb 0 0 → HC t ha va c (f_X11_cancel_53 4 (some (chA c)) tg hb) (m_cancel_59 tg vb) := by
    intro hb Gb A g
    unfold f_X11_cancel_53 m_cancel_59
    have gl := g.2.2.2.1
    obtain ⟨he, ve, p1, p2, p3, p4, p5⟩ := beg_j A.2.2.2.1 (c := nI c) (m := 15391) (a := 60) (b := 31) (nI_255 h2) (by decide) (by decide) (by omega)
    obtain ⟨hf, vf, r1, r2, r3, r4, r5⟩ := name_j p3 (x := tg) nt.pos (by simp; omega)
    have nl := nmO_le tg
    obtain ⟨hg, vg, s1, s2, s3, s4, s5, s6⟩ := fin_j r3 (by simp; omega)
    have se : Sk he := p4.sk A.1.2.1.1 (by decide)
    have sf : Sk hf := r4.sk se (by decide)
    rw [teN A h1 h2, p1, bd_s, ouE' se p3.k7, r1, bd_s, ouE' sf r3.k7, s1, bd_s, u3.1.1 54 (by decide), e54, p2, bdm_s, r2, bdm_s, s2, bdm_s]
    exact ⟨0, hg, vg, Gb, rfl, (A.ou s3 ((p4.tr r4).tr s5) s6).mono (by omega), (g.tr (ou_gr (o := 20) ((p4.tr r4).tr s5) s6 (by rw [s4]; simp; omega))).mono (by omega) (by split <;> omega), .inl ⟨rfl, rfl⟩⟩
  have sub : (coL vb).Sublist (coL va) := by rw [u2]; exact List.filter_sublist
  rcases fi_any (l := coL va) (p := fun r => decide (r.2.1 = nI c ∧ r.2.2.1 = tg)) with ⟨f1, f2⟩ | ⟨j, f1, f2, f3⟩
  · rw [f1, show fiR 0 none = (-1 : Int32) from rfl, if_pos (by decide)]
    have eq : coL vb = coL va := by
      rw [u2, List.filter_eq_self]
      intro r hr
      rw [List.any_eq_false] at f2
      have := f2 r hr
      simp only [Bool.not_eq_true', decide_eq_false_iff_not]
      exact fun z => this (decide_eq_true z)
    obtain ⟨A, g⟩ := coDel (l' := gC G) a (LF.rf ha [13]) a.1.1 (KX.rf ha) ls.2.2.2.1 rfl rfl u3 sub (by rw [eq]; exact o.2.2.2.2.2)
    exact fin A g
  · have hj := f2
    rw [coL_len] at f2
    have := a.2.1.1.2.2.2.1.2
    rw [f1, fiR_s, if_neg (nI_pos (show j < 2 ^ 31 by omega))]
    obtain ⟨r, hr, hp⟩ := fi_some f1
    have hp : r.2.1 = nI c ∧ r.2.2.1 = tg := by simpa using hp
    have eq : coL vb = (coL va).eraseIdx j := by
      rw [u2, ← er_fil (f := fun r : R_co => (r.2.1, r.2.2.1)) a.2.1.1.2.2.2.2.2.2.2.2.2.2.2 hr]
      refine List.filter_congr (fun y _ => ?_)
      simp [Prod.ext_iff, hp.1, hp.2]
    have s0 := a.1.2.1.1
    obtain ⟨hb, y1, L, f4, w4, z1, z2, kx⟩ := ls.2.2.2.1.rem a.1.1 (j := j) (by rw [o.2.2.2.2.2.1]; exact hj)
    have k0 := ls.2.2.2.1.1
    obtain ⟨A, g⟩ := coDel a f4 w4 kx L z1 z2 u3 sub (by
      rw [eq]
      exact (o.2.2.2.2.2.imp (fun a b _ _ z => z.fr f4 (XK.l k0 (by decide)))).erase j)
    rw [rdR_e s0.1, s0.2.2.2.1, nn_s, rdR_e s0.k9, s0.r9 (by decide), nn_s, ls.2.2.2.1.kgg, y1, bd_s]
    exact fin A g
end Co

/-! ===== deliveries ===== -/
section Dl
variable {t t' : Nat} {h h' h'' : AH} {v v' : MV} {c d : Nat} {G G' : GH} {w : Bool}
theorem dl1 {j q i co k : Nat} {x : R_qu} {rc : R_co} {A B : List R_le} {r : R_le} {b0 : Nat} {rest : List Nat} (a : Al h v G t) (ht : t + 1 < 65536) (hl : (outL v).length + 51 ≤ 2400) (q3 : (gQ G)[j]? = some q) (q4 : (quL v)[j]? = some x) (c3 : (gC G)[i]? = some co) (c4 : (coL v)[i]? = some rc) (u2 : leL v = A ++ r :: B) (u3 : k = A.length) (u4 : ∀ y ∈ A, qW x.2.1 y = false) (u5 : qW x.2.1 r = true) (u6 : gW G q = b0 :: rest) (u7 : LeR h (gQ G) (quL v) b0 r) : ∃ h' v' G', f_X11_deliver 4 (some q) (some co) h = some ((), h') ∧ m_deliver_39 (nI j) (nI k) (nI i) v = some (1, v') ∧ Al h' v' G' (t + 1) ∧ Gr h v h' v' 1 51 ∧ wtN v' + 1 = wtN v := by
  obtain ⟨hiq, ex⟩ := qu_k q4
  obtain ⟨hi, ec⟩ := co_k c4
  have h82 := a.2.1.1.2.1.2
  have h172 := a.2.1.1.2.2.2.1.2
  have kq := (kinds a).2 q (List.mem_of_getElem? q3)
  obtain ⟨m0, m1, m2, m3⟩ := a.1.2.2.1.2.2.2.2.2 q kq
  have cr := a.1.2.1.2.2.1.2.2.2.2.2.2 i co rc c3 c4
  obtain ⟨kco, d4, d2, d3, nt, ⟨c, h1', h2', ecc, d1⟩, -⟩ := cr
  obtain ⟨free, hfree⟩ : ∃ f : Bool, rc.2.2.2.2 = bit f := by
    rw [ec]
    rcases a.2.1.2.2.1.1 i with z | z
    · exact ⟨false, z⟩
    · exact ⟨true, z⟩
  obtain ⟨s0, -, ⟨m, hm, em⟩, -, s5'⟩ := a.2.1.2.2.2.2.2 c h1' h2'
  have st : v.2.1 35 c = 1 := by
    by_cases z : v.2.1 35 c = 1
    · exact z
    · exact absurd ecc ((s5' z).2.2.2.1 rc (List.mem_of_getElem? c4))
  have k24 : k < 24 := by
    have := a.2.1.1.2.2.2.2.1.2
    have ll := leL_len v
    rw [u2, List.length_append, List.length_cons] at ll
    omega
  obtain ⟨hr1, hx, s1, s2, s3, s4, s5, s6, s7, s8, s9, s10, s11, s12, s13, s14, s15, s16, s17, s18, s19, s20⟩ := takeSeq (x := x) (free := free) a h1' h2' q3 u6 em (hl60 a h1' h2') (some rc.1)
  have s1 : f_Jx4a65c_remove_915e3 (q + 1) 0 h = some (some b0, hr1) := s1
  have s4 : f_X1_take (chA c) (some b0) (bit free) (sI hr1 q 2 rc.1) = some ((), hx) := s4
  have k8 := u7.1
  have k8r : kd hr1 b0 = 8 := by rw [s2 _ (by rw [k8]; decide)]; exact k8
  have kc := (a.1.2.1.1.ch h1' h2').1
  have kcr : kd hr1 (chA c) = 2 := by rw [s2 _ (by rw [kc]; decide)]; exact kc
  have kcor : kd hr1 co = 3 := by rw [s2 _ (by rw [kco]; decide)]; exact kco
  have kqr : kd hr1 q = 11 := by rw [s2 _ (by rw [kq]; decide)]; exact kq
  obtain ⟨s3a, s3b⟩ := s3 co kco
  have ncq : co ≠ q := fun z => by rw [z, kq] at kco; exact absurd kco (by decide)
  obtain ⟨hb30, d, n', r0, e33, dr⟩ : (∃ b : Bool, r.2.2.2.2.1 = bit b) ∧ ∃ d n', gR h b0 0 = some d ∧ r.2.2.2.2.2.2.2.1 = nI n' ∧ DrR h d r.2.2.2.2.2.1 r.2.2.2.2.2.2.1 n' r.2.2.2.2.2.2.2.2 := by
    refine ⟨?_, u7.2.2.2.2.1⟩
    obtain ⟨-, er⟩ := le_lt (show (leL v)[k]? = some r by rw [u2, u3]; simp)
    rw [er]
    rcases a.2.1.2.2.1.2.1 k with z | z
    · exact ⟨false, z⟩
    · exact ⟨true, z⟩
  obtain ⟨b, hb⟩ := hb30
  obtain ⟨-, er⟩ := le_lt (show (leL v)[k]? = some r by rw [u2, u3]; simp)
  have lhk := (a.1.2.2.1.2.2.2.2.1 c h1' h2').1.1
  have nin : ∀ y, kd h y = 5 ∨ kd h y = 101 ∨ kd h y = 3 → y ∉ [b0, q + 1, q, chA c, chA c + 1] := fun y hy z => by
    have := m2.1
    simp at z
    rcases z with e | e | e | e | e <;> rw [e] at hy <;> omega
  have drx : DrR hx d r.2.2.2.2.2.1 r.2.2.2.2.2.2.1 n' r.2.2.2.2.2.2.2.2 := dr.fr s5 (nin _ (.inl dr.1)) (nin _ (.inr (.inl dr.2.2.2.2.1.1)))
  have pco : Kp h hx co := s5.kp kco (by decide) (by decide) (nin _ (.inr (.inr kco)))
  have kcox : kd hx co = 3 := pco.k kco
  have d1x : gR hx co 1 = some (chA c) := by rw [pco.2.2.2.2]; exact d1
  have d2x : gJ hx co 2 = rc.2.2.1 := by rw [pco.2.2.2.1]; exact d2
  have k8x : kd hx b0 = 8 := s5.kk k8 (by decide)
  have f1 : Fr v (mseA (mseA v 12 j rc.1) 38 c (nI (m + 1))) [] [12, 38] := (Fr.updA.tr Fr.updA).mono (by simp) (by simp)
  have oo := a.2.2.2.1
  have p7 : Kp h hx 7 := s19.1.kp oo.kk.1 (by decide) (by decide) (by decide)
  have p8 : Kp h hx 8 := s19.1.kp oo.kk.2 (by decide) (by decide) (by decide)
  have ox : OR hx (mseA (mseA v 12 j rc.1) 38 c (nI (m + 1))) := oo.kp p7 p8 f1 (by simp) (by simp)
  have eo : outL (mseA (mseA v 12 j rc.1) 38 c (nI (m + 1))) = outL v := outL_fr f1 (by simp) (by simp)
  have nb78 : ∀ y, kd hx y = 8 ∨ kd hx y = 0 ∨ kd hx y = 5 → y ∉ [7, 8] := fun y hy z => by
    have := ox.kk
    simp at z
    rcases z with e | e <;> rw [e] at hy <;> omega
  have nlt := nmO_le rc.2.2.1
  obtain ⟨he, ve, g1, g2, g3, g4, g5⟩ := beg_j ox (c := nI c) (m := 15420) (a := 60) (b := 60) (nI_255 h2') (by decide) (by decide) (by rw [eo]; omega)
  obtain ⟨hn, vn, n1, n2, n3, n4, n5⟩ := name_j g3 (x := rc.2.2.1) nt.pos (by rw [eo]; simp; omega)
  have cn := g4.tr n4
  have f1n : Fr (mseA (mseA v 12 j rc.1) 38 c (nI (m + 1))) vn [4, 61] [3] := (g5.tr n5).mono (by simp) (by simp)
  obtain ⟨hf, vf, ps, t1, t2, t3, t4, t5, t6⟩ := tell_j (c := c) (d := d) (a0 := b0) (k := k) (n := m + 1) (b := b) (e := r.2.2.2.2.2.1) (kk := r.2.2.2.2.2.2.1) n3 h2' (by rw [cn.k]; exact k8x) (by rw [cn.I (nb78 _ (.inl k8x))]; exact s12) (by omega) (by rw [cn.I (nb78 _ (.inl k8x)), s11, u7.2.2.2.1]; exact hb) (by rw [cn.R, s13]; exact r0) (by rw [cn.k]; exact drx.1) (by rw [cn.2.2.2.2.1]; exact drx.2.1) (by rw [cn.2.2.2.2.1]; exact drx.2.2.1) drx.2.2.2.2.2.2.2.2.2.1 drx.2.2.2.2.2.2.2.2.2.2 (nb78 _ (.inl k8x)) k24 (by rw [(f1n.2 38 (by decide)).1]; exact mA_s) (by rw [(f1n.2 30 (by decide)).1, mA_k (by decide), mA_k (by decide), ← hb, er]; rfl) (by rw [(f1n.2 31 (by decide)).2]; show v.2.2 31 k = _; rw [er]; rfl) (by rw [(f1n.2 32 (by decide)).2]; show v.2.2 32 k = _; rw [er]; rfl) (by rw [eo]; simp; omega)
  obtain ⟨hk, vk, y1, y2, y3, y4, y5, y6⟩ := fin_j t3 (by rw [eo]; simp; omega)
  have cf := cn.tr t5
  have ck := cf.tr y5
  have se : Sk he := g4.sk s20 (by decide)
  have sn : Sk hn := n4.sk se (by decide)
  have sf : Sk hf := t5.sk sn (by decide)
  have sk' : Sk hk := y5.sk sf (by decide)
  have len4 : (outL vk).length + 15 ≤ 2400 := by rw [y4, eo]; simp; omega
  obtain ⟨hm', vm, w1, w2, w3, w4, w5, w6⟩ := content_j y3 (d := d) (n := n') (c := nI c) (x := r.2.2.2.2.2.2.2.2) (by rw [ck.k]; exact drx.1) (by rw [ck.I (nb78 _ (.inr (.inr drx.1)))]; exact drx.2.2.2.2.2.1) drx.2.2.2.2.2.2.2.2.1 (by rw [ck.2.2.2.2.1]; exact drx.2.2.2.2.2.2.2.1) (nI_255 h2') len4
  have fdk : Fr v vk [4, 61] [12, 38, 3] := (f1.tr y6).mono (by simp) (by simp)
  have fdm : Fr v vm [4, 61] [12, 38, 3] := (fdk.tr w6).mono (by simp) (by simp)
  have eQ : quL (mseA (mseA v 12 j rc.1) 38 c (nI (m + 1))) = (quL v).set j (x.1, x.2.1, rc.1) := by
    show lst (cN v 8) _ = (lst (cN v 8) _).set j _
    refine lst_set hiq ?_ (fun i' _ hne => ?_)
    · rw [ex]; simp [mseA, rw1, upd]
    · simp [mseA, rw1, upd, hne]
  have ft := fin_take (k := k) (o := 51) (s := rc.1) (v1 := mseA (mseA v 12 j rc.1) 38 c (nI (m + 1))) (v2 := vm) (h'' := hm') (F1 := []) a h1' h2' st (by omega) q3 q4 u2 u3 u4 u5 u6 em hm s5 s6 s7 s8 s9 s10 s11 s12 s13 s14 s15 s16 s17 s18 s19 f1 mA_s (fun i hi => by rw [mA_n hi, mA_k (by decide)]) eQ w3 (ck.tr w5) ((y6.tr w6).mono (by simp) (by simp)) (by rw [y4, eo] at w4; simp at w4; omega)
  obtain ⟨v9, G9, i1, i2, i3, i4⟩ := ft
  refine ⟨hm', v9, G9, ?_, ?_, i2, i3, i4⟩
  · unfold f_X11_deliver
    rw [nn_s, rdR_e kq, m1, nn_s, m2.kgg, m2.emp, bd_s, u6, show (b0 :: rest).isEmpty = false from rfl, bit_f, if_pos rfl, rdR_e kq, m1, nn_s, m2.kgg, s1, bd_s, ckc_e k8r, nn_s, rdI_e kcor, s3a, d4, wrI_e kqr, rdR_e (by exact kcor), show gR (sI hr1 q 2 rc.1) co 1 = some (chA c) by rw [gR_sI, s3b]; exact d1, rdI_e (by exact kcor), show gI (sI hr1 q 2 rc.1) co 3 = bit free by rw [gI_sIn ncq, s3a, d3]; exact hfree, nn_s, kg_e (by exact kcr), s4, bd_s, rdR_e s20.1, s20.2.2.1, rdR_e kcox, d1x, nn_s, rdI_e (s20.ch h1' h2').1, (s20.ch h1' h2').2.2.2, nn_s, kg_e ox.kk.1, g1, bd_s, rdR_e se.1, se.2.2.1, rdJ_e (by rw [g4.k]; exact kcox), g4.2.2.2.2.1, d2x, nn_s, kg_e g3.k7, n1, bd_s, ouE' sn n3.k7, t1, bd_s, ouE' sf t3.k7, y1, bd_s, rdR_e sk'.1, sk'.2.2.1, rdR_e (by rw [ck.k]; exact kcox), ck.R, d1x, nn_s, rdI_e (sk'.ch h1' h2').1, (sk'.ch h1' h2').2.2.2, nn_s, rdR_e (by rw [ck.k]; exact k8x), ck.R, s13, r0, nn_s, kg_e y3.kk.1, w1, bd_s]
  · unfold m_deliver_39
    rw [mrI_e (show i < 6 by omega) (by decide), mrI_e (show i < 6 by omega) (by decide), show v.2.1 20 i = nI c by rw [← ecc, ec], show v.2.1 19 i = rc.1 by rw [ec], msI_e (show j < 5 by omega) (by decide), mrI_e (show c < 4 by omega) (by decide), mA_k (show 38 ≠ 12 by decide), em, nI_1, msI_e (show c < 4 by omega) (by decide), g2, bdm_s, mrJ_e (show i < 6 by omega) (by decide), show ve.2.2 21 i = rc.2.2.1 by rw [(g5.2 21 (by decide)).2]; show v.2.2 21 i = _; rw [ec], n2, bdm_s, t2, bdm_s, y2, bdm_s, mrI_e (show k < 24 from k24) (by decide), mrJ_e (show k < 24 from k24) (by decide), show vk.2.1 33 k = nI n' by rw [(fdk.2 33 (by decide)).1, ← e33, er]; rfl, show vk.2.2 34 k = r.2.2.2.2.2.2.2.2 by rw [(fdk.2 34 (by decide)).2, er]; rfl, w2, bdm_s, mrI_e (show i < 6 by omega) (by decide), show vm.2.1 23 i = bit free by rw [(fdm.2 23 (by decide)).1, ← hfree, ec], i1, bdm_s, rz_1]
theorem dn_l (a : Al h v G t) (ht : t + 1 < 65536) (hl : (outL v).length + 51 ≤ 2400) : ∀ (d i f f' : Nat), i + d = (gQ G).length → d < f → d < f' → (f_X11_deliverNext_2 f 4 (nI i) h = some (0, h) ∧ m_deliver_2 f' (nI i) v = some (0, v)) ∨ ∃ h' v' G', f_X11_deliverNext_2 f 4 (nI i) h = some (1, h') ∧ m_deliver_2 f' (nI i) v = some (1, v') ∧ Al h' v' G' (t + 1) ∧ Gr h v h' v' 1 51 ∧ wtN v' + 1 = wtN v := by
  have s := a.1.2.1.1
  have ls := a.1.2.2.1
  have o := a.1.2.1.2.2.1
  have q5' := q5 a
  have ql := o.2.1.1
  rw [quL_len] at ql
  have c8 := a.2.1.1.2.1
  intro d
  induction d with
  | zero =>
    intro i f f' hi hf hf'
    obtain ⟨g, rfl⟩ : ∃ g, f = g + 1 := ⟨f - 1, by omega⟩
    obtain ⟨g', rfl⟩ : ∃ g, f' = g + 1 := ⟨f' - 1, by omega⟩
    left
    constructor
    · rw [f_X11_deliverNext_2, rdR_e s.1, s.2.2.2.1, nn_s, szL (s.r9 (by decide)) s.k9 ls.2.1, if_pos (nI_le (by omega) (by omega)), rz_0]
    · rw [m_deliver_2, c8.1, if_pos (nI_le (by omega) (by omega)), rz_0]
  | succ d ih =>
    intro i f f' hi hf hf'
    obtain ⟨g, rfl⟩ : ∃ g, f = g + 1 := ⟨f - 1, by omega⟩
    obtain ⟨g', rfl⟩ : ∃ g, f' = g + 1 := ⟨f' - 1, by omega⟩
    obtain ⟨q, x, q3, q4, qr⟩ := o.2.1.get (i := i) (by omega)
    obtain ⟨hiq, ex⟩ := qu_k q4
    have kq := qr.1
    obtain ⟨m0, m1, m2, m3⟩ := ls.2.2.2.2.2 q kq
    have fo : m_firstOf x.2.1 v = some (fiR 0 ((leL v).findIdx? (qW x.2.1)), v) := firstOf_ok a.2.1.1.2.2.2.2.1 x.2.1
    have IH := ih (i + 1) g g' (by omega) (by omega) (by omega)
    rw [f_X11_deliverNext_2, rdR_e s.1, s.2.2.2.1, nn_s, szL (s.r9 (by decide)) s.k9 ls.2.1, if_neg (nI_ge (by omega) (by omega)), rdR_e s.1, s.2.2.2.1, nn_s, gtL (s.r9 (by decide)) s.k9 ls.2.1 (by omega), q3, ckc_e kq, nn_s, rdR_e kq, m1, nn_s, m2.kgg, m2.emp, bd_s, m_deliver_2, c8.1, if_neg (nI_ge (by omega) (by omega)), mrI_e (show i < 5 by omega) (by decide), show v.2.1 11 i = x.2.1 by rw [ex], fo, bdm_s]
    unfold f_X11_deliverNext_59 m_deliver_34
    rcases wt_split a q3 q4 with ⟨u1, u2⟩ | ⟨k, A, r, B, b0, rest, u1, u2, u3, u4, u5, u6, u7, u8⟩
    · rw [u1, u2, show ([] : List Nat).isEmpty = true from rfl, bit_t, if_neg (show ¬ (1 : Int32) = 0 by decide), nb_n, show fiR 0 none = (-1 : Int32) from rfl, if_neg (show ¬ (0 : Int32) ≤ -1 by decide), if_pos (show (-1 : Int32) < 0 by decide), nI_1]
      exact IH
    · have k24 : k < 24 := by
        have := a.2.1.1.2.2.2.2.1.2
        have ll := leL_len v
        rw [u2, List.length_append, List.length_cons] at ll
        omega
      have hh : ∀ c, 1 ≤ c → c ≤ 3 → (gH G c).length = hdC v c := fun c e1 e2 => by
        rw [hl_len a.1 e1 e2]
        unfold hdC
        rw [List.countP_eq_length_filter]
        rfl
      have nc := nxC_ok a.1.1.1 s a.1.2.1.2.1 (fun c e1 e2 => (ls.2.2.2.2.1 c e1 e2).1) hh ls.2.2.2.1 o.2.2.2.2.2 qr q3 q4
      have nm := nxM_ok a.2.1.1.2.2.2.1 a.2.1.1.2.2.2.2.1 c8 q4 (fun r hr => by
        obtain ⟨aa, -, z⟩ := o.2.2.2.2.2.ofR hr
        obtain ⟨c, -, e2, e3, -⟩ := z.2.2.2.2.2.1
        exact ⟨c, e2, e3⟩)
      rw [u1, u6, show (b0 :: rest).isEmpty = false from rfl, bit_f, if_pos rfl, ofE a, nc, bd_s, fiR_s, if_pos (nI_pos' (show k < 2 ^ 31 by omega)), nm, bdm_s]
      cases hn : nxF v x.2.1 x.2.2 (coL v) with
      | none =>
        show (nb none _ _ = _ ∧ _) ∨ _
        rw [nb_n, show fiR 0 none = (-1 : Int32) from rfl, if_pos (show (-1 : Int32) < 0 by decide), nI_1]
        exact IH
      | some i' =>
        have hi' : i' < (coL v).length := by
          unfold nxF at hn
          split at hn
          · rename_i jj hj
            cases hn
            exact (List.getElem?_eq_some_iff.mp (fi_some hj).choose_spec.1).1
          · exact (List.getElem?_eq_some_iff.mp (fi_some hn).choose_spec.1).1
        obtain ⟨co, rc, c3, c4, -⟩ := o.2.2.2.2.2.get (i := i') (by rw [o.2.2.2.2.2.1]; exact hi')
        right
        obtain ⟨h', v', G', z1, z2, z3, z4, z5⟩ := dl1 a ht hl q3 q4 c3 c4 u2 u3 u4 u5 u6 u7
        have h17 := a.2.1.1.2.2.2.1.2
        rw [coL_len] at hi'
        refine ⟨h', v', G', ?_, ?_, z3, z4, z5⟩
        · show nb ((gC G)[i']?) _ _ = _
          rw [c3, nb_s]
          unfold f_X11_deliverNext_64
          rw [kg_e s.1, z1, bd_s, rz_1]
        · rw [fiR_s, if_neg (nI_pos (show i' < 2 ^ 31 by omega))]
          exact z2
theorem dn_0 (a : Al h v G t) (z : wtN v = 0) : m_deliver v = some (0, v) := by
  have c8 := a.2.1.1.2.1
  have h82 := c8.2
  have L : ∀ (d i f : Nat), i + d = cN v 8 → d < f → m_deliver_2 f (nI i) v = some (0, v) := by
    intro d
    induction d with
    | zero =>
      intro i f hi hf
      obtain ⟨g, rfl⟩ : ∃ g, f = g + 1 := ⟨f - 1, by omega⟩
      rw [m_deliver_2, c8.1, if_pos (nI_le (by omega) (by omega)), rz_0]
    | succ d ih =>
      intro i f hi hf
      obtain ⟨g, rfl⟩ : ∃ g, f = g + 1 := ⟨f - 1, by omega⟩
      have e : (leL v).findIdx? (qW (v.2.1 11 i)) = none := by
        rw [List.findIdx?_eq_none_iff]
        intro r hr
        unfold wtN at z
        rw [List.countP_eq_zero] at z
        have := z r hr
        simp only [decide_eq_true_eq] at this
        simp [qW, this]
      have fo : m_firstOf (v.2.1 11 i) v = some (fiR 0 ((leL v).findIdx? (qW (v.2.1 11 i))), v) := firstOf_ok a.2.1.1.2.2.2.2.1 _
      rw [m_deliver_2, c8.1, if_neg (nI_ge (by omega) (by omega)), mrI_e (show i < 5 by omega) (by decide), fo, bdm_s, e, show fiR 0 none = (-1 : Int32) from rfl, if_neg (by decide)]
      unfold m_deliver_34
      rw [if_pos (by decide), nI_1]
      exact ih (i + 1) g (by omega) (by omega)
  exact L (cN v 8) 0 FU (by omega) (by unfold FU; omega)
theorem da_l : ∀ (W k f f' t : Nat) (h : AH) (v : MV) (G : GH), wtN v ≤ W → W ≤ k → k ≤ 24 → k < f → W < f' → Al h v G t → v.1 0 = 4 → t + W + 1 < 65536 → (outL v).length + 51 * W ≤ 2349 → ∃ h' v' G', f_X11_deliverAll_13 f 4 1 (nI (24 - k)) h = some ((), h') ∧ m_step_106 f' v = some (1, v') ∧ Al h' v' G' (t + W) ∧ Gr h v h' v' W (51 * W) := by
  intro W
  induction W with
  | zero =>
    intro k f f' t h v G hw hk hk2 hf hf' a e0 ht hl
    obtain ⟨g, rfl⟩ : ∃ g, f = g + 1 := ⟨f - 1, by omega⟩
    obtain ⟨g', rfl⟩ : ∃ g, f' = g + 1 := ⟨f' - 1, by omega⟩
    have z := dn_0 a (by omega)
    have rf : m_step_106 (g' + 1) v = some (1, v) := by rw [m_step_106, if_pos e0, z, bdm_s, if_pos rfl]
    by_cases k0 : k = 0
    · subst k0
      refine ⟨h, v, G, ?_, rf, a, (Gr.rf h v).mono (by omega) (by omega)⟩
      rw [f_X11_deliverAll_13, if_pos (by decide)]
    · obtain ⟨g2, rfl⟩ : ∃ g2, g = g2 + 1 := ⟨g - 1, by omega⟩
      have q5' := q5 a
      rcases dn_l (t := t) a (by omega) (by omega) (gQ G).length 0 FU FU (by omega) (by unfold FU; omega) (by unfold FU; omega) with ⟨y1, y2⟩ | ⟨h', v', G', y1, y2, y3, y4, y5⟩
      · refine ⟨h, v, G, ?_, rf, a, (Gr.rf h v).mono (by omega) (by omega)⟩
        have y1 : f_X11_deliverNext 4 h = some (0, h) := y1
        rw [f_X11_deliverAll_13, if_neg (show ¬ (24 : Int32) ≤ nI (24 - k) from nI_ge (b := 24) (by omega) (by decide)), if_neg (by decide), kg_e a.1.2.1.1.1, y1, bd_s, f_X11_deliverAll_13, if_pos (show (0 : Int32) = 0 from rfl)]
        split <;> rfl
      · omega
  | succ W ih =>
    intro k f f' t h v G hw hk hk2 hf hf' a e0 ht hl
    obtain ⟨g, rfl⟩ : ∃ g, f = g + 1 := ⟨f - 1, by omega⟩
    obtain ⟨g', rfl⟩ : ∃ g, f' = g + 1 := ⟨f' - 1, by omega⟩
    have q5' := q5 a
    have nle : ¬ (24 : Int32) ≤ nI (24 - k) := nI_ge (b := 24) (by omega) (by decide)
    rcases dn_l (t := t) a (by omega) (by omega) (gQ G).length 0 FU FU (by omega) (by unfold FU; omega) (by unfold FU; omega) with ⟨y1, y2⟩ | ⟨h', v', G', y1, y2, y3, y4, y5⟩
    · obtain ⟨g2, rfl⟩ : ∃ g2, g = g2 + 1 := ⟨g - 1, by omega⟩
      have y1 : f_X11_deliverNext 4 h = some (0, h) := y1
      have y2 : m_deliver v = some (0, v) := y2
      refine ⟨h, v, G, ?_, ?_, a.mono (by omega), (Gr.rf h v).mono (by omega) (by omega)⟩
      · rw [f_X11_deliverAll_13, if_neg nle, if_neg (by decide), kg_e a.1.2.1.1.1, y1, bd_s, f_X11_deliverAll_13, if_pos (show (0 : Int32) = 0 from rfl)]
        split <;> rfl
      · rw [m_step_106, if_pos e0, y2, bdm_s, if_pos rfl]
    · have y1 : f_X11_deliverNext 4 h = some (1, h') := y1
      have y2 : m_deliver v = some (1, v') := y2
      have f54 : Fr v' (mset v' 54 0) [54] [] := Fr.upd
      have C := y3.1.vv f54 (by decide) (by simp)
      have l54 : leL (mset v' 54 0) = leL v' := rfl
      rw [← l54] at C
      obtain ⟨A, i2, i3, i4, i5⟩ := y3.mk (v' := mset v' 54 0) C (y3.2.1.o f54 (by decide) (by simp)) (KF.rf h' []) (by decide) f54 (by decide) (by simp)
      have g54 := (Tr.rf h' []).gr i2 (Nat.le_of_eq (KP_fr f54 (by simp))) i3 i4 i5
      have w54 : wtN (mset v' 54 0) = wtN v' := rfl
      have ol := y4.2.2.2.1
      obtain ⟨h2, v2, G2, z1, z2, z3, z4⟩ := ih (k - 1) g g' (t + 1) h' (mset v' 54 0) G' (by rw [w54]; omega) (by omega) (by omega) (by omega) (by omega) A (by rw [i5, y4.2.2.2.2.2]; exact e0) (by omega) (by rw [i3]; omega)
      refine ⟨h2, v2, G2, ?_, ?_, z3.mono (by omega), ((y4.tr g54).tr z4).mono (by omega) (by omega)⟩
      · rw [f_X11_deliverAll_13, if_neg nle, if_neg (by decide), kg_e a.1.2.1.1.1, y1, bd_s, nI_1, show 24 - k + 1 = 24 - (k - 1) by omega]
        exact z1
      · rw [m_step_106, if_pos e0, y2, bdm_s, if_neg (by decide), mwI_e]
        exact z2
theorem wt_24 (a : Al h v G t) : wtN v ≤ 24 := by
  have := List.countP_le_length (p := fun r : R_le => decide (r.2.2.1 = 0)) (l := leL v)
  have := a.2.1.1.2.2.2.2.1.2
  unfold wtN
  rw [leL_len] at *
  omega
/-- all deliveries of a step -/
theorem da_ok (a : Al h v G t) (ht : t + 26 < 65536) (hl : (outL v).length ≤ 1100) : ∃ h' v' G', f_X11_deliverAll 4 h = some ((), h') ∧ m_step_106 FU v = some (1, v') ∧ Al h' v' G' (t + 24) ∧ Gr h v h' v' 24 1224 := by
  have k4 := a.1.2.1.1.1
  unfold f_X11_deliverAll
  rw [rdI_e k4, a.2.2.1]
  by_cases e0 : v.1 0 = 4
  · rw [if_pos e0]
    obtain ⟨h', v', G', z1, z2, z3, z4⟩ := da_l 24 24 FU FU t h v G (wt_24 a) (by omega) (by omega) (by unfold FU; omega) (by unfold FU; omega) a e0 (by omega) (by omega)
    exact ⟨h', v', G', z1, z2, z3, z4⟩
  · rw [if_neg e0]
    refine ⟨h, v, G, rfl, ?_, a.mono (by omega), (Gr.rf h v).mono (by omega) (by omega)⟩
    rw [show FU = 9999 + 1 from rfl, m_step_106, if_neg e0]
end Dl

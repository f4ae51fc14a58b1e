/-! ===== exchanges and bindings go; bindings come ===== -/
theorem er_fil {α β : Type} [DecidableEq β] {f : α → β} : ∀ {l : List α} {i : Nat} {y : α}, (l.map f).Nodup → l[i]? = some y → l.filter (fun r => !decide (f r = f y)) = l.eraseIdx i := by
  intro l
  induction l with
  | nil => intro i y _ h; simp at h
  | cons x l ih =>
    intro i y nd h
    simp only [List.map_cons, List.nodup_cons] at nd
    cases i with
    | zero =>
      simp at h
      subst h
      rw [List.filter_cons, if_neg (by simp), List.eraseIdx_cons_zero, List.filter_eq_self.mpr]
      intro r hr
      simp only [Bool.not_eq_true', decide_eq_false_iff_not]
      exact fun z => nd.1 (List.mem_map.mpr ⟨r, hr, z⟩)
    | succ i =>
      simp at h
      rw [List.filter_cons, if_pos, List.eraseIdx_cons_succ, ih nd.2 h]
      simp only [Bool.not_eq_true', decide_eq_false_iff_not]
      exact fun z => nd.1 (List.mem_map.mpr ⟨y, List.mem_of_getElem? h, z.symm⟩)
section Xd
variable {t : Nat} {h h' : AH} {v v' : MV} {c d : Nat} {G : GH} {w : Bool}
/-- what VI says of lists, when some of them get shorter -/
theorem VI.sub {F A : List Nat} {V : MV} (i : VI v t) (f1 : Fr v V F A) (hF : ∀ k ∈ F, k ∈ [5, 13]) (hA : ∀ k ∈ A, k ∈ [6, 7, 14, 15, 16]) (c5 : CV V 5 6) (c13 : CV V 13 12) (sx : (exL V).Sublist (exL v)) (e0 : (exL V)[0]? = some (0, 0)) : VI V t := by
  obtain ⟨⟨a1, a2, a3, a4, a5, a6, a7, a8, a9⟩, b, ⟨c1, c2, c3, c4, c5', c6, c7⟩, d, e⟩ := i
  have nF : ∀ k, k ∉ [5, 13] → k ∉ F := fun k hk z => hk (hF k z)
  have nA : ∀ k, k ∉ [6, 7, 14, 15, 16] → k ∉ A := fun k hk z => hk (hA k z)
  have q : quL V = quL v := quL_fr f1 (nF _ (by decide)) (nA _ (by decide)) (nA _ (by decide)) (nA _ (by decide))
  have l : leL V = leL v := leL_fr f1 (nF _ (by decide)) (nA _ (by decide)) (nA _ (by decide)) (nA _ (by decide)) (nA _ (by decide)) (nA _ (by decide)) (nA _ (by decide)) (nA _ (by decide)) (nA _ (by decide)) (nA _ (by decide))
  have co : coL V = coL v := coL_fr f1 (nF _ (by decide)) (nA _ (by decide)) (nA _ (by decide)) (nA _ (by decide)) (nA _ (by decide)) (nA _ (by decide))
  refine ⟨⟨c5, (a2.fr f1 (nF _ (by decide))).1, c13, (a4.fr f1 (nF _ (by decide))).1, (a5.fr f1 (nF _ (by decide))).1, e0, (sx.map _).nodup a7, fun r hr => a8 r (sx.subset hr), ?_⟩, ?_, ⟨c1.fr f1 (nA _ (by decide)), c2.fr f1 (nA _ (by decide)), c3.fr f1 (nA _ (by decide)), c4.fr f1 (nA _ (by decide)), c5'.fr f1 (nA _ (by decide)), c6.fr f1 (nA _ (by decide)), c7.fr f1 (nA _ (by decide))⟩, ?_, ?_⟩
  · rw [q, co]; exact a9
  · unfold ViN
    rw [q, co, l, f1.1 9 (nF _ (by decide)), f1.1 25 (nF _ (by decide))]
    exact b
  · unfold ViM; rw [q, l]; exact d
  · unfold ViC
    rw [co, l, (f1.2 35 (nA _ (by decide))).1, (f1.2 36 (nA _ (by decide))).1, (f1.2 38 (nA _ (by decide))).1, (f1.2 39 (nA _ (by decide))).1, (f1.2 40 (nA _ (by decide))).1, (f1.2 47 (nA _ (by decide))).1]
    exact e
theorem kinds (a : Al h v G t) : (∀ x ∈ gX G, kd h x = 6) ∧ ∀ x ∈ gQ G, kd h x = 11 := by
  have o := a.1.2.1.2.2.1
  refine ⟨fun x hx => ?_, fun x hx => ?_⟩
  · obtain ⟨r, -, z⟩ := o.1.ofL hx
    exact z.1
  · obtain ⟨r, -, z⟩ := o.2.1.ofL hx
    exact z.1
theorem xdel {j e : Nat} {y : R_ex} (a : Al h v G t) (q3 : (gX G)[j]? = some e) (q4 : (exL v)[j]? = some y) (y0 : y.1 ≠ 0) : ∃ h' v' G', f_X8_remove 9 (some e) h = some ((), h') ∧ m_removeExchange (nI j) v = some ((), v') ∧ Al h' v' G' t ∧ Gr h v h' v' 0 0 := by
  have s := a.1.2.1.1
  have o := a.1.2.1.2.2.1
  have ls := a.1.2.2.1
  have V := a.2.1
  have nx := V.1.2.2.2.2.2.2.1
  obtain ⟨kx, kq⟩ := kinds a
  have ke := kx e (List.mem_of_getElem? q3)
  obtain ⟨h1, l1, x1, L1, F1, s1, f1, w1, kx1, z1, z2, sub1⟩ := rxb_ok s a.1.1 ls.2.2.1 o.2.2.2.2.1 o.2.2.2.1 nx kx q3 q4
  have k12 := ls.2.2.1.1
  have o1 := o.fr f1 (XK.l k12 (by decide))
  have L10 : LI h1 10 (gX G) := ls.1.fr f1 (by simp)
  have pair : F2 (fun a r => ExR h1 a r ∧ (a = e ↔ r.1 = y.1)) (gX G) (exL v) := ⟨o1.1.1, fun i x r hx hr => ⟨o1.1.2 i x r hx hr, by
    constructor
    · intro z
      subst z
      have := Nodup.idx o.2.2.2.1 hx q3
      subst this
      rw [q4] at hr; cases hr; rfl
    · intro z
      have := Nodup.idx nx (map_get (f := fun r : R_ex => r.1) hr) (by rw [z]; exact map_get (f := fun r : R_ex => r.1) q4)
      subst this
      rw [q3] at hx; cases hx; rfl⟩⟩
  obtain ⟨h2, l2, y1, L2, F2', s2, f2, w2, kx2, z3, z4, sub2⟩ := rxx_ok s1 w1 L10 pair (f1.kk ke (by decide))
  obtain ⟨v1, u1, u2, u3⟩ := xb_ok V.1.2.2.1 V.1.1 q4
  have jl := (ex_k q4).1
  obtain ⟨v2, p1, p2, p3, p4, p5⟩ := ex_rm (v := v1) (a := j) (V.1.1.fr u3.1 (by decide)).1 (by rw [(V.1.1.fr u3.1 (by decide)).2]; exact jl)
  rw [exL_fr u3.1 (by decide) (by decide) (by decide)] at p2
  have ef : (exL v).filter (fun r => !decide (r.1 = y.1)) = (exL v).eraseIdx j := er_fil nx q4
  rw [ef] at F2'
  have fv : Fr v v2 [5, 13] [6, 7, 14, 15, 16] := (u3.1.tr p5).mono (by simp) (by simp)
  have b2 : biL v2 = (biL v).filter (fun r => !decide (r.2.1 = y.1)) := (biL_fr p5 (by decide) (by decide) (by decide) (by decide)).trans u2
  have qv : quL v2 = quL v := quL_fr fv (by decide) (by decide) (by decide) (by decide)
  have cv : coL v2 = coL v := coL_fr fv (by decide) (by decide) (by decide) (by decide) (by decide) (by decide)
  have lv : leL v2 = leL v := leL_fr fv (by decide) (by decide) (by decide) (by decide) (by decide) (by decide) (by decide) (by decide) (by decide) (by decide)
  have k10 := ls.1.1
  have k10' : kd h1 10 = 0 := f1.kk k10 (by decide)
  have f12 : LF h h2 [12, 10] := f1.trW f2 (by simp) (by simp)
  have C : Cl h2 v2 (sX (sB G l1) l2) (leL v) (gH G) := by
    refine a.1.ob f12 (by simp [k12, k10]) w2 (kx1.tr kx2) fv (by decide) (by decide) rfl rfl ((ls.b f1 kx1 L1).x f2 kx2 L2) ?_
    obtain ⟨p1', p2', p3', p4', p5', p6'⟩ := o1.fr f2 (XK.l k10' (by decide))
    have F1' := F1.imp (fun a b _ _ z => z.fr f2 (XK.l k10' (by decide)))
    unfold Ob
    rw [p2, qv, b2, cv]
    refine ⟨F2'.imp (fun a b _ _ z => z.1), p2', p3', ?_, ?_, p6'⟩
    · exact sub2.nodup p4'
    · refine F1'.imp (fun x r _ hr z => ?_)
      have rn : r.2.1 ≠ y.1 := by simpa using (List.mem_filter.mp hr).2
      obtain ⟨i1, i2, i3, i4, i5, i6, i, e', x', g1, g2, g3, g4⟩ := z
      refine ⟨i1, i2, i3, i4, i5, i6, ?_⟩
      have m' : x' ∈ (exL v).eraseIdx j := by
        rw [← ef]
        refine List.mem_filter.mpr ⟨List.mem_of_getElem? g2, ?_⟩
        simp [g4, rn]
      obtain ⟨i', hi', ei'⟩ := List.mem_iff_getElem.mp m'
      have gi : ((exL v).eraseIdx j)[i']? = some x' := by rw [List.getElem?_eq_getElem hi', ei']
      obtain ⟨e'', x'', n1, n2, n3⟩ := F2'.get (i := i') (by rw [F2'.1]; exact hi')
      rw [gi] at n2
      cases n2
      have me : e'' ∈ gX G := sub2.subset (List.mem_of_getElem? n1)
      obtain ⟨i0, hi0, ei0⟩ := List.mem_iff_getElem.mp me
      obtain ⟨e3, x3, t1, t2, t3⟩ := p1'.get (i := i0) hi0
      rw [List.getElem?_eq_getElem hi0, ei0] at t1
      cases t1
      have nm : x3.1 = x'.1 := by rw [← t3.2.1, n3.1.2.1]
      have := Nodup.idx nx (map_get (f := fun r : R_ex => r.1) t2) (by rw [nm]; exact map_get (f := fun r : R_ex => r.1) g2)
      subst this
      have : (gX G)[i0]? = some e'' := by rw [List.getElem?_eq_getElem hi0, ei0]
      rw [show (gX G)[i0]? = some e' from g1] at this
      cases this
      exact ⟨i', e', x', n1, gi, g3, g4⟩
  have j0 : j ≠ 0 := fun z => by
    subst z
    rw [V.1.2.2.2.2.2.1] at q4
    cases q4
    exact y0 rfl
  have V2 : VI v2 t := V.sub fv (by simp) (by simp) p3 (u3.2.fr p5 (by decide)).1 (by rw [p2]; exact List.eraseIdx_sublist _ _) (by rw [p2, List.getElem?_eraseIdx, if_pos (by omega)]; exact V.1.2.2.2.2.2.1)
  rw [← lv] at C
  have T : Tr h h2 [0] 0 := ⟨f12.kf (by simp [k12, k10]), by omega, by omega⟩
  obtain ⟨A, i2, i3, i4, i5⟩ := a.mk (G' := sX (sB G l1) l2) C V2 T.1 (by decide) fv (by decide) (by decide)
  exact ⟨h2, v2, _, by rw [x1]; exact y1, by rw [u1]; exact p1, A, T.gr i2 (Nat.le_of_eq (KP_fr fv (by decide))) i3 i4 i5⟩
theorem delXC (p : Pre t h v c G w) : HC t h v c (f_X11_deleteExchange 4 (some (chA c)) h) (m_exchangeMethod 20 v) := by
  have e54 := p.2.2.1
  unfold f_X11_deleteExchange m_exchangeMethod
  rw [inE p.1, ltd, e54]
  obtain ⟨n, ha, va, wa, x1, x2, x4, x5, x6⟩ := name_ok p.2.1
  rw [x1, bd_s, x2, bdm_s, inE (p.1.rd x5), if_neg (by decide)]
  refine HC.rd x5 ?_
  have p := p.rd x5 x4
  have e57 := x4.v57
  unfold m_exchangeMethod_24 m_exchangeMethod_45
  have e45 : (if va.1 57 = 0 then if (0 : Int32) ≤ 2 then mwZ va 57 0 fun v_1 => bdm (m_nextTruth v_1) fun x_3 v_2 => bdm (m_isJust v_2) fun x_5 v_4 => if x_5 = 0 then some ((), v_4) else bdm (m_exchangeOf n v_4) fun x_7 v_6 => if (20 : Int32) = 10 then if x_3 = 0 then m_exchangeMethod_96 (nI c) n 0 x_7 v_6 else if 0 ≤ x_7 then m_exchangeMethod_96 (nI c) n 0 x_7 v_6 else bdm (m_soft (nI c) 404 v_6) fun _ v_13 => some ((), v_13) else if 0 ≤ x_7 then if lg_cmp n 0 = 0 then bdm (m_soft (nI c) 403 v_6) fun _ v_11 => some ((), v_11) else if x_3 = 0 then m_exchangeMethod_269 (nI c) x_7 v_6 else bdm (m_hasBindings n v_6) fun x_9 v_8 => if x_9 = 0 then m_exchangeMethod_269 (nI c) x_7 v_8 else bdm (m_soft (nI c) 406 v_8) fun _ v_10 => some ((), v_10) else bdm (m_soft (nI c) 404 v_6) fun _ v_12 => some ((), v_12) else mwZ va 57 1 fun v_1 => bdm (m_nextTruth v_1) fun x_3 v_2 => bdm (m_isJust v_2) fun x_5 v_4 => if x_5 = 0 then some ((), v_4) else bdm (m_exchangeOf n v_4) fun x_7 v_6 => if (20 : Int32) = 10 then if x_3 = 0 then m_exchangeMethod_96 (nI c) n 0 x_7 v_6 else if 0 ≤ x_7 then m_exchangeMethod_96 (nI c) n 0 x_7 v_6 else bdm (m_soft (nI c) 404 v_6) fun _ v_13 => some ((), v_13) else if 0 ≤ x_7 then if lg_cmp n 0 = 0 then bdm (m_soft (nI c) 403 v_6) fun _ v_11 => some ((), v_11) else if x_3 = 0 then m_exchangeMethod_269 (nI c) x_7 v_6 else bdm (m_hasBindings n v_6) fun x_9 v_8 => if x_9 = 0 then m_exchangeMethod_269 (nI c) x_7 v_8 else bdm (m_soft (nI c) 406 v_8) fun _ v_10 => some ((), v_10) else bdm (m_soft (nI c) 404 v_6) fun _ v_12 => some ((), v_12) else mwZ va 57 1 fun v_1 => bdm (m_nextTruth v_1) fun x_3 v_2 => bdm (m_isJust v_2) fun x_5 v_4 => if x_5 = 0 then some ((), v_4) else bdm (m_exchangeOf n v_4) fun x_7 v_6 => if (20 : Int32) = 10 then if x_3 = 0 then m_exchangeMethod_96 (nI c) n 0 x_7 v_6 else if 0 ≤ x_7 then m_exchangeMethod_96 (nI c) n 0 x_7 v_6 else bdm (m_soft (nI c) 404 v_6) fun _ v_13 => some ((), v_13) else if 0 ≤ x_7 then if lg_cmp n 0 = 0 then bdm (m_soft (nI c) 403 v_6) fun _ v_11 => some ((), v_11) else if x_3 = 0 then m_exchangeMethod_269 (nI c) x_7 v_6 else bdm (m_hasBindings n v_6) fun x_9 v_8 => if x_9 = 0 then m_exchangeMethod_269 (nI c) x_7 v_8 else bdm (m_soft (nI c) 406 v_8) fun _ v_10 => some ((), v_10) else bdm (m_soft (nI c) 404 v_6) fun _ v_12 => some ((), v_12)) = bdm (m_nextTruth va) fun x_3 v_2 => bdm (m_isJust v_2) fun x_5 v_4 => if x_5 = 0 then some ((), v_4) else bdm (m_exchangeOf n v_4) fun x_7 v_6 => if 0 ≤ x_7 then if lg_cmp n 0 = 0 then m_soft (nI c) 403 v_6 else if x_3 = 0 then m_exchangeMethod_269 (nI c) x_7 v_6 else bdm (m_hasBindings n v_6) fun x_9 v_8 => if x_9 = 0 then m_exchangeMethod_269 (nI c) x_7 v_8 else m_soft (nI c) 406 v_8 else m_soft (nI c) 404 v_6 := by
    simp only [bdm_id, if_neg (show ¬ (20 : Int32) = 10 by decide), if_pos (show (0 : Int32) ≤ 2 by decide)]
    rw [e57]
    cases wa with
    | false => rw [bit_f, if_pos rfl, show (0 : Int32) = bit false from rfl, mwZ_id e57]
    | true => rw [bit_t, if_neg (by decide), show (1 : Int32) = bit true from rfl, mwZ_id e57]
  rw [e45]
  obtain ⟨f, hd, vd, wd, z1, z2, z4, z5, z6⟩ := flag_ok p.2.1
  rw [z1, bd_s, z2, bdm_s, inE (p.1.rd z5)]
  refine HC.rd z5 ?_
  have p := p.rd z5 z4
  refine just_hc p (fun w0 => ?_)
  obtain ⟨a, i, e54, h1, h2, hl, ht⟩ := p
  rw [ofE a]
  rcases lkX a n with ⟨q1, q2, q3⟩ | ⟨j, e, r, q1, q2, q3, q4, q5, q6, q7⟩
  · rw [q1, bd_s, nb_n, q2, bdm_s, if_neg (by decide)]
    exact HC.soft a h1 h2 (e := 404) (by decide)
  · rw [q1, bd_s, nb_s, q2, bdm_s, if_pos (nI_pos' (show j < 2 ^ 31 by omega))]
    by_cases n0 : lg_cmp n 0 = 0
    · rw [if_pos n0, if_pos n0]
      exact HC.soft a h1 h2 (e := 403) (by decide)
    · rw [if_neg n0, if_neg n0]
      have fin : HC t hd vd c (f_X11_deleteExchange_81 4 (some (chA c)) (some e) hd) (m_exchangeMethod_269 (nI c) (nI j) vd) := by
        obtain ⟨h', v', G', u1, u2, u3, u4⟩ := xdel a q3 q4 (fun y => n0 (cmp_eq.mpr (by rw [← q6]; exact y)))
        unfold f_X11_deleteExchange_81 m_exchangeMethod_269
        rw [ofE a, u1, bd_s, teN u3 h1 h2, u2, bdm_s]
        exact HC.say u4 (by omega) (by omega) (u3.mono (by omega)) h2 (by decide) (by decide) hl
      cases f with
      | false => rw [bit_f, if_pos rfl, if_pos rfl]; exact fin
      | true =>
        rw [bit_t, if_neg (by decide), if_neg (by decide), ofE a]
        have o := a.1.2.1.2.2.1
        have hlen := a.1.2.2.1.2.2.1.len
        have ib := isB_l a.1.1.1 a.1.2.1.1 a.1.2.2.1.2.2.1 o.2.2.2.2.1 o.2.2.2.1 a.2.1.1.2.2.2.2.2.2.1 (kinds a).1 q3 q4 (gB G).length 0 FU (by omega) (by unfold FU; omega)
        rw [List.drop_zero] at ib
        have ib : f_X8_isBound_2 FU 9 (some e) 0 hd = _ := ib
        unfold f_X8_isBound
        rw [ib, bd_s, hasBindings_ok a.2.1.1.2.2.1, bdm_s, q6]
        cases hb' : (biL vd).any (fun r => decide (r.2.1 = n)) with
        | false => rw [bit_f, if_pos rfl, if_pos rfl]; exact fin
        | true =>
          rw [bit_t, if_neg (by decide), if_neg (by decide)]
          exact HC.soft a h1 h2 (e := 406) (by decide)
end Xd

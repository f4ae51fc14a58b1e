/-! ===== a letter is taken ===== -/
section Tk
variable {t t' : Nat} {h h' h1 h2 : AH} {v v' : MV} {c d : Nat} {G G' : GH} {M : List R_le} {hl : Nat → List Nat} {w : Bool}
theorem F2.tl {α β : Type} {R : α → β → Prop} {a : α} {b : β} {l : List α} {m : List β} (f : F2 R (a :: l) (b :: m)) : R a b ∧ F2 R l m := ⟨f.2 0 a b rfl rfl, by have := f.1; simp at this; exact this, fun i x y h1 h2 => f.2 (i + 1) x y h1 h2⟩
theorem Qid.set {qs : List Nat} {Q : List R_qu} {q j : Nat} {n s : Int32} {x : R_qu} (i : Qid qs Q q n) (k2 : Q[j]? = some x) : Qid qs (Q.set j (x.1, x.2.1, s)) q n := by
  intro i' q' r e1 e2
  rw [List.getElem?_set] at e2
  by_cases z : j = i'
  · subst z
    rw [if_pos rfl, if_pos (List.getElem?_eq_some_iff.mp k2).1] at e2
    cases e2
    exact i j q' x e1 k2
  · rw [if_neg z] at e2
    exact i i' q' r e1 e2
theorem set_get {Q : List R_qu} {j i : Nat} {x r : R_qu} {s : Int32} (k2 : Q[j]? = some x) (e : (Q.set j (x.1, x.2.1, s))[i]? = some r) : ∃ r0, Q[i]? = some r0 ∧ r.1 = r0.1 ∧ r.2.1 = r0.2.1 ∧ (i ≠ j → r = r0) ∧ (i = j → r = (x.1, x.2.1, s)) := by
  rw [List.getElem?_set] at e
  by_cases z : j = i
  · subst z
    rw [if_pos rfl, if_pos (List.getElem?_eq_some_iff.mp k2).1] at e
    cases e
    exact ⟨x, k2, rfl, rfl, fun y => absurd rfl y, fun _ => rfl⟩
  · rw [if_neg z] at e
    exact ⟨r, e, rfl, rfl, fun _ => rfl, fun y => absurd y.symm z⟩
def tkO (free : Bool) (r : R_le) (c n : Nat) : List R_le := if free then [] else [(r.1, r.2.1, nI c, nI n, r.2.2.2.2)]
theorem Cl.take {j q a0 n : Nat} {x : R_qu} {s : Int32} {rest : List Nat} {A B : List R_le} {r : R_le} {free : Bool} (C : Cl h v G (A ++ r :: B) (gH G)) (h1' : 1 ≤ c) (h2' : c ≤ 3) (k1 : (gQ G)[j]? = some q) (k2 : (quL v)[j]? = some x) (nd : ((quL v).map (fun r => r.2.1)).Nodup) (hA : ∀ y ∈ A, qW x.2.1 y = false) (hr : qW x.2.1 r = true) (eW : gW G q = a0 :: rest) (f : LF h h' [a0, q + 1, q, chA c, chA c + 1]) (w' : WH h') (nq : NoQ h h') (Lq : LI h' (q + 1) rest) (Lh : LI h' (chA c + 1) (if free then gH G c else gH G c ++ [a0])) (g2 : gI h' a0 2 = gI h a0 2) (g3 : gI h' a0 3 = gI h a0 3) (g4 : gI h' a0 4 = nI n) (gr : gR h' a0 = gR h a0) (gq : gI h' q 2 = s) (gqj : gJ h' q = gJ h q) (gqr : gR h' q = gR h q) (gc : ∀ i, gI h' (chA c) i = if i = 7 then nI n else gI h (chA c) i) (gcr : gR h' (chA c) = gR h (chA c)) {F' A' : List Nat} (fv : Fr v v' F' A') (hF : ∀ k ∈ F', k ∈ okF) (hA' : ∀ k ∈ A', k ∈ okA ∨ k = 12 ∨ k = 38) (e38 : v'.2.1 38 c = nI n) (o38 : ∀ i, i ≠ c → v'.2.1 38 i = v.2.1 38 i) (eQ : quL v' = (quL v).set j (x.1, x.2.1, s)) : Cl h' v' (sH (sW G q rest) c (if free then gH G c else gH G c ++ [a0])) (A ++ tkO free r c n ++ B) (gH (sH (sW G q rest) c (if free then gH G c else gH G c ++ [a0]))) := by
  obtain ⟨w0, ⟨sk0, sc, o, ch⟩, ls, lt, bd0⟩ := C
  have kq : kd h q = 11 := by
    obtain ⟨y, -, z⟩ := o.2.1.ofL (List.mem_of_getElem? k1)
    exact z.1
  obtain ⟨m0, m1, m2, m3⟩ := ls.2.2.2.2.2 q kq
  have k8 : kd h a0 = 8 := m3 a0 (by rw [eW]; simp)
  have kc := (sk0.ch h1' h2').1
  have khl := (ls.2.2.2.2.1 c h1' h2').1.1
  have nF : ∀ k, k ∉ okF → k ∉ F' := fun k k1 z => k1 (hF k z)
  have nA : ∀ k, k ∉ okA → k ≠ 12 → k ≠ 38 → k ∉ A' := fun k q1 q2 q3 z => by
    rcases hA' k z with y | y | y
    · exact q1 y
    · exact q2 y
    · exact q3 y
  have xk : ∀ K : List Nat, 8 ∉ K → 0 ∉ K → 11 ∉ K → 2 ∉ K → XK h [a0, q + 1, q, chA c, chA c + 1] K := fun K a b c' d y hy z => by
    simp at hy
    rcases hy with e | e | e | e | e <;> rw [e] at z
    · rw [k8] at z; exact a z
    · rw [m2.1] at z; exact b z
    · rw [kq] at z; exact c' z
    · rw [kc] at z; exact d z
    · rw [khl] at z; exact b z
  have hd := lt.2.1 j q x k1 k2
  rw [eW, filT hr, show A.filter (qW x.2.1) = [] from List.filter_eq_nil_iff.mpr (fun y hy => by rw [hA y hy]; decide), List.nil_append] at hd
  obtain ⟨la, ft⟩ := hd.tl
  have r0 : r.2.2.1 = 0 := by simp only [qW, decide_eq_true_eq] at hr; exact hr.2
  have rq : r.2.1 = x.2.1 := by simp only [qW, decide_eq_true_eq] at hr; exact hr.1
  have nrc : ∀ c', 1 ≤ c' → c' ≤ 3 → cH (nI c') r = false := fun c' e1 e2 => by simp [cH, r0, ne0c e1 e2]
  -- the cells that stay
  have skf : SkF h h' := fun b hb => by
    have kb := sk0.kds hb
    by_cases z : b = chA c
    · subst z
      exact ⟨f.kk kc (by decide) |>.trans kc.symm, (f.2.1 _ (by rw [kc]; decide)).2, fun i _ => by rw [gcr], by rw [gc 0, if_neg (by decide)]⟩
    · have p := f.kp rfl (show kd h b ≠ 999 by omega) (by omega) (by
        intro y
        simp at y
        rcases y with e | e | e | e | e <;> rw [e] at kb
        · rw [k8] at kb; omega
        · rw [m2.1] at kb; omega
        · rw [kq] at kb; omega
        · exact z e
        · rw [khl] at kb; omega)
      exact ⟨p.1, p.2.1, fun i _ => by rw [p.2.2.2.2], by rw [p.2.2.1]⟩
  have kpc : ∀ c', 1 ≤ c' → c' ≤ 3 → c' ≠ c → Kp h h' (chA c') := fun c' e1 e2 ne => f.kp (sk0.ch e1 e2).1 (by decide) (by decide) (by
    have kb := (sk0.ch e1 e2).1
    intro y
    simp at y
    rcases y with e | e | e | e | e
    · rw [e, k8] at kb; omega
    · rw [e, m2.1] at kb; omega
    · rw [e, kq] at kb; omega
    · exact ne (chA_inj.mp e)
    · rw [e, khl] at kb; omega)
  have kp9 : Kp h h' 9 := f.kp sk0.k9 (by decide) (by decide) (by
    have kb := sk0.k9
    intro y
    simp only [List.mem_cons, List.not_mem_nil, or_false] at y
    rcases y with e | e | e | e | e
    · rw [e, k8] at kb; omega
    · rw [e, m2.1] at kb; omega
    · rw [e, kq] at kb; omega
    · rw [e, kc] at kb; omega
    · rw [e, khl] at kb; omega)
  have kpx : ∀ b k, kd h b = k → k ≠ 8 → k ≠ 0 → k ≠ 11 → k ≠ 2 → k ≠ 999 → k ≠ 103 → Kp h h' b := fun b k kb a1 a2 a3 a4 a5 a6 => f.kp kb a5 a6 (by
    intro y
    simp at y
    rcases y with e | e | e | e | e
    · rw [e, k8] at kb; omega
    · rw [e, m2.1] at kb; omega
    · rw [e, kq] at kb; omega
    · rw [e, kc] at kb; omega
    · rw [e, khl] at kb; omega)
  have qid : ∀ q' n', Qid (gQ G) (quL v) q' n' → Qid (gQ G) (quL v') q' n' := fun q' n' i => by rw [eQ]; exact i.set k2
  have lf : LF h h' (a0 :: [q + 1, q, chA c, chA c + 1]) := f
  have hX : XK h [q + 1, q, chA c, chA c + 1] [8, 5, 101] := fun y hy z => by
    simp at hy
    rcases hy with e | e | e | e <;> rw [e] at z
    · rw [m2.1] at z; simp at z
    · rw [kq] at z; simp at z
    · rw [kc] at z; simp at z
    · rw [khl] at z; simp at z
  refine ⟨w', ⟨sk0.fr skf, ?_, ?_, ?_⟩, ?_, ?_, ?_⟩
  · obtain ⟨s1, s2, s3⟩ := sc
    refine ⟨by rw [kp9.2.2.1, fv.1 25 (nF _ (by decide))]; exact s1, by rw [kp9.2.2.1, fv.1 18 (nF _ (by decide))]; exact s2, fun c' e1 e2 => ?_⟩
    rw [(fv.2 35 (nA _ (by decide) (by decide) (by decide))).1, (fv.2 36 (nA _ (by decide) (by decide) (by decide))).1, (fv.2 37 (nA _ (by decide) (by decide) (by decide))).1, (fv.2 39 (nA _ (by decide) (by decide) (by decide))).1]
    obtain ⟨t1, t2, t3, t4, t5⟩ := s3 c' e1 e2
    by_cases z : c' = c
    · subst z
      simp only [gc, e38]
      exact ⟨t1, t2, t3, t4, rfl⟩
    · rw [(kpc c' e1 e2 z).2.2.1, o38 c' z]
      exact ⟨t1, t2, t3, t4, t5⟩
  · obtain ⟨o1, o2, o3, o4, o5, o6⟩ := o
    have xv : exL v' = exL v := exL_fr fv (nF _ (by decide)) (nA _ (by decide) (by decide) (by decide)) (nA _ (by decide) (by decide) (by decide))
    have bv : biL v' = biL v := biL_fr fv (nF _ (by decide)) (nA _ (by decide) (by decide) (by decide)) (nA _ (by decide) (by decide) (by decide)) (nA _ (by decide) (by decide) (by decide))
    have cv : coL v' = coL v := coL_fr fv (nF _ (by decide)) (nA _ (by decide) (by decide) (by decide)) (nA _ (by decide) (by decide) (by decide)) (nA _ (by decide) (by decide) (by decide)) (nA _ (by decide) (by decide) (by decide)) (nA _ (by decide) (by decide) (by decide))
    unfold Ob
    rw [xv, bv, cv]
    refine ⟨o1.imp (fun a b _ _ z => z.kp (kpx a 6 z.1 (by decide) (by decide) (by decide) (by decide) (by decide) (by decide))), ?_, o3, o4, ?_, ?_⟩
    · rw [eQ]
      refine ⟨by rw [List.length_set]; exact o2.1, fun i a b e1 e2 => ?_⟩
      obtain ⟨b0, u1, u2, u3, u4, u5⟩ := set_get k2 e2
      have e1 : (gQ G)[i]? = some a := e1
      have R := o2.2 i a b0 e1 u1
      by_cases z : i = j
      · subst z
        rw [k1] at e1; cases e1
        rw [u5 rfl]
        rw [k2] at u1; cases u1
        exact ⟨f.kk R.1 (by decide), by rw [gqj]; exact R.2.1, gq⟩
      · rw [u4 z]
        refine R.kp (f.kp R.1 (by decide) (by decide) ?_)
        have kb := R.1
        intro y
        simp at y
        rcases y with e | e | e | e | e
        · rw [e, k8] at kb; omega
        · rw [e, m2.1] at kb; omega
        · exact z (Nodup.idx o3 e1 (by rw [e]; exact k1))
        · rw [e, kc] at kb; omega
        · rw [e, khl] at kb; omega
    · refine o5.imp (fun a b _ _ z => ?_)
      obtain ⟨i1, i2, i3, i4, i5, ⟨i, q', x', y1, y2, y3, y4⟩, i7⟩ := z.fr f (xk _ (by decide) (by decide) (by decide) (by decide))
      refine ⟨i1, i2, i3, i4, i5, ?_, i7⟩
      rw [eQ]
      by_cases z : i = j
      · subst z
        rw [k2] at y2; cases y2
        exact ⟨i, q', (x.1, x.2.1, s), y1, by rw [List.getElem?_set, if_pos rfl, if_pos (List.getElem?_eq_some_iff.mp k2).1], y3, y4⟩
      · exact ⟨i, q', x', y1, by rw [List.getElem?_set, if_neg (fun y => z y.symm)]; exact y2, y3, y4⟩
    · exact o6.imp (fun a b _ _ z => (z.qs (fun q' _ i => qid q' _ i)).fr f (xk _ (by decide) (by decide) (by decide) (by decide)))
  · have := (ch.fr f (xk _ (by decide) (by decide) (by decide) (by decide)) (fun c' e1 e2 => by
      by_cases z : c' = c
      · subst z; rw [gcr]
      · rw [(kpc c' e1 e2 z).2.2.2.2])).fv fv (fun k e1 e2 => nA k (fun z => by simp [okA] at z; omega) (by omega) (by omega))
    exact this
  · have nl : ∀ b, kd h b = 0 → b ≠ q + 1 → b ≠ chA c + 1 → b ∉ [a0, q + 1, q, chA c, chA c + 1] := fun b kb a1 a2 y => by
      simp at y
      rcases y with e | e | e | e | e
      · rw [e, k8] at kb; omega
      · exact a1 e
      · rw [e, kq] at kb; omega
      · rw [e, kc] at kb; omega
      · exact a2 e
    obtain ⟨l1, l2, l3, l4, l5, l6⟩ := ls
    refine ⟨l1.fr f (nl _ l1.1 (by omega) (by unfold chA; omega)), l2.fr f (nl _ l2.1 (by omega) (by unfold chA; omega)), l3.fr f (nl _ l3.1 (by omega) (by unfold chA; omega)), l4.fr f (nl _ l4.1 (by omega) (by unfold chA; omega)), fun c' e1 e2 => ?_, fun q' hq' => ?_⟩
    · obtain ⟨u1, u2⟩ := l5 c' e1 e2
      refine ⟨?_, u2.fr f (nl _ u2.1 (by unfold chA; omega) (by unfold chA; omega))⟩
      show LI h' (chA c' + 1) (fu (gH G) c _ c')
      by_cases z : c' = c
      · subst z; rw [fu_s]; exact Lh
      · rw [fu_n z]; exact u1.fr f (nl _ u1.1 (by unfold chA; omega) (by unfold chA; omega))
    · have kq' := nq q' hq'
      obtain ⟨u0, u1, u2, u3⟩ := l6 q' kq'
      refine ⟨u0, ?_, ?_⟩
      · by_cases z : q' = q
        · subst z; rw [gqr]; exact u1
        · rw [(f.kp kq' (by decide) (by decide) (by
            intro y
            simp at y
            rcases y with e | e | e | e | e
            · rw [e, k8] at kq'; omega
            · rw [e, m2.1] at kq'; omega
            · exact z e
            · rw [e, kc] at kq'; omega
            · rw [e, khl] at kq'; omega)).2.2.2.2]
          exact u1
      · show LI h' (q' + 1) (fu (gW G) q rest q') ∧ ∀ a ∈ fu (gW G) q rest q', kd h' a = 8
        by_cases z : q' = q
        · subst z
          rw [fu_s]
          exact ⟨Lq, fun b hb => f.kk (u3 b (by rw [eW]; simp [hb])) (by decide)⟩
        · rw [fu_n z]
          exact ⟨u2.fr f (nl _ u2.1 (by omega) (by unfold chA; omega)), fun b hb => f.kk (u3 b hb) (by decide)⟩
  · show LtR h' (gQ G) (quL v') (A ++ tkO free r c n ++ B) (fu (gW G) q rest) (fu (gH G) c (if free then gH G c else gH G c ++ [a0]))
    have L1 : LtR h' (gQ G) (quL v) (A ++ tkO free r c n ++ B) (fu (gW G) q rest) (fu (gH G) c (if free then gH G c else gH G c ++ [a0])) := by
      refine lt.upd la lf hX ?_ (fun j' q' x' e1 e2 => ?_) (fun c' e1 e2 => ?_)
      · unfold tkO
        cases free with
        | true => exact .inl rfl
        | false => exact .inr ⟨_, rfl, rfl⟩
      · have oq : (tkO free r c n).filter (qW x'.2.1) = [] := by
          unfold tkO
          cases free with
          | true => rfl
          | false =>
            have : nI c ≠ 0 := fun z => ne0c h1' h2' z.symm
            simp [qW, this]
        by_cases z : q' = q
        · right
          subst z
          have := Nodup.idx o.2.2.1 e1 k1
          subst this
          rw [k2] at e2
          cases e2
          rw [fu_s, fil3, oq, List.append_nil, show A.filter (qW x.2.1) = [] from List.filter_eq_nil_iff.mpr (fun y hy => by rw [hA y hy]; decide), List.nil_append]
          exact keep1 ft la (fun y hy => lt.1.ne.2 y hy) lf hX
        · left
          refine ⟨?_, oq, fu_n z⟩
          have : r.2.1 ≠ x'.2.1 := fun y => z (by
            have := Nodup.idx nd (map_get (f := fun r : R_qu => r.2.1) e2) (by rw [← y, rq]; exact map_get (f := fun r : R_qu => r.2.1) k2)
            subst this
            rw [k1] at e1; cases e1; rfl)
          simp [qW, this]
      · by_cases z : c' = c ∧ free = false
        · right
          obtain ⟨z, zf⟩ := z
          subst z
          subst zf
          obtain ⟨rs, u1, u2⟩ := lt.2.2 c' e1 e2
          rw [filM (nrc c' e1 e2)] at u2
          have la' : LeR h' (gQ G) (quL v) a0 (r.1, r.2.1, nI c', nI n, r.2.2.2.2) := by
            obtain ⟨i1, i2, i3, i4, ⟨d', n', i5, i6, i7⟩, q', i8, i9, i10⟩ := la
            have hx : XK h (a0 :: [q + 1, q, chA c', chA c' + 1]) [5, 101] := xk _ (by decide) (by decide) (by decide) (by decide)
            exact ⟨f.kk i1 (by decide), g2.trans i2, g4, g3.trans i4, ⟨d', n', by rw [gr]; exact i5, i6, i7.fr lf (hx.no i7.1 (by simp)) (hx.no i7.2.2.2.2.1.1 (by simp))⟩, q', by rw [gr]; exact i8, f.kk i9 (by decide), i10⟩
          refine ⟨rs ++ [(r.1, r.2.1, nI c', nI n, r.2.2.2.2)], ?_, ?_⟩
          · rw [fu_s]
            refine (keep1 u1 la (fun y hy => ?_) lf hX).snoc la'
            rcases List.mem_append.mp (u2.mem_iff.mp hy) with y' | y'
            · exact lt.1.ne.1 y y'
            · exact lt.1.ne.2 y y'
          · rw [fil3]
            have : (tkO false r c' n).filter (cH (nI c')) = [(r.1, r.2.1, nI c', nI n, r.2.2.2.2)] := by simp [tkO, cH]
            rw [this, List.append_assoc]
            refine (u2.append_right _).trans ?_
            rw [List.append_assoc]
            exact List.Perm.append_left _ List.perm_append_comm
        · left
          refine ⟨nrc c' e1 e2, ?_, ?_⟩
          · unfold tkO
            cases free with
            | true => rfl
            | false =>
              have ne : c' ≠ c := fun y => z ⟨y, rfl⟩
              have : nI c ≠ nI c' := fun y => ne (nI_inj3 h2' e2 y).symm
              simp [cH, this]
          · unfold fu
            split
            · rename_i y
              subst y
              cases free with
              | true => rfl
              | false => exact absurd ⟨rfl, rfl⟩ z
            · rfl
    obtain ⟨t1, t2, t3⟩ := L1
    refine ⟨t1, fun i q' r' e1 e2 => ?_, fun c' e1 e2 => ?_⟩
    · rw [eQ] at e2
      obtain ⟨b0, u1, u2, u3, -, -⟩ := set_get k2 e2
      rw [u3]
      exact (t2 i q' b0 e1 u1).imp (fun a b _ _ z => z.qs (fun q _ i => qid q _ i))
    · obtain ⟨rs, u1, u2⟩ := t3 c' e1 e2
      exact ⟨rs, u1.imp (fun a b _ _ z => z.qs (fun q _ i => qid q _ i)), u2⟩
  · intro q' hq'
    have kq' := nq q' hq'
    have b := bd0 q' kq'
    have gr8 : ∀ b, kd h b = 8 → gR h' b = gR h b := fun b hb => by
      by_cases z : b = a0
      · rw [z]; exact gr
      · exact (f.kp hb (by decide) (by decide) (by
          intro y
          simp at y
          rcases y with e | e | e | e | e
          · exact z e
          · rw [e, m2.1] at hb; omega
          · rw [e, kq] at hb; omega
          · rw [e, kc] at hb; omega
          · rw [e, khl] at hb; omega)).2.2.2.2
    have home : gR h a0 1 = some q' → q' = q := fun y => by
      obtain ⟨q0, i8, i9, i10⟩ := la.2.2.2.2.2
      rw [y] at i8
      cases i8
      exact ((i10 j q x k1 k2).mpr rq.symm).symm
    show (fu (gW G) q rest q').length + List.countP (fun a => decide (gR h' a 1 = some q')) (fu (gH G) c _ 1 ++ fu (gH G) c _ 2 ++ fu (gH G) c _ 3) ≤ 24
    have cnt : List.countP (fun a => decide (gR h' a 1 = some q')) (fu (gH G) c (if free then gH G c else gH G c ++ [a0]) 1 ++ fu (gH G) c (if free then gH G c else gH G c ++ [a0]) 2 ++ fu (gH G) c (if free then gH G c else gH G c ++ [a0]) 3) ≤ List.countP (fun a => decide (gR h a 1 = some q')) (gH G 1 ++ gH G 2 ++ gH G 3) + (if gR h a0 1 = some q' then 1 else 0) := by
      have e : ∀ l : List Nat, (∀ b ∈ l, kd h b = 8) → l.countP (fun a => decide (gR h' a 1 = some q')) = l.countP (fun a => decide (gR h a 1 = some q')) := fun l hl' => List.countP_congr (fun b hb => by rw [gr8 b (hl' b hb)])
      have e1 := e (gH G 1) (fun b hb => lt.k8 (by decide) (by decide) hb)
      have e2 := e (gH G 2) (fun b hb => lt.k8 (by decide) (by decide) hb)
      have e3 := e (gH G 3) (fun b hb => lt.k8 (by decide) (by decide) hb)
      have ea := e [a0] (fun b hb => by simp at hb; rw [hb]; exact k8)
      have ea' : List.countP (fun a => decide (gR h a 1 = some q')) [a0] = if gR h a0 1 = some q' then 1 else 0 := by
        rw [List.countP_cons]
        simp
      have : c = 1 ∨ c = 2 ∨ c = 3 := by omega
      simp only [List.countP_append]
      cases free with
      | true =>
        simp only [if_true]
        rcases this with z | z | z <;> subst z <;> simp only [fu] <;> simp [e1, e2, e3]
      | false =>
        rcases this with z | z | z <;> subst z <;> simp only [fu] <;> simp [e1, e2, e3, List.countP_append, ea, ea'] <;> omega
    by_cases z : q' = q
    · subst z
      rw [eW] at b
      rw [fu_s]
      simp only [List.length_cons] at b
      have : (if gR h a0 1 = some q' then 1 else 0) ≤ 1 := by split <;> omega
      omega
    · rw [fu_n z]
      rw [if_neg (fun y => z (home y))] at cnt
      omega
end Tk

/-! ===== drafts on their way ===== -/
section Dr
variable {t : Nat} {h h' : AH} {v v' : MV} {c d : Nat} {G : GH} {M : List R_le} {hl : Nat → List Nat} {w : Bool}
/-- a draft that isn't complete is no letter's -/
def Inc (h : AH) (d : Nat) : Prop := kd h d = 5 ∧ gI h d 4 ≠ gI h d 6
theorem DrR.ne {d' n : Nat} {e k x : Int64} (i : DrR h d' e k n x) (hd : Inc h d) : d' ≠ d ∧ d' + 1 ≠ d := by
  refine ⟨fun z => hd.2 (by rw [← z, i.2.2.2.2.2.1, i.2.2.2.2.2.2.1]), fun z => ?_⟩
  have := i.2.2.2.2.1.1
  rw [z, hd.1] at this
  exact absurd this (by decide)
theorem DrR.di {d' n : Nat} {e k x : Int64} (i : DrR h d' e k n x) (f : LF h h' [d]) (hd : Inc h d) : DrR h' d' e k n x := i.fr f (by simpa using (i.ne hd).1) (by simpa using (i.ne hd).2)
theorem LeR.di {qs : List Nat} {Q : List R_qu} {a : Nat} {r : R_le} (i : LeR h qs Q a r) (f : LF h h' [d]) (hd : Inc h d) : LeR h' qs Q a r := by
  obtain ⟨i1, i2, i3, i4, ⟨d', n, i5, i6, i7⟩, q, i8, i9, i10⟩ := i
  have p := f.kp i1 (by decide) (by decide) (by intro z; simp at z; rw [z, hd.1] at i1; exact absurd i1 (by decide))
  exact ⟨p.k i1, by rw [p.2.2.1]; exact i2, by rw [p.2.2.1]; exact i3, by rw [p.2.2.1]; exact i4, ⟨d', n, by rw [p.2.2.2.2]; exact i5, i6, i7.di f hd⟩, q, by rw [p.2.2.2.2]; exact i8, f.kk i9 (by decide), i10⟩
theorem DeR.di {a : Nat} {r : R_kp} (i : DeR h a r) (f : LF h h' [d]) (hd : Inc h d) : DeR h' a r := by
  obtain ⟨i1, i2⟩ := i
  have p := f.kp i1 (by decide) (by decide) (by intro z; simp at z; rw [z, hd.1] at i1; exact absurd i1 (by decide))
  refine ⟨p.k i1, ?_⟩
  rcases i2 with ⟨j1, d', n, b, j2, j3, j4, j5, j6⟩ | ⟨k, n, b, j1, j2, j3, j4, j5, j6, j7, j8, j9, j10⟩
  · have pd := f.kp j4.1 (by decide) (by decide) (by simpa using (j4.ne hd).1)
    exact .inl ⟨j1, d', n, b, by rw [p.2.2.2.2]; exact j2, j3, j4.di f hd, by rw [pd.2.2.1]; exact j5, j6⟩
  · exact .inr ⟨k, n, b, j1, j2, j3, by rw [p.2.2.2.2]; exact j4, j5, j6, by rw [p.2.2.1]; exact j7, by rw [p.2.2.1]; exact j8, j9, by rw [p.2.2.1]; exact j10⟩
theorem ChD.di {c' : Nat} (i : ChD h v c') (f : LF h h' [d]) (hd : Inc h d) (ne : gR h (chA c') 8 ≠ some d) (e : gR h' (chA c') 8 = gR h (chA c') 8) : ChD h' v c' := by
  rcases i with ⟨i1, i2⟩ | ⟨d', b, i1, i2, i3, i4⟩
  · exact .inl ⟨i1, e.trans i2⟩
  · have nd : d' ≠ d := fun z => ne (by rw [← z]; exact i1)
    obtain ⟨j1, j2, j3, j4, j5, j6, j7⟩ := i2
    have p := f.kp j1 (by decide) (by decide) (by simpa using nd)
    have p1 := f.kp j6.1 (by decide) (by decide) (by intro z; simp at z; have := j6.1; rw [z, hd.1] at this; exact absurd this (by decide))
    refine .inr ⟨d', b, e.trans i1, ⟨p.k j1, by rw [p.2.2.2.1]; exact j2, by rw [p.2.2.2.1]; exact j3, by rw [p.2.2.1]; exact j4, by rw [p.2.2.2.2]; exact j5, j6.kp p1, j7⟩, i3, ?_⟩
    rw [p.2.2.1, p.2.2.2.1]
    exact i4
/-- a draft is written; the channel c may have it -/
theorem Cl.dset (C : Cl h v G M hl) (f : LF h h' [d]) (hd : Inc h d) (w' : WH h') (nq : NoQ h h') (fv : Fr v v' [] [40, 41, 42, 43, 44, 45, 46]) (H : ∀ c', 1 ≤ c' → c' ≤ 3 → (gR h (chA c') 8 ≠ some d ∧ ∀ k, 40 ≤ k → k ≤ 46 → v'.2.1 k c' = v.2.1 k c' ∧ v'.2.2 k c' = v.2.2 k c') ∨ ChD h' v' c') : Cl h' v' G M hl := by
  obtain ⟨c1, ⟨c2, c3, c4, c5⟩, c6, c7, c8⟩ := C
  have xk : ∀ K : List Nat, 5 ∉ K → XK h [d] K := fun K z y hy q => by simp at hy; rw [hy, hd.1] at q; exact z q
  have sk : ∀ a ∈ skc, a ∉ [d] := fun a ha z => by simp at z; have := c2.kds ha; rw [z, hd.1] at this; omega
  have q : quL v' = quL v := quL_fr fv (by decide) (by decide) (by decide) (by decide)
  have r8 : ∀ c', 1 ≤ c' → c' ≤ 3 → gR h' (chA c') 8 = gR h (chA c') 8 := fun c' k1 k2 => by rw [(f.kp (c2.ch k1 k2).1 (by decide) (by decide) (sk _ (skc_ch k1 k2))).2.2.2.2]
  refine ⟨w', ⟨c2.fr (SkF.of c2 f sk), c3.fr (ScF.of c2 f sk) fv (by decide) (by decide), ?_, ?_, ?_⟩, c6.fr f (xk _ (by decide)) nq, ?_, ?_⟩
  · have := c4.fr f (xk _ (by decide))
    unfold Ob at this ⊢
    rw [q, exL_fr fv (by decide) (by decide) (by decide), biL_fr fv (by decide) (by decide) (by decide) (by decide), coL_fr fv (by decide) (by decide) (by decide) (by decide) (by decide) (by decide)]
    exact this
  · intro c' k1 k2
    obtain ⟨j1, j2⟩ := c5.1 c' k1 k2
    refine ⟨?_, ?_⟩
    · rw [kpL_fr fv (fun k q1 q2 => by simp; omega)]
      exact j1.imp (fun a b _ _ z => z.di f hd)
    · rcases H c' k1 k2 with ⟨y1, y2⟩ | y
      · exact (j2.di f hd y1 (r8 c' k1 k2)).cv (y2 40 (by omega) (by omega)).1 (fun k q1 q2 => y2 k (by omega) (by omega))
      · exact y
  · intro c' c'' d' k1 k2 k3 k4 g1 g2
    rw [r8 c' k1 k2] at g1
    rw [r8 c'' k3 k4] at g2
    exact c5.2 c' c'' d' k1 k2 k3 k4 g1 g2
  · rw [q]
    obtain ⟨t1, t2, t3⟩ := c7
    refine ⟨t1, fun j q' r k1 k2 => (t2 j q' r k1 k2).imp (fun a b _ _ z => z.di f hd), fun c' k1 k2 => ?_⟩
    obtain ⟨rs, y1, y2⟩ := t3 c' k1 k2
    exact ⟨rs, y1.imp (fun a b _ _ z => z.di f hd), y2⟩
  · exact c8.fr (fun a ha => c7.k8a ha) (fun a ha => (f.kp ha (by decide) (by decide) ((xk [8] (by decide)).no ha (by simp))).2.2.2.2) nq
/-- the channel's draft is taken from it, or put there -/
theorem Cl.dchg {o : Option Nat} (C : Cl h v G M hl) (h1 : 1 ≤ c) (h2 : c ≤ 3) (fv : Fr v v' [] [40, 41, 42, 43, 44, 45, 46]) (oth : ∀ c', c' ≠ c → ∀ k, 40 ≤ k → k ≤ 46 → v'.2.1 k c' = v.2.1 k c' ∧ v'.2.2 k c' = v.2.2 k c') (D : ChD (sR h (chA c) 8 o) v' c) (fre : ∀ d c', o = some d → 1 ≤ c' → c' ≤ 3 → c' ≠ c → gR h (chA c') 8 ≠ some d) : Cl (sR h (chA c) 8 o) v' G M hl := by
  have k2 := (C.2.1.1.ch h1 h2).1
  have f : LF h (sR h (chA c) 8 o) [chA c] := LF.fR (by rw [k2]; decide)
  have xk : ∀ K : List Nat, 2 ∉ K → XK h [chA c] K := fun K z y hy q => by simp at hy; rw [hy, k2] at q; exact z q
  have r8 : ∀ c', c' ≠ c → gR (sR h (chA c) 8 o) (chA c') 8 = gR h (chA c') 8 := fun c' hc => by rw [gR_sR, if_neg (fun z => hc (chA_inj.mp z.1))]
  refine C.up f (xk _ (by decide)) (C.1.fR (by rw [k2]; decide)) (fun q hq => hq) (SkF.fR (by decide)) (C.2.1.2.1.fr ⟨rfl, fun _ _ _ => rfl⟩ fv (by decide) (by decide)) (C.2.2.1.fr f (xk _ (by decide)) (fun q hq => hq)) ?_ (quL_fr fv (by decide) (by decide) (by decide) (by decide)) (exL_fr fv (by decide) (by decide) (by decide)) (biL_fr fv (by decide) (by decide) (by decide) (by decide)) (coL_fr fv (by decide) (by decide) (by decide) (by decide) (by decide) (by decide)) rfl rfl
  obtain ⟨d1, d2⟩ := C.2.1.2.2.2
  refine ⟨fun c' k1 k3 => ?_, fun c' c'' d k1 k3 k4 k5 g1 g2 => ?_⟩
  · obtain ⟨j1, j2⟩ := d1 c' k1 k3
    refine ⟨?_, ?_⟩
    · rw [kpL_fr fv (fun k q1 q2 => by simp; omega)]
      exact j1.imp (fun a b _ _ z => z.fr f (xk _ (by decide)))
    · by_cases e : c' = c
      · subst e; exact D
      · exact (j2.fr f (xk _ (by decide)) (r8 c' e)).cv (oth c' e 40 (by omega) (by omega)).1 (fun k q1 q2 => oth c' e k (by omega) (by omega))
  · by_cases e1 : c' = c
    · by_cases e2 : c'' = c
      · rw [e1, e2]
      · subst e1
        rw [gR_sR, if_pos ⟨rfl, rfl⟩] at g1
        rw [r8 c'' e2] at g2
        exact absurd g2 (fre d c'' g1 k4 k5 e2)
    · by_cases e2 : c'' = c
      · subst e2
        rw [gR_sR, if_pos ⟨rfl, rfl⟩] at g2
        rw [r8 c' e1] at g1
        exact absurd g1 (fre d c' g2 k1 k3 e1)
      · rw [r8 c' e1] at g1
        rw [r8 c'' e2] at g2
        exact d2 c' c'' d k1 k3 k4 k5 g1 g2
theorem VI.r40 {V : MV} (i : VI v t) (f1 : Fr v V [] [40, 41, 42, 43, 44, 45, 46]) (oth : ∀ j, j ≠ c → V.2.1 40 j = v.2.1 40 j) (st : v.2.1 35 c = 1) (b43 : Bo V 43) : VI V t := by
  obtain ⟨⟨a1, a2, a3, a4, a5, a6⟩, ⟨n, b1, b2, b3, b4, b5, m, b6, b7, b8⟩, ⟨c1, c2, c3, c4, c5, c6, c7⟩, d, e0, e⟩ := i
  have q : quL V = quL v := quL_fr f1 (by decide) (by decide) (by decide) (by decide)
  have x : exL V = exL v := exL_fr f1 (by decide) (by decide) (by decide)
  have l : leL V = leL v := leL_fr f1 (by decide) (by decide) (by decide) (by decide) (by decide) (by decide) (by decide) (by decide) (by decide) (by decide)
  have co : coL V = coL v := coL_fr f1 (by decide) (by decide) (by decide) (by decide) (by decide) (by decide)
  refine ⟨⟨(a1.fr f1 (by decide)).1, (a2.fr f1 (by decide)).1, (a3.fr f1 (by decide)).1, (a4.fr f1 (by decide)).1, (a5.fr f1 (by decide)).1, ?_⟩, ⟨n, ?_, b2, ?_, ?_, ?_, m, ?_, b7, ?_⟩, ⟨c1.fr f1 (by decide), c2.fr f1 (by decide), c3.fr f1 (by decide), c4.fr f1 (by decide), b43, c6.fr f1 (by decide), c7.fr f1 (by decide)⟩, ?_, ?_, ?_⟩
  · rw [q, x, co]; exact a6
  · rw [f1.1 9 (by decide)]; exact b1
  · rw [q]; exact b3
  · rw [co]; exact b4
  · rw [l]; exact b5
  · rw [f1.1 25 (by decide)]; exact b6
  · rw [l]; exact b8
  · unfold ViM; rw [q, l]; exact d
  · rw [(f1.2 35 (by decide)).1]; exact e0
  · intro c' k1 k2
    rw [l, co, (f1.2 35 (by decide)).1, (f1.2 36 (by decide)).1, (f1.2 38 (by decide)).1, (f1.2 39 (by decide)).1, (f1.2 47 (by decide)).1]
    obtain ⟨g1, g2, g3, g4, g5⟩ := e c' k1 k2
    by_cases z : c' = c
    · subst z
      exact ⟨g1, g2, g3, g4, fun hs => absurd st hs⟩
    · rw [oth c' z]
      exact ⟨g1, g2, g3, g4, g5⟩
/-- such changes, all together -/
theorem Al.dr {X : List Nat} (a : Al h v G t) (C : Cl h' v' G (leL v) (gH G)) (fv : Fr v v' [] [40, 41, 42, 43, 44, 45, 46]) (V : VI v' t) (f : LF h h' X) (hX : ∀ x ∈ X, kd h x = 2 ∨ kd h x = 5) (hz' : hz h' ≤ hz h) (hs' : hs h' ≤ hs h) : Al h' v' G t ∧ Gr h v h' v' 0 0 := by
  rw [← leL_fr fv (by decide) (by decide) (by decide) (by decide) (by decide) (by decide) (by decide) (by decide) (by decide) (by decide)] at C
  have T : Tr h h' [2, 5] 0 := ⟨f.kf (fun x hx => by rcases hX x hx with e | e <;> rw [e] <;> simp), by omega, by omega⟩
  obtain ⟨x1, x2, x3, x4, x5⟩ := a.mk C V T.1 (by decide) fv (by decide) (by decide)
  exact ⟨x1, T.gr x2 (Nat.le_of_eq (KP_fr fv (by decide))) x3 x4 x5⟩
theorem r47_id {F A : List Nat} (f : Fr v v' F A) (hA : 47 ∉ A) : r47 v v' = v' := by
  obtain ⟨p1, p2, p3⟩ := v'
  have e := f.2 47 hA
  unfold r47
  congr 1
  · have : (fun k => if k = 47 then v.2.1 47 else p2 k) = p2 := by
      funext k
      split
      · rename_i z; rw [z]; exact e.1.symm
      · rfl
    have : (fun k => if k = 47 then v.2.2 47 else p3 k) = p3 := by
      funext k
      split
      · rename_i z; rw [z]; exact e.2.symm
      · rfl
    simp_all
theorem deed_new2 (w : WH h) (d : Nat) : ∃ h', (∀ {β : Type} (F : Nat → AH → Option β), (nwO h 4 fun a h_7 => bd (f_X3_init a (some d) h_7) fun _ h_9 => F a h_9) = F (hz h + 4) h') ∧ LF h h' [] ∧ WH h' ∧ NoQ h h' ∧ hz h' ≤ hz h + 1 ∧ hs h' ≤ hs h + 100 * 1 ∧ kd h' (hz h + 4) = 4 ∧ gR h' (hz h + 4) 0 = some d := by
  have t9 := w.1.top
  have kt : kd (al h 4 0 (cnf 4)) (hz h + 4) = 4 := by rw [kd_al, if_pos rfl]
  refine ⟨sI (sI (sI (sR (al h 4 0 (cnf 4)) (hz h + 4) 0 (some d)) (hz h + 4) 1 0) (hz h + 4) 2 0) (hz h + 4) 3 0, fun F => ?_, ((((LF.fA w.1).nR t9).nI t9).nI t9).nI t9, (((w.fA (by omega) (by decide)).fR (by rw [kt]; decide)).fI).fI.fI, fun q hq => noq_al (c := 4) (n := 0) (s := cnf 4) (by decide) q hq, ?_, ?_, kt, ?_⟩
  · unfold f_X3_init
    rw [nwO_e, wrR_e kt, wrI_e (by exact kt), wrZ_e (by exact kt) (.inl rfl), wrZ_e (by exact kt) (.inl rfl), bd_s]
  · show hz h + 1 ≤ _; omega
  · show hs h + cnf 4 ≤ _; simp [cnf]
  · rw [gR_sI, gR_sI, gR_sI, gR_sR, if_pos ⟨rfl, rfl⟩]
/-- the letter is complete: it is posted, or kept -/
theorem completeH {n : Nat} {e k ct : Int64} {b : Bool} (a : Al h v G t) (h1 : 1 ≤ c) (h2 : c ≤ 3) (st : v.2.1 35 c = 1) (hl : (outL v).length < 500) (ht : t + 100 < 65536) (r8 : gR h (chA c) 8 = none) (e40 : v.2.1 40 c = 0) (dr : DrR h d e k n ct) (db : gI h d 2 = bit b) (e41 : v.2.2 41 c = e) (e42 : v.2.2 42 c = k) (e43 : v.2.1 43 c = bit b) (e44 : v.2.1 44 c = nI n) (e46 : v.2.2 46 c = ct) : HC t h v c (f_X11_complete 4 (some (chA c)) (some d) h) (m_complete (nI c) v) := by
  obtain ⟨k2, -, -, -⟩ := a.1.2.1.1.ch h1 h2
  obtain ⟨-, -, -, s6, -⟩ := a.1.2.1.2.1.2.2 c h1 h2
  have sid : sR h (chA c) 8 none = h := by
    have : va_up (gR h (chA c)) 8 none = gR h (chA c) := by
      funext j
      unfold va_up
      split
      · rename_i z; rw [z, r8]
      · rfl
    unfold sR
    rw [this, wR_id]
  unfold f_X11_complete m_complete
  rw [nn_s, wrR_e k2, sid, rdI_e k2, s6, msI_e (show c < 4 by omega) (by decide), mseA_id e40, mrI_e (show c < 4 by omega) (by decide)]
  by_cases tr : v.2.1 39 c = 0
  · rw [if_pos tr, if_pos tr, kg_e a.1.2.1.1.1, mrJ_e (show c < 4 by omega) (by decide), mrJ_e (show c < 4 by omega) (by decide), mrI_e (show c < 4 by omega) (by decide), mrI_e (show c < 4 by omega) (by decide), mrJ_e (show c < 4 by omega) (by decide), e41, e42, e43, e44, e46]
    rcases post_ok a (K47.rf a h1 h2) h1 h2 dr db st (by omega) (by omega) with ⟨g', w', x1, x2, x3, x4, x5, -, x7⟩ | ⟨h', g', w', G', x1, x2, x3, x4, x5, x6, x7, x8, x9⟩
    · rw [x1, bd_s, x2]
      have es : (bdm (bdm (m_soft (nI c) 506 w') fun _ v_1 => rz 0 (some ((0 : Int32), v_1))) fun _ v_25 => some ((), v_25)) = m_soft (nI c) 506 w' := by
        cases hx : m_soft (nI c) 506 w' with
        | none => rfl
        | some q => rfl
      rw [es]
      exact ⟨506, h, g', G, rfl, x3.mono (by omega), x5.mono (by omega) (by split <;> omega), .inr (.inl ⟨by decide, w', x4, .inl (by rw [(x7.2 35 (by decide)).1]; exact st), rfl⟩)⟩
    · rw [x1, bd_s, x2, bdm_s]
      have e : w' = g' := by rw [x9, r47_id x6 (by decide)]
      exact ⟨0, h', g', G', rfl, x3.mono (by omega), x5.mono (by omega) (by split <;> omega), .inl ⟨rfl, by rw [e]⟩⟩
  · rw [if_neg tr, if_neg tr, mrI_e (show c < 4 by omega) (by decide)]
    obtain ⟨h1', x1, f1, w1, nq1, z1, z2, d4, d0⟩ := deed_new2 a.1.1 d
    obtain ⟨a1, g1⟩ := a.nw f1 w1 nq1 z1 z2
    rw [x1, kg_e a1.1.2.1.1.1]
    obtain ⟨m, hm, em, -, -⟩ := kc_n a h1 h2
    by_cases full : v.2.1 47 c = 12
    · rw [if_pos full, keep_no a1 h1 h2 full, bd_s, bdm_id]
      exact ⟨506, h1', v, G, rfl, a1.mono (by omega), g1.mono (by omega) (by split <;> omega), .inr (.inl ⟨by decide, v, K47.rf a h1 h2, .inr rfl, rfl⟩)⟩
    · have lt12 : m < 12 := by
        rcases Nat.lt_or_ge m 12 with z | z
        · exact z
        · exfalso; apply full; rw [em, show m = 12 by omega]; rfl
      have hix : 12 * c + m < 48 := by omega
      rw [if_neg full, mrI_e (show c < 4 by omega) (by decide), ltd, em, ix12 h1 h2 m, msI_e (show 12 * c + m < 48 from hix) (by decide), mrJ_e (show c < 4 by omega) (by decide), show (mseA v 48 (12 * c + m) 0).2.2 41 c = e from e41, msJ_e (show 12 * c + m < 48 from hix) (by decide), mrJ_e (show c < 4 by omega) (by decide), mJ_k (show 42 ≠ 49 by decide), show (mseA v 48 (12 * c + m) 0).2.2 42 c = k from e42, msJ_e (show 12 * c + m < 48 from hix) (by decide), mrI_e (show c < 4 by omega) (by decide), show (mseJ (mseJ (mseA v 48 (12 * c + m) 0) 49 (12 * c + m) e) 50 (12 * c + m) k).2.1 43 c = bit b by show (mseA v 48 (12 * c + m) 0).2.1 43 c = bit b; rw [mA_k (by decide)]; exact e43, msZ_e (k := 51) (show 12 * c + m < 48 from hix) (by decide), mrI_e (show c < 4 by omega) (by decide), mA_k (show 44 ≠ 51 by decide), show (mseJ (mseJ (mseA v 48 (12 * c + m) 0) 49 (12 * c + m) e) 50 (12 * c + m) k).2.1 44 c = nI n by show (mseA v 48 (12 * c + m) 0).2.1 44 c = nI n; rw [mA_k (by decide)]; exact e44, msI_e (show 12 * c + m < 48 from hix) (by decide), mrJ_e (show c < 4 by omega) (by decide), show (mseA (mseA (mseJ (mseJ (mseA v 48 (12 * c + m) 0) 49 (12 * c + m) e) 50 (12 * c + m) k) 51 (12 * c + m) (bit b)) 52 (12 * c + m) (nI n)).2.2 46 c = ct by show (mseJ (mseJ (mseA v 48 (12 * c + m) 0) 49 (12 * c + m) e) 50 (12 * c + m) k).2.2 46 c = ct; rw [mJ_k (by decide), mJ_k (by decide)]; exact e46, msJ_e (show 12 * c + m < 48 from hix) (by decide), mrI_e (show c < 4 by omega) (by decide), msI_e (show c < 4 by omega) (by decide)]
      have K : KpA v (mseA (mseJ (mseA (mseA (mseJ (mseJ (mseA v 48 (12 * c + m) 0) 49 (12 * c + m) e) 50 (12 * c + m) k) 51 (12 * c + m) (bit b)) 52 (12 * c + m) (nI n)) 53 (12 * c + m) ct) 47 c ((mseJ (mseA (mseA (mseJ (mseJ (mseA v 48 (12 * c + m) 0) 49 (12 * c + m) e) 50 (12 * c + m) k) 51 (12 * c + m) (bit b)) 52 (12 * c + m) (nI n)) 53 (12 * c + m) ct).2.1 47 c + 1)) c m (0, e, k, bit b, nI n, ct) := by
        refine ⟨((((((Fr.updA.tr Fr.updJ).tr Fr.updJ).tr Fr.updA).tr Fr.updA).tr Fr.updJ).tr Fr.updA).mono (by simp) (by simp), ?_, fun j hj => ?_, fun k q1 q2 j hj => ?_, ?_, ?_⟩
        · simp [mseA, mseJ, rw1, upd, em, nI_1]
        · simp [mseA, mseJ, rw1, upd, hj]
        · have : k = 48 ∨ k = 49 ∨ k = 50 ∨ k = 51 ∨ k = 52 ∨ k = 53 := by omega
          rcases this with z | z | z | z | z | z <;> subst z <;> simp [mseA, mseJ, rw1, upd, vp_updL, hj]
        · simp [mseA, mseJ, rw1, upd, vp_updL]
        · intro j
          have b51 := a.2.1.2.2.1.2.2.2.2.2.1 j
          by_cases q : j = 12 * c + m
          · cases b <;> simp [mseA, mseJ, rw1, upd, vp_updL, q, bit]
          · simpa [mseA, mseJ, rw1, upd, vp_updL, q] using b51
      have dr1 : DrR h1' d e k n ct := dr.fr f1 (by simp) (by simp)
      have db1 : gI h1' d 2 = bit b := by rw [(f1.kp dr.1 (by decide) (by decide) (by simp)).2.2.1]; exact db
      obtain ⟨hb, Gb, y1, y2, y3⟩ := keep_ok (d := hz h + 4) (n := m) a1 h1 h2 st lt12 em ⟨d4, .inl ⟨rfl, d, n, b, d0, rfl, dr1, db1, rfl⟩⟩ K
      rw [y1, bd_s]
      exact ⟨0, hb, _, Gb, rfl, y2.mono (by omega), (g1.tr y3).mono (by omega) (by split <;> omega), .inl ⟨rfl, rfl⟩⟩
end Dr

/-! ===== a channel is left ===== -/
def okF : List Nat := [0, 2, 4, 24, 54, 55, 56, 57, 61]
def okA : List Nat := [1, 3, 26, 27, 28, 29, 30, 31, 32, 33, 34, 58, 59, 60]
section Up
variable {h h' : AH} {v v' : MV} {G G' : GH} {M : List R_le} {hl : Nat → List Nat} {X F A : List Nat}
theorem Cl.up (C : Cl h v G M hl) (f : LF h h' X) (xk : XK h X [8, 5, 101, 1, 3, 6, 11]) (w : WH h') (nq : NoQ h h') (sk : SkF h h') (sc : Sc h' v') (ls : Ls h' G') (ch : Ch h' v' G') (eQ : quL v' = quL v) (eX : exL v' = exL v) (eB : biL v' = biL v) (eC : coL v' = coL v) (e1 : G'.1 = G.1) (eW : gW G' = gW G) : Cl h' v' G' M hl := by
  obtain ⟨c1, ⟨c2, c3, c4, c5⟩, c6, c7, c8⟩ := C
  have q : gQ G' = gQ G := by unfold gQ; rw [e1]
  have o := c4.fr f (fun x hx z => xk x hx (by simp at z ⊢; omega))
  refine ⟨w, ⟨c2.fr sk, sc, ?_, ch⟩, ls, ?_, ?_⟩
  · unfold Ob gX gQ gB gC at o ⊢
    rw [eQ, eX, eB, eC, e1]
    exact o
  · rw [eW, q, eQ]
    exact c7.fr f (fun x hx z => xk x hx (by simp at z ⊢; omega))
  · rw [eW]
    exact c8.fr (fun a ha => c7.k8a ha) (fun a ha => (f.kp ha (by decide) (by decide) (xk.no ha (by simp))).2.2.2.2) nq
theorem Cl.ob (C : Cl h v G M hl) (f : LF h h' X) (hX : ∀ x ∈ X, kd h x = 0) (w : WH h') (k : KX h h') (fv : Fr v v' F A) (hF : ∀ k ∈ F, k ∈ okF ∨ k = 5 ∨ k = 13 ∨ k = 17) (hA : ∀ k ∈ A, k ∈ okA ∨ k ∈ [6, 7, 14, 15, 16, 19, 20, 21, 22, 23]) (eQ : gQ G' = gQ G) (e2 : G'.2 = G.2) (ls : Ls h' G') (ob : Ob h' v' G') : Cl h' v' G' M hl := by
  obtain ⟨c1, ⟨c2, c3, c4, c5⟩, c6, c7, c8⟩ := C
  have nF : ∀ k, k ∉ okF → k ≠ 5 → k ≠ 13 → k ≠ 17 → k ∉ F := fun k k1 k2 k3 k4 z => by
    rcases hF k z with y | y | y | y
    · exact k1 y
    · exact k2 y
    · exact k3 y
    · exact k4 y
  have nA : ∀ k, k ∉ okA → k ∉ [6, 7, 14, 15, 16, 19, 20, 21, 22, 23] → k ∉ A := fun k k1 k2 z => by
    rcases hA k z with y | y
    · exact k1 y
    · exact k2 y
  have xk : ∀ K : List Nat, 0 ∉ K → XK h X K := fun K k0 x hx z => by rw [hX x hx] at z; exact k0 z
  have sk : ∀ a ∈ skc, a ∉ X := fun a ha z => by have := c2.kds ha; have := hX a z; omega
  have q : quL v' = quL v := quL_fr fv (nF 8 (by decide) (by decide) (by decide) (by decide)) (nA 10 (by decide) (by decide)) (nA 11 (by decide) (by decide)) (nA 12 (by decide) (by decide))
  have eW : gW G' = gW G := by unfold gW; rw [e2]
  refine ⟨w, ⟨c2.fr (SkF.of c2 f sk), c3.fr (ScF.of c2 f sk) fv ⟨nF 25 (by decide) (by decide) (by decide) (by decide), nF 18 (by decide) (by decide) (by decide) (by decide)⟩ ⟨nA 35 (by decide) (by decide), nA 36 (by decide) (by decide), nA 37 (by decide) (by decide), nA 38 (by decide) (by decide), nA 39 (by decide) (by decide)⟩, ob, ?_⟩, ls, ?_, ?_⟩
  · have d := (c5.fr f (xk _ (by decide)) (fun c h1 h2 => by
      obtain ⟨k, -⟩ := c2.ch h1 h2
      rw [(f.kp k (by decide) (by decide) (sk _ (skc_ch h1 h2))).2.2.2.2])).fv fv (fun k k1 k2 => nA k (fun z => by simp [okA] at z; omega) (fun z => by simp at z; omega))
    unfold Ch gK at d ⊢
    rw [e2]
    exact d
  · rw [eW, eQ, q]
    exact c7.fr f (xk _ (by decide))
  · rw [eW]
    exact c8.fr (fun a ha => c7.k8a ha) (fun a ha => (f.kp ha (by decide) (by decide) ((xk [8] (by decide)).no ha (by simp))).2.2.2.2) k.noq
theorem Cl.vv (C : Cl h v G M hl) (fv : Fr v v' F A) (hF : ∀ k ∈ F, k ∈ okF) (hA : ∀ k ∈ A, k ∈ okA) : Cl h v' G M hl := by
  have nF : ∀ k, k ∉ okF → k ∉ F := fun k k1 z => k1 (hF k z)
  have nA : ∀ k, k ∉ okA → k ∉ A := fun k k1 z => k1 (hA k z)
  refine C.ob (X := []) (LF.rf _ _) (by simp) C.1 (KX.rf _) fv (fun k hk => .inl (hF k hk)) (fun k hk => .inl (hA k hk)) rfl rfl C.2.2.1 ?_
  have o := C.2.1.2.2.1
  unfold Ob at o ⊢
  rw [quL_fr fv (nF 8 (by decide)) (nA 10 (by decide)) (nA 11 (by decide)) (nA 12 (by decide)), exL_fr fv (nF 5 (by decide)) (nA 6 (by decide)) (nA 7 (by decide)), biL_fr fv (nF 13 (by decide)) (nA 14 (by decide)) (nA 15 (by decide)) (nA 16 (by decide)), coL_fr fv (nF 17 (by decide)) (nA 19 (by decide)) (nA 20 (by decide)) (nA 21 (by decide)) (nA 22 (by decide)) (nA 23 (by decide))]
  exact o
end Up
/-! the office's lists -/
def sX (G : GH) (l : List Nat) : GH := ((l, G.1.2), G.2)
def sQ (G : GH) (l : List Nat) : GH := ((G.1.1, l, G.1.2.2), G.2)
def sB (G : GH) (l : List Nat) : GH := ((G.1.1, G.1.2.1, l, G.1.2.2.2), G.2)
def sC (G : GH) (l : List Nat) : GH := ((G.1.1, G.1.2.1, G.1.2.2.1, l), G.2)
section Of
variable {h h' : AH} {G : GH} {l' : List Nat}
theorem Ls.oth (l : Ls h G) {y : Nat} (hy : 10 ≤ y) (hy2 : y ≤ 13) (f : LF h h' [y]) (k : KX h h') : (∀ c, 1 ≤ c → c ≤ 3 → LI h' (chA c + 1) (gH G c) ∧ LI h' (chA c + 2) (gK G c)) ∧ ∀ q, kd h' q = 11 → 30 < q ∧ gR h' q 1 = some (q + 1) ∧ LI h' (q + 1) (gW G q) ∧ ∀ a ∈ gW G q, kd h' a = 8 := by
  obtain ⟨l1, l2, l3, l4, l5, l6⟩ := l
  refine ⟨fun c' k1 k2 => ?_, fun q hq' => ?_⟩
  · obtain ⟨m1, m2⟩ := l5 c' k1 k2
    exact ⟨m1.fr f (by simp [chA]; omega), m2.fr f (by simp [chA]; omega)⟩
  · have kq := k.noq q hq'
    obtain ⟨m0, m1, m2, m3⟩ := l6 q kq
    refine ⟨m0, ?_, m2.fr f (by simp; omega), fun a ha => f.kk (m3 a ha) (by decide)⟩
    rw [(f.kp kq (by decide) (by decide) (by simp; omega)).2.2.2.2]
    exact m1
theorem Ls.x (l : Ls h G) (f : LF h h' [10]) (k : KX h h') (i : LI h' 10 l') : Ls h' (sX G l') := ⟨i, l.2.1.fr f (by simp), l.2.2.1.fr f (by simp), l.2.2.2.1.fr f (by simp), (l.oth (by decide) (by decide) f k)⟩
theorem Ls.q (l : Ls h G) (f : LF h h' [11]) (k : KX h h') (i : LI h' 11 l') : Ls h' (sQ G l') := ⟨l.1.fr f (by simp), i, l.2.2.1.fr f (by simp), l.2.2.2.1.fr f (by simp), (l.oth (by decide) (by decide) f k)⟩
theorem Ls.b (l : Ls h G) (f : LF h h' [12]) (k : KX h h') (i : LI h' 12 l') : Ls h' (sB G l') := ⟨l.1.fr f (by simp), l.2.1.fr f (by simp), i, l.2.2.2.1.fr f (by simp), (l.oth (by decide) (by decide) f k)⟩
theorem Ls.c (l : Ls h G) (f : LF h h' [13]) (k : KX h h') (i : LI h' 13 l') : Ls h' (sC G l') := ⟨l.1.fr f (by simp), l.2.1.fr f (by simp), l.2.2.1.fr f (by simp), i, (l.oth (by decide) (by decide) f k)⟩
end Of
section Le
variable {h : AH} {v v' : MV} {G : GH} {M : List R_le} {hl : Nat → List Nat} {F A : List Nat} {c : Nat}
theorem kpL_c {c' : Nat} (e47 : v'.2.1 47 c' = v.2.1 47 c') (e : ∀ k, 48 ≤ k → k ≤ 53 → v'.2.1 k = v.2.1 k ∧ v'.2.2 k = v.2.2 k) : kpL v' c' = kpL v c' := by
  unfold kpL kcN
  rw [e47]
  exact lst_congr (fun i _ => by rw [(e 48 (by omega) (by omega)).1, (e 49 (by omega) (by omega)).2, (e 50 (by omega) (by omega)).2, (e 51 (by omega) (by omega)).1, (e 52 (by omega) (by omega)).1, (e 53 (by omega) (by omega)).2])
theorem ChD.cv {c' : Nat} (i : ChD h v c') (e40 : v'.2.1 40 c' = v.2.1 40 c') (e : ∀ k, 41 ≤ k → k ≤ 46 → v'.2.1 k c' = v.2.1 k c' ∧ v'.2.2 k c' = v.2.2 k c') : ChD h v' c' := by
  unfold ChD
  rw [e40, (e 41 (by omega) (by omega)).2, (e 42 (by omega) (by omega)).2, (e 43 (by omega) (by omega)).1, (e 44 (by omega) (by omega)).1, (e 45 (by omega) (by omega)).1, (e 46 (by omega) (by omega)).2]
  exact i
/-- the channel's numbers, kept deeds and draft -/
theorem leave_ok {s : Int32} (C : Cl h v G M hl) (h1 : 1 ≤ c) (h2 : c ≤ 3) (fv : Fr v v' F A) (hF : ∀ k ∈ F, k ∈ okF) (hA : ∀ k ∈ A, k ∈ okA ∨ k ∈ [35, 39, 40, 47]) (oth : ∀ j, j ≠ c → v'.2.1 35 j = v.2.1 35 j ∧ v'.2.1 39 j = v.2.1 39 j ∧ v'.2.1 40 j = v.2.1 40 j ∧ v'.2.1 47 j = v.2.1 47 j) (e35 : v'.2.1 35 c = s) (e39 : v'.2.1 39 c = 0) (e40 : v'.2.1 40 c = 0) (e47 : v'.2.1 47 c = 0) : ∃ h', f_X1_leave (chA c) s h = some ((), h') ∧ Cl h' v' (sK G c []) M hl ∧ Tr h h' [0, 2] 0 := by
  have nF : ∀ k, k ∉ okF → k ∉ F := fun k k1 z => k1 (hF k z)
  have nA : ∀ k, k ∉ okA → k ∉ [35, 39, 40, 47] → k ∉ A := fun k k1 k2 z => by
    rcases hA k z with y | y
    · exact k1 y
    · exact k2 y
  obtain ⟨k2, r1, r2, n0⟩ := C.2.1.1.ch h1 h2
  have lk := (C.2.2.1.2.2.2.2.1 c h1 h2).2
  have f1 : LF h (sI h (chA c) 3 s) [chA c] := LF.fI
  have lk1 : LI (sI h (chA c) 3 s) (chA c + 2) (gK G c) := lk.fr f1 (by simp)
  obtain ⟨hb, e, L, f2, w2, z1, z2, kx⟩ := lk1.clr C.1.fI
  have kb : kd hb (chA c) = 2 := f2.kk (by exact k2) (by decide)
  have kpb : Kp (sI h (chA c) 3 s) hb (chA c) := f2.kp (by exact k2) (by decide) (by decide) (by simp)
  have fb : LF hb (sR (sI hb (chA c) 6 0) (chA c) 8 none) [chA c] := LF.fI.tr (LF.fR (by rw [kd_sI, kb]; decide))
  have ff : LF h (sR (sI hb (chA c) 6 0) (chA c) 8 none) [chA c, chA c + 2] := (f1.trW f2 (Z := [chA c, chA c + 2]) (by simp) (by simp)).tr (fb.mono (by simp))
  have hw : WH (sR (sI hb (chA c) 6 0) (chA c) 8 none) := w2.fI.fR (by rw [kd_sI, kb]; decide)
  have sk1 := (f2.sk (C.2.1.1.fr (SkF.fI (by decide))) lk.1)
  have ski : SkF h (sR (sI hb (chA c) 6 0) (chA c) 8 none) := ((SkF.fI (by decide)).tr (SkF.of (C.2.1.1.fr (SkF.fI (h := h) (a := chA c) (k := 3) (x := s) (by decide))) f2 (fun a ha z => by
    simp at z
    have := C.2.1.1.kds ha
    rw [z, lk.1] at this
    omega))).tr ((SkF.fI (by decide)).tr (SkF.fR (by decide)))
  have oc : ∀ c', c' ≠ c → 1 ≤ c' → c' ≤ 3 → Kp h (sR (sI hb (chA c) 6 0) (chA c) 8 none) (chA c') := fun c' hc k1 k3 => ff.kp (C.2.1.1.ch k1 k3).1 (by decide) (by decide) (by simp [chA]; omega)
  have gi : ∀ j, gI (sR (sI hb (chA c) 6 0) (chA c) 8 none) (chA c) j = if j = 6 then 0 else if j = 3 then s else gI h (chA c) j := fun j => by
    rw [gI_sR, gI_sI, kpb.2.2.1, gI_sI]
    simp
  have nq : NoQ h (sR (sI hb (chA c) 6 0) (chA c) 8 none) := fun q hq => kx.noq q hq
  refine ⟨sR (sI hb (chA c) 6 0) (chA c) 8 none, ?_, ?_, ff.kf (by simp [k2, lk.1]), by show hz hb ≤ _; rw [z1]; exact Nat.le_refl _, by show hs hb ≤ _; rw [z2]; exact Nat.le_refl _⟩
  · unfold f_X1_leave
    rw [wrI_e k2, rdR_e (by exact k2), show gR (sI h (chA c) 3 s) (chA c) 2 = some (chA c + 2) from r2, nn_s, lk1.kgg, e, bd_s, wrZ_e kb (.inl rfl), wrR_e (by exact kb)]
  · refine C.up ff (by intro x hx z; simp at hx; rcases hx with y | y <;> rw [y] at z <;> simp [k2, lk.1] at z) hw nq ski ?_ ?_ ?_ (quL_fr fv (nF 8 (by decide)) (nA 10 (by decide) (by decide)) (nA 11 (by decide) (by decide)) (nA 12 (by decide) (by decide))) (exL_fr fv (nF 5 (by decide)) (nA 6 (by decide) (by decide)) (nA 7 (by decide) (by decide))) (biL_fr fv (nF 13 (by decide)) (nA 14 (by decide) (by decide)) (nA 15 (by decide) (by decide)) (nA 16 (by decide) (by decide))) (coL_fr fv (nF 17 (by decide)) (nA 19 (by decide) (by decide)) (nA 20 (by decide) (by decide)) (nA 21 (by decide) (by decide)) (nA 22 (by decide) (by decide)) (nA 23 (by decide) (by decide))) rfl rfl
    · obtain ⟨s1, s2, s3⟩ := C.2.1.2.1
      have k9 : Kp h (sR (sI hb (chA c) 6 0) (chA c) 8 none) 9 := ff.kp C.2.1.1.k9 (by decide) (by decide) (by simp [chA]; omega)
      refine ⟨by rw [k9.2.2.1, fv.1 25 (nF 25 (by decide))]; exact s1, by rw [k9.2.2.1, fv.1 18 (nF 18 (by decide))]; exact s2, fun c' k1 k3 => ?_⟩
      rw [(fv.2 36 (nA 36 (by decide) (by decide))).1, (fv.2 37 (nA 37 (by decide) (by decide))).1, (fv.2 38 (nA 38 (by decide) (by decide))).1]
      by_cases hc : c' = c
      · subst hc
        obtain ⟨t1, t2, t3, t4, t5⟩ := s3 c' k1 k3
        simp only [gi, e35, e39]
        exact ⟨rfl, t2, t3, rfl, t5⟩
      · rw [(oc c' hc k1 k3).2.2.1, (oth c' hc).1, (oth c' hc).2.1]
        exact s3 c' k1 k3
    · have l1 : Ls hb (sK G c []) := (C.2.2.1.fr f1 (by intro x hx z; simp at hx; rw [hx, k2] at z; simp at z) (fun q hq => hq)).k h1 h2 f2 kx L
      exact l1.fr fb (by intro x hx z; simp at hx; rw [hx, kb] at z; simp at z) (fun q hq => hq)
    · obtain ⟨d1, d2⟩ := C.2.1.2.2.2
      have xk : XK h [chA c, chA c + 2] [4, 5, 101] := by intro x hx z; simp at hx; rcases hx with y | y <;> rw [y] at z <;> simp [k2, lk.1] at z
      have g8 : gR (sR (sI hb (chA c) 6 0) (chA c) 8 none) (chA c) 8 = none := by rw [gR_sR, if_pos ⟨rfl, rfl⟩]
      refine ⟨fun c' k1 k3 => ?_, fun c' c'' d k1 k3 k4 k5 g1 g2 => ?_⟩
      · obtain ⟨j1, j2⟩ := d1 c' k1 k3
        by_cases hc : c' = c
        · subst hc
          refine ⟨?_, .inl ⟨e40, g8⟩⟩
          show F2 _ (fu G.2.2.2 c' [] c') _
          have : kpL v' c' = [] := by
            unfold kpL kcN
            rw [e47]
            rfl
          rw [fu_s, this]
          exact F2.nil
        · refine ⟨?_, (j2.fr ff (fun x hx z => xk x hx (by simp at z ⊢; omega)) (by rw [(oc c' hc k1 k3).2.2.2.2])).cv (oth c' hc).2.2.1 (fun k q1 q2 => by
            have := fv.2 k (nA k (fun z => by simp [okA] at z; omega) (fun z => by simp at z; omega))
            rw [this.1, this.2]
            exact ⟨rfl, rfl⟩)⟩
          show F2 _ (fu G.2.2.2 c [] c') _
          rw [fu_n hc, kpL_c (oth c' hc).2.2.2 (fun k q1 q2 => fv.2 k (nA k (fun z => by simp [okA] at z; omega) (fun z => by simp at z; omega)))]
          exact j1.imp (fun a b _ _ z => z.fr ff xk)
      · by_cases hc : c' = c
        · subst hc; rw [g8] at g1; cases g1
        · by_cases hc2 : c'' = c
          · subst hc2; rw [g8] at g2; cases g2
          · rw [(oc c' hc k1 k3).2.2.2.2] at g1
            rw [(oc c'' hc2 k4 k5).2.2.2.2] at g2
            exact d2 c' c'' d k1 k3 k4 k5 g1 g2
end Le

/-! ===== new objects; what a channel keeps ===== -/
section Nw
variable {h h1 : AH} {d k n s : Nat}
theorem LF.nI {x : Int32} (f : LF h h1 []) (kd' : kd h d = 999) : LF h (sI h1 d k x) [] := ⟨f.1, f.2.1, fun b k1 k2 k3 => by
  have ne : b ≠ d := fun z => k1 (by rw [z]; exact kd')
  obtain ⟨q1, q2, q3⟩ := f.2.2.1 b k1 k2 k3
  exact ⟨(gI_sIn ne).trans q1, q2, q3⟩, f.2.2.2⟩
theorem LF.nJ {x : Int64} (f : LF h h1 []) (kd' : kd h d = 999) : LF h (sJ h1 d k x) [] := ⟨f.1, f.2.1, fun b k1 k2 k3 => by
  have ne : b ≠ d := fun z => k1 (by rw [z]; exact kd')
  obtain ⟨q1, q2, q3⟩ := f.2.2.1 b k1 k2 k3
  exact ⟨q1, (gJ_sJn ne).trans q2, q3⟩, f.2.2.2⟩
theorem LF.nR {x : Option Nat} (f : LF h h1 []) (kd' : kd h d = 999) : LF h (sR h1 d k x) [] := ⟨f.1, f.2.1, fun b k1 k2 k3 => by
  have ne : b ≠ d := fun z => k1 (by rw [z]; exact kd')
  obtain ⟨q1, q2, q3⟩ := f.2.2.1 b k1 k2 k3
  exact ⟨q1, q2, (gR_sRn ne).trans q3⟩, fun b hb kb e eb ke => by
  have ne : e ≠ d := fun z => by rw [z, kd'] at ke; exact absurd ke (by decide)
  rw [gR_sRn ne]
  exact f.2.2.2 b hb kb e eb ke⟩
theorem noq_al {c : Nat} (hc : c ≠ 11) : NoQ h (al h c n s) := fun q hq => by
  rw [kd_al] at hq
  split at hq
  · exact absurd hq hc
  · exact hq
end Nw
section Kp
variable {t : Nat} {h h' : AH} {v v' : MV} {c : Nat} {G : GH} {M : List R_le} {hl : Nat → List Nat} {w : Bool}
theorem Cl.nw (C : Cl h v G M hl) (f : LF h h' []) (w : WH h') (nq : NoQ h h') : Cl h' v G M hl := C.io f (by intro x hx; simp at hx) w nq (SkF.of C.2.1.1 f (by simp))
theorem Al.nw (a : Al h v G t) (f : LF h h' []) (w : WH h') (nq : NoQ h h') {n : Nat} (hz' : hz h' ≤ hz h + n) (hs' : hs h' ≤ hs h + 100 * n) : Al h' v G t ∧ Gr h v h' v n 0 := by
  have T : Tr h h' [] n := ⟨f.kf (by simp), hz', hs'⟩
  obtain ⟨x1, x2, x3, x4, x5⟩ := a.mk (a.1.nw f w nq) a.2.1 T.1 (by decide) (Fr.rf v) (by decide) (by decide)
  exact ⟨x1, T.gr x2 (Nat.le_refl _) x3 x4 x5⟩
theorem Cl.kept {l' : List Nat} (C : Cl h v G M hl) (h1 : 1 ≤ c) (h2 : c ≤ 3) (f : LF h h' [chA c + 2]) (w : WH h') (k : KX h h') (i : LI h' (chA c + 2) l') (fv : Fr v v' [] [47, 48, 49, 50, 51, 52, 53]) (ko : ∀ c', c' ≠ c → 1 ≤ c' → c' ≤ 3 → kpL v' c' = kpL v c') (kc : F2 (DeR h') l' (kpL v' c)) : Cl h' v' (sK G c l') M hl := by
  have k0 := (C.2.2.1.2.2.2.2.1 c h1 h2).2.1
  have s0 := C.2.1.1
  have xk : ∀ K : List Nat, 0 ∉ K → XK h [chA c + 2] K := fun K z => XK.l k0 z
  have sk : ∀ a ∈ skc, a ∉ [chA c + 2] := fun a ha z => by simp at z; have := s0.kds ha; rw [z, k0] at this; omega
  have e8 : ∀ c', 1 ≤ c' → c' ≤ 3 → gR h' (chA c') 8 = gR h (chA c') 8 := fun c' k1 k2 => by rw [(f.kp (s0.ch k1 k2).1 (by decide) (by decide) (sk _ (skc_ch k1 k2))).2.2.2.2]
  refine C.up f (xk _ (by decide)) w k.noq (SkF.of s0 f sk) (C.2.1.2.1.fr (ScF.of s0 f sk) fv (by decide) (by decide)) (C.2.2.1.k h1 h2 f k i) ?_ (quL_fr fv (by decide) (by decide) (by decide) (by decide)) (exL_fr fv (by decide) (by decide) (by decide)) (biL_fr fv (by decide) (by decide) (by decide) (by decide)) (coL_fr fv (by decide) (by decide) (by decide) (by decide) (by decide) (by decide)) rfl rfl
  obtain ⟨d1, d2⟩ := C.2.1.2.2.2.fr f (xk _ (by decide)) e8
  refine ⟨fun c' k1 k2 => ?_, d2⟩
  obtain ⟨j1, j2⟩ := d1 c' k1 k2
  refine ⟨?_, j2.fv fv (fun k q1 q2 => fun z => by simp at z; omega)⟩
  show F2 _ (fu G.2.2.2 c l' c') _
  by_cases e : c' = c
  · subst e; rw [fu_s]; exact kc
  · rw [fu_n e, ko c' e k1 k2]; exact j1
theorem VI.k47 {V : MV} (i : VI v t) (f1 : Fr v V [] [47, 48, 49, 50, 51, 52, 53]) (oth : ∀ j, j ≠ c → V.2.1 47 j = v.2.1 47 j) (e47 : ∃ k, k ≤ 12 ∧ V.2.1 47 c = nI k) (st : v.2.1 35 c = 1 ∨ V.2.1 47 c = 0) (b51 : Bo V 51) : VI V t := by
  obtain ⟨⟨a1, a2, a3, a4, a5, a6⟩, ⟨n, b1, b2, b3, b4, b5, m, b6, b7, b8⟩, ⟨c1, c2, c3, c4, c5, c6, c7⟩, d, e0, e⟩ := i
  have q : quL V = quL v := quL_fr f1 (by decide) (by decide) (by decide) (by decide)
  have x : exL V = exL v := exL_fr f1 (by decide) (by decide) (by decide)
  have l : leL V = leL v := leL_fr f1 (by decide) (by decide) (by decide) (by decide) (by decide) (by decide) (by decide) (by decide) (by decide) (by decide)
  have co : coL V = coL v := coL_fr f1 (by decide) (by decide) (by decide) (by decide) (by decide) (by decide)
  refine ⟨⟨(a1.fr f1 (by decide)).1, (a2.fr f1 (by decide)).1, (a3.fr f1 (by decide)).1, (a4.fr f1 (by decide)).1, (a5.fr f1 (by decide)).1, ?_⟩, ⟨n, ?_, b2, ?_, ?_, ?_, m, ?_, b7, ?_⟩, ⟨c1.fr f1 (by decide), c2.fr f1 (by decide), c3.fr f1 (by decide), c4.fr f1 (by decide), c5.fr f1 (by decide), b51, c7.fr f1 (by decide)⟩, ?_, ?_, ?_⟩
  · rw [q, x, co]; exact a6
  · rw [f1.1 9 (by decide)]; exact b1
  · rw [q]; exact b3
  · rw [co]; exact b4
  · rw [l]; exact b5
  · rw [f1.1 25 (by decide)]; exact b6
  · rw [l]; exact b8
  · unfold ViM; rw [q, l]; exact d
  · rw [(f1.2 35 (by decide)).1]; exact e0
  · intro c' k1 k2
    rw [l, co, (f1.2 35 (by decide)).1, (f1.2 36 (by decide)).1, (f1.2 38 (by decide)).1, (f1.2 39 (by decide)).1, (f1.2 40 (by decide)).1]
    obtain ⟨g1, g2, g3, g4, g5⟩ := e c' k1 k2
    by_cases z : c' = c
    · subst z
      refine ⟨g1, g2, g3, e47, fun hs => ?_⟩
      obtain ⟨q1, q2, q3⟩ := g5 hs
      rcases st with y | y
      · exact absurd y hs
      · exact ⟨q1, y, q3⟩
    · rw [oth c' z]
      exact ⟨g1, g2, g3, g4, g5⟩
theorem kc_n (a : Al h v G t) (h1 : 1 ≤ c) (h2 : c ≤ 3) : ∃ n, n ≤ 12 ∧ v.2.1 47 c = nI n ∧ kcN v c = n ∧ (gK G c).length = n := by
  obtain ⟨-, -, -, ⟨n, hn, e⟩, -⟩ := a.2.1.2.2.2.2.2 c h1 h2
  have ek : kcN v c = n := by unfold kcN; rw [e]; exact nI_clamp (by omega)
  refine ⟨n, hn, e, ek, ?_⟩
  rw [(a.1.2.1.2.2.2.1 c h1 h2).1.1]
  unfold kpL
  rw [lst_len, ek]
/-- the reference keeps one thing more -/
def KpA (v v' : MV) (c n : Nat) (r : R_kp) : Prop := Fr v v' [] [47, 48, 49, 50, 51, 52, 53] ∧ v'.2.1 47 c = nI (n + 1) ∧ (∀ j, j ≠ c → v'.2.1 47 j = v.2.1 47 j) ∧ (∀ k, 48 ≤ k → k ≤ 53 → ∀ j, j ≠ 12 * c + n → v'.2.1 k j = v.2.1 k j ∧ v'.2.2 k j = v.2.2 k j) ∧ (v'.2.1 48 (12 * c + n), v'.2.2 49 (12 * c + n), v'.2.2 50 (12 * c + n), v'.2.1 51 (12 * c + n), v'.2.1 52 (12 * c + n), v'.2.2 53 (12 * c + n)) = r ∧ Bo v' 51
theorem KpA.l {n : Nat} {r : R_kp} (k : KpA v v' c n r) (hn : n < 12) (e : kcN v c = n) (all : ∀ c', 1 ≤ c' → c' ≤ 3 → kcN v c' ≤ 12) : kpL v' c = kpL v c ++ [r] ∧ ∀ c', c' ≠ c → 1 ≤ c' → c' ≤ 3 → kpL v' c' = kpL v c' := by
  obtain ⟨k1, k2, k3, k4, k5, -⟩ := k
  have row : ∀ c' i, 12 * c' + i ≠ 12 * c + n → (v'.2.1 48 (12 * c' + i), v'.2.2 49 (12 * c' + i), v'.2.2 50 (12 * c' + i), v'.2.1 51 (12 * c' + i), v'.2.1 52 (12 * c' + i), v'.2.2 53 (12 * c' + i)) = (v.2.1 48 (12 * c' + i), v.2.2 49 (12 * c' + i), v.2.2 50 (12 * c' + i), v.2.1 51 (12 * c' + i), v.2.1 52 (12 * c' + i), v.2.2 53 (12 * c' + i)) := fun c' i h => by
    rw [(k4 48 (by omega) (by omega) _ h).1, (k4 49 (by omega) (by omega) _ h).2, (k4 50 (by omega) (by omega) _ h).2, (k4 51 (by omega) (by omega) _ h).1, (k4 52 (by omega) (by omega) _ h).1, (k4 53 (by omega) (by omega) _ h).2]
  constructor
  · have e' : kcN v' c = n + 1 := by unfold kcN; rw [k2]; exact nI_clamp (by omega)
    unfold kpL
    rw [e', e, lst_succ, k5]
    congr 1
    exact lst_congr (fun i hi => row c i (by omega))
  · intro c' hc h1 h2
    have e' : kcN v' c' = kcN v c' := by unfold kcN; rw [k3 c' hc]
    have := all c' h1 h2
    unfold kpL
    rw [e']
    exact lst_congr (fun i hi => row c' i (by omega))
theorem keep_ok {d n : Nat} {r : R_kp} (a : Al h v G t) (h1 : 1 ≤ c) (h2 : c ≤ 3) (st : v.2.1 35 c = 1) (hn : n < 12) (e : v.2.1 47 c = nI n) (dr : DeR h d r) (K : KpA v v' c n r) : ∃ h' G', f_X11_keep 4 (some (chA c)) (some d) h = some (0, h') ∧ Al h' v' G' t ∧ Gr h v h' v' 25 0 := by
  obtain ⟨n', hn', e', ek, eg⟩ := kc_n a h1 h2
  have : n' = n := by rw [e] at e'; exact ((nI_eq (by omega) (by omega)).mp e').symm
  subst this
  have li := (a.1.2.2.1.2.2.2.2.1 c h1 h2).2
  obtain ⟨k2, r1, r2, -⟩ := a.1.2.1.1.ch h1 h2
  obtain ⟨hb, x1, L, f, w, z1, z2, kx⟩ := li.add (x := d) a.1.1 (by omega) (by rw [dr.1]; omega)
  obtain ⟨y1, y2⟩ := K.l hn ek (fun c' q1 q2 => by obtain ⟨m, m1, m2, m3, -⟩ := kc_n a q1 q2; omega)
  have xk : XK h [chA c + 2] [4, 5, 101] := XK.l li.1 (by decide)
  have C := a.1.kept h1 h2 f w kx L K.1 y2 (by
    rw [y1]
    exact ((a.1.2.1.2.2.2.1 c h1 h2).1.imp (fun a b _ _ z => z.fr f xk)).snoc (dr.fr f xk))
  have V := a.2.1.k47 K.1 K.2.2.1 ⟨n' + 1, by omega, K.2.1⟩ (.inl st) K.2.2.2.2.2
  rw [← leL_fr K.1 (by decide) (by decide) (by decide) (by decide) (by decide) (by decide) (by decide) (by decide) (by decide) (by decide)] at C
  have kf : KF h hb [0] := f.kf (by simp [li.1])
  obtain ⟨A, q2, q3, q4, q5⟩ := a.mk (G' := sK G c (gK G c ++ [d])) C V kf (by decide) K.1 (by decide) (by decide)
  have kp : KP v' = KP v + 1 := by
    have e1 : kcN v' c = kcN v c + 1 := by rw [ek]; unfold kcN; rw [K.2.1]; exact nI_clamp (by omega)
    have o : ∀ j, j ≠ c → kcN v' j = kcN v j := fun j hj => by unfold kcN; rw [K.2.2.1 j hj]
    unfold KP
    have : c = 1 ∨ c = 2 ∨ c = 3 := by omega
    rcases this with z | z | z <;> subst z
    · rw [o 2 (by decide), o 3 (by decide)]; omega
    · rw [o 1 (by decide), o 3 (by decide)]; omega
    · rw [o 1 (by decide), o 2 (by decide)]; omega
  refine ⟨hb, _, ?_, A, ⟨q2, by omega, by omega, by rw [q3]; omega, q4, q5⟩⟩
  unfold f_X11_keep
  rw [nn_s, szL r2 k2 li, eg, if_pos (show nI n' < 12 from nI_lt (b := 12) hn (by decide)), rdR_e k2, r2, nn_s, li.kgg, x1, bd_s]
theorem keep_no {d : Nat} (a : Al h v G t) (h1 : 1 ≤ c) (h2 : c ≤ 3) (e : v.2.1 47 c = 12) : f_X11_keep 4 (some (chA c)) (some d) h = some (506, h) := by
  obtain ⟨n', hn', e', ek, eg⟩ := kc_n a h1 h2
  have : n' = 12 := by rw [e] at e'; exact ((nI_eq (a := 12) (b := n') (by omega) (by omega)).mp e').symm
  have li := (a.1.2.2.1.2.2.2.2.1 c h1 h2).2
  obtain ⟨k2, r1, r2, -⟩ := a.1.2.1.1.ch h1 h2
  unfold f_X11_keep
  rw [nn_s, szL r2 k2 li, eg, this, if_neg (by decide)]
theorem rollC (p : Pre t h v c G w) : HC t h v c (f_X11_rollBack 4 (some (chA c)) h) (m_transactionMethod 30 v) := by
  have e54 := p.2.2.1
  unfold f_X11_rollBack m_transactionMethod
  rw [inE p.1, ltd, e54]
  refine just_hc p (fun _ => ?_)
  obtain ⟨a, i, e54, h1, h2, hl, ht⟩ := p
  obtain ⟨k2, r1, r2, -⟩ := a.1.2.1.1.ch h1 h2
  obtain ⟨-, -, -, s6, -⟩ := a.1.2.1.2.1.2.2 c h1 h2
  rw [nn_s, rdI_e k2, s6, if_neg (show ¬ (30 : Int32) = 10 by decide), mrI_e (show c < 4 by omega) (by decide)]
  by_cases z : v.2.1 39 c = 0
  · rw [if_pos z, if_pos z, bdm_id]
    exact HC.soft a h1 h2 (e := 406) (by decide)
  · rw [if_neg z, if_neg z, if_neg (show ¬ (30 : Int32) = 20 by decide), msI_e (show c < 4 by omega) (by decide)]
    have li := (a.1.2.2.1.2.2.2.2.1 c h1 h2).2
    obtain ⟨hb, x1, L, f, w', z1, z2, kx⟩ := li.clr a.1.1
    have fv : Fr v (mseA v 47 c 0) [] [47, 48, 49, 50, 51, 52, 53] := Fr.updA.mono (by simp) (by simp)
    have C := a.1.kept (v' := mseA v 47 c 0) h1 h2 f w' kx L fv (fun c' hc _ _ => kpL_c (by rw [mA_n hc]) (fun k q1 q2 => ⟨mA_k (by omega), rfl⟩)) (by
      have : kpL (mseA v 47 c 0) c = [] := by unfold kpL kcN; rw [mA_s]; rfl
      rw [this]; exact F2.nil)
    have V := a.2.1.k47 fv (c := c) (fun j hj => mA_n hj) ⟨0, by omega, mA_s⟩ (.inr mA_s) (a.2.1.2.2.1.2.2.2.2.2.1.fr (Fr.updA (k := 47) (i := c) (x := 0)) (by decide))
    rw [← leL_fr fv (by decide) (by decide) (by decide) (by decide) (by decide) (by decide) (by decide) (by decide) (by decide) (by decide)] at C
    have T : Tr h hb [0] 0 := ⟨f.kf (by simp [li.1]), by omega, by omega⟩
    obtain ⟨A, q2, q3, q4, q5⟩ := a.mk (G' := sK G c []) C V T.1 (by decide) fv (by decide) (by decide)
    have kp : KP (mseA v 47 c 0) ≤ KP v := KP_le (c := c) (fun j hj => ⟨by rw [mA_k (by decide)], by rw [mA_k (by decide)], by rw [mA_k (by decide)], mA_n hj⟩) mA_s h1 h2
    rw [rdR_e k2, r2, nn_s, li.kgg, x1, bd_s, teE A h1 h2]
    exact HC.say (T.gr q2 kp q3 q4 q5) (by omega) (by omega) (A.mono (by omega)) h2 (by decide) (by decide) hl
end Kp

/-! ===== all together; what mistakes do ===== -/
theorem nb_s {β : Type} {a : Nat} {A : Option β} {F : Nat → Option β} : nb (some a) A F = F a := rfl
theorem nb_n {β : Type} {A : Option β} {F : Nat → Option β} : nb none A F = A := rfl
def Al (h : AH) (v : MV) (G : GH) (t : Nat) : Prop := Cl h v G (leL v) (gH G) ∧ VI v t ∧ gI h 4 4 = v.1 0 ∧ OR h v ∧ IR h v
def KP (v : MV) : Nat := kcN v 1 + kcN v 2 + kcN v 3
theorem Al.st {h : AH} {v : MV} {G : GH} {t : Nat} (a : Al h v G t) : St h v G t := ⟨a.1.1, a.2.2.1, a.2.2.2.1, a.1.2.1.1, a.1.2.1.2.1, a.1.2.2.1, a.1.2.1.2.2.1, a.1.2.2.2.1, a.1.2.1.2.2.2, a.2.1, a.1.2.2.2.2⟩
theorem St.al {h : AH} {v : MV} {G : GH} {t : Nat} (s : St h v G t) (i : IR h v) : Al h v G t := by
  obtain ⟨s1, s2, s3, s4, s5, s6, s7, s8, s9, s10, s11⟩ := s
  exact ⟨⟨s1, ⟨s4, s5, s7, s9⟩, s6, s8, s11⟩, s10, s2, s3, i⟩
section Am
variable {h h' : AH} {v v' : MV} {G G' : GH} {t t' c : Nat} {M : List R_le} {hl : Nat → List Nat} {X K F A : List Nat}
theorem Al.mono (a : Al h v G t) (k : t ≤ t') : Al h v G t' := ⟨a.1, a.2.1.mono k, a.2.2⟩
theorem Al.rd (a : Al h v G t) (r : Rd h v h' v') : Al h' v' G t := (a.st.rd a.2.2.2.2 r).al (a.2.2.2.2.rd r r.2.2.2)
theorem Al.ou (a : Al h v G t) (o : OR h' v') (c : Ci h h' [7, 8]) (f : Fr v v' [4, 61] [3]) : Al h' v' G t := (a.st.ou a.2.2.2.2 o c f).al (a.2.2.2.2.ou c f)
theorem OC.kp {s : Nat} {l : List Int32} (o : OC h s l) (p7 : Kp h h' 7) (p8 : Kp h h' 8) : OC h' s l := by
  obtain ⟨o1, o2, o3, o4, o5, o6, o7, o8, o9⟩ := o
  exact ⟨p7.k o1, by rw [p7.2.2.2.2]; exact o2, p8.k o3, by rw [p8.2.1]; exact o4, o5, by rw [p7.2.2.1]; exact o6, o7, by rw [p7.2.2.1]; exact o8, by rw [p8.2.2.1]; exact o9⟩
theorem Al.mk (a : Al h v G t) (C : Cl h' v' G' (leL v') (gH G')) (V : VI v' t') (f : KF h h' K) (hK : 12 ∉ K ∧ 10 ∉ K ∧ 7 ∉ K ∧ 100 ∉ K) (fv : Fr v v' F A) (hF : 0 ∉ F ∧ 2 ∉ F ∧ 4 ∉ F) (hA : 1 ∉ A ∧ 3 ∉ A) : Al h' v' G' t' ∧ IK h h' ∧ outL v' = outL v ∧ v'.1 2 = v.1 2 ∧ v'.1 0 = v.1 0 := by
  obtain ⟨a1, a2, a3, a4, a5⟩ := a
  have p4 : Kp h h' 4 := f.kp a1.2.1.1.1 (by decide) (by decide) hK.1
  have p7 : Kp h h' 7 := f.kp a4.kk.1 (by decide) (by decide) hK.2.1
  have p8 : Kp h h' 8 := f.kp a4.kk.2 (by decide) (by decide) hK.2.2.2
  have p5 : Kp h h' 5 := f.kp a5.1 (by decide) (by decide) hK.2.2.1
  have p6 : Kp h h' 6 := f.kp a5.2.2.1 (by decide) (by decide) hK.2.2.2
  have eo := outL_fr fv hF.2.2 hA.2
  refine ⟨⟨C, V, ?_, ?_, ?_⟩, ⟨by rw [p6.2.2.1], by rw [p5.2.2.1], by rw [p5.2.2.1]⟩, eo, fv.1 2 hF.2.1, fv.1 0 hF.1⟩
  · rw [p4.2.2.1, fv.1 0 hF.1]; exact a3
  · obtain ⟨o1, s, o2⟩ := a4
    refine ⟨?_, s, ?_⟩
    · unfold OV at *
      rw [eo, fv.1 4 hF.2.2]
      exact o1
    · rw [eo]; exact o2.kp p7 p8
  · obtain ⟨i1, i2, i3, i4, i5, i6, i7⟩ := a5
    refine ⟨p5.k i1, by rw [p5.2.2.2.2]; exact i2, p6.k i3, by rw [p6.2.1]; exact i4, (i5.fr fv hF.2.1).1, by rw [p5.2.2.1, fv.1 2 hF.2.1]; exact i6, fun j hj => ?_⟩
    rw [cN_fr fv hF.2.1] at hj
    rw [p6.2.2.1, (fv.2 1 hA.1).1]
    exact i7 j hj
theorem Cl.io (C : Cl h v G M hl) (f : LF h h' X) (xk : XK h X [0, 1, 2, 3, 4, 5, 6, 8, 9, 11, 101, 104]) (w : WH h') (nq : NoQ h h') (sk : SkF h h') : Cl h' v G M hl := by
  have sc : ∀ a, kd h a = 9 ∨ kd h a = 2 → Kp h h' a := fun a ha => by
    rcases ha with e | e
    · exact f.kp e (by decide) (by decide) (xk.no e (by simp))
    · exact f.kp e (by decide) (by decide) (xk.no e (by simp))
  have s0 := C.2.1.1
  refine C.up f (fun x hx z => xk x hx (by simp at z ⊢; omega)) w nq sk (C.2.1.2.1.fr ⟨(sc 9 (.inl s0.k9)).2.2.1, fun c h1 h2 => (sc _ (.inr (s0.ch h1 h2).1)).2.2.1⟩ (Fr.rf v) (by decide) (by decide)) (C.2.2.1.fr f (fun x hx z => xk x hx (by simp at z ⊢; omega)) nq) (C.2.1.2.2.2.fr f (fun x hx z => xk x hx (by simp at z ⊢; omega)) (fun c h1 h2 => by rw [(sc _ (.inr (s0.ch h1 h2).1)).2.2.2.2])) rfl rfl rfl rfl rfl rfl
theorem KP_le (oth : OthC v v' c) (e47 : v'.2.1 47 c = 0) (h1 : 1 ≤ c) (h2 : c ≤ 3) : KP v' ≤ KP v := by
  have z : kcN v' c = 0 := by unfold kcN; rw [e47]; rfl
  have o : ∀ j, j ≠ c → kcN v' j = kcN v j := fun j hj => by unfold kcN; rw [(oth j hj).2.2.2]
  unfold KP
  have : c = 1 ∨ c = 2 ∨ c = 3 := by omega
  rcases this with e | e | e <;> subst e
  · rw [o 2 (by decide), o 3 (by decide)]; omega
  · rw [o 1 (by decide), o 3 (by decide)]; omega
  · rw [o 1 (by decide), o 2 (by decide)]; omega
theorem KP_fr (f : Fr v v' F A) (hA : 47 ∉ A) : KP v' = KP v := by unfold KP kcN; rw [(f.2 47 hA).1]
theorem mseA_id {k i : Nat} {x : Int32} (e : v.2.1 k i = x) : mseA v k i x = v := by
  unfold mseA
  have : rw1 v.2.1 k (upd (v.2.1 k) i x) = v.2.1 := by
    funext j
    unfold rw1
    split
    · rename_i z; rw [z]; exact upd_id e
    · rfl
  rw [this]
/-- a channel is left on both sides -/
theorem lv_ok {s : Nat} (a : Al h v G t) (h1 : 1 ≤ c) (h2 : c ≤ 3) (hs : s ≤ 2) : ∃ h' v' G', f_X11_leaveChannel 4 (some (chA c)) (nI s) h = some ((), h') ∧ m_endChannel (nI c) (nI s) v = some ((), v') ∧ Al h' v' G' t ∧ IK h h' ∧ Tr h h' [0, 2, 8] 24 ∧ KP v' ≤ KP v ∧ outL v' = outL v ∧ v'.1 2 = v.1 2 ∧ v'.1 0 = v.1 0 ∧ v'.2.1 35 c = nI s ∧ Fr v v' [17, 24] [26, 27, 28, 29, 30, 31, 32, 33, 34, 19, 20, 21, 22, 23, 35, 39, 40, 47] := by
  obtain ⟨v', x1, x2, x3, x4, x5, x6, x7, x8, x9, x10⟩ := enM_ok a.2.1 h1 h2 hs
  obtain ⟨h', G', y1, y2, y3⟩ := lvC_ok (s := nI s) a.1 a.2.1.1.2.2.2.2.1.2 h1 h2 (x2.mono (by decide) (by decide)) x3 x5 x6 x7 x8 x9
  rw [← x4] at y2
  obtain ⟨z1, z2, z3, z4, z5⟩ := a.mk y2 x10 y3.1 (by decide) x2 (by decide) (by decide)
  exact ⟨h', v', G', y1, x1, z1, z2, y3, KP_le x5 x9 h1 h2, z3, z4, z5, x6, x2⟩
theorem sh_ok (a : Al h v G t) (h1 : 1 ≤ c) (h2 : c ≤ 3) : ∃ h' v' G', f_X11_leaveChannel 4 (some (chA c)) 0 h = some ((), h') ∧ (∀ n, m_shut_12 (n + 1) (nI c) v = m_shut_12 n (nI (c + 1)) v') ∧ Al h' v' G' t ∧ IK h h' ∧ Tr h h' [0, 2, 8] 24 ∧ KP v' ≤ KP v ∧ outL v' = outL v ∧ v'.1 2 = v.1 2 ∧ v'.1 0 = v.1 0 := by
  have n4 : ¬ (4 : Int32) ≤ nI c := nI_ge (b := 4) (by omega) (by decide)
  by_cases op : v.2.1 35 c = 1
  · obtain ⟨h', v', G', x1, x2, x3, x4, x5, x6, x7, x8, x9, x10, -⟩ := lv_ok (s := 0) a h1 h2 (by decide)
    refine ⟨h', v', G', x1, fun n => ?_, x3, x4, x5, x6, x7, x8, x9⟩
    rw [m_shut_12, if_neg n4, mrI_e (show c < 4 by omega) (by decide), if_pos op, show (0 : Int32) = nI 0 from rfl, x2, bdm_s]
    unfold m_shut_33
    rw [msI_e (show c < 4 by omega) (by decide), show (0 : Int32) = nI 0 from rfl, mseA_id x10, nI_1]
  · obtain ⟨g1, g2, g3, g4, g5⟩ := a.2.1.2.2.2.2.2 c h1 h2
    obtain ⟨k1, k2, k3, k4, k5⟩ := g5 op
    have f0 : Fr v (mseA v 35 c 0) [] [35] := Fr.updA
    have oth : OthC v (mseA v 35 c 0) c := fun j hj => ⟨mA_n hj, by rw [mA_k (by decide)], by rw [mA_k (by decide)], by rw [mA_k (by decide)]⟩
    have e39 : (mseA v 35 c 0).2.1 39 c = 0 := by rw [mA_k (by decide)]; exact k1
    have e47 : (mseA v 35 c 0).2.1 47 c = 0 := by rw [mA_k (by decide)]; exact k2
    have e40 : (mseA v 35 c 0).2.1 40 c = 0 := by rw [mA_k (by decide)]; exact k3
    have V : VI (mseA v 35 c 0) t := a.2.1.rows (s := 0) (f0.mono (by simp) (by decide)) h1 oth mA_s (by decide) e39 e40 e47 k4 k5
    obtain ⟨h', G', y1, y2, y3⟩ := lvC_ok (s := 0) (v' := mseA v 35 c 0) a.1 a.2.1.1.2.2.2.2.1.2 h1 h2 (f0.mono (by simp) (by decide)) (by
      rw [coL_fr f0 (by decide) (by decide) (by decide) (by decide) (by decide) (by decide), List.filter_eq_self.mpr]
      intro r hr
      simp [k4 r hr]) oth mA_s e39 e40 e47
    rw [fm_id (fun r hr => by unfold gAB; rw [if_neg (k5 r hr)]), ← leL_fr f0 (by decide) (by decide) (by decide) (by decide) (by decide) (by decide) (by decide) (by decide) (by decide) (by decide)] at y2
    obtain ⟨z1, z2, z3, z4, z5⟩ := a.mk y2 V y3.1 (by decide) f0 (by decide) (by decide)
    refine ⟨h', mseA v 35 c 0, G', y1, fun n => ?_, z1, z2, y3, KP_le oth e47 h1 h2, z3, z4, z5⟩
    rw [m_shut_12, if_neg n4, mrI_e (show c < 4 by omega) (by decide), if_neg op]
    unfold m_shut_33
    rw [msI_e (show c < 4 by omega) (by decide), nI_1]
theorem Sk.arr (s : Sk h) {i : Nat} (hi : i < 3) : ∀ {β : Type} (X : Option Nat → Option β), (rdR h 4 12 3 fun r_1 => nn r_1 fun a_2 => arC h a_2 (nI i) X) = X (some (chA (i + 1))) := by
  intro β X
  obtain ⟨s1, s2, s3, s4, s5, s6, s7, s8, -⟩ := s
  rw [rdR_e s1, s5, nn_s, arC_e s6 (by rw [s7]; exact inb_nI hi (by decide)), nI_clamp (by omega), s8 i hi]
theorem shut_ok (a : Al h v G t) : ∃ h' v' G', f_X11_shutLine 4 h = some ((), h') ∧ m_shut v = some ((), v') ∧ Al h' v' G' t ∧ gI h' 5 2 = gI h 5 2 ∧ Tr h h' [0, 2, 7, 8, 12] 72 ∧ KP v' ≤ KP v ∧ outL v' = outL v ∧ v'.1 2 = 0 ∧ v'.1 0 = 5 := by
  have s0 := a.1.2.1.1
  have k4 := s0.1
  have k5 := a.2.2.2.2.1
  have f1 : LF h (sI (sI h 4 4 5) 5 0 0) [4, 5] := LF.trW (LF.fI (h := h) (a := 4) (k := 4) (x := 5)) LF.fI (by simp) (by simp)
  have fv : Fr v (mset (mset v 0 5) 2 0) [0, 2] [] := (Fr.upd.tr Fr.upd).mono (by simp) (by simp)
  have A1 : Al (sI (sI h 4 4 5) 5 0 0) (mset (mset v 0 5) 2 0) G t := by
    refine ⟨?_, a.2.1.o fv (by decide) (by decide), ?_, ?_, ?_⟩
    · have C1 := (a.1.io f1 (by intro x hx z; simp at hx; rcases hx with y | y <;> subst y <;> simp [k4, k5] at z) a.1.1.fI.fI (fun q hq => hq) ((SkF.fI (by decide)).tr (SkF.of (s0.fr (SkF.fI (h := h) (a := 4) (k := 4) (x := 5) (by decide))) (LF.fI (a := 5)) (by decide)))).vv fv (by decide) (by decide)
      rw [leL_fr fv (by decide) (by decide) (by decide) (by decide) (by decide) (by decide) (by decide) (by decide) (by decide) (by decide)]
      exact C1
    · rw [gI_sI, if_neg (by simp), gI_sI, if_pos ⟨rfl, rfl⟩, ms_n (by decide), ms_s]
    · exact a.2.2.2.1.fr f1 fv (by decide) (by decide) (by decide) (by decide)
    · obtain ⟨i1, i2, i3, i4, i5, i6, i7⟩ := a.2.2.2.2
      have e0 : (mset (mset v 0 5) 2 0).1 2 = nI 0 := ms_s
      obtain ⟨q1, q2⟩ := CV.of (v := mset (mset v 0 5) 2 0) (k := 2) (N := 300) (n := 0) e0 (by omega) (by decide)
      refine ⟨i1, i2, i3, i4, q1, ?_, fun j hj => by rw [q2] at hj; exact absurd hj (Nat.not_lt_zero _)⟩
      rw [gI_sI, if_pos ⟨rfl, rfl⟩, e0]; rfl
  obtain ⟨ha, va, Ga, x1, x2, x3, x4, x5, x6, x7, x8, x9⟩ := sh_ok (c := 1) A1 (by decide) (by decide)
  obtain ⟨hb, vb, Gb, y1, y2, y3, y4, y5, y6, y7, y8, y9⟩ := sh_ok (c := 2) x3 (by decide) (by decide)
  obtain ⟨hc, vc, Gc, z1, z2, z3, z4, z5, z6, z7, z8, z9⟩ := sh_ok (c := 3) y3 (by decide) (by decide)
  have L : ∀ g, Sk g → f_X11_leaveChannel 4 (some (chA 1)) 0 g = some ((), ha) → f_X11_shutLine_14 FU 4 (nI 0) g = some ((), hc) := by
    intro g sg e1
    rw [show FU = 9996 + 1 + 1 + 1 + 1 from rfl]
    rw [f_X11_shutLine_14, if_neg (by decide), sg.arr (i := 0) (by decide), kg_e sg.1, show (0 + 1) = 1 from rfl, e1, bd_s]
    rw [f_X11_shutLine_14, if_neg (by decide), show (nI 0 + 1 : Int32) = nI 1 from rfl, x3.1.2.1.1.arr (i := 1) (by decide), kg_e x3.1.2.1.1.1, y1, bd_s]
    rw [f_X11_shutLine_14, if_neg (by decide), show (nI 1 + 1 : Int32) = nI 2 from rfl, y3.1.2.1.1.arr (i := 2) (by decide), kg_e y3.1.2.1.1.1, z1, bd_s]
    rw [f_X11_shutLine_14, if_pos (by decide)]
  refine ⟨hc, vc, Gc, ?_, ?_, z3, ?_, ?_, ?_, ?_, ?_, ?_⟩
  · unfold f_X11_shutLine
    rw [wrI_e k4, rdR_e (by exact k4), show gR (sI h 4 4 5) 4 0 = some 5 from s0.2.1, nn_s, kg_e (by exact k5)]
    unfold f_X6_clear
    rw [wrI_e (by exact k5), bd_s]
    exact L _ A1.1.2.1.1 x1
  · unfold m_shut
    rw [mwI_e, mwI_e, show FU = 9996 + 1 + 1 + 1 + 1 from rfl, show (1 : Int32) = nI 1 from rfl, x2, y2, z2, m_shut_12, if_pos (by decide)]
  · rw [z4.2.1, y4.2.1, x4.2.1, gI_sI, if_neg (by simp), gI_sIn (by decide)]
  · have T0 : Tr h (sI (sI h 4 4 5) 5 0 0) [0, 2, 7, 8, 12] 0 := ⟨f1.kf (by simp [k4, k5]), Nat.le_refl _, Nat.le_refl _⟩
    exact (((T0.tr (x5.mono (by simp) (Nat.le_refl _))).tr (y5.mono (by simp) (Nat.le_refl _))).tr (z5.mono (by simp) (Nat.le_refl _))).mono (by simp) (by omega)
  · have := KP_fr fv (by decide)
    omega
  · rw [z7, y7, x7, outL_fr fv (by decide) (by decide)]
  · rw [z8, y8, x8, ms_s]
  · rw [z9, y9, x9, ms_n (by decide), ms_s]
theorem mist_j (o : OR h v) {c k : Nat} {a b m : Int32} (hc : c ≤ 3) (hm : m >>> ((8 : Int32) &&& 31) = a &&& 255) (hm2 : m &&& 255 = b &&& 255) (hk : k < 65536) (hl : (outL v).length + 8 ≤ 2400) : ∃ h' v', f_X9_tellMistake 7 (nI c) m (nI k) h = some ((), h') ∧ (∀ {β : Type} (F : Unit → MV → Option β), (bdm (m_method (nI c) a b v) fun _ v_1 => bdm (m_putShort (nI k) v_1) fun _ v_2 => bdm (m_finish v_2) F) = F () v') ∧ OR h' v' ∧ (outL v').length = (outL v).length + 8 ∧ Ci h h' [7, 8] ∧ Fr v v' [4, 61] [3] := by
  have hc' : nI c &&& 255 = nI c := by
    have : c = 0 ∨ c = 1 ∨ c = 2 ∨ c = 3 := by omega
    rcases this with e | e | e | e <;> subst e <;> decide
  obtain ⟨ha, va, x1, x2, x3, x4, x5⟩ := beg_j o hc' hm hm2 (by omega)
  obtain ⟨hb, vb, y1, y2, y3, y4, y5⟩ := short_j x3 hk (by simp; omega)
  obtain ⟨hd, vd, z1, z2, z3, z4, z5, z6⟩ := fin_j y3 (by simp [shO]; omega)
  refine ⟨hd, vd, ?_, fun F => ?_, z3, ?_, (x4.tr y4).tr z5, z6⟩
  · unfold f_X9_tellMistake
    rw [kg_e o.kk.1, x1, bd_s, kg_e x3.k7, y1, bd_s, kg_e y3.k7, z1, bd_s]
  · rw [x2, bdm_s, y2, bdm_s, z2, bdm_s]
  · rw [z4]; simp [shO]
theorem cn_ok (a : Al h v G t) (hc : c ≤ 3) : f_X11_channelNumbered 4 (nI c) h = some (if c = 0 then none else some (chA c), h) := by
  unfold f_X11_channelNumbered
  by_cases z : c = 0
  · subst z; rw [if_pos (by decide), if_pos rfl]
  · rw [if_neg (show ¬ nI c < 1 from nI_nlt (b := 1) (a := c) (by omega) (by omega)), if_pos (show nI c ≤ 3 from nI_le (b := 3) hc (by decide)), nI_s1 (by omega), a.1.2.1.1.arr (by omega), if_neg z, show c - 1 + 1 = c by omega]
theorem fc_ok (a : Al h v G t) : f_X6_frameChannel 5 h = some (gI h 6 1, h) := by
  obtain ⟨i1, i2, i3, i4, -⟩ := a.2.2.2.2
  unfold f_X6_frameChannel
  rw [rdR_e i1, i2, nn_s, show (1 : Int32) = nI 1 from rfl, arI_e i3 (by rw [i4]; exact inb_nI (by decide) (by decide))]
  rfl
/-- a mistake that loses a channel -/
theorem soft_ok {k : Nat} (a : Al h v G t) (h1 : 1 ≤ c) (h2 : c ≤ 3) (hk : k ∈ [403, 404, 406, 506, 530]) (fc : gI h 6 1 = nI c) (hl : (outL v).length + 8 ≤ 2400) : ∃ h' v' G', f_X11_settleMistake 4 (nI k) h = some ((), h') ∧ m_soft (nI c) (nI k) v = some ((), v') ∧ Al h' v' G' t ∧ IK h h' ∧ Tr h h' [0, 2, 8, 10, 100] 24 ∧ KP v' ≤ KP v ∧ (outL v').length = (outL v).length + 8 ∧ v'.1 2 = v.1 2 ∧ v'.1 0 = v.1 0 := by
  have k1 : k < 65536 ∧ k ≠ 0 ∧ k ≠ 501 ∧ k ≠ 503 ∧ k ≠ 505 := by
    simp at hk; omega
  obtain ⟨ha, va, x1, x2, x3, x4, x5, x6⟩ := mist_j (c := c) (k := k) (a := 20) (b := 40) (m := 5160) a.2.2.2.1 h2 (by decide) (by decide) k1.1 hl
  have A1 := a.ou x3 x5 x6
  obtain ⟨hb, vb, Gb, y1, y2, y3, y4, y5, y6, y7, y8, y9, -⟩ := lv_ok (s := 2) A1 h1 h2 (by decide)
  have s0 := a.1.2.1.1
  have ne : ∀ n, n < 65536 → k ≠ n → ¬ nI k = nI n := fun n hn z y => z ((nI_eq (by omega) (by omega)).mp y)
  have T1 : Tr h ha [0, 2, 8, 10, 100] 0 := x5.tr0 (by simp [a.2.2.2.1.kk.1, a.2.2.2.1.kk.2])
  refine ⟨hb, vb, Gb, ?_, ?_, y3, (x5.ik (by decide) (by decide)).tr y4, (T1.tr (y5.mono (by simp) (Nat.le_refl _))).mono (by simp) (by omega), by rw [← KP_fr x6 (by decide)]; exact y6, by rw [y7, x4], by rw [y8, x6.1 2 (by decide)], by rw [y9, x6.1 0 (by decide)]⟩
  · unfold f_X11_settleMistake
    rw [if_neg (show ¬ nI k = (0 : Int32) from ne 0 (by decide) (by omega)), rdR_e s0.1, s0.2.1, nn_s, kg_e a.2.2.2.2.1, fc_ok a, bd_s, kg_e s0.1, fc, cn_ok a h2, bd_s, if_neg (show ¬ nI k = (501 : Int32) from ne 501 (by decide) (by omega)), if_neg (show ¬ nI k = (503 : Int32) from ne 503 (by decide) (by omega)), if_neg (show ¬ nI k = (505 : Int32) from ne 505 (by decide) (by omega)), if_neg (by omega), nb_s, rdR_e s0.1, s0.2.2.1, rdI_e (s0.ch h1 h2).1, nn_s, (s0.ch h1 h2).2.2.2, kg_e a.2.2.2.1.kk.1, x1, bd_s, kg_e A1.1.2.1.1.1, show (2 : Int32) = nI 2 from rfl, y1, bd_s]
  · unfold m_soft
    rw [x2, show (2 : Int32) = nI 2 from rfl, y2, bdm_s]
theorem hard_ok {k : Nat} (a : Al h v G t) (h2 : c ≤ 3) (hk : k ∈ [501, 503, 505]) (fc : gI h 6 1 = nI c ∨ k = 501 ∧ ∃ x, f_X11_channelNumbered 4 (gI h 6 1) h = some (x, h)) (hl : (outL v).length + 8 ≤ 2400) : ∃ h' v' G', f_X11_settleMistake 4 (nI k) h = some ((), h') ∧ m_hard (nI k) v = some ((), v') ∧ Al h' v' G' t ∧ gI h' 5 2 = gI h 5 2 ∧ Tr h h' [0, 2, 7, 8, 10, 12, 100] 72 ∧ KP v' ≤ KP v ∧ (outL v').length = (outL v).length + 8 ∧ v'.1 2 = 0 ∧ v'.1 0 = 5 := by
  have k1 : k < 65536 ∧ k ≠ 0 ∧ (k = 501 ∨ k = 503 ∨ k = 505) := by
    simp at hk; omega
  obtain ⟨ha, va, x1, x2, x3, x4, x5, x6⟩ := mist_j (c := 0) (k := k) (a := 10) (b := 50) (m := 2610) a.2.2.2.1 (by decide) (by decide) (by decide) k1.1 hl
  have A1 := a.ou x3 x5 x6
  obtain ⟨hb, vb, Gb, y1, y2, y3, y4, y5, y6, y7, y8, y9⟩ := shut_ok A1
  have s0 := a.1.2.1.1
  have T1 : Tr h ha [0, 2, 7, 8, 10, 12, 100] 0 := x5.tr0 (by simp [a.2.2.2.1.kk.1, a.2.2.2.1.kk.2])
  have g42 : f_X11_settleMistake_42 4 (nI k) h = some ((), hb) := by
    unfold f_X11_settleMistake_42
    rw [rdR_e s0.1, s0.2.2.1, nn_s, kg_e a.2.2.2.1.kk.1, show (0 : Int32) = nI 0 from rfl, x1, bd_s, kg_e A1.1.2.1.1.1, y1, bd_s]
  refine ⟨hb, vb, Gb, ?_, ?_, y3, by rw [y4, x5.I (by decide)], (T1.tr (y5.mono (by simp) (Nat.le_refl _))).mono (by simp) (by omega), by rw [← KP_fr x6 (by decide)]; exact y6, by rw [y7, x4], y8, y9⟩
  · have cn : ∃ x, f_X11_channelNumbered 4 (gI h 6 1) h = some (x, h) := by
      rcases fc with z | ⟨-, z⟩
      · rw [z]; exact ⟨_, cn_ok a h2⟩
      · exact z
    obtain ⟨x, ex⟩ := cn
    unfold f_X11_settleMistake
    rw [if_neg (show ¬ nI k = (0 : Int32) from fun y => k1.2.1 ((nI_eq (b := 0) (by omega) (by omega)).mp y)), rdR_e s0.1, s0.2.1, nn_s, kg_e a.2.2.2.2.1, fc_ok a, bd_s, kg_e s0.1, ex, bd_s]
    rcases k1.2.2 with z | z | z
    · subst z; rw [if_pos (by decide)]; exact g42
    · subst z; rw [if_neg (by decide), if_pos (by decide)]; exact g42
    · subst z; rw [if_neg (by decide), if_neg (by decide), if_pos (by decide)]; exact g42
  · unfold m_hard
    rw [show (0 : Int32) = nI 0 from rfl, x2, y2, bdm_s]
end Am

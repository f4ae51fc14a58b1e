/-! ===== a frame is handled, its mistake settled ===== -/
/-- the room that a change takes -/
def RmQ (h : AH) (v : MV) (h' : AH) (v' : MV) (n o : Nat) : Prop := hz h' + 24 * KP v' ≤ hz h + 24 * KP v + n ∧ hs h' + 2400 * KP v' ≤ hs h + 2400 * KP v + 100 * n ∧ (outL v').length ≤ (outL v).length + o
/-- the line is on its way or open -/
def L4 (x : Int32) : Prop := ∃ l, 1 ≤ l ∧ l ≤ 4 ∧ x = nI l
def SC (t : Nat) (h : AH) (v : MV) (F : Option (Int32 × AH)) (m : Option (Unit × MV)) : Prop := ∃ e h' h'' v'' G'', F = some (e, h') ∧ f_X11_settleMistake 4 e h' = some ((), h'') ∧ m = some ((), v'') ∧ Al h'' v'' G'' (t + 100) ∧ RmQ h v h'' v'' 112 500 ∧ ((L4 (v''.1 0) ∧ IK h h'' ∧ v''.1 2 = v.1 2) ∨ (v''.1 0 = 5 ∧ v''.1 2 = 0 ∧ gI h'' 5 2 = gI h 5 2))
section Fm
variable {t t' : Nat} {h h' h1 : AH} {v v' w : MV} {c d : Nat} {G G' : GH} {F : Option (Int32 × AH)} {m : Option (Unit × MV)}
theorem soft47 {k : Nat} (a : Al h v G t) (K : K47 c v w) (VW : VI w t) (h1 : 1 ≤ c) (h2 : c ≤ 3) (hk : k ∈ [403, 404, 406, 506, 530]) (fc : gI h 6 1 = nI c) (hl : (outL v).length + 8 ≤ 2400) : ∃ h' v' G', f_X11_settleMistake 4 (nI k) h = some ((), h') ∧ m_soft (nI c) (nI k) w = some ((), v') ∧ Al h' v' G' t ∧ IK h h' ∧ Tr h h' [0, 2, 8, 10, 100] 24 ∧ KP v' ≤ KP w ∧ KP v' ≤ KP v ∧ (outL v').length = (outL v).length + 8 ∧ v'.1 2 = v.1 2 ∧ v'.1 0 = v.1 0 := by
  have k1 : k < 65536 ∧ k ≠ 0 ∧ k ≠ 501 ∧ k ≠ 503 ∧ k ≠ 505 := by
    simp at hk; omega
  have ow : OR h w := a.2.2.2.1.fr (LF.rf h []) K.1 (by simp) (by simp) (by simp) (by simp)
  have eow : outL w = outL v := outL_fr K.1 (by simp) (by simp)
  obtain ⟨ha, wa, x1, x2, x3, x4, x5, x6⟩ := mist_j (c := c) (k := k) (a := 20) (b := 40) (m := 5160) ow h2 (by decide) (by decide) k1.1 (by rw [eow]; exact hl)
  have fva : Fr v (r47 v wa) [4, 61] [3] := r47_fr K.1 x6
  have A1 : Al ha (r47 v wa) G t := a.ou (x3.fr (LF.rf ha []) (Fr.sym47 (g := v)) (by simp) (by simp) (by simp) (by simp)) x5 fva
  have VWa : VI wa t := VW.o x6 (by decide) (by decide)
  obtain ⟨v', e1, e2, e3, e4, e5, e6, e7, e8, e9, e10⟩ := enM_ok (s := 2) VWa h1 h2 (by decide)
  have fr : Fr (r47 v wa) v' lvF lvA := ((r47_w (g := v) (w := wa)).tr e2).mono (by decide) (by decide)
  have ca : coL (r47 v wa) = coL wa := (coL_fr (r47_w (g := v) (w := wa)) (by simp) (by simp) (by simp) (by simp) (by simp) (by simp)).symm
  have la : leL (r47 v wa) = leL wa := (leL_fr (r47_w (g := v) (w := wa)) (by simp) (by simp) (by simp) (by simp) (by simp) (by simp) (by simp) (by simp) (by simp) (by simp)).symm
  have qa : quL (r47 v wa) = quL wa := (quL_fr (r47_w (g := v) (w := wa)) (by simp) (by simp) (by simp) (by simp)).symm
  have oth : OthC (r47 v wa) v' c := fun j hj => by
    obtain ⟨o1, o2, o3, o4⟩ := e5 j hj
    refine ⟨by rw [o1, ((r47_w (g := v) (w := wa)).2 35 (by simp)).1], by rw [o2, ((r47_w (g := v) (w := wa)).2 39 (by simp)).1], by rw [o3, ((r47_w (g := v) (w := wa)).2 40 (by simp)).1], ?_⟩
    rw [o4, r47_47, (x6.2 47 (by decide)).1]
    exact K.2.1 j hj
  obtain ⟨hb, Gb, y1, y2, y3⟩ := lvC_ok (s := nI 2) A1.1 A1.2.1.1.2.2.2.2.1.2 h1 h2 fr (by rw [ca]; exact e3) oth e6 e7 e8 e9
  rw [la, qa, ← e4] at y2
  have fr2 : Fr (r47 v wa) v' [17, 24] [47, 26, 27, 28, 29, 30, 31, 32, 33, 34, 19, 20, 21, 22, 23, 35, 39, 40] := ((r47_w (g := v) (w := wa)).tr e2).mono (by decide) (by decide)
  obtain ⟨z1, z2, z3, z4, z5⟩ := A1.mk y2 e10 y3.1 (by decide) fr2 (by decide) (by decide)
  have s0 := a.1.2.1.1
  have ne : ∀ n, n < 65536 → k ≠ n → ¬ nI k = nI n := fun n hn z y => z ((nI_eq (by omega) (by omega)).mp y)
  have T1 : Tr h ha [0, 2, 8, 10, 100] 0 := x5.tr0 (by simp [a.2.2.2.1.kk.1, a.2.2.2.1.kk.2])
  have eoa : outL (r47 v wa) = outL wa := (outL_fr (r47_w (g := v) (w := wa)) (by simp) (by simp)).symm
  refine ⟨hb, v', Gb, ?_, ?_, z1, (x5.ik (by decide) (by decide)).tr z2, (T1.tr (y3.mono (by simp) (Nat.le_refl _))).mono (by simp) (by omega), ?_, by rw [← KP_fr fva (by decide)]; exact KP_le oth e9 h1 h2, by rw [z3, eoa, x4, eow], by rw [z4, fva.1 2 (by decide)], by rw [z5, fva.1 0 (by decide)]⟩
  · unfold f_X11_settleMistake
    rw [if_neg (show ¬ nI k = (0 : Int32) from ne 0 (by decide) (by omega)), rdR_e s0.1, s0.2.1, nn_s, kg_e a.2.2.2.2.1, fc_ok a, bd_s, kg_e s0.1, fc, cn_ok a h2, bd_s, if_neg (show ¬ nI k = (501 : Int32) from ne 501 (by decide) (by omega)), if_neg (show ¬ nI k = (503 : Int32) from ne 503 (by decide) (by omega)), if_neg (show ¬ nI k = (505 : Int32) from ne 505 (by decide) (by omega)), if_neg (by omega), nb_s, rdR_e s0.1, s0.2.2.1, rdI_e (s0.ch h1 h2).1, nn_s, (s0.ch h1 h2).2.2.2, kg_e a.2.2.2.1.kk.1, x1, bd_s, kg_e A1.1.2.1.1.1, show (2 : Int32) = nI 2 from rfl, y1, bd_s]
  · unfold m_soft
    rw [x2, show (2 : Int32) = nI 2 from rfl, e1, bdm_s]
  · have := KP_le e5 e9 h1 h2
    rw [← KP_fr x6 (by decide)]; exact this
theorem sm_0 : f_X11_settleMistake 4 0 h = some ((), h) := by
  unfold f_X11_settleMistake
  rw [if_pos rfl]
theorem HC.sc (H : HC t h v c F m) (a0 : L4 (v.1 0)) (h1 : 1 ≤ c) (h2 : c ≤ 3) (fc : gI h 6 1 = nI c) (hl : (outL v).length < 500) : SC t h v F m := by
  obtain ⟨e, h', v', G', x1, x2, x3, x4⟩ := H
  obtain ⟨g1, g2, g3, g4, g5, g6⟩ := x3
  have fc' : gI h' 6 1 = nI c := by rw [g1.1]; exact fc
  have gl : (outL v').length ≤ (outL v).length + 500 := by split at g4 <;> omega
  rcases x4 with ⟨y1, y2⟩ | ⟨y1, w, y2, y3, y4⟩ | ⟨y1, y2⟩
  · subst y1
    exact ⟨nI 0, h', h', v', G', x1, sm_0, y2, x2, ⟨by omega, by omega, by omega⟩, .inl ⟨by rw [g6]; exact a0, g1, g5⟩⟩
  · have ne0 : e ≠ 0 := by simp at y1; omega
    rw [if_neg ne0] at g4
    have VW : VI w (t + 100) := by
      rcases y3 with z | z
      · exact x2.2.1.k47 (y2.1.mono (by simp) (by simp)) y2.2.1 y2.2.2 (.inl z) (x2.2.1.2.2.1.2.2.2.2.2.1.fr y2.1 (by decide))
      · rw [z]; exact x2.2.1
    obtain ⟨h'', v'', G'', z1, z2, z3, z4, z5, z6, z6', z7, z8, z9⟩ := soft47 x2 y2 VW h1 h2 y1 fc' (by omega)
    obtain ⟨-, t2, t3⟩ := z5
    exact ⟨nI e, h', h'', v'', G'', x1, z1, by rw [y4]; exact z2, z3, ⟨by omega, by omega, by omega⟩, .inl ⟨by rw [z9, g6]; exact a0, g1.tr z4, by rw [z8, g5]⟩⟩
  · have ne0 : e ≠ 0 := by simp at y1; omega
    rw [if_neg ne0] at g4
    obtain ⟨h'', v'', G'', z1, z2, z3, z4, z5, z6, z7, z8, z9⟩ := hard_ok x2 h2 y1 (.inl fc') (by omega)
    obtain ⟨-, t2, t3⟩ := z5
    exact ⟨nI e, h', h'', v'', G'', x1, z1, by rw [y2]; exact z2, z3, ⟨by omega, by omega, by omega⟩, .inr ⟨z9, z8, by rw [z4, g1.2.1]⟩⟩
theorem HCf.sc (H : HCf t h v c F m) (a0 : L4 (v.1 0)) (h1 : 1 ≤ c) (h2 : c ≤ 3) (fc : gI h 6 1 = nI c) (hl : (outL v).length < 500) : SC t h v F m := by
  obtain ⟨h', v', G', w, x1, x2, y2, y3, ⟨g1, g2, g3, g4, g5, g6⟩, y4⟩ := H
  have fc' : gI h' 6 1 = nI c := by rw [g1.1]; exact fc
  have VW : VI w (t + 100) := x2.2.1.k47 (y2.1.mono (by simp) (by simp)) y2.2.1 y2.2.2 (.inl y3) (x2.2.1.2.2.1.2.2.2.2.2.1.fr y2.1 (by decide))
  have eo : outL w = outL v' := outL_fr y2.1 (by simp) (by simp)
  obtain ⟨h'', v'', G'', z1, z2, z3, z4, z5, z6, z6', z7, z8, z9⟩ := soft47 (k := 506) x2 y2 VW h1 h2 (by decide) fc' (by rw [← eo]; omega)
  obtain ⟨-, t2, t3⟩ := z5
  rw [eo] at g4
  exact ⟨nI 506, h', h'', v'', G'', x1, z1, by rw [y4]; exact z2, z3, ⟨by omega, by omega, by omega⟩, .inl ⟨by rw [z9, ← y2.1.1 0 (by simp), g6]; exact a0, g1.tr z4, by rw [z8, ← y2.1.1 2 (by simp), g5]⟩⟩
theorem SC.rd (r : Rd h v h1 v') (H : SC t h1 v' F m) : SC t h v F m := by
  obtain ⟨e, ha, hb, vb, Gb, x1, x2, x3, x4, ⟨x5, x6, x7⟩, x8⟩ := H
  have g := r.gr
  obtain ⟨g1, g2, g3, g4, g5, g6⟩ := g
  refine ⟨e, ha, hb, vb, Gb, x1, x2, x3, x4, ⟨by omega, by omega, by omega⟩, ?_⟩
  rcases x8 with ⟨y1, y2, y3⟩ | ⟨y1, y2, y3⟩
  · exact .inl ⟨y1, g1.tr y2, y3.trans g5⟩
  · exact .inr ⟨y1, y2, y3.trans g1.2.1⟩
theorem Al.line {x : Int32} (a : Al h v G t) : Al (sI h 4 4 x) (mset v 0 x) G t := by
  have s0 := a.1.2.1.1
  have k4 := s0.1
  have f1 : LF h (sI h 4 4 x) [4] := LF.fI
  have fv : Fr v (mset v 0 x) [0] [] := Fr.upd
  refine ⟨?_, a.2.1.o fv (by decide) (by simp), ?_, a.2.2.2.1.fr f1 fv (by decide) (by decide) (by decide) (by simp), ?_⟩
  · have C1 := (a.1.io f1 (by intro y hy z; simp at hy; subst hy; simp [k4] at z) a.1.1.fI (fun q hq => hq) (SkF.fI (by decide))).vv fv (by decide) (by simp)
    exact C1
  · rw [gI_sI, if_pos ⟨rfl, rfl⟩, ms_s]
  · exact a.2.2.2.2.fr f1 fv (by decide) (by decide) (by simp) (by rw [gI_sIn (by decide)]) rfl
theorem inT (a : Al h v G t) : f_X11_lineMethodInTurn 4 h = some (if v.1 0 = 1 then 2571 else if v.1 0 = 2 then 2591 else if v.1 0 = 3 then 2600 else 2610, h) := by
  unfold f_X11_lineMethodInTurn
  rw [rdI_e a.1.2.1.1.1, a.2.2.1]
  split
  · rfl
  · split
    · rfl
    · split <;> rfl
theorem ab_eq {p q k : Nat} (hp : p < 256) (hq : q < 256) (hk : k < 65536) : nI (p * 256 + q) = nI k ↔ p = k / 256 ∧ q = k % 256 := by
  rw [nI_eq (by omega) (by omega)]
  omega
theorem bN8 {p k : Nat} (hp : p < 256) (hk : k < 256) : nI p = nI k ↔ p = k := nI_eq (by omega) (by omega)
theorem hard_sc {e : Nat} (a : Al h v G t) (he : e ∈ [501, 503, 505]) (h2 : c ≤ 3) (fc : gI h 6 1 = nI c) (hl : (outL v).length < 500) : SC t h v (some (nI e, h)) (m_hard (nI e) v) := by
  obtain ⟨h'', v'', G'', z1, z2, z3, z4, z5, z6, z7, z8, z9⟩ := hard_ok a h2 he (.inl fc) (by omega)
  obtain ⟨-, t2, t3⟩ := z5
  exact ⟨nI e, h, h'', v'', G'', rfl, z1, z2, z3.mono (by omega), ⟨by omega, by omega, by omega⟩, .inr ⟨z9, z8, z4⟩⟩
theorem just_sc {wr : Bool} {X : AH → Option (Int32 × AH)} {Y : MV → Option (Unit × MV)} (a : Al h v G t) (i : IRR h v wr) (h2 : c ≤ 3) (fc : gI h 6 1 = nI c) (hl : (outL v).length < 500) (H : SC t h v (X h) (Y v)) : SC t h v (bd (f_X6_isJustRead 5 h) fun x h' => if x = 0 then some (501, h') else X h') (bdm (m_isJust v) fun x v' => if x = 0 then some ((), v') else Y v') := by
  obtain ⟨g, x1, x2, x3⟩ := just_ok i
  cases g with
  | true =>
    obtain ⟨y1, y2⟩ := x2 rfl
    rw [x1, bd_s, y2, bdm_s, bit_t, if_neg (by decide), if_neg (by decide)]
    exact H
  | false =>
    rw [x1, bd_s, x3 rfl, bit_f, if_pos rfl]
    have e : (bdm (bdm (m_hard 501 v) fun _ v_1 => rz 0 (some ((0 : Int32), v_1))) fun x v' => if x = 0 then some ((), v') else Y v') = m_hard 501 v := by
      cases hx : m_hard 501 v with
      | none => rfl
      | some q => rfl
    rw [e]
    exact hard_sc a (e := 501) (by decide) h2 fc hl
theorem line_sc {x : Int32} (a : Al h v G t) (n5 : L4 x) {h0 : AH} {v0 : MV} (g : Gr h0 v0 h v 0 6) : SC t h0 v0 (some (0, sI h 4 4 x)) (some ((), mset v 0 x)) := by
  obtain ⟨g1, g2, g3, g4, g5, g6⟩ := g
  have kp : KP (mset v 0 x) = KP v := rfl
  refine ⟨0, _, _, _, G, rfl, sm_0, rfl, a.line.mono (by omega), ⟨?_, ?_, ?_⟩, .inl ⟨by rw [ms_s]; exact n5, ?_, ?_⟩⟩
  · rw [kp]; show hz h + _ ≤ _; omega
  · rw [kp]; show hs h + _ ≤ _; omega
  · show (outL v).length ≤ _; omega
  · exact g1.tr ⟨by rw [gI_sIn (by decide)], by rw [gI_sIn (by decide)], by rw [gI_sIn (by decide)]⟩
  · rw [ms_n (by decide)]; exact g5
theorem lineC {p q : Nat} {wr : Bool} (a : Al h v G t) (i : IRR h v wr) (fc : gI h 6 1 = nI 0) (hl : (outL v).length < 500) (ht : t + 100 < 65536) (hp : p < 256) (hq : q < 256) (l0 : ∃ l, 1 ≤ l ∧ l ≤ 4 ∧ v.1 0 = nI l) : SC t h v (f_X11_doLineMethod 4 (nI (p * 256 + q)) h) (m_lineMethod (nI p) (nI q) v) := by
  obtain ⟨l, l1, l4, el⟩ := l0
  have s0 := a.1.2.1.1
  have bad : SC t h v (some (503, h)) (m_lineMethod_53 v) := by
    unfold m_lineMethod_53
    rw [bdm_id]
    exact hard_sc (c := 0) a (e := 503) (by decide) (by decide) fc hl
  unfold f_X11_doLineMethod m_lineMethod
  rw [kg_e s0.1, inT a, bd_s, inE a, el]
  have say : ∀ {x2 : Int32} {b m' : Int32}, L4 x2 → m' >>> ((8 : Int32) &&& 31) = 10 &&& 255 → m' &&& 255 = b &&& 255 → SC t h v (rdR h 4 12 1 fun r_9 => nn r_9 fun a_10 => kg h a_10 10 (bd (f_X9_tell a_10 0 m' h) fun _ h_12 => wrI h_12 4 12 4 x2 fun h_13 => some (0, h_13))) (bdm (m_say 0 10 b v) fun _ v_8 => mwI v_8 0 x2 fun v_9 => some ((), v_9)) := by
    intro x2 b m' n5 e1 e2
    obtain ⟨hb, vb, y1, y2, y3, y4, y5, y6⟩ := say_j a.2.2.2.1 (c := 0) (m := m') (a := 10) (b := b) (by decide) e1 e2 (by omega)
    have A := a.ou y3 y5 y6
    rw [ouE a, y1, bd_s, wrI_e A.1.2.1.1.1, y2, bdm_s, mwI_e]
    exact line_sc A n5 (ou_gr (o := 6) y5 y6 (by omega))
  have ne : ∀ a b : Nat, a < 100 → b < 100 → a ≠ b → ¬ nI a = nI b := fun a b h1 h2 h3 z => h3 ((nI_eq (by omega) (by omega)).mp z)
  have four : l = 1 ∨ l = 2 ∨ l = 3 ∨ l = 4 := by omega
  rcases four with z | z | z | z <;> subst z
  · rw [if_pos (show nI 1 = (1 : Int32) from rfl), if_pos (show nI 1 = (1 : Int32) from rfl)]
    unfold m_lineMethod_41
    by_cases mt' : p = 10 ∧ q = 11
    · obtain ⟨rfl, rfl⟩ := mt'
      rw [if_pos (show nI (10 * 256 + 11) = (2571 : Int32) by decide), if_pos (show nI 10 = (10 : Int32) from rfl), if_pos (show nI 11 = (11 : Int32) from rfl)]
      refine just_sc (c := 0) a i (by decide) fc hl ?_
      rw [if_pos (show nI (10 * 256 + 11) = (2571 : Int32) by decide), el, if_pos (show nI 1 = (1 : Int32) from rfl)]
      exact say ⟨2, by decide, by decide, rfl⟩ (by decide) (by decide)
    · rw [if_neg (show ¬ nI (p * 256 + q) = (2571 : Int32) from fun y => mt' ((ab_eq (k := 2571) hp hq (by decide)).mp y))]
      by_cases p10 : p = 10
      · rw [if_pos (show nI p = (10 : Int32) by rw [p10]; rfl), if_neg (show ¬ nI q = (11 : Int32) from fun y => mt' ⟨p10, (bN8 (k := 11) hq (by decide)).mp y⟩)]
        exact bad
      · rw [if_neg (show ¬ nI p = (10 : Int32) from fun y => p10 ((bN8 (k := 10) hp (by decide)).mp y))]
        exact bad
  · rw [if_neg (show ¬ nI 2 = (1 : Int32) by decide), if_neg (show ¬ nI 2 = (1 : Int32) by decide), if_pos (show nI 2 = (2 : Int32) from rfl), if_pos (show nI 2 = (2 : Int32) from rfl)]
    unfold m_lineMethod_41
    by_cases mt' : p = 10 ∧ q = 31
    · obtain ⟨rfl, rfl⟩ := mt'
      rw [if_pos (show nI (10 * 256 + 31) = (2591 : Int32) by decide), if_pos (show nI 10 = (10 : Int32) from rfl), if_pos (show nI 31 = (31 : Int32) from rfl)]
      refine just_sc (c := 0) a i (by decide) fc hl ?_
      rw [if_neg (show ¬ nI (10 * 256 + 31) = (2571 : Int32) by decide), if_pos (show nI (10 * 256 + 31) = (2591 : Int32) by decide), el, if_neg (show ¬ nI 2 = (1 : Int32) by decide), if_pos (show nI 2 = (2 : Int32) from rfl), wrI_e s0.1, mwI_e]
      exact line_sc a ⟨3, by decide, by decide, rfl⟩ ((Gr.rf h v).mono (by omega) (by omega))
    · rw [if_neg (show ¬ nI (p * 256 + q) = (2591 : Int32) from fun y => mt' ((ab_eq (k := 2591) hp hq (by decide)).mp y))]
      by_cases p10 : p = 10
      · rw [if_pos (show nI p = (10 : Int32) by rw [p10]; rfl), if_neg (show ¬ nI q = (31 : Int32) from fun y => mt' ⟨p10, (bN8 (k := 31) hq (by decide)).mp y⟩)]
        exact bad
      · rw [if_neg (show ¬ nI p = (10 : Int32) from fun y => p10 ((bN8 (k := 10) hp (by decide)).mp y))]
        exact bad
  · rw [if_neg (show ¬ nI 3 = (1 : Int32) by decide), if_neg (show ¬ nI 3 = (1 : Int32) by decide), if_neg (show ¬ nI 3 = (2 : Int32) by decide), if_neg (show ¬ nI 3 = (2 : Int32) by decide), if_pos (show nI 3 = (3 : Int32) from rfl), if_pos (show nI 3 = (3 : Int32) from rfl)]
    unfold m_lineMethod_41
    by_cases mt' : p = 10 ∧ q = 40
    · obtain ⟨rfl, rfl⟩ := mt'
      rw [if_pos (show nI (10 * 256 + 40) = (2600 : Int32) by decide), if_pos (show nI 10 = (10 : Int32) from rfl), if_pos (show nI 40 = (40 : Int32) from rfl)]
      refine just_sc (c := 0) a i (by decide) fc hl ?_
      rw [if_neg (show ¬ nI (10 * 256 + 40) = (2571 : Int32) by decide), if_neg (show ¬ nI (10 * 256 + 40) = (2591 : Int32) by decide), if_pos (show nI (10 * 256 + 40) = (2600 : Int32) by decide), el, if_neg (show ¬ nI 3 = (1 : Int32) by decide), if_neg (show ¬ nI 3 = (2 : Int32) by decide), if_pos (show nI 3 = (3 : Int32) from rfl)]
      exact say ⟨4, by decide, by decide, rfl⟩ (by decide) (by decide)
    · rw [if_neg (show ¬ nI (p * 256 + q) = (2600 : Int32) from fun y => mt' ((ab_eq (k := 2600) hp hq (by decide)).mp y))]
      by_cases p10 : p = 10
      · rw [if_pos (show nI p = (10 : Int32) by rw [p10]; rfl), if_neg (show ¬ nI q = (40 : Int32) from fun y => mt' ⟨p10, (bN8 (k := 40) hq (by decide)).mp y⟩)]
        exact bad
      · rw [if_neg (show ¬ nI p = (10 : Int32) from fun y => p10 ((bN8 (k := 10) hp (by decide)).mp y))]
        exact bad
  · rw [if_neg (show ¬ nI 4 = (1 : Int32) by decide), if_neg (show ¬ nI 4 = (1 : Int32) by decide), if_neg (show ¬ nI 4 = (2 : Int32) by decide), if_neg (show ¬ nI 4 = (2 : Int32) by decide), if_neg (show ¬ nI 4 = (3 : Int32) by decide), if_neg (show ¬ nI 4 = (3 : Int32) by decide)]
    unfold m_lineMethod_41
    by_cases mt' : p = 10 ∧ q = 50
    · obtain ⟨rfl, rfl⟩ := mt'
      rw [if_pos (show nI (10 * 256 + 50) = (2610 : Int32) by decide), if_pos (show nI 10 = (10 : Int32) from rfl), if_pos (show nI 50 = (50 : Int32) from rfl)]
      refine just_sc (c := 0) a i (by decide) fc hl ?_
      rw [if_neg (show ¬ nI (10 * 256 + 50) = (2571 : Int32) by decide), if_neg (show ¬ nI (10 * 256 + 50) = (2591 : Int32) by decide), if_neg (show ¬ nI (10 * 256 + 50) = (2600 : Int32) by decide), el, if_neg (show ¬ nI 4 = (1 : Int32) by decide), if_neg (show ¬ nI 4 = (2 : Int32) by decide), if_neg (show ¬ nI 4 = (3 : Int32) by decide)]
      obtain ⟨hb, vb, y1, y2, y3, y4, y5, y6⟩ := say_j a.2.2.2.1 (c := 0) (m := 2611) (a := 10) (b := 51) (by decide) (by decide) (by decide) (by omega)
      have A := a.ou y3 y5 y6
      obtain ⟨hc, vc, Gc, z1, z2, z3, z4, z5, z6, z7, z8, z9⟩ := shut_ok A
      rw [ouE a, y1, bd_s, kg_e A.1.2.1.1.1, z1, bd_s, y2, bdm_s, z2, bdm_s]
      obtain ⟨-, t2, t3⟩ := z5
      have kp := KP_fr y6 (by decide)
      refine ⟨0, hc, hc, vc, Gc, rfl, sm_0, rfl, z3.mono (by omega), ⟨?_, ?_, ?_⟩, .inr ⟨z9, z8, by rw [z4, y5.I (by decide)]⟩⟩
      · rw [y5.1] at t2; omega
      · rw [y5.2.1] at t3; omega
      · rw [z7, y4]; omega
    · rw [if_neg (show ¬ nI (p * 256 + q) = (2610 : Int32) from fun y => mt' ((ab_eq (k := 2610) hp hq (by decide)).mp y))]
      by_cases p10 : p = 10
      · rw [if_pos (show nI p = (10 : Int32) by rw [p10]; rfl), if_neg (show ¬ nI q = (50 : Int32) from fun y => mt' ⟨p10, (bN8 (k := 50) hq (by decide)).mp y⟩)]
        exact bad
      · rw [if_neg (show ¬ nI p = (10 : Int32) from fun y => p10 ((bN8 (k := 10) hp (by decide)).mp y))]
        exact bad
end Fm

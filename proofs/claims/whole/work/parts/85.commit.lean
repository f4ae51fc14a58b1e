/-! ===== commit ===== -/
def HCf (t : Nat) (h : AH) (v : MV) (c : Nat) (F : Option (Int32 × AH)) (m : Option (Unit × MV)) : Prop := ∃ h' v' G' w, F = some (nI 506, h') ∧ Al h' v' G' (t + 100) ∧ K47 c v' w ∧ v'.2.1 35 c = 1 ∧ Gr h v h' w 40 492 ∧ m = m_soft (nI c) (nI 506) w
section Cm
variable {t : Nat} {h h' : AH} {v v' g w : MV} {c : Nat} {G : GH} {z : Bool}
theorem Fr.sym47 : Fr w (r47 g w) [] [47] := ⟨fun _ _ => rfl, fun k hk => ⟨((r47_w (g := g) (w := w)).2 k hk).1.symm, ((r47_w (g := g) (w := w)).2 k hk).2.symm⟩⟩
theorem kp_at {i : Nat} {r : R_kp} (e : (kpL v c)[i]? = some r) : i < kcN v c ∧ r = (v.2.1 48 (12 * c + i), v.2.2 49 (12 * c + i), v.2.2 50 (12 * c + i), v.2.1 51 (12 * c + i), v.2.1 52 (12 * c + i), v.2.2 53 (12 * c + i)) := by
  have hi : i < kcN v c := by
    by_cases q : i < kcN v c
    · exact q
    · unfold kpL at e; rw [List.getElem?_eq_none (by rw [lst_len]; omega)] at e; cases e
  unfold kpL at e
  rw [lst_get _ hi] at e
  exact ⟨hi, (Option.some.inj e).symm⟩
theorem cm_l (h1 : 1 ≤ c) (h2 : c ≤ 3) (n : Nat) (hn : n ≤ 12) : ∀ (d i f t : Nat) (h : AH) (g w : MV) (G : GH), i + d = n → d < f → Al h g G t → K47 c g w → g.2.1 35 c = 1 → g.2.1 47 c = nI n → (outL g).length + 41 * d ≤ 2300 → t + 5 * d < 65536 → (∃ h' g' w' G', f_X11_commit_27 f 4 (some (chA c)) (nI i) h = f_X11_commit_91 4 (some (chA c)) h' ∧ m_commit_22 f (nI c) (nI n) 1 (nI (12 * c + i)) w = m_commit_124 (nI c) 1 w' ∧ Al h' g' G' (t + 5 * d) ∧ K47 c g' w' ∧ Gr h g h' g' (24 * d) (41 * d) ∧ g'.2.1 35 c = 1 ∧ g'.2.1 47 c = nI n ∧ w'.2.1 47 c = w.2.1 47 c) ∨ (∃ h' g' w' G', f_X11_commit_27 f 4 (some (chA c)) (nI i) h = some (506, h') ∧ m_commit_22 f (nI c) (nI n) 1 (nI (12 * c + i)) w = m_soft (nI c) 506 w' ∧ Al h' g' G' (t + 5 * d) ∧ K47 c g' w' ∧ Gr h g h' g' (24 * d) (41 * d) ∧ g'.2.1 47 c = nI n ∧ w'.2.1 47 c = w.2.1 47 c ∧ g'.2.1 35 c = 1) := by
  intro d
  induction d with
  | zero =>
    intro i f t h g w G hi hf a K st e47 hl ht
    obtain ⟨q, rfl⟩ : ∃ q, f = q + 1 := ⟨f - 1, by omega⟩
    left
    obtain ⟨n', hn', en, ek, eg⟩ := kc_n a h1 h2
    have : n' = n := by rw [e47] at en; exact ((nI_eq (by omega) (by omega)).mp en).symm
    subst this
    have li := (a.1.2.2.1.2.2.2.2.1 c h1 h2).2
    obtain ⟨k2, r1, r2, -⟩ := a.1.2.1.1.ch h1 h2
    refine ⟨h, g, w, G, ?_, ?_, a.mono (by omega), K, (Gr.rf h g).mono (by omega) (by omega), st, e47, rfl⟩
    · rw [f_X11_commit_27, nn_s, szL r2 k2 li, eg, if_pos (nI_le (by omega) (by omega))]
    · rw [m_commit_22, ix12 h1 h2, if_pos (nI_le (by omega) (by omega))]
  | succ d ih =>
    intro i f t h g w G hi hf a K st e47 hl ht
    obtain ⟨q, rfl⟩ : ∃ q, f = q + 1 := ⟨f - 1, by omega⟩
    obtain ⟨q', rfl⟩ : ∃ q', q = q' + 1 := ⟨q - 1, by omega⟩
    obtain ⟨n', hn', en, ek, eg⟩ := kc_n a h1 h2
    have : n' = n := by rw [e47] at en; exact ((nI_eq (by omega) (by omega)).mp en).symm
    subst this
    have li := (a.1.2.2.1.2.2.2.2.1 c h1 h2).2
    obtain ⟨k2, r1, r2, -⟩ := a.1.2.1.1.ch h1 h2
    have s := a.1.2.1.1
    obtain ⟨dd, r, ed, er, dr⟩ := (a.1.2.1.2.2.2.1 c h1 h2).1.get (i := i) (by omega)
    obtain ⟨-, err⟩ := kp_at er
    have row : ∀ k, k ≠ 47 → w.2.1 k = g.2.1 k ∧ w.2.2 k = g.2.2 k := fun k hk => K.1.2 k (by simpa using hk)
    have w48 : w.2.1 48 (12 * c + i) = r.1 := by rw [(row 48 (by decide)).1, err]
    have w49 : w.2.2 49 (12 * c + i) = r.2.1 := by rw [(row 49 (by decide)).2, err]
    have w50 : w.2.2 50 (12 * c + i) = r.2.2.1 := by rw [(row 50 (by decide)).2, err]
    have w51 : w.2.1 51 (12 * c + i) = r.2.2.2.1 := by rw [(row 51 (by decide)).1, err]
    have w52 : w.2.1 52 (12 * c + i) = r.2.2.2.2.1 := by rw [(row 52 (by decide)).1, err]
    have w53 : w.2.2 53 (12 * c + i) = r.2.2.2.2.2 := by rw [(row 53 (by decide)).2, err]
    have k4 := dr.1
    have hi48 : 12 * c + i < 48 := by omega
    rw [f_X11_commit_27, nn_s, szL r2 k2 li, eg, if_neg (nI_ge (by omega) (by omega)), gtL r2 k2 li (by omega), ed, ckc_e k4, nn_s, rdR_e k4, m_commit_22, ix12 h1 h2, if_neg (nI_ge (by omega) (by omega)), if_neg (by decide), mrI_e (show 12 * c + i < 48 from hi48) (by decide), w48]
    unfold f_X11_commit_85 m_commit_118
    rcases dr.2 with ⟨j1, dA, nA, bA, j2, j3, j4, j5, j6⟩ | ⟨kk, nA, uA, j1, jk1, jk3, j4, j5, j6, j7, j8, j9, j10⟩
    · rw [j2, nb_s, rdR_e k4, j2, kg_e s.1, j1, if_pos rfl, mrJ_e (show 12 * c + i < 48 from hi48) (by decide), mrJ_e (show 12 * c + i < 48 from hi48) (by decide), mrI_e (show 12 * c + i < 48 from hi48) (by decide), mrI_e (show 12 * c + i < 48 from hi48) (by decide), mrJ_e (show 12 * c + i < 48 from hi48) (by decide), w49, w50, w51, w52, w53, j6, j3]
      rcases post_ok a K h1 h2 j4 j5 st (by omega) (by omega) with ⟨g', w', x1, x2, x3, x4, x5, x6, x7⟩ | ⟨h', g', w', G', x1, x2, x3, x4, x5, x6, x7, x8, -⟩
      · right
        refine ⟨h, g', w', G, ?_, ?_, x3.mono (by omega), x4, x5.mono (by omega) (by omega), ?_, ?_⟩
        · rw [x1, bd_s, if_neg (by decide)]
        · rw [x2]
          cases hs : m_soft (nI c) 506 w' with
          | none => rfl
          | some p =>
            show m_commit_22 (q' + 1) (nI c) (nI n') 0 (nI (12 * c + i) + 1) p.2 = _
            rw [m_commit_22]
            have e : m_commit_124 (nI c) 0 p.2 = some ((), p.2) := by unfold m_commit_124; rw [if_pos rfl]
            rw [e]
            split
            · rfl
            · rfl
        · rw [(x7.2 47 (by decide)).1]; exact e47
        · rw [(x6.2 47 (by decide)).1]; exact ⟨rfl, by rw [(x7.2 35 (by decide)).1]; exact st⟩
      · have e47' : g'.2.1 47 c = nI n' := by rw [(x7.2 47 (by decide)).1]; exact e47
        have st' : g'.2.1 35 c = 1 := by rw [(x7.2 35 (by decide)).1]; exact st
        have ol := x5.2.2.2.1
        have e47w : w'.2.1 47 c = w.2.1 47 c := by rw [(x6.2 47 (by decide)).1]
        rcases ih (i + 1) (q' + 1) (t + 5) h' g' w' G' (by omega) (by omega) x3 x4 st' e47' (by omega) (by omega) with ⟨h2', g2, w2, G2, y1, y2, y3, y4, y5, y6, y7, y8⟩ | ⟨h2', g2, w2, G2, y1, y2, y3, y4, y5, y6, y7, y8⟩
        · left
          refine ⟨h2', g2, w2, G2, ?_, ?_, y3.mono (by omega), y4, (x5.tr y5).mono (by omega) (by omega), y6, y7, y8.trans e47w⟩
          · rw [x1, bd_s, if_pos rfl, nI_1]; exact y1
          · rw [x2, bdm_s, nI_1]; exact y2
        · right
          refine ⟨h2', g2, w2, G2, ?_, ?_, y3.mono (by omega), y4, (x5.tr y5).mono (by omega) (by omega), y6, y7.trans e47w, y8⟩
          · rw [x1, bd_s, if_pos rfl, nI_1]; exact y1
          · rw [x2, bdm_s, nI_1]; exact y2
    · have nk0 : ¬ r.1 = 0 := by
        rw [j1]
        intro y
        have := (nI_eq (a := kk) (b := 0) (by omega) (by omega)).mp y
        omega
      rw [j4, nb_n, kg_e k2, if_neg nk0, mrI_e (show 12 * c + i < 48 from hi48) (by decide), mrJ_e (show 12 * c + i < 48 from hi48) (by decide), mrI_e (show 12 * c + i < 48 from hi48) (by decide), w48, w49, w51, j1, j5, j9, Int32.toInt32_toInt64]
      obtain ⟨hb, Gb, y1, y2, y3, y4⟩ := st_ok (b := decide (kk = 2)) h1 h2 a.1 k4 j10
      have fK := K.1
      have V := a.2.1
      obtain ⟨wb, u1, u2, u3⟩ := se_ok (v := w) (nI c) (nI kk) (nI nA) (bit uA) (V.1.2.1.fr fK (by decide)).1 (V.1.2.2.2.2.1.fr fK (by decide)).1 (V.2.2.1.2.1.fr fK (by decide))
      have ek2 : decide (nI kk = 2) = decide (kk = 2) := by
        have : kk = 1 ∨ kk = 2 ∨ kk = 3 := by omega
        rcases this with z | z | z <;> subst z <;> decide
      rw [ek2, quL_fr fK (by decide) (by decide) (by decide) (by decide), leL_fr fK (by decide) (by decide) (by decide) (by decide) (by decide) (by decide) (by decide) (by decide) (by decide) (by decide)] at u2
      rw [j7, j8] at y2
      have fg : Fr g (r47 g wb) [24] lrw := r47_fr fK u3.1
      have lg : leL (r47 g wb) = leL wb := (leL_fr (r47_w (g := g) (w := wb)) (by decide) (by decide) (by decide) (by decide) (by decide) (by decide) (by decide) (by decide) (by decide) (by decide)).symm
      have rf : ReF g (r47 g wb) := ⟨fg, (u3.2.1.fr (Fr.sym47 (g := g)) (by decide)).1, u3.2.2.fr (Fr.sym47 (g := g)) (by decide)⟩
      have C : Cl hb (r47 g wb) Gb (leL (r47 g wb)) (gH Gb) := by
        rw [lg, u2]; exact y2.vv fg (by decide) (by decide)
      have V' := V.le rf (fm_ok (by rw [lg, u2]) (fun r r' hr => gSE_m hr))
      obtain ⟨A, x2, x3, x4, x5⟩ := a.mk C V' y4.1 (by decide) fg (by decide) (by decide)
      have hle := hl_24 a.1 h1 h2
      rw [leL_len] at hle
      have := V.1.2.2.2.2.1.2
      have G1 := y4.gr x2 (Nat.le_of_eq (KP_fr fg (by decide))) x3 x4 x5
      have K' : K47 c (r47 g wb) wb := r47_k K u3.1 (by decide)
      have st' : (r47 g wb).2.1 35 c = 1 := by rw [(fg.2 35 (by decide)).1]; exact st
      have e47' : (r47 g wb).2.1 47 c = nI n' := by rw [(fg.2 47 (by decide)).1]; exact e47
      have e47w : wb.2.1 47 c = w.2.1 47 c := by rw [(u3.1.2 47 (by decide)).1]
      rcases ih (i + 1) (q' + 1) t hb (r47 g wb) wb Gb (by omega) (by omega) A K' st' e47' (by rw [x3]; omega) (by omega) with ⟨h2', g2, w2, G2, p1, p2, p3, p4, p5, p6, p7, p8⟩ | ⟨h2', g2, w2, G2, p1, p2, p3, p4, p5, p6, p7, p8⟩
      · left
        refine ⟨h2', g2, w2, G2, ?_, ?_, p3.mono (by omega), p4, (G1.tr p5).mono (by omega) (by omega), p6, p7, p8.trans e47w⟩
        · rw [y1, bd_s, nI_1]; exact p1
        · rw [u1, bdm_s, nI_1]; exact p2
      · right
        refine ⟨h2', g2, w2, G2, ?_, ?_, p3.mono (by omega), p4, (G1.tr p5).mono (by omega) (by omega), p6, p7.trans e47w, p8⟩
        · rw [y1, bd_s, nI_1]; exact p1
        · rw [u1, bdm_s, nI_1]; exact p2
theorem KP_47 {n : Nat} (K : K47 c g w) (h1 : 1 ≤ c) (h2 : c ≤ 3) (hn : n ≤ 12) (e : g.2.1 47 c = nI n) (e0 : w.2.1 47 c = 0) : KP g = KP w + n := by
  have a1 : kcN g c = n := by unfold kcN; rw [e]; exact nI_clamp (by omega)
  have a2 : kcN w c = 0 := by unfold kcN; rw [e0]; rfl
  have o : ∀ j, j ≠ c → kcN w j = kcN g j := fun j hj => by unfold kcN; rw [K.2.1 j hj]
  unfold KP
  have : c = 1 ∨ c = 2 ∨ c = 3 := by omega
  rcases this with z | z | z <;> subst z
  · rw [o 2 (by decide), o 3 (by decide)]; omega
  · rw [o 1 (by decide), o 3 (by decide)]; omega
  · rw [o 1 (by decide), o 2 (by decide)]; omega
theorem Gr.k47 {n : Nat} (G : Gr h v h' g (24 * n) (41 * n)) (K : K47 c g w) (h1 : 1 ≤ c) (h2 : c ≤ 3) (hn : n ≤ 12) (e : g.2.1 47 c = nI n) (e0 : w.2.1 47 c = 0) : Gr h v h' w 0 492 := by
  obtain ⟨g1, g2, g3, g4, g5, g6⟩ := G
  have kp := KP_47 K h1 h2 hn e e0
  refine ⟨g1, by omega, by omega, ?_, (K.1.1 2 (by simp)).trans g5, (K.1.1 0 (by simp)).trans g6⟩
  rw [outL_fr K.1 (by simp) (by simp)]; omega
theorem just_hcc {X : AH → Option (Int32 × AH)} {Y : MV → Option (Unit × MV)} (p : Pre t h v c G z) (H : z = false → HC t h v c (X h) (Y v) ∨ HCf t h v c (X h) (Y v)) : HC t h v c (bd (f_X6_isJustRead 5 h) fun x h' => if x = 0 then some (501, h') else X h') (bdm (m_isJust v) fun x v' => if x = 0 then some ((), v') else Y v') ∨ HCf t h v c (bd (f_X6_isJustRead 5 h) fun x h' => if x = 0 then some (501, h') else X h') (bdm (m_isJust v) fun x v' => if x = 0 then some ((), v') else Y v') := by
  obtain ⟨q, x1, x2, x3⟩ := just_ok p.2.1
  cases q with
  | true =>
    obtain ⟨y1, y2⟩ := x2 rfl
    have := H y1
    rw [x1, bd_s, y2, bdm_s, bit_t, if_neg (by decide), if_neg (by decide)]
    exact this
  | false =>
    left
    rw [x1, bd_s, x3 rfl, bit_f, if_pos rfl]
    have e : (bdm (bdm (m_hard 501 v) fun _ v_1 => rz 0 (some ((0 : Int32), v_1))) fun x v' => if x = 0 then some ((), v') else Y v') = m_hard 501 v := by
      cases hx : m_hard 501 v with
      | none => rfl
      | some q => rfl
    rw [e]
    exact HC.hard p.1 (e := 501) (by decide)
theorem commitC (p : Pre t h v c G z) (st : v.2.1 35 c = 1) : HC t h v c (f_X11_commit 4 (some (chA c)) h) (m_transactionMethod 20 v) ∨ HCf t h v c (f_X11_commit 4 (some (chA c)) h) (m_transactionMethod 20 v) := by
  have e54 := p.2.2.1
  unfold f_X11_commit m_transactionMethod
  rw [inE p.1, ltd, e54]
  refine just_hcc p (fun _ => ?_)
  obtain ⟨a, i, e54, h1, h2, hl, ht⟩ := p
  obtain ⟨k2, r1, r2, -⟩ := a.1.2.1.1.ch h1 h2
  obtain ⟨-, -, -, s6, -⟩ := a.1.2.1.2.1.2.2 c h1 h2
  rw [nn_s, rdI_e k2, s6, if_neg (show ¬ (20 : Int32) = 10 by decide), mrI_e (show c < 4 by omega) (by decide)]
  by_cases tr : v.2.1 39 c = 0
  · left
    rw [if_pos tr, if_pos tr, bdm_id]
    exact HC.soft a h1 h2 (e := 406) (by decide)
  · obtain ⟨n, hn, en, ek, eg⟩ := kc_n a h1 h2
    have K : K47 c v (mseA v 47 c 0) := ⟨Fr.updA, fun j hj => mA_n hj, 0, by omega, mA_s⟩
    have e12 : (12 : Int32) * nI c = nI (12 * c + 0) := by
      rw [← ix12 h1 h2 0]
      exact (Int32.add_zero _).symm
    have rf : m_commit (nI c) v = m_commit_22 FU (nI c) (nI n) 1 (nI (12 * c + 0)) (mseA v 47 c 0) := by
      unfold m_commit
      rw [mrI_e (show c < 4 by omega) (by decide), en, msI_e (show c < 4 by omega) (by decide), ltd, e12]
    rw [if_neg tr, if_neg tr, if_pos rfl, bdm_id, rf]
    rcases cm_l h1 h2 n hn n 0 FU t h v (mseA v 47 c 0) G (by omega) (by unfold FU; omega) a K st en (by omega) (by omega) with ⟨hb, g, w, Gb, x1, x2, x3, x4, x5, x6, x7, x8⟩ | ⟨hb, g, w, Gb, x1, x2, x3, x4, x5, x6, x7, x8⟩
    · left
      have e0 : w.2.1 47 c = 0 := x8.trans mA_s
      have Gw := x5.k47 x4 h1 h2 hn x7 e0
      have x1 : f_X11_commit_27 FU 4 (some (chA c)) 0 h = f_X11_commit_91 4 (some (chA c)) hb := x1
      rw [x1, x2]
      have li := (x3.1.2.2.1.2.2.2.2.1 c h1 h2).2
      obtain ⟨k2', r1', r2', -⟩ := x3.1.2.1.1.ch h1 h2
      obtain ⟨hd, y1, L, f, w', z1, z2, kx⟩ := li.clr x3.1.1
      have fv : Fr g w [] [47, 48, 49, 50, 51, 52, 53] := x4.1.mono (by simp) (by simp)
      have C := x3.1.kept h1 h2 f w' kx L fv (fun c' hc _ _ => kpL_c (x4.2.1 c' hc) (fun k q1 q2 => x4.1.2 k (by simp; omega))) (by
        have : kpL w c = [] := by unfold kpL kcN; rw [e0]; rfl
        rw [this]; exact F2.nil)
      have V := x3.2.1.k47 fv (c := c) x4.2.1 x4.2.2 (.inl x6) (x3.2.1.2.2.1.2.2.2.2.2.1.fr x4.1 (by decide))
      rw [← leL_fr fv (by decide) (by decide) (by decide) (by decide) (by decide) (by decide) (by decide) (by decide) (by decide) (by decide)] at C
      have T : Tr hb hd [0] 0 := ⟨f.kf (by simp [li.1]), by omega, by omega⟩
      obtain ⟨A, q2, q3, q4, q5⟩ := x3.mk (G' := sK Gb c []) C V T.1 (by decide) fv (by decide) (by decide)
      have G2 : Gr hb w hd w 0 0 := T.gr q2 (Nat.le_refl _) rfl rfl rfl
      unfold f_X11_commit_91 m_commit_124
      rw [nn_s, rdR_e k2', r2', nn_s, li.kgg, y1, bd_s, teE A h1 h2, if_neg (by decide)]
      exact HC.say (Gw.tr G2) (by omega) (by omega) (A.mono (by omega)) h2 (by decide) (by decide) hl
    · right
      have e0 : w.2.1 47 c = 0 := x7.trans mA_s
      exact ⟨hb, g, Gb, w, x1, x3.mono (by omega), x4, x8, (x5.k47 x4 h1 h2 hn x6 e0).mono (by omega) (by omega), x2⟩
end Cm

/-! ===== acknowledgements ===== -/
theorem nwO_e {β : Type} {h : AH} {c : Nat} {F : Nat → AH → Option β} : nwO h c F = F (hz h + 4) (al h c 0 (cnf c)) := rfl
theorem ix12 {c : Nat} (h1 : 1 ≤ c) (h2 : c ≤ 3) (m : Nat) : (12 : Int32) * nI c + nI m = nI (12 * c + m) := by
  have : c = 1 ∨ c = 2 ∨ c = 3 := by omega
  rcases this with z | z | z <;> subst z
  · rw [show (12 : Int32) * nI 1 = nI 12 by decide, nI_add]
  · rw [show (12 : Int32) * nI 2 = nI 24 by decide, nI_add]
  · rw [show (12 : Int32) * nI 3 = nI 36 by decide, nI_add]
section Ak
variable {t : Nat} {h h' : AH} {v v' : MV} {c : Nat} {G : GH} {M : List R_le} {hl : Nat → List Nat} {w : Bool}
/-- a new object at the top of the heap, its fields written -/
theorem deed_new (w : WH h) {x y : Int32} (n : Nat) (u b : Bool) : ∃ h', (∀ {β : Type} (F : Nat → AH → Option β), (nwO h 4 fun a h_7 => bd (f_X3_init_ a (nI n) (bit u) (bit b) h_7) fun _ h_9 => F a h_9) = F (hz h + 4) h') ∧ LF h h' [] ∧ WH h' ∧ NoQ h h' ∧ hz h' ≤ hz h + 1 ∧ hs h' ≤ hs h + 100 * 1 ∧ kd h' (hz h + 4) = 4 ∧ gR h' (hz h + 4) 0 = none ∧ gI h' (hz h + 4) 1 = nI n ∧ gI h' (hz h + 4) 2 = bit u ∧ gI h' (hz h + 4) 3 = bit b := by
  have t9 := w.1.top
  have kt : kd (al h 4 0 (cnf 4)) (hz h + 4) = 4 := by rw [kd_al, if_pos rfl]
  have bo : ∀ z : Bool, bit z = 0 ∨ bit z = 1 := fun z => by cases z <;> simp [bit]
  refine ⟨sI (sI (sI (sR (al h 4 0 (cnf 4)) (hz h + 4) 0 none) (hz h + 4) 1 (nI n)) (hz h + 4) 2 (bit u)) (hz h + 4) 3 (bit b), fun F => ?_, ((((LF.fA w.1).nR t9).nI t9).nI t9).nI t9, (((w.fA (by omega) (by decide)).fR (by rw [kt]; decide)).fI).fI.fI, fun q hq => noq_al (c := 4) (n := 0) (s := cnf 4) (by decide) q hq, ?_, ?_, kt, ?_, ?_, ?_, ?_⟩
  · unfold f_X3_init_
    rw [nwO_e, wrR_e kt, wrI_e (by exact kt), wrZ_e (by exact kt) (bo u), wrZ_e (by exact kt) (bo b), bd_s]
  · show hz h + 1 ≤ _; omega
  · show hs h + cnf 4 ≤ _; simp [cnf]
  · rw [gR_sI, gR_sI, gR_sI, gR_sR, if_pos ⟨rfl, rfl⟩]
  · rw [gI_sI, if_neg (by simp), gI_sI, if_neg (by simp), gI_sI, if_pos ⟨rfl, rfl⟩]
  · rw [gI_sI, if_neg (by simp), gI_sI, if_pos ⟨rfl, rfl⟩]
  · rw [gI_sI, if_pos ⟨rfl, rfl⟩]
theorem hs_l {dd : Nat} {L : List Nat} (s : Sk h) (h1 : 1 ≤ c) (h2 : c ≤ 3) (li : LI h (chA c + 1) L) (k8 : ∀ a ∈ L, kd h a = 8) (k4 : kd h dd = 4) : ∀ (d i f : Nat), i + d = L.length → d < f → f_X1_holdsSomeOf_2 f (chA c) (some dd) (nI i) h = some (bit ((L.drop i).any (fun a => cov (gI h dd 1) (gI h dd 2) (gI h a 4))), h) := by
  have hlen := li.len
  obtain ⟨k2, r1, -, -⟩ := s.ch h1 h2
  intro d
  induction d with
  | zero =>
    intro i f hi hf
    obtain ⟨q, rfl⟩ : ∃ q, f = q + 1 := ⟨f - 1, by omega⟩
    rw [f_X1_holdsSomeOf_2, szL r1 k2 li, if_pos (nI_le (by omega) (by omega)), rz_0, List.drop_eq_nil_of_le (by omega)]
    rfl
  | succ d ih =>
    intro i f hi hf
    obtain ⟨q, rfl⟩ : ∃ q, f = q + 1 := ⟨f - 1, by omega⟩
    have hlt : i < L.length := by omega
    obtain ⟨a, ea⟩ : ∃ a, L[i]? = some a := ⟨_, List.getElem?_eq_getElem hlt⟩
    have ka := k8 a (List.mem_of_getElem? ea)
    rw [f_X1_holdsSomeOf_2, szL r1 k2 li, if_neg (nI_ge (by omega) (by omega)), gtL r1 k2 li hlt, ea, ckc_e ka, nn_s, kg_e k4, cv_ok k4 ka, bd_s, drop_s ea, List.any_cons]
    cases hb : cov (gI h dd 1) (gI h dd 2) (gI h a 4) with
    | true => rw [bit_t, if_neg (by decide), rz_1]; rfl
    | false => rw [bit_f, if_pos rfl, nI_1, ih (i + 1) q (by omega) (by omega)]; rfl
theorem any_hl (C : Cl h v G M (gH G)) (h1 : 1 ≤ c) (h2 : c ≤ 3) (n u : Int32) : (gH G c).any (fun a => cov n u (gI h a 4)) = M.any (fun r => decide (r.2.2.1 = nI c ∧ cov n u r.2.2.2.1 = true)) := by
  obtain ⟨rs, f, p⟩ := C.2.2.2.1.2.2 c h1 h2
  rw [Bool.eq_iff_iff, List.any_eq_true, List.any_eq_true]
  constructor
  · rintro ⟨a, ha, e⟩
    obtain ⟨r, hr, z⟩ := f.ofL ha
    have m := List.mem_filter.mp (p.mem_iff.mp hr)
    refine ⟨r, m.1, ?_⟩
    rw [z.2.2.1] at e
    have := m.2
    simp [cH] at this
    simp [this, e]
  · rintro ⟨r, hr, e⟩
    simp only [decide_eq_true_eq] at e
    obtain ⟨a, ha, z⟩ := f.ofR (p.mem_iff.mpr (List.mem_filter.mpr ⟨hr, by simp [cH, e.1]⟩))
    exact ⟨a, ha, by rw [z.2.2.1]; exact e.2⟩
theorem sk_l (c kk n u : Int32) (h24 : CV v 24 24) : ∀ (d i f : Nat) (s : Bool), i + d = cN v 24 → d < f → m_settleOrKeep_19 f c kk n u (bit s) (nI i) v = m_settleOrKeep_59 c kk n u (bit (s || ((leL v).drop i).any (fun r => decide (r.2.2.1 = c ∧ cov n u r.2.2.2.1 = true)))) v := by
  have hN := h24.2
  intro d
  induction d with
  | zero =>
    intro i f s hi hf
    obtain ⟨q, rfl⟩ : ∃ q, f = q + 1 := ⟨f - 1, by omega⟩
    rw [m_settleOrKeep_19, h24.1, if_pos (nI_le (by omega) (by omega)), List.drop_eq_nil_of_le (by rw [leL_len]; omega)]
    simp
  | succ d ih =>
    intro i f s hi hf
    obtain ⟨q, rfl⟩ : ∃ q, f = q + 1 := ⟨f - 1, by omega⟩
    have er := le_at (v := v) (k := i) (by omega)
    rw [m_settleOrKeep_19, h24.1, if_neg (nI_ge (by omega) (by omega)), drop_s er, List.any_cons, im_ok h24 c n u er]
    unfold m_settleOrKeep_51
    cases s with
    | true =>
      rw [bit_t, if_neg (by decide), nI_1]
      have := ih (i + 1) q true (by omega) (by omega)
      rw [bit_t] at this
      dsimp only
      rw [this]
      simp
    | false =>
      rw [bit_f, if_pos rfl, bdm_s]
      cases hb : decide ((leAt v i).2.2.1 = c ∧ cov n u (leAt v i).2.2.2.1 = true) with
      | true =>
        rw [bit_t, if_neg (by decide), nI_1]
        have := ih (i + 1) q true (by omega) (by omega)
        rw [bit_t] at this
        dsimp only
        rw [this]
        simp
      | false =>
        rw [bit_f, if_pos rfl, nI_1]
        have := ih (i + 1) q false (by omega) (by omega)
        rw [bit_f] at this
        dsimp only
        rw [this]
        simp
theorem sok_ok (c kk n : Int32) (u : Bool) (h24 : CV v 24 24) : m_settleOrKeep c kk n (bit u) v = m_settleOrKeep_59 c kk n (bit u) (bit ((u && decide (n = 0)) || (leL v).any (fun r => decide (r.2.2.1 = c ∧ cov n (bit u) r.2.2.2.1 = true)))) v := by
  have hN := h24.2
  have L := fun s => sk_l (v := v) c kk n (bit u) h24 (cN v 24) 0 FU s (by omega) (by unfold FU; omega)
  simp only [List.drop_zero] at L
  unfold m_settleOrKeep
  cases u with
  | false =>
    rw [bit_f, if_pos rfl]
    have := L false
    rw [bit_f] at this
    exact this
  | true =>
    rw [bit_t, if_neg (by decide)]
    by_cases z : n = 0
    · rw [if_pos z]
      have := L true
      rw [bit_t] at this
      rw [decide_eq_true z]
      exact this
    · rw [if_neg z]
      have := L false
      rw [bit_f] at this
      rw [decide_eq_false z]
      exact this
theorem settleH {n kk : Nat} {u : Bool} (p : Pre t h v c G w) (st : v.2.1 35 c = 1) (hn : n < 65536) (k1 : 1 ≤ kk) (k3 : kk ≤ 3) : HC t h v c (f_X11_settle 4 (some (chA c)) (nI n) (bit u) (bit (decide (kk = 2))) h) (bdm (m_isJust v) fun x v' => if x = 0 then some ((), v') else m_settleOrKeep (nI c) (nI kk) (nI n) (bit u) v') := by
  unfold f_X11_settle
  rw [inE p.1]
  refine just_hc p (fun _ => ?_)
  obtain ⟨a, i, e54, h1, h2, hl, ht⟩ := p
  obtain ⟨h1', x1, f1, w1, nq1, z1, z2, d4, d0, d1, d2, d3⟩ := deed_new a.1.1 (x := 0) (y := 0) n u (decide (kk = 2))
  obtain ⟨a1, g1⟩ := a.nw f1 w1 nq1 z1 z2
  rw [x1, sok_ok _ _ _ _ a.2.1.1.2.2.2.2.1]
  have cva : f_X3_coversAll (hz h + 4) h1' = some (bit (u && decide (nI n = 0)), h1') := by
    unfold f_X3_coversAll
    rw [rdI_e d4, d2]
    cases u with
    | false => rw [bit_f, if_pos rfl, rz_0]; rfl
    | true =>
      rw [bit_t, if_neg (by decide), rdI_e d4, d1]
      by_cases z : nI n = 0
      · rw [if_pos z, rz_1, decide_eq_true z]; rfl
      · rw [if_neg z, rz_0, decide_eq_false z]; rfl
  have li := (a1.1.2.2.1.2.2.2.2.1 c h1 h2).1
  have hso : f_X1_holdsSomeOf (chA c) (some (hz h + 4)) h1' = some (bit ((leL v).any (fun r => decide (r.2.2.1 = nI c ∧ cov (nI n) (bit u) r.2.2.2.1 = true))), h1') := by
    have hlen := li.len
    unfold f_X1_holdsSomeOf
    have := hs_l a1.1.2.1.1 h1 h2 li (fun x hx => a1.1.2.2.2.1.k8 h1 h2 hx) d4 (gH G c).length 0 FU (by omega) (by unfold FU; omega)
    rw [d1, d2, List.drop_zero, any_hl a1.1 h1 h2] at this
    exact this
  rw [kg_e d4, cva, bd_s]
  have fin : ∀ X, X = f_X11_settle_48 4 (some (chA c)) (some (hz h + 4)) h1' → HC t h v c X (m_settleOrKeep_59 (nI c) (nI kk) (nI n) (bit u) (bit true) v) := by
    intro X hX
    subst hX
    obtain ⟨k2, -, -, -⟩ := a1.1.2.1.1.ch h1 h2
    obtain ⟨-, -, -, s6, -⟩ := a1.1.2.1.2.1.2.2 c h1 h2
    unfold f_X11_settle_48 m_settleOrKeep_59
    rw [bit_t, if_neg (by decide), mrI_e (show c < 4 by omega) (by decide), nn_s, rdI_e k2, s6]
    by_cases tr : v.2.1 39 c = 0
    · rw [if_pos tr, if_pos tr, bdm_id]
      obtain ⟨hb, Gb, y1, y2, y3, y4⟩ := st_ok (b := decide (kk = 2)) h1 h2 a1.1 d4 d3
      obtain ⟨vb, u1, u2, u3⟩ := se_ok (nI c) (nI kk) (nI n) (bit u) a.2.1.1.2.1 a.2.1.1.2.2.2.2.1 a.2.1.2.2.1.2.1
      have ek : decide (nI kk = 2) = decide (kk = 2) := by
        have : kk = 1 ∨ kk = 2 ∨ kk = 3 := by omega
        rcases this with z | z | z <;> subst z <;> decide
      rw [ek] at u2
      rw [d1, d2] at y2
      have C : Cl hb vb Gb (leL vb) (gH Gb) := by
        rw [u2]; exact y2.vv u3.1 (by decide) (by decide)
      have V := a1.2.1.le u3 (fm_ok u2 (fun r r' hr => gSE_m hr))
      obtain ⟨A, x2, x3, x4, x5⟩ := a1.mk C V y4.1 (by decide) u3.1 (by decide) (by decide)
      have hle := hl_24 a1.1 h1 h2
      rw [leL_len] at hle
      have := a.2.1.1.2.2.2.2.1.2
      rw [kg_e k2, y1, bd_s, u1]
      exact ⟨0, hb, vb, Gb, rfl, A.mono (by omega), (g1.tr (y4.gr x2 (Nat.le_of_eq (KP_fr u3.1 (by decide))) x3 x4 x5)).mono (by omega) (by split <;> omega), .inl ⟨rfl, rfl⟩⟩
    · rw [if_neg tr, if_neg tr, kg_e a1.1.2.1.1.1, mrI_e (show c < 4 by omega) (by decide)]
      obtain ⟨m, hm, em, -, -⟩ := kc_n a h1 h2
      by_cases full : v.2.1 47 c = 12
      · rw [if_pos full, keep_no a1 h1 h2 full, bd_s, bdm_id]
        exact ⟨506, h1', v, G, rfl, a1.mono (by omega), g1.mono (by omega) (by split <;> omega), .inr (.inl ⟨by decide, v, K47.rf a h1 h2, .inr rfl, rfl⟩)⟩
      · have lt12 : m < 12 := by
          rcases Nat.lt_or_ge m 12 with z | z
          · exact z
          · exfalso; apply full; rw [em, show m = 12 by omega]; rfl
        have ix := ix12 h1 h2 m
        rw [if_neg full, mrI_e (show c < 4 by omega) (by decide), ltd, em, ix, msI_e (show 12 * c + m < 48 by omega) (by decide), msJ_e (show 12 * c + m < 48 by omega) (by decide), msZ_e (k := 51) (show 12 * c + m < 48 by omega) (by decide), mrI_e (show c < 4 by omega) (by decide), msI_e (show c < 4 by omega) (by decide)]
        have K : KpA v (mseA (mseA (mseJ (mseA v 48 (12 * c + m) (nI kk)) 49 (12 * c + m) (nI n).toInt64) 51 (12 * c + m) (bit u)) 47 c ((mseA (mseJ (mseA v 48 (12 * c + m) (nI kk)) 49 (12 * c + m) (nI n).toInt64) 51 (12 * c + m) (bit u)).2.1 47 c + 1)) c m (nI kk, (nI n).toInt64, v.2.2 50 (12 * c + m), bit u, v.2.1 52 (12 * c + m), v.2.2 53 (12 * c + m)) := by
          refine ⟨((((Fr.updA.tr Fr.updJ).tr Fr.updA).tr Fr.updA)).mono (by simp) (by simp), ?_, fun j hj => ?_, fun k q1 q2 j hj => ?_, ?_, ?_⟩
          · rw [mA_s, mA_k (by decide)]
            show (mseA v 48 (12 * c + m) (nI kk)).2.1 47 c + 1 = _
            rw [mA_k (by decide), em, nI_1]
          · rw [mA_n hj, mA_k (by decide)]
            show (mseA v 48 (12 * c + m) (nI kk)).2.1 47 j = _
            rw [mA_k (by decide)]
          · rw [mA_k (show k ≠ 47 by omega)]
            constructor
            · by_cases e1 : k = 51
              · subst e1; rw [mA_n hj]
                show (mseA v 48 (12 * c + m) (nI kk)).2.1 51 j = _
                rw [mA_k (by decide)]
              · rw [mA_k e1]
                show (mseA v 48 (12 * c + m) (nI kk)).2.1 k j = _
                by_cases e2 : k = 48
                · subst e2; rw [mA_n hj]
                · rw [mA_k e2]
            · show (mseJ (mseA v 48 (12 * c + m) (nI kk)) 49 (12 * c + m) (nI n).toInt64).2.2 k j = _
              by_cases e1 : k = 49
              · subst e1; rw [mJ_n hj]; rfl
              · rw [mJ_k e1]; rfl
          · simp [mseA, mseJ, rw1, upd, vp_updL]
          · exact (Bo.setA (Bo.fr (a.2.1.2.2.1.2.2.2.2.2.1) (((Fr.updA (k := 48) (i := 12 * c + m) (x := nI kk)).tr (Fr.updJ (k := 49) (i := 12 * c + m) (x := (nI n).toInt64)))) (by decide))).fr (Fr.updA (k := 47) (i := c)) (by decide)
        obtain ⟨hb, Gb, y1, y2, y3⟩ := keep_ok (d := hz h + 4) (n := m) a1 h1 h2 st lt12 em ⟨d4, .inr ⟨kk, n, u, rfl, k1, k3, d0, rfl, hn, d1, d2, rfl, d3⟩⟩ K
        rw [y1, bd_s]
        exact ⟨0, hb, _, Gb, rfl, y2.mono (by omega), (g1.tr y3).mono (by omega) (by split <;> omega), .inl ⟨rfl, rfl⟩⟩
  cases hA : (u && decide (nI n = 0)) with
  | true =>
    rw [bit_t, if_neg (by decide)]
    exact fin _ rfl
  | false =>
    obtain ⟨k2, -, -, -⟩ := a1.1.2.1.1.ch h1 h2
    rw [bit_f, if_pos rfl, nn_s, kg_e k2, hso, bd_s, Bool.false_or]
    cases hB : (leL v).any (fun r => decide (r.2.2.1 = nI c ∧ cov (nI n) (bit u) r.2.2.2.1 = true)) with
    | true =>
      rw [if_neg (by decide)]
      exact fin _ rfl
    | false =>
      rw [bit_f, if_pos rfl]
      unfold m_settleOrKeep_59
      rw [if_pos rfl, bdm_id]
      exact ⟨406, h1', v, G, rfl, a1.mono (by omega), g1.mono (by omega) (by split <;> omega), .inr (.inl ⟨by decide, v, K47.rf a h1 h2, .inr rfl, rfl⟩)⟩
theorem l183 {x1 c n u s0 k : Int32} (hk : k = if x1 = 80 then 1 else if s0 = 0 then 3 else 2) : m_letterMethod_183 x1 c n u s0 v = bdm (m_isJust v) fun x v' => if x = 0 then some ((), v') else m_settleOrKeep c k n u v' := by
  unfold m_letterMethod_183
  congr 1
  funext x v'
  unfold m_letterMethod_214
  rw [bdm_id, bdm_id, bdm_id, hk]
  split
  · rfl
  · split
    · rfl
    · split <;> rfl
theorem ackC (p : Pre t h v c G w) (st : v.2.1 35 c = 1) : HC t h v c (f_X11_acknowledge 4 (some (chA c)) h) (m_letterMethod 80 v) := by
  have e54 := p.2.2.1
  unfold f_X11_acknowledge m_letterMethod
  rw [inE p.1, ltd, if_neg (by decide), if_neg (by decide), if_neg (by decide), if_neg (by decide), if_neg (by decide), if_pos rfl, e54]
  obtain ⟨n, ha, va, wa, x1, x2, x3, x4, x5, x6⟩ := short_ok p.2.1
  rw [x1, bd_s, x2, bdm_s, inE (p.1.rd x5), if_neg (by decide)]
  refine HC.rd x5 ?_
  have p := p.rd x5 x4
  have st : va.2.1 35 c = 1 := by rw [(x5.2.1.2 35 (by decide)).1]; exact st
  obtain ⟨u, hb, vb, wb, y1, y2, y4, y5, y6⟩ := flag_ok p.2.1
  rw [y1, bd_s, y2, bdm_s]
  refine HC.rd y5 ?_
  have p := p.rd y5 y4
  have st : vb.2.1 35 c = 1 := by rw [(y5.2.1.2 35 (by decide)).1]; exact st
  have e : (if bit u = 0 then m_letterMethod_163 80 (nI c) (nI n) 0 vb else m_letterMethod_163 80 (nI c) (nI n) 1 vb) = m_letterMethod_163 80 (nI c) (nI n) (bit u) vb := by
    cases u with
    | false => rw [bit_f, if_pos rfl]
    | true => rw [bit_t, if_neg (by decide)]
  rw [e]
  unfold m_letterMethod_163
  rw [if_pos rfl, l183 (k := nI 1) (by decide), kg_e p.1.1.2.1.1.1]
  obtain ⟨e', h', v', G', q1, q2⟩ := settleH (n := n) (kk := 1) (u := u) p st x3 (by decide) (by decide)
  exact ⟨e', h', v', G', by rw [show (0 : Int32) = bit (decide (1 = 2)) from rfl, q1, bd_s], q2⟩
theorem rejectC (p : Pre t h v c G w) (st : v.2.1 35 c = 1) : HC t h v c (f_X11_reject 4 (some (chA c)) h) (m_letterMethod 90 v) := by
  have e54 := p.2.2.1
  unfold f_X11_reject m_letterMethod
  rw [inE p.1, ltd, if_neg (by decide), if_neg (by decide), if_neg (by decide), if_neg (by decide), if_neg (by decide), if_neg (by decide), if_pos rfl, e54]
  obtain ⟨n, ha, va, wa, x1, x2, x3, x4, x5, x6⟩ := short_ok p.2.1
  rw [x1, bd_s, x2, bdm_s, inE (p.1.rd x5), if_pos rfl]
  refine HC.rd x5 ?_
  have p := p.rd x5 x4
  have st : va.2.1 35 c = 1 := by rw [(x5.2.1.2 35 (by decide)).1]; exact st
  unfold m_letterMethod_163
  rw [if_neg (by decide)]
  obtain ⟨u, hb, vb, wb, y1, y2, y4, y5, y6⟩ := flag_ok p.2.1
  rw [y1, bd_s, y2, bdm_s]
  refine HC.rd y5 ?_
  have p := p.rd y5 y4
  have st : vb.2.1 35 c = 1 := by rw [(y5.2.1.2 35 (by decide)).1]; exact st
  rw [kg_e p.1.1.2.1.1.1]
  cases u with
  | false =>
    obtain ⟨e', h', v', G', q1, q2⟩ := settleH (n := n) (kk := 3) (u := false) p st x3 (by decide) (by decide)
    rw [bit_f, if_pos rfl, l183 (k := nI 3) (by decide)]
    exact ⟨e', h', v', G', by rw [show f_X11_settle 4 (some (chA c)) (nI n) 0 0 hb = some (nI e', h') from q1, bd_s], q2⟩
  | true =>
    obtain ⟨e', h', v', G', q1, q2⟩ := settleH (n := n) (kk := 2) (u := false) p st x3 (by decide) (by decide)
    rw [bit_t, if_neg (by decide), l183 (k := nI 2) (by decide)]
    exact ⟨e', h', v', G', by rw [show f_X11_settle 4 (some (chA c)) (nI n) 0 1 hb = some (nI e', h') from q1, bd_s], q2⟩
theorem refuseC (p : Pre t h v c G w) (st : v.2.1 35 c = 1) : HC t h v c (f_X11_refuse 4 (some (chA c)) h) (m_letterMethod 120 v) := by
  have e54 := p.2.2.1
  unfold f_X11_refuse m_letterMethod
  rw [inE p.1, ltd, if_neg (by decide), if_neg (by decide), if_neg (by decide), if_neg (by decide), if_neg (by decide), if_neg (by decide), if_neg (by decide), if_pos rfl, e54]
  obtain ⟨n, ha, va, wa, x1, x2, x3, x4, x5, x6⟩ := short_ok p.2.1
  rw [x1, bd_s, x2, bdm_s, inE (p.1.rd x5), if_neg (by decide)]
  refine HC.rd x5 ?_
  have p := p.rd x5 x4
  have st : va.2.1 35 c = 1 := by rw [(x5.2.1.2 35 (by decide)).1]; exact st
  obtain ⟨z, hb, vb, wb, y1, y2, y4, y5, y6⟩ := flag_ok p.2.1
  rw [y1, bd_s, y2, bdm_s, inE (p.1.rd y5)]
  refine HC.rd y5 ?_
  have p := p.rd y5 y4
  have st : vb.2.1 35 c = 1 := by rw [(y5.2.1.2 35 (by decide)).1]; exact st
  have e : (if bit z = 0 then m_letterMethod_163 120 (nI c) (nI n) 0 vb else m_letterMethod_163 120 (nI c) (nI n) 1 vb) = m_letterMethod_163 120 (nI c) (nI n) (bit z) vb := by
    cases z with
    | false => rw [bit_f, if_pos rfl]
    | true => rw [bit_t, if_neg (by decide)]
  rw [e]
  unfold m_letterMethod_163
  rw [if_neg (by decide)]
  obtain ⟨u, hd, vd, wd, u1, u2, u4, u5, u6⟩ := flag_ok p.2.1
  rw [u1, bd_s, u2, bdm_s]
  refine HC.rd u5 ?_
  have p := p.rd u5 u4
  have st : vd.2.1 35 c = 1 := by rw [(u5.2.1.2 35 (by decide)).1]; exact st
  rw [kg_e p.1.1.2.1.1.1]
  cases u with
  | false =>
    obtain ⟨e', h', v', G', q1, q2⟩ := settleH (n := n) (kk := 3) (u := z) p st x3 (by decide) (by decide)
    rw [bit_f, if_pos rfl, l183 (k := nI 3) (by decide)]
    exact ⟨e', h', v', G', by rw [show f_X11_settle 4 (some (chA c)) (nI n) (bit z) 0 hd = some (nI e', h') from q1, bd_s], q2⟩
  | true =>
    obtain ⟨e', h', v', G', q1, q2⟩ := settleH (n := n) (kk := 2) (u := z) p st x3 (by decide) (by decide)
    rw [bit_t, if_neg (by decide), l183 (k := nI 2) (by decide)]
    exact ⟨e', h', v', G', by rw [show f_X11_settle 4 (some (chA c)) (nI n) (bit z) 1 hd = some (nI e', h') from q1, bd_s], q2⟩
end Ak

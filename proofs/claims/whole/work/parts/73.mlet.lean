/-! ===== the reference's letters ===== -/
def lrw : List Nat := [26, 27, 28, 29, 30, 31, 32, 33, 34]
def ReF (v v' : MV) : Prop := Fr v v' [24] lrw ∧ CV v' 24 24 ∧ Bo v' 30
def leAt (v : MV) (k : Nat) : R_le := (v.2.1 26 k, v.2.1 27 k, v.2.1 28 k, v.2.1 29 k, v.2.1 30 k, v.2.2 31 k, v.2.2 32 k, v.2.1 33 k, v.2.2 34 k)
section Ml
variable {v v' v2 : MV} {k : Nat} {r r' : R_le}
theorem ReF.rf (c : CV v 24 24) (b : Bo v 30) : ReF v v := ⟨(Fr.rf v).mono (by simp) (by simp), c, b⟩
theorem ReF.tr (f : ReF v v') (g : ReF v' v2) : ReF v v2 := ⟨(f.1.tr g.1).mono (by decide) (by decide), g.2⟩
theorem le_at {k : Nat} (hk : k < cN v 24) : (leL v)[k]? = some (leAt v k) := lst_get _ hk
theorem le_lt (h : (leL v)[k]? = some r) : k < cN v 24 ∧ r = leAt v k := by
  have hk : k < cN v 24 := by
    by_cases c : k < cN v 24
    · exact c
    · rw [List.getElem?_eq_none (by rw [leL_len]; omega)] at h; cases h
  rw [le_at hk] at h
  exact ⟨hk, (Option.some.inj h).symm⟩
theorem leL_set (hk : k < cN v 24) (e : cN v' 24 = cN v 24) (o : ∀ j, j ≠ k → leAt v' j = leAt v j) (n : leAt v' k = r') : leL v' = (leL v).set k r' := by
  apply List.ext_getElem?
  intro j
  rw [List.getElem?_set]
  by_cases hj : j < cN v 24
  · rw [le_at (by rw [e]; exact hj)]
    by_cases c : k = j
    · subst c; rw [if_pos rfl, if_pos (by rw [leL_len]; exact hk), n]
    · rw [if_neg c, le_at hj, o j (fun z => c z.symm)]
  · rw [List.getElem?_eq_none (by rw [leL_len, e]; omega)]
    rw [if_neg (by omega), List.getElem?_eq_none (by rw [leL_len]; omega)]
theorem set_mid {α : Type} (A B : List α) (x y : α) : (A ++ x :: B).set A.length y = A ++ [y] ++ B := by
  rw [List.set_append_right _ _ (Nat.le_refl _)]; simp
theorem erase_mid {α : Type} (A B : List α) (x : α) : (A ++ x :: B).eraseIdx A.length = A ++ [] ++ B := by
  rw [List.eraseIdx_append_of_length_le (Nat.le_refl _)]; simp
theorem quL_le (f : ReF v v') : quL v' = quL v := quL_fr f.1 (by decide) (by decide) (by decide) (by decide)
theorem exL_le (f : ReF v v') : exL v' = exL v := exL_fr f.1 (by decide) (by decide) (by decide)
theorem biL_le (f : ReF v v') : biL v' = biL v := biL_fr f.1 (by decide) (by decide) (by decide) (by decide)
theorem coL_le (f : ReF v v') : coL v' = coL v := coL_fr f.1 (by decide) (by decide) (by decide) (by decide) (by decide) (by decide)
theorem gb_ok {A B : List R_le} (h8 : CV v 8 5) (c : CV v 24 24) (b : Bo v 30) (e : leL v = A ++ r :: B) : ∃ v', m_goesBack (nI A.length) v = some (bit (bk (quL v) r).isEmpty, v') ∧ leL v' = A ++ bk (quL v) r ++ B ∧ ReF v v' := by
  have he : (leL v)[A.length]? = some r := by rw [e]; simp
  obtain ⟨hk, er⟩ := le_lt he
  have hN := c.2
  have e27 : v.2.1 27 A.length = r.2.1 := by rw [er]; rfl
  unfold m_goesBack
  rw [mrI_e (show A.length < 24 by omega) (by decide), e27, isThere_ok h8]
  show ∃ v', (if bit ((quL v).any fun x => decide (x.2.1 = r.2.1)) = 0 then bdm (m_removeLetter (nI A.length) v) fun _ v_6 => rz 1 (some (1, v_6)) else _) = _ ∧ _
  unfold bk
  cases hb : (quL v).any (fun x => decide (x.2.1 = r.2.1)) with
  | false =>
    obtain ⟨v', y1, y2, y3, y4, y5, y6⟩ := le_rm c b hk
    refine ⟨v', ?_, ?_, y5, y3, y6⟩
    · rw [bit_f, if_pos rfl, y1]; rfl
    · rw [y2, e, erase_mid]; simp
  | true =>
    refine ⟨mseA (mseA v 28 A.length 0) 30 A.length 1, ?_, ?_, ?_, ?_, ?_⟩
    · rw [bit_t, if_neg (by decide), msI_e (show A.length < 24 by omega) (by decide), show (1 : Int32) = bit true from rfl, msZ_e (k := 30) (show A.length < 24 by omega) (by decide)]; rfl
    · rw [leL_set (v := v) (v' := mseA (mseA v 28 A.length 0) 30 A.length 1) (k := A.length) hk rfl (fun j hj => by simp [leAt, mseA, rw1, upd, hj]) rfl, e, set_mid, er]
      simp [leAt, mseA, rw1, upd]
    · exact ⟨fun _ _ => rfl, fun j hj => ⟨by rw [mA_k (fun z => hj (by rw [z]; decide)), mA_k (fun z => hj (by rw [z]; decide))], rfl⟩⟩
    · exact c
    · exact (Bo.setA (b.fr (Fr.updA (k := 28) (i := A.length) (x := 0)) (by decide)) : Bo (mseA (mseA v 28 A.length 0) 30 A.length (bit true)) 30)
theorem v24 (c : CV v 24 24) {A B : List R_le} (e : leL v = A ++ B) : v.1 24 = nI (A.length + B.length) ∧ A.length + B.length ≤ 24 := by
  have : cN v 24 = A.length + B.length := by rw [← leL_len, e, List.length_append]
  rw [c.1, this]
  have := c.2
  exact ⟨rfl, by omega⟩
theorem ab_l (Q : List R_qu) (c : Int32) : ∀ (d : Nat) (A B : List R_le) (f : Nat) (v : MV), B.length = d → leL v = A ++ B → d < f → quL v = Q → CV v 8 5 → CV v 24 24 → Bo v 30 → ∃ v', m_allBack_2 f c (nI A.length) v = some ((), v') ∧ leL v' = A ++ B.flatMap (gAB Q c) ∧ ReF v v' := by
  intro d
  induction d with
  | zero =>
    intro A B f v hB e hf eQ h8 h24 b
    obtain ⟨q, rfl⟩ : ∃ q, f = q + 1 := ⟨f - 1, by omega⟩
    obtain ⟨e24, le⟩ := v24 h24 e
    have : B = [] := List.eq_nil_of_length_eq_zero hB
    subst this
    refine ⟨v, ?_, by simpa using e, ReF.rf h24 b⟩
    rw [m_allBack_2, if_pos (by rw [e24]; exact nI_le (by simp) (by omega))]
  | succ d ih =>
    intro A B f v hB e hf eQ h8 h24 b
    obtain ⟨q, rfl⟩ : ∃ q, f = q + 1 := ⟨f - 1, by omega⟩
    obtain ⟨e24, le⟩ := v24 h24 e
    obtain ⟨r, B, rfl⟩ : ∃ r B', B = r :: B' := by cases B with
      | nil => simp at hB
      | cons r B => exact ⟨r, B, rfl⟩
    simp only [List.length_cons] at hB le e24
    have he : (leL v)[A.length]? = some r := by rw [e]; simp
    obtain ⟨hk, er⟩ := le_lt he
    have hN := h24.2
    have e28 : v.2.1 28 A.length = r.2.2.1 := by rw [er]; rfl
    rw [m_allBack_2, if_neg (by rw [e24]; exact nI_ge (by omega) (by omega)), mrI_e (show A.length < 24 by omega) (by decide), e28]
    by_cases hc : r.2.2.1 = c
    · obtain ⟨v1, y1, y2, y3⟩ := gb_ok h8 h24 b e
      rw [if_pos hc, y1]
      have eg : gAB Q c r = bk (quL v) r := by unfold gAB; rw [if_pos hc, eQ]
      rw [List.flatMap_cons, eg]
      have q1 : quL v1 = Q := (quL_le y3).trans eQ
      have h81 := (h8.fr y3.1 (by decide)).1
      show ∃ v', (if bit (bk (quL v) r).isEmpty = 0 then lt (nI A.length + 1) fun x_5 => m_allBack_2 q c x_5 v1 else lt (nI A.length + 0) fun x_6 => m_allBack_2 q c x_6 v1) = _ ∧ _
      cases hb : bk (quL v) r with
      | nil =>
        rw [hb] at y2
        obtain ⟨v', z1, z2, z3⟩ := ih A B q v1 (by omega) (by simpa using y2) (by omega) q1 h81 y3.2.1 y3.2.2
        refine ⟨v', ?_, by simpa using z2, y3.tr z3⟩
        rw [show ([] : List R_le).isEmpty = true from rfl, bit_t, if_neg (by decide), ltd, show nI A.length + 0 = nI A.length from Int32.add_zero _]
        exact z1
      | cons x o =>
        have ho : o = [] := by
          unfold bk at hb
          split at hb
          · cases hb; rfl
          · cases hb
        subst ho
        rw [hb] at y2
        obtain ⟨v', z1, z2, z3⟩ := ih (A ++ [x]) B q v1 (by omega) y2 (by omega) q1 h81 y3.2.1 y3.2.2
        refine ⟨v', ?_, by simpa using z2, y3.tr z3⟩
        rw [show [x].isEmpty = false from rfl, bit_f, if_pos rfl, ltd, nI_1]
        rw [List.length_append] at z1
        exact z1
    · have eg : gAB Q c r = [r] := by unfold gAB; rw [if_neg hc]
      obtain ⟨v', z1, z2, z3⟩ := ih (A ++ [r]) B q v (by omega) (by simpa using e) (by omega) eQ h8 h24 b
      refine ⟨v', ?_, by rw [List.flatMap_cons, eg]; simpa using z2, z3⟩
      rw [if_neg hc, ltd, nI_1]
      rw [List.length_append] at z1
      exact z1
theorem ab_ok (c : Int32) (h8 : CV v 8 5) (h24 : CV v 24 24) (b : Bo v 30) : ∃ v', m_allBack c v = some ((), v') ∧ leL v' = (leL v).flatMap (gAB (quL v) c) ∧ ReF v v' := by
  have := h24.2
  obtain ⟨v', z1, z2, z3⟩ := ab_l (quL v) c (leL v).length [] (leL v) FU v rfl rfl (by rw [leL_len]; unfold FU; omega) rfl h8 h24 b
  exact ⟨v', z1, by simpa using z2, z3⟩
theorem im_ok (h24 : CV v 24 24) (c n u : Int32) (he : (leL v)[k]? = some r) : m_isMeant (nI k) c n u v = some (bit (decide (r.2.2.1 = c ∧ cov n u r.2.2.2.1 = true)), v) := by
  obtain ⟨hk, er⟩ := le_lt he
  have hN := h24.2
  have e28 : v.2.1 28 k = r.2.2.1 := by rw [er]; rfl
  have e29 : v.2.1 29 k = r.2.2.2.1 := by rw [er]; rfl
  unfold m_isMeant
  rw [mrI_e (show k < 24 by omega) (by decide), e28]
  by_cases hc : r.2.2.1 = c
  · rw [if_pos hc]
    unfold cov
    by_cases u0 : u = 0
    · rw [if_pos u0, mrI_e (show k < 24 by omega) (by decide), e29]
      by_cases t : r.2.2.2.1 = n
      · rw [if_pos t, rz_1]; simp [hc, u0, t, bit]
      · rw [if_neg t, rz_0]; simp [u0, t, bit]
    · rw [if_neg u0]
      by_cases n0 : n = 0
      · rw [if_pos n0, rz_1]; simp [hc, u0, n0, bit]
      · rw [if_neg n0, mrI_e (show k < 24 by omega) (by decide), e29]
        by_cases t : n < r.2.2.2.1
        · rw [if_pos t, rz_0]; simp [u0, n0, t, bit]
        · rw [if_neg t, rz_1]; simp [hc, u0, n0, t, bit]
  · rw [if_neg hc, rz_0]; simp [hc, bit]
theorem se_l (Q : List R_qu) (c kk n u : Int32) : ∀ (d : Nat) (A B : List R_le) (f : Nat) (v : MV), B.length = d → leL v = A ++ B → d < f → quL v = Q → CV v 8 5 → CV v 24 24 → Bo v 30 → ∃ v', m_settle_3 f c kk n u (nI A.length) v = some ((), v') ∧ leL v' = A ++ B.flatMap (gSE Q c n u (decide (kk = 2))) ∧ ReF v v' := by
  intro d
  induction d with
  | zero =>
    intro A B f v hB e hf eQ h8 h24 b
    obtain ⟨q, rfl⟩ : ∃ q, f = q + 1 := ⟨f - 1, by omega⟩
    obtain ⟨e24, le⟩ := v24 h24 e
    have : B = [] := List.eq_nil_of_length_eq_zero hB
    subst this
    refine ⟨v, ?_, by simpa using e, ReF.rf h24 b⟩
    rw [m_settle_3, if_pos (by rw [e24]; exact nI_le (by simp) (by omega))]
  | succ d ih =>
    intro A B f v hB e hf eQ h8 h24 b
    obtain ⟨q, rfl⟩ : ∃ q, f = q + 1 := ⟨f - 1, by omega⟩
    obtain ⟨e24, le⟩ := v24 h24 e
    obtain ⟨r, B, rfl⟩ : ∃ r B', B = r :: B' := by cases B with
      | nil => simp at hB
      | cons r B => exact ⟨r, B, rfl⟩
    simp only [List.length_cons] at hB le e24
    have he : (leL v)[A.length]? = some r := by rw [e]; simp
    obtain ⟨hk, er⟩ := le_lt he
    have hN := h24.2
    rw [m_settle_3, if_neg (by rw [e24]; exact nI_ge (by omega) (by omega)), im_ok h24 c n u he]
    have fin : ∀ (v1 : MV) (o : List R_le), leL v1 = A ++ o ++ B → (o = [] ∨ ∃ x, o = [x]) → ReF v v1 → ∃ v', m_settle_53 (fun x1 x2 x3 x4 x5 v => m_settle_3 q x1 x2 x3 x4 x5 v) c kk n u (nI A.length) (bit o.isEmpty) v1 = some ((), v') ∧ leL v' = A ++ (o ++ B.flatMap (gSE Q c n u (decide (kk = 2)))) ∧ ReF v v' := by
      intro v1 o y2 ho y3
      have q1 : quL v1 = Q := (quL_le y3).trans eQ
      have h81 := (h8.fr y3.1 (by decide)).1
      unfold m_settle_53
      rcases ho with z | ⟨x, z⟩
      · subst z
        obtain ⟨v', z1, z2, z3⟩ := ih A B q v1 (by omega) (by simpa using y2) (by omega) q1 h81 y3.2.1 y3.2.2
        refine ⟨v', ?_, by simpa using z2, y3.tr z3⟩
        rw [show ([] : List R_le).isEmpty = true from rfl, bit_t, if_neg (by decide), ltd, show nI A.length + 0 = nI A.length from Int32.add_zero _]
        exact z1
      · subst z
        obtain ⟨v', z1, z2, z3⟩ := ih (A ++ [x]) B q v1 (by omega) y2 (by omega) q1 h81 y3.2.1 y3.2.2
        refine ⟨v', ?_, by simpa using z2, y3.tr z3⟩
        rw [show [x].isEmpty = false from rfl, bit_f, if_pos rfl, ltd, nI_1]
        rw [List.length_append] at z1
        exact z1
    rw [List.flatMap_cons]
    by_cases hc : r.2.2.1 = c ∧ cov n u r.2.2.2.1 = true
    · have eg : gSE Q c n u (decide (kk = 2)) r = if decide (kk = 2) = true then bk Q r else [] := by unfold gSE; rw [if_pos hc]
      show ∃ v', (if bit (decide (r.2.2.1 = c ∧ cov n u r.2.2.2.1 = true)) = 0 then _ else _) = _ ∧ _
      rw [decide_eq_true hc, bit_t, if_neg (by decide), eg]
      by_cases k2 : kk = 2
      · obtain ⟨v1, y1, y2, y3⟩ := gb_ok h8 h24 b e
        have hbk : bk (quL v) r = [] ∨ ∃ x, bk (quL v) r = [x] := by
          unfold bk
          split
          · exact .inr ⟨_, rfl⟩
          · exact .inl rfl
        obtain ⟨v', z1, z2, z3⟩ := fin v1 _ y2 hbk y3
        refine ⟨v', ?_, ?_, z3⟩
        · rw [if_pos k2, y1]; exact z1
        · rw [if_pos (decide_eq_true k2), ← eQ]; rw [← eQ] at z2; exact z2
      · obtain ⟨v1, y1, y2, y3, y4, y5, y6⟩ := le_rm h24 b hk
        obtain ⟨v', z1, z2, z3⟩ := fin v1 [] (by rw [y2, e, erase_mid]) (.inl rfl) ⟨y5, y3, y6⟩
        refine ⟨v', ?_, ?_, z3⟩
        · rw [if_neg k2, y1]; exact z1
        · rw [if_neg (by simp [k2])]; exact z2
    · have eg : gSE Q c n u (decide (kk = 2)) r = [r] := by unfold gSE; rw [if_neg hc]
      show ∃ v', (if bit (decide (r.2.2.1 = c ∧ cov n u r.2.2.2.1 = true)) = 0 then _ else _) = _ ∧ _
      rw [decide_eq_false hc, bit_f, if_pos rfl, eg]
      exact fin v [r] (by simpa using e) (.inr ⟨r, rfl⟩) (ReF.rf h24 b)
theorem se_ok (c kk n u : Int32) (h8 : CV v 8 5) (h24 : CV v 24 24) (b : Bo v 30) : ∃ v', m_settle c kk n u v = some ((), v') ∧ leL v' = (leL v).flatMap (gSE (quL v) c n u (decide (kk = 2))) ∧ ReF v v' := by
  have := h24.2
  obtain ⟨v', z1, z2, z3⟩ := se_l (quL v) c kk n u (leL v).length [] (leL v) FU v rfl rfl (by rw [leL_len]; unfold FU; omega) rfl h8 h24 b
  exact ⟨v', z1, by simpa using z2, z3⟩
end Ml
/-- the reference's own facts stay when its letters change so -/
def LeOk (v : MV) (r r' : R_le) : Prop := r'.1 = r.1 ∧ r'.2.1 = r.2.1 ∧ (r'.2.2.1 = r.2.2.1 ∨ (r'.2.2.1 = 0 ∧ ∃ x ∈ quL v, x.2.1 = r.2.1) ∨ ∃ c, 1 ≤ c ∧ c ≤ 3 ∧ r'.2.2.1 = nI c ∧ v.2.1 35 c = 1)
theorem VI.le {v v' : MV} {t : Nat} (i : VI v t) (f : ReF v v') (H : ∀ r' ∈ leL v', ∃ r ∈ leL v, LeOk v r r') : VI v' t := by
  obtain ⟨⟨a1, a2, a3, a4, a5, a6⟩, ⟨n, b1, b2, b3, b4, b5, m, b6, b7, b8⟩, ⟨c1, c2, c3, c4, c5, c6, c7⟩, d, e0, e⟩ := i
  obtain ⟨f1, f2, f3⟩ := f
  have q := quL_le ⟨f1, f2, f3⟩
  refine ⟨⟨(a1.fr f1 (by decide)).1, (a2.fr f1 (by decide)).1, (a3.fr f1 (by decide)).1, (a4.fr f1 (by decide)).1, f2, ?_⟩, ⟨n, ?_, b2, ?_, ?_, ?_, m, ?_, b7, ?_⟩, ⟨c1.fr f1 (by decide), f3, c3.fr f1 (by decide), c4.fr f1 (by decide), c5.fr f1 (by decide), c6.fr f1 (by decide), c7.fr f1 (by decide)⟩, ?_, ?_, ?_⟩
  · rw [q, exL_le ⟨f1, f2, f3⟩, coL_le ⟨f1, f2, f3⟩]; exact a6
  · rw [f1.1 9 (by decide)]; exact b1
  · rw [q]; exact b3
  · rw [coL_le ⟨f1, f2, f3⟩]; exact b4
  · intro r' hr'
    obtain ⟨r, hr, h1, h2, -⟩ := H r' hr'
    rw [h2]; exact b5 r hr
  · rw [f1.1 25 (by decide)]; exact b6
  · intro r' hr'
    obtain ⟨r, hr, h1, h2, -⟩ := H r' hr'
    rw [h1]; exact b8 r hr
  · intro r' hr'
    obtain ⟨r, hr, h1, h2, h3⟩ := H r' hr'
    rw [q, h2]
    rcases h3 with z | ⟨z1, z2⟩ | ⟨c, z1, z2, z3, z4⟩
    · rw [z]; exact d r hr
    · exact ⟨⟨0, by omega, z1⟩, fun _ => z2⟩
    · exact ⟨⟨c, z2, z3⟩, fun y => by rw [z3] at y; exact absurd y.symm (ne0c z1 z2)⟩
  · rw [(f1.2 35 (by decide)).1]; exact e0
  · intro c h1 h2
    rw [(f1.2 35 (by decide)).1, (f1.2 36 (by decide)).1, (f1.2 38 (by decide)).1, (f1.2 39 (by decide)).1, (f1.2 40 (by decide)).1, (f1.2 47 (by decide)).1, coL_le ⟨f1, f2, f3⟩]
    obtain ⟨g1, g2, g3, g4, g5⟩ := e c h1 h2
    refine ⟨g1, g2, g3, g4, fun hs => ?_⟩
    obtain ⟨k1, k2, k3, k4, k5⟩ := g5 hs
    refine ⟨k1, k2, k3, k4, fun r' hr' z => ?_⟩
    obtain ⟨r, hr, -, -, h3⟩ := H r' hr'
    rcases h3 with y | ⟨y, -⟩ | ⟨c', y1, y2, y3, y4⟩
    · exact k5 r hr (by rw [← y]; exact z)
    · rw [y] at z; exact ne0c h1 h2 z
    · rw [y3] at z
      rw [nI_inj3 y2 h2 z] at y4
      exact hs y4
theorem bk_ok {v : MV} {r r' : R_le} (h : r' ∈ bk (quL v) r) : LeOk v r r' := by
  unfold bk at h
  split at h
  · rename_i z
    simp at h
    rw [h]
    obtain ⟨x, hx, e⟩ := List.any_eq_true.mp z
    exact ⟨rfl, rfl, .inr (.inl ⟨rfl, x, hx, by simpa using e⟩)⟩
  · simp at h
theorem fm_ok {v v' : MV} {g : R_le → List R_le} (e : leL v' = (leL v).flatMap g) (H : ∀ r r', r' ∈ g r → r' = r ∨ r' ∈ bk (quL v) r) : ∀ r' ∈ leL v', ∃ r ∈ leL v, LeOk v r r' := by
  intro r' hr'
  rw [e] at hr'
  obtain ⟨r, h1, h2⟩ := List.mem_flatMap.mp hr'
  refine ⟨r, h1, ?_⟩
  rcases H r r' h2 with z | z
  · rw [z]; exact ⟨rfl, rfl, .inl rfl⟩
  · exact bk_ok z
theorem gAB_m {Q : List R_qu} {c : Int32} {r r' : R_le} (h : r' ∈ gAB Q c r) : r' = r ∨ r' ∈ bk Q r := by
  unfold gAB at h
  split at h
  · exact .inr h
  · simp at h; exact .inl h
theorem gSE_m {Q : List R_qu} {c n u : Int32} {b : Bool} {r r' : R_le} (h : r' ∈ gSE Q c n u b r) : r' = r ∨ r' ∈ bk Q r := by
  unfold gSE at h
  split at h
  · split at h
    · exact .inr h
    · simp at h
  · simp at h; exact .inl h

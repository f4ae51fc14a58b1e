/-! ===== which queues a letter comes to ===== -/
def nmB (x : Int64) : List Nat := (by8 x).dropWhile (fun b => b == 0)
theorem nmB_eq {l : List Nat} (h8 : l.length ≤ 8) (hn : NmL l) : nmB (lN (pkN l)) = l := by
  unfold nmB
  rw [by8_eq h8 hn, List.dropWhile_append_of_pos (fun a ha => by have := List.eq_of_mem_replicate ha; rw [this]; rfl)]
  cases l with
  | nil => rfl
  | cons b l =>
    have := hn b (by simp)
    rw [List.dropWhile_cons_of_neg]
    simp
    omega
theorem NmO.b {x : Int64} (h : NmO x) : (nmB x).length ≤ 8 ∧ NmL (nmB x) ∧ x = lN (pkN (nmB x)) := by
  obtain ⟨l, h1, h2, h3⟩ := h
  rw [h3, nmB_eq h1 h2]
  exact ⟨h1, h2, rfl⟩
def wdX (x : Int64) : List (List Nat) := wdB (nmB x)
/-- does a binding's key fit a letter's, by the exchange's kind -/
def ft (k : Int32) (pat key : Int64) : Bool := if k = 2 then mt (wdX pat) (wdX key) else decide (k = 1) || decide (key = pat)
def kOf (E : List R_ex) (e : Int64) : Int32 := ((E.find? (fun r => decide (r.1 = e))).map (fun r => r.2)).getD 0
def rch (E : List R_ex) (B : List R_bi) (n e k : Int64) : Bool := if e = 0 then decide (k = n) else B.any (fun r => decide (r.1 = n) && (decide (r.2.1 = e) && ft (kOf E e) r.2.2 k))
theorem find_nd {E : List R_ex} (n : (E.map (fun r => r.1)).Nodup) {i : Nat} {x : R_ex} (h : E[i]? = some x) : E.find? (fun r => decide (r.1 = x.1)) = some x := by
  cases hf : E.find? (fun r => decide (r.1 = x.1)) with
  | none =>
    have := List.find?_eq_none.mp hf x (List.mem_of_getElem? h)
    simp at this
  | some y =>
    have p := List.find?_some hf
    have m := List.mem_of_find?_eq_some hf
    obtain ⟨j, hj, e⟩ := List.mem_iff_getElem.mp m
    simp at p
    have hj' : E[j]? = some y := by rw [List.getElem?_eq_getElem hj, e]
    have := Nodup.idx n (map_get hj') (by rw [p]; exact map_get h)
    subst this
    rw [hj'] at h
    exact h
theorem kOf_e {E : List R_ex} (n : (E.map (fun r => r.1)).Nodup) {i : Nat} {x : R_ex} (h : E[i]? = some x) : kOf E x.1 = x.2 := by
  unfold kOf
  rw [find_nd n h]
  rfl
/-- the class asks a binding -/
theorem ftC_ok {h : AH} {a d e : Nat} {ek : Int32} {pat key : Int64} (k1 : kd h a = 1) (k5 : kd h d = 5) (re : gR h a 1 = some e) (ke : kd h e = 6) (he : gI h e 1 = ek) (rw1' : gR h a 3 = some (a + 1)) (rw2' : gR h d 3 = some (d + 1)) (w1 : WdR h (a + 1) pat) (w2 : WdR h (d + 1) key) (n1 : NmO pat) (n2 : NmO key) (j1 : gJ h a 2 = pat) (j2 : gJ h d 1 = key) : f_X0_fits a (some d) h = some (bit (ft ek pat key), h) := by
  obtain ⟨p1, p2, p3⟩ := n1.b
  obtain ⟨q1, q2, q3⟩ := n2.b
  unfold f_X0_fits ft
  rw [rdR_e k1, re, nn_s, rdI_e ke, he]
  by_cases c : ek = 2
  · rw [if_pos c, if_pos c]
    refine fitC_ok ⟨k1, rw1', k5, rw2', ⟨pat, w1, ?_⟩, ⟨key, w2, ?_⟩, (wdB_len p1).1, (wdB_len q1).1, wdB_ok p1 p2, wdB_ok q1 q2⟩
    · conv => lhs; rw [p3]
      exact wdN_eq p1 p2
    · conv => lhs; rw [q3]
      exact wdN_eq q1 q2
  · rw [if_neg c, if_neg c, rdR_e k1, re, nn_s, rdI_e ke, he]
    by_cases c1 : ek = 1
    · rw [if_pos c1, decide_eq_true c1]
      rfl
    · rw [if_neg c1, nn_s, rdJ_e k5, j2, rdJ_e k1, j1, decide_eq_false c1, Bool.false_or]
      by_cases c2 : key = pat
      · rw [if_pos (cmp_eq.mpr c2), decide_eq_true c2]; rfl
      · rw [if_neg (fun z => c2 (cmp_eq.mp z)), decide_eq_false c2]; rfl
/-- what a letter needs of its draft -/
def DrK (h : AH) (d : Nat) (e k : Int64) : Prop := kd h d = 5 ∧ gJ h d 0 = e ∧ gJ h d 1 = k ∧ gR h d 3 = some (d + 1) ∧ WdR h (d + 1) k ∧ NmO e ∧ NmO k
theorem reC_l {h : AH} {bs xs qs : List Nat} {E : List R_ex} {Q : List R_qu} {B : List R_bi} {iq q d : Nat} {x : R_qu} {e k : Int64} (w : Wf h) (s : Sk h) (l : LI h 12 bs) (r : F2 (BiR h xs qs E Q) bs B) (rx : F2 (ExR h) xs E) (n1 : qs.Nodup) (n2 : (Q.map (fun r => r.1)).Nodup) (n4 : (E.map (fun r => r.1)).Nodup) (kq : ∀ a ∈ qs, kd h a = 11) (q1 : qs[iq]? = some q) (q2 : Q[iq]? = some x) (dk : DrK h d e k) : ∀ (n i f : Nat), i + n = bs.length → n < f → f_X8_reaches_29 f 9 (some d) (some q) (nI i) h = some (bit ((B.drop i).any (fun r => decide (r.1 = x.1) && (decide (r.2.1 = e) && ft (kOf E e) r.2.2 k))), h) := by
  have hl := l.len
  have k9 := s.k9
  have r9 : gR h 9 2 = some 12 := s.r9 (by decide)
  obtain ⟨d1, d2, d3, d4, d5, d6, d7⟩ := dk
  intro n
  induction n with
  | zero =>
    intro i f hi hf
    obtain ⟨g, rfl⟩ : ∃ g, f = g + 1 := ⟨f - 1, by omega⟩
    rw [f_X8_reaches_29, szL r9 k9 l, if_pos (nI_le (by omega) (by omega)), r.drop0 (by omega)]
    rfl
  | succ n ih =>
    intro i f hi hf
    obtain ⟨g, rfl⟩ : ∃ g, f = g + 1 := ⟨f - 1, by omega⟩
    obtain ⟨a, b, p1, p2, p3, p4⟩ := r.drop (show i < bs.length by omega)
    obtain ⟨q', a1, a2, a3⟩ := p3.q n1 n2 q1 q2
    obtain ⟨c1, c2, c3, c4, c5, -, j, e', y, c6, c7, c8, c9⟩ := p3
    have rex := rx.2 j e' y c6 c7
    rw [f_X8_reaches_29, szL r9 k9 l, if_neg (nI_ge (by omega) (by omega)), gtL r9 k9 l (by omega), p1, ckc_e c1, nn_s, rdR_e c1, a1, p4, List.any_cons, aq_i w (kq q' a2) (kq q (List.mem_of_getElem? q1)) (by decide) (by decide)]
    have next : f_X8_reaches_93 (fun a0 r1 r2 x3 h => f_X8_reaches_29 g a0 r1 r2 x3 h) 9 (some d) (some q) (nI i) h = some (bit ((B.drop (i + 1)).any (fun r => decide (r.1 = x.1) && (decide (r.2.1 = e) && ft (kOf E e) r.2.2 k))), h) := by
      unfold f_X8_reaches_93
      rw [nI_1]
      exact ih (i + 1) g (by omega) (by omega)
    by_cases e1 : q' = q
    · rw [if_pos e1, decide_eq_true (a3.mp e1), Bool.true_and, rdR_e c1, c8, nn_s, rdJ_e rex.1, rex.2.1, nn_s, rdJ_e d1, d2]
      by_cases e2 : y.1 = e
      · have e3 : b.2.1 = e := c9.symm.trans e2
        have ko : kOf E e = y.2 := by rw [← e2]; exact kOf_e n4 c7
        rw [if_pos (cmp_eq.mpr e2), decide_eq_true e3, Bool.true_and, ko, kg_e c1, ftC_ok c1 d1 c8 rex.1 rex.2.2 c3 d4 c4 d5 c5 d7 c2 d3, bd_s]
        cases ft y.2 b.2.2 k with
        | true => rw [if_neg (by decide)]; rfl
        | false => rw [if_pos bit_f, next, Bool.false_or]; rw [ko]
      · have e3 : ¬ b.2.1 = e := fun z => e2 (c9.trans z)
        rw [if_neg (fun z => e2 (cmp_eq.mp z)), decide_eq_false e3, Bool.false_and, Bool.false_or, next]
    · have e' : ¬ b.1 = x.1 := fun z => e1 (a3.mpr z)
      rw [if_neg e1, decide_eq_false e', Bool.false_and, Bool.false_or, next]
theorem reC_ok {h : AH} {bs xs qs : List Nat} {E : List R_ex} {Q : List R_qu} {B : List R_bi} {iq q d : Nat} {x : R_qu} {e k : Int64} (w : Wf h) (s : Sk h) (l : LI h 12 bs) (r : F2 (BiR h xs qs E Q) bs B) (rx : F2 (ExR h) xs E) (rq : F2 (QuR h) qs Q) (n1 : qs.Nodup) (n2 : (Q.map (fun r => r.1)).Nodup) (n4 : (E.map (fun r => r.1)).Nodup) (q1 : qs[iq]? = some q) (q2 : Q[iq]? = some x) (dk : DrK h d e k) : f_X8_reaches 9 (some d) (some q) h = some (bit (rch E B x.1 e k), h) := by
  have kq : ∀ a ∈ qs, kd h a = 11 := fun a ha => by
    obtain ⟨y, -, z⟩ := rq.ofL ha
    exact z.1
  have hq := rq.2 iq q x q1 q2
  have hl := l.len
  unfold f_X8_reaches rch
  rw [nn_s, rdJ_e dk.1, dk.2.1]
  by_cases c : e = 0
  · rw [if_pos (cmp_eq.mpr c), if_pos c, rdJ_e dk.1, dk.2.2.1, nn_s, rdJ_e hq.1, hq.2.1]
    by_cases c2 : k = x.1
    · rw [if_pos (cmp_eq.mpr c2), decide_eq_true c2]; rfl
    · rw [if_neg (fun z => c2 (cmp_eq.mp z)), decide_eq_false c2]; rfl
  · rw [if_neg (fun z => c (cmp_eq.mp z)), if_neg c]
    have := reC_l w s l r rx n1 n2 n4 kq q1 q2 dk bs.length 0 FU (by omega) (by unfold FU; omega)
    rw [nI_0, List.drop_zero] at this
    exact this
/-- the reference's way to the same -/
def F3 (v v' : MV) : Prop := Fr v v' [] [58, 59, 60] ∧ Bo v' 60
theorem F3.rf {v : MV} (b : Bo v 60) : F3 v v := ⟨(Fr.rf v).mono (by simp) (by simp), b⟩
theorem F3.tr {a b c : MV} (f : F3 a b) (g : F3 b c) : F3 a c := ⟨(f.1.tr g.1).mono (by simp) (by simp), g.2⟩
theorem bi_at {v : MV} {k : Nat} (hk : k < cN v 13) : (biL v)[k]? = some (v.2.2 14 k, v.2.2 15 k, v.2.2 16 k) := lst_get _ hk
theorem reM_l {v0 : MV} {iq ie : Nat} {x : R_qu} {y : R_ex} {k : Int64} (h13 : CV v0 13 12) (h8 : CV v0 8 5) (h5 : CV v0 5 6) (nk : NmO k) (nb : ∀ r ∈ biL v0, NmO r.2.2) (q2 : (quL v0)[iq]? = some x) (e2 : (exL v0)[ie]? = some y) (k2 : ∃ n, n ≤ 2 ∧ y.2 = nI n) : ∀ (d i f : Nat) (a : Bool) (v : MV), i + d = cN v0 13 → d < f → F3 v0 v → ∃ v', m_reaches_33 f (nI iq) (nI ie) k (bit a) (nI i) v = some (bit (a || ((biL v0).drop i).any (fun r => decide (r.1 = x.1) && (decide (r.2.1 = y.1) && ft y.2 r.2.2 k))), v') ∧ F3 v0 v' := by
  have hN := h13.2
  have hiq : iq < cN v0 8 := by
    by_cases c : iq < cN v0 8
    · exact c
    · rw [List.getElem?_eq_none (by rw [quL_len]; omega)] at q2; simp at q2
  have hie : ie < cN v0 5 := by
    by_cases c : ie < cN v0 5
    · exact c
    · rw [List.getElem?_eq_none (by rw [exL_len]; omega)] at e2; simp at e2
  have hN8 := h8.2
  have hN5 := h5.2
  have ex : x = (v0.2.2 10 iq, v0.2.1 11 iq, v0.2.1 12 iq) := by
    have : (quL v0)[iq]? = some (v0.2.2 10 iq, v0.2.1 11 iq, v0.2.1 12 iq) := lst_get _ hiq
    rw [this] at q2
    exact (Option.some.inj q2).symm
  have ey : y = (v0.2.2 6 ie, v0.2.1 7 ie) := by
    have : (exL v0)[ie]? = some (v0.2.2 6 ie, v0.2.1 7 ie) := lst_get _ hie
    rw [this] at e2
    exact (Option.some.inj e2).symm
  have x1 : v0.2.2 10 iq = x.1 := by rw [ex]
  have y1 : v0.2.2 6 ie = y.1 := by rw [ey]
  have y2 : v0.2.1 7 ie = y.2 := by rw [ey]
  obtain ⟨p1, p2, p3⟩ := nk.b
  intro d
  induction d with
  | zero =>
    intro i f a v hi hf F
    obtain ⟨g, rfl⟩ : ∃ g, f = g + 1 := ⟨f - 1, by omega⟩
    have hd : (biL v0).drop i = [] := List.drop_eq_nil_of_le (by rw [biL_len]; omega)
    refine ⟨v, ?_, F⟩
    rw [m_reaches_33, F.1.1 13 (by decide), if_pos (by rw [h13.1]; exact nI_le (by omega) (by omega)), hd, rz_b]
    simp
  | succ d ih =>
    intro i f a v hi hf F
    obtain ⟨g, rfl⟩ : ∃ g, f = g + 1 := ⟨f - 1, by omega⟩
    have hib : i < cN v0 13 := by omega
    have hr := bi_at (v := v0) hib
    have nbi := nb _ (List.mem_of_getElem? hr)
    have hd : (biL v0).drop i = (v0.2.2 14 i, v0.2.2 15 i, v0.2.2 16 i) :: (biL v0).drop (i + 1) := lst_drop _ hib
    generalize hb : (v0.2.2 14 i, v0.2.2 15 i, v0.2.2 16 i) = b at *
    have b1 : v0.2.2 14 i = b.1 := by rw [← hb]
    have b2 : v0.2.2 15 i = b.2.1 := by rw [← hb]
    have b3 : v0.2.2 16 i = b.2.2 := by rw [← hb]
    rw [hd, List.any_cons]
    have next : ∀ (t : Bool) (v1 : MV), F3 v0 v1 → ∃ v', m_reaches_150 (fun x1 x2 x3 x5 x6 v => m_reaches_33 g x1 x2 x3 x5 x6 v) (nI iq) (nI ie) k (nI i) (bit t) v1 = some (bit (t || ((biL v0).drop (i + 1)).any (fun r => decide (r.1 = x.1) && (decide (r.2.1 = y.1) && ft y.2 r.2.2 k))), v') ∧ F3 v0 v' := by
      intro t v1 F1
      unfold m_reaches_150
      rw [nI_1]
      exact ih (i + 1) g t v1 (by omega) (by omega) F1
    -- the kind decides
    have dec : ∀ s0 : Bool, s0 = (decide (b.1 = x.1) && decide (b.2.1 = y.1)) → ∃ v', m_reaches_81 (fun x1 x2 x3 x5 x6 v => m_reaches_33 g x1 x2 x3 x5 x6 v) (nI iq) (nI ie) k (bit a) (nI i) (bit s0) v = some (bit (a || ((decide (b.1 = x.1) && (decide (b.2.1 = y.1) && ft y.2 b.2.2 k)) || ((biL v0).drop (i + 1)).any (fun r => decide (r.1 = x.1) && (decide (r.2.1 = y.1) && ft y.2 r.2.2 k)))), v') ∧ F3 v0 v' := by
      intro s0 hs0
      unfold m_reaches_81
      rw [mrI_e (show ie < alen 7 from by show ie < 6; omega) (by decide), (F.1.2 7 (by decide)).1, y2, ← Bool.and_assoc, ← hs0]
      cases a with
      | true =>
        rw [if_neg (by decide)]
        obtain ⟨v', z1, z2⟩ := next true v F
        refine ⟨v', ?_, z2⟩
        rw [show (1 : Int32) = bit true from rfl, z1]
        rfl
      | false =>
        rw [if_pos bit_f]
        cases s0 with
        | false =>
          rw [if_pos bit_f]
          obtain ⟨v', z1, z2⟩ := next false v F
          refine ⟨v', ?_, z2⟩
          rw [show (0 : Int32) = bit false from rfl, z1]
          rfl
        | true =>
          rw [if_neg (by decide), Bool.true_and, Bool.false_or]
          obtain ⟨n, n2, hn⟩ := k2
          have yes : ∀ v1, F3 v0 v1 → ft y.2 b.2.2 k = true → ∃ v', m_reaches_150 (fun x1 x2 x3 x5 x6 v => m_reaches_33 g x1 x2 x3 x5 x6 v) (nI iq) (nI ie) k (nI i) 1 v1 = some (bit (ft y.2 b.2.2 k || ((biL v0).drop (i + 1)).any (fun r => decide (r.1 = x.1) && (decide (r.2.1 = y.1) && ft y.2 r.2.2 k))), v') ∧ F3 v0 v' := by
            intro v1 F1 e
            obtain ⟨v', z1, z2⟩ := next true v1 F1
            refine ⟨v', ?_, z2⟩
            rw [show (1 : Int32) = bit true from rfl, z1, e]
          have no : ∀ v1, F3 v0 v1 → ft y.2 b.2.2 k = false → ∃ v', m_reaches_150 (fun x1 x2 x3 x5 x6 v => m_reaches_33 g x1 x2 x3 x5 x6 v) (nI iq) (nI ie) k (nI i) 0 v1 = some (bit (ft y.2 b.2.2 k || ((biL v0).drop (i + 1)).any (fun r => decide (r.1 = x.1) && (decide (r.2.1 = y.1) && ft y.2 r.2.2 k))), v') ∧ F3 v0 v' := by
            intro v1 F1 e
            obtain ⟨v', z1, z2⟩ := next false v1 F1
            refine ⟨v', ?_, z2⟩
            rw [show (0 : Int32) = bit false from rfl, z1, e]
          by_cases c1 : y.2 = 1
          · rw [if_pos c1]
            exact yes v F (by unfold ft; rw [if_neg (by rw [c1]; decide), decide_eq_true c1]; rfl)
          · rw [if_neg c1]
            by_cases c0 : y.2 = 0
            · rw [if_pos c0, mrJ_e (show i < alen 16 from by show i < 12; omega) (by decide), (F.1.2 16 (by decide)).2, b3]
              have fe : ft y.2 b.2.2 k = decide (k = b.2.2) := by unfold ft; rw [if_neg (by rw [c0]; decide), decide_eq_false c1, Bool.false_or]
              by_cases c3 : b.2.2 = k
              · rw [if_pos (cmp_eq.mpr c3)]
                exact yes v F (by rw [fe]; exact decide_eq_true c3.symm)
              · rw [if_neg (fun z => c3 (cmp_eq.mp z))]
                unfold m_reaches_124
                rw [if_neg (by rw [c0]; decide)]
                exact no v F (by rw [fe]; exact decide_eq_false (fun z => c3 z.symm))
            · rw [if_neg c0]
              have c2 : y.2 = 2 := by
                have : n = 0 ∨ n = 1 ∨ n = 2 := by omega
                rcases this with e | e | e
                · rw [e] at hn; exact absurd hn c0
                · rw [e] at hn; exact absurd hn c1
                · rw [e] at hn; exact hn
              unfold m_reaches_124
              rw [if_pos c2, mrJ_e (show i < alen 16 from by show i < 12; omega) (by decide), (F.1.2 16 (by decide)).2, b3]
              obtain ⟨o1, o2, o3⟩ := nbi.b
              obtain ⟨v1, m1, m2, m3⟩ := fitM_ok p1 p2 o1 o2 F.2
              rw [← p3, ← o3] at m1
              rw [m1, bdm_s]
              have F1 : F3 v0 v1 := F.tr ⟨m3, m2⟩
              have fe : ft y.2 b.2.2 k = mt (wdB (nmB b.2.2)) (wdB (nmB k)) := by unfold ft wdX; rw [if_pos c2]
              cases hmt : mt (wdB (nmB b.2.2)) (wdB (nmB k)) with
              | true => rw [if_neg (by decide)]; exact yes v1 F1 (by rw [fe, hmt])
              | false => rw [if_pos bit_f]; exact no v1 F1 (by rw [fe, hmt])
    rw [m_reaches_33, F.1.1 13 (by decide), if_neg (by rw [h13.1]; exact nI_ge (by omega) (by omega)), mrJ_e (show i < alen 14 from by show i < 12; omega) (by decide), (F.1.2 14 (by decide)).2, b1, mrJ_e (show iq < alen 10 from by show iq < 5; omega) (by decide), (F.1.2 10 (by decide)).2, x1]
    by_cases c1 : b.1 = x.1
    · rw [if_pos (cmp_eq.mpr c1), mrJ_e (show i < alen 15 from by show i < 12; omega) (by decide), (F.1.2 15 (by decide)).2, b2, mrJ_e (show ie < alen 6 from by show ie < 6; omega) (by decide), (F.1.2 6 (by decide)).2, y1]
      by_cases c2 : b.2.1 = y.1
      · rw [if_pos (cmp_eq.mpr c2)]
        exact dec true (by rw [decide_eq_true c1, decide_eq_true c2]; rfl)
      · rw [if_neg (fun z => c2 (cmp_eq.mp z))]
        exact dec false (by rw [decide_eq_false c2, Bool.and_false])
    · rw [if_neg (fun z => c1 (cmp_eq.mp z))]
      exact dec false (by rw [decide_eq_false c1]; rfl)
theorem fi_some {α : Type} {l : List α} {p : α → Bool} {i : Nat} (h : l.findIdx? p = some i) : ∃ a, l[i]? = some a ∧ p a = true := by
  obtain ⟨h1, h2, -⟩ := List.findIdx?_eq_some_iff_getElem.mp h
  exact ⟨l[i], List.getElem?_eq_getElem h1, h2⟩
theorem fi_none {α : Type} {l : List α} {p : α → Bool} (h : l.findIdx? p = none) : ∀ a ∈ l, p a = false := fun a ha => by
  have := List.findIdx?_eq_none_iff.mp h a ha
  simpa using this
theorem fi_of {α : Type} {l : List α} {p : α → Bool} {a : α} (ha : a ∈ l) (hp : p a = true) : ∃ i, l.findIdx? p = some i := by
  cases h : l.findIdx? p with
  | some i => exact ⟨i, rfl⟩
  | none => rw [fi_none h a ha] at hp; exact absurd hp (by decide)
theorem fiR_s (i : Nat) : fiR 0 (some i) = nI i := by show nI (0 + i) = _; rw [Nat.zero_add]
theorem reM_ok {v0 v : MV} {iq : Nat} {x : R_qu} {e k : Int64} (h13 : CV v0 13 12) (h8 : CV v0 8 5) (h5 : CV v0 5 6) (nk : NmO k) (nb : ∀ r ∈ biL v0, NmO r.2.2) (bx : ∀ r ∈ biL v0, ∃ y ∈ exL v0, y.1 = r.2.1) (e0 : (exL v0)[0]? = some (0, 0)) (nd : ((exL v0).map (fun r => r.1)).Nodup) (ks : ∀ r ∈ exL v0, ∃ n, n ≤ 2 ∧ r.2 = nI n) (q2 : (quL v0)[iq]? = some x) (F : F3 v0 v) : ∃ v', m_reaches (nI iq) (fiR 0 ((exL v0).findIdx? (fun r => decide (r.1 = e)))) k v = some (bit (rch (exL v0) (biL v0) x.1 e k), v') ∧ F3 v0 v' := by
  have hN5 := h5.2
  have hN8 := h8.2
  have hN13 := h13.2
  have hiq : iq < cN v0 8 := by
    by_cases c : iq < cN v0 8
    · exact c
    · rw [List.getElem?_eq_none (by rw [quL_len]; omega)] at q2; simp at q2
  have x1 : v0.2.2 10 iq = x.1 := by
    have : (quL v0)[iq]? = some (v0.2.2 10 iq, v0.2.1 11 iq, v0.2.1 12 iq) := lst_get _ hiq
    rw [this] at q2
    rw [← Option.some.inj q2]
  unfold m_reaches rch
  cases hf : (exL v0).findIdx? (fun r => decide (r.1 = e)) with
  | none =>
    have no := fi_none hf
    have ne : e ≠ 0 := fun z => by
      have := no _ (List.mem_of_getElem? e0)
      rw [z] at this
      simp at this
    refine ⟨v, ?_, F⟩
    show (if (0 : Int32) ≤ -1 then _ else _) = _
    rw [if_neg (by decide), if_neg ne]
    have : (biL v0).any (fun r => decide (r.1 = x.1) && (decide (r.2.1 = e) && ft (kOf (exL v0) e) r.2.2 k)) = false := by
      rw [List.any_eq_false]
      intro r hr
      obtain ⟨y, y1, y2⟩ := bx r hr
      have := no y y1
      rw [y2] at this
      simp at this
      simp [this]
    rw [this]
    rfl
  | some i =>
    obtain ⟨y, y1, y2⟩ := fi_some hf
    simp at y2
    have hie : i < cN v0 5 := by
      by_cases c : i < cN v0 5
      · exact c
      · rw [List.getElem?_eq_none (by rw [exL_len]; omega)] at y1; simp at y1
    rw [fiR_s, if_pos (nI_pos' (by omega))]
    by_cases c : i = 0
    · subst c
      rw [e0] at y1
      have ey : e = 0 := by rw [← y2, ← Option.some.inj y1]
      refine ⟨v, ?_, F⟩
      rw [if_pos nI_0, if_pos ey, mrJ_e (show iq < alen 10 from by show iq < 5; omega) (by decide), (F.1.2 10 (by decide)).2, x1]
      by_cases c2 : x.1 = k
      · rw [if_pos (cmp_eq.mpr c2), decide_eq_true c2.symm]; rfl
      · rw [if_neg (fun z => c2 (cmp_eq.mp z)), decide_eq_false (fun z => c2 z.symm)]; rfl
    · have ne : e ≠ 0 := fun z => c (by
        have m1 := map_get (f := fun r : R_ex => r.1) y1
        have m0 := map_get (f := fun r : R_ex => r.1) e0
        rw [y2, z] at m1
        exact Nodup.idx nd m1 m0)
      obtain ⟨v', z1, z2⟩ := reM_l h13 h8 h5 nk nb q2 y1 (ks y (List.mem_of_getElem? y1)) (cN v0 13) 0 FU false v (by omega) (by unfold FU; omega) F
      refine ⟨v', ?_, z2⟩
      have ko : kOf (exL v0) e = y.2 := by rw [← y2]; exact kOf_e nd y1
      rw [if_neg (nI_ne0 (by omega) (by omega)), if_neg ne, ko]
      rw [nI_0, List.drop_zero, Bool.false_or, y2] at z1
      exact z1
/-- the reference counts them -/
def rcL (E : List R_ex) (B : List R_bi) (Q : List R_qu) (e k : Int64) : List Bool := Q.map (fun x => rch E B x.1 e k)
theorem rcL_len {E : List R_ex} {B : List R_bi} {Q : List R_qu} {e k : Int64} : (rcL E B Q e k).length = Q.length := by simp [rcL]
theorem cntM_l {v0 : MV} {e k : Int64} {c : Int32} {m : Int32} {sz : Int32} {ct : Int64} (h13 : CV v0 13 12) (h8 : CV v0 8 5) (h5 : CV v0 5 6) (nk : NmO k) (nb : ∀ r ∈ biL v0, NmO r.2.2) (bx : ∀ r ∈ biL v0, ∃ y ∈ exL v0, y.1 = r.2.1) (e0 : (exL v0)[0]? = some (0, 0)) (nd : ((exL v0).map (fun r => r.1)).Nodup) (ks : ∀ r ∈ exL v0, ∃ n, n ≤ 2 ∧ r.2 = nI n) : ∀ (d i f n : Nat) (v : MV), i + d = cN v0 8 → d < f → F3 v0 v → ∃ v', m_route_13 f c e k m sz ct (fiR 0 ((exL v0).findIdx? (fun r => decide (r.1 = e)))) (nI n) (nI i) v = m_route_51 c e k m sz ct (fiR 0 ((exL v0).findIdx? (fun r => decide (r.1 = e)))) (nI (n + ((rcL (exL v0) (biL v0) (quL v0) e k).drop i).countP id)) v' ∧ F3 v0 v' := by
  have hN8 := h8.2
  intro d
  induction d with
  | zero =>
    intro i f n v hi hf F
    obtain ⟨g, rfl⟩ : ∃ g, f = g + 1 := ⟨f - 1, by omega⟩
    refine ⟨v, ?_, F⟩
    have hd : (rcL (exL v0) (biL v0) (quL v0) e k).drop i = [] := List.drop_eq_nil_of_le (by rw [rcL_len, quL_len]; omega)
    rw [m_route_13, F.1.1 8 (by decide), if_pos (by rw [h8.1]; exact nI_le (by omega) (by omega)), hd]
    rfl
  | succ d ih =>
    intro i f n v hi hf F
    obtain ⟨g, rfl⟩ : ∃ g, f = g + 1 := ⟨f - 1, by omega⟩
    have hiq : i < (quL v0).length := by rw [quL_len]; omega
    have q2 : (quL v0)[i]? = some (quL v0)[i] := List.getElem?_eq_getElem hiq
    obtain ⟨v1, z1, F1⟩ := reM_ok (e := e) h13 h8 h5 nk nb bx e0 nd ks q2 F
    have hd : (rcL (exL v0) (biL v0) (quL v0) e k).drop i = rch (exL v0) (biL v0) ((quL v0)[i]).1 e k :: (rcL (exL v0) (biL v0) (quL v0) e k).drop (i + 1) := by
      rw [List.drop_eq_getElem_cons (by rw [rcL_len]; exact hiq)]
      simp [rcL]
    rw [m_route_13, F.1.1 8 (by decide), if_neg (by rw [h8.1]; exact nI_ge (by omega) (by omega)), z1, bdm_s, hd, List.countP_cons]
    cases rch (exL v0) (biL v0) ((quL v0)[i]).1 e k with
    | false =>
      rw [if_pos bit_f]
      unfold m_route_42
      obtain ⟨v', a1, a2⟩ := ih (i + 1) g n v1 (by omega) (by omega) F1
      refine ⟨v', ?_, a2⟩
      rw [ltd, Int32.add_zero, nI_1]
      exact a1
    | true =>
      rw [if_neg (by decide)]
      unfold m_route_42
      obtain ⟨v', a1, a2⟩ := ih (i + 1) g (n + 1) v1 (by omega) (by omega) F1
      refine ⟨v', ?_, a2⟩
      rw [ltd, nI_1, nI_1]
      rw [show n + (((rcL (exL v0) (biL v0) (quL v0) e k).drop (i + 1)).countP id + if id true = true then 1 else 0) = n + 1 + ((rcL (exL v0) (biL v0) (quL v0) e k).drop (i + 1)).countP id by simp; omega]
      exact a1
/-- the class gathers them as bits -/
def bs5 : List Bool → Nat
  | [] => 0
  | b :: l => (if b then 1 else 0) + 2 * bs5 l
theorem bs5_bit : ∀ (l : List Bool) (i : Nat), (bs5 l).testBit i = l[i]?.getD false := by
  intro l
  induction l with
  | nil => intro i; simp [bs5]
  | cons b l ih =>
    intro i
    cases i with
    | zero => cases b <;> simp [bs5, Nat.testBit_zero] <;> omega
    | succ i =>
      rw [Nat.testBit_succ]
      have : bs5 (b :: l) / 2 = bs5 l := by cases b <;> simp [bs5] <;> omega
      rw [this, ih]
      simp
theorem bs5_snoc : ∀ (l : List Bool) (b : Bool), bs5 (l ++ [b]) = bs5 l + (if b then 1 else 0) * 2 ^ l.length := by
  intro l
  induction l with
  | nil => intro b; cases b <;> simp [bs5]
  | cons a l ih =>
    intro b
    show (if a then 1 else 0) + 2 * bs5 (l ++ [b]) = (if a then 1 else 0) + 2 * bs5 l + _
    rw [ih, List.length_cons, Nat.pow_succ, Nat.mul_add, Nat.add_assoc]
    congr 2
    cases b <;> simp
    omega
theorem bs5_lt : ∀ l : List Bool, bs5 l < 2 ^ l.length := by
  intro l
  induction l with
  | nil => decide
  | cons b l ih =>
    rw [List.length_cons, Nat.pow_succ]
    cases b <;> simp [bs5] <;> omega
def bcX (x0 : Int32) : Int32 :=
  let x_1 := x0 - (((x0.toUInt32 >>> ((1 : Int32).toUInt32 &&& Int32.toUInt32 31)).toInt32) &&& 1431655765)
  let x_2 := (x_1 &&& 858993459) + (((x_1.toUInt32 >>> ((2 : Int32).toUInt32 &&& Int32.toUInt32 31)).toInt32) &&& 858993459)
  let x_3 := (x_2 + ((x_2.toUInt32 >>> ((4 : Int32).toUInt32 &&& Int32.toUInt32 31)).toInt32)) &&& 252645135
  let x_4 := x_3 + ((x_3.toUInt32 >>> ((8 : Int32).toUInt32 &&& Int32.toUInt32 31)).toInt32)
  let x_5 := x_4 + ((x_4.toUInt32 >>> ((16 : Int32).toUInt32 &&& Int32.toUInt32 31)).toInt32)
  x_5 &&& 63
theorem bc_e (x : Int32) (h : AH) : f_J6_bitCount_0f7a4 x h = some (bcX x, h) := rfl
theorem bc_32 : ∀ n, n < 32 → bcX (nI n) = nI ((List.range 5).countP (fun i => n.testBit i)) := by decide
theorem bc_ok {l : List Bool} (h5 : l.length ≤ 5) : bcX (nI (bs5 l)) = nI (l.countP id) := by
  have lt := bs5_lt l
  have : 2 ^ l.length ≤ 2 ^ 5 := Nat.pow_le_pow_right (by decide) h5
  rw [bc_32 _ (by omega)]
  congr 1
  have e : ∀ i, (bs5 l).testBit i = l[i]?.getD false := bs5_bit l
  simp only [e]
  match l, h5 with
  | [], _ => rfl
  | [a], _ => cases a <;> rfl
  | [a, b], _ => cases a <;> cases b <;> rfl
  | [a, b, c], _ => cases a <;> cases b <;> cases c <;> rfl
  | [a, b, c, d], _ => cases a <;> cases b <;> cases c <;> cases d <;> rfl
  | [a, b, c, d, e], _ => cases a <;> cases b <;> cases c <;> cases d <;> cases e <;> rfl
  | a :: b :: c :: d :: e :: f :: l, h => simp at h
theorem or_new {a n : Nat} (ha : a < 2 ^ n) : a ||| 2 ^ n = a + 2 ^ n := by
  have := Nat.two_pow_add_eq_or_of_lt ha 1
  rw [Nat.mul_one] at this
  rw [Nat.or_comm, ← this, Nat.add_comm]
theorem plC_l {h : AH} {bs xs qs : List Nat} {E : List R_ex} {Q : List R_qu} {B : List R_bi} {d : Nat} {e k : Int64} (w : Wf h) (s : Sk h) (lq : LI h 11 qs) (l : LI h 12 bs) (r : F2 (BiR h xs qs E Q) bs B) (rx : F2 (ExR h) xs E) (rq : F2 (QuR h) qs Q) (n1 : qs.Nodup) (n2 : (Q.map (fun r => r.1)).Nodup) (n4 : (E.map (fun r => r.1)).Nodup) (q5 : qs.length ≤ 5) (dk : DrK h d e k) : ∀ (n i f : Nat), i + n = qs.length → n < f → f_X8_placesReachedBy_4 f 9 (some d) (nI (bs5 ((rcL E B Q e k).take i))) (nI i) h = some (nI (bs5 (rcL E B Q e k)), h) := by
  have k9 := s.k9
  have r9 : gR h 9 1 = some 11 := s.r9 (by decide)
  have rl : (rcL E B Q e k).length = qs.length := by rw [rcL_len, rq.1]
  intro n
  induction n with
  | zero =>
    intro i f hi hf
    obtain ⟨g, rfl⟩ : ∃ g, f = g + 1 := ⟨f - 1, by omega⟩
    rw [f_X8_placesReachedBy_4, szL r9 k9 lq, if_pos (nI_le (by omega) (by omega)), List.take_of_length_le (by omega)]
  | succ n ih =>
    intro i f hi hf
    obtain ⟨g, rfl⟩ : ∃ g, f = g + 1 := ⟨f - 1, by omega⟩
    obtain ⟨q, x, p1, p2, p3⟩ := rq.get (show i < qs.length by omega)
    have rt : (rcL E B Q e k)[i]? = some (rch E B x.1 e k) := by unfold rcL; rw [List.getElem?_map, p2]; rfl
    have tk : (rcL E B Q e k).take (i + 1) = (rcL E B Q e k).take i ++ [rch E B x.1 e k] := by rw [List.take_add_one, rt]; rfl
    have lk : ((rcL E B Q e k).take i).length = i := by rw [List.length_take]; omega
    have lt := bs5_lt ((rcL E B Q e k).take i)
    rw [lk] at lt
    have p5 : 2 ^ i ≤ 2 ^ 4 := Nat.pow_le_pow_right (by decide) (by omega)
    rw [f_X8_placesReachedBy_4, szL r9 k9 lq, if_neg (nI_ge (by omega) (by omega)), gtL r9 k9 lq (by omega), p1, ckc_e p3.1, kg_e k9, reC_ok w s l r rx rq n1 n2 n4 p1 p2 dk, bd_s]
    have nx := ih (i + 1) g (by omega) (by omega)
    rw [tk, bs5_snoc, lk] at nx
    unfold f_X8_placesReachedBy_44
    cases hb : rch E B x.1 e k with
    | false =>
      rw [if_pos bit_f, nI_1]
      rw [hb] at nx
      simpa using nx
    | true =>
      rw [hb] at nx
      rw [if_neg (by decide), ltd, nI_1, show (1 : Int32) = nI 1 by decide, bitPut (by omega) (by omega), Nat.one_mul, nI_or (by omega) (by omega), or_new lt]
      simpa using nx

/-! ===== a letter leaves a channel: it is gone, or it comes back to its queue ===== -/
theorem Srt.uniq {A B : List R_le} {r y : R_le} (s : Srt (A ++ r :: B)) (hy : y ∈ A ++ r :: B) (e : y.1 = r.1) : y = r := by
  obtain ⟨-, -, s3, s4, -⟩ := s.split
  rcases List.mem_append.mp hy with z | z
  · have := s3 y z; rw [e] at this; exact absurd this i32_lt_irrefl
  · rcases List.mem_cons.mp z with z | z
    · exact z
    · have := s4 y z; rw [e] at this; exact absurd this i32_lt_irrefl
theorem erase_perm {α : Type} {a : α} : ∀ {l : List α} {j : Nat}, l[j]? = some a → l.Perm (a :: l.eraseIdx j) := by
  intro l
  induction l with
  | nil => intro j h; simp at h
  | cons x l ih =>
    intro j h
    cases j with
    | zero => simp at h; subst h; simp
    | succ j =>
      simp at h
      rw [List.eraseIdx_cons_succ]
      exact ((ih h).cons x).trans (List.Perm.swap a x _)
theorem nI_inj3 {a b : Nat} (ha : a ≤ 3) (hb : b ≤ 3) (e : nI a = nI b) : a = b := (nI_eq (by omega) (by omega)).mp e
theorem cnt3 {hl : Nat → List Nat} {c j a : Nat} (p : Nat → Bool) (h1 : 1 ≤ c) (h2 : c ≤ 3) (e : (hl c)[j]? = some a) : (hl 1 ++ hl 2 ++ hl 3).countP p = (fu hl c ((hl c).eraseIdx j) 1 ++ fu hl c ((hl c).eraseIdx j) 2 ++ fu hl c ((hl c).eraseIdx j) 3).countP p + (if p a then 1 else 0) := by
  have k : (hl c).countP p = ((hl c).eraseIdx j).countP p + (if p a then 1 else 0) := by
    rw [(erase_perm e).countP_eq, List.countP_cons]
  simp only [List.countP_append]
  have : c = 1 ∨ c = 2 ∨ c = 3 := by omega
  rcases this with z | z | z <;> subst z <;> simp only [fu] <;> simp <;> omega
/-- what becomes of a letter that comes back -/
def bk (Q : List R_qu) (r : R_le) : List R_le := if Q.any (fun x => decide (x.2.1 = r.2.1)) then [(r.1, r.2.1, 0, r.2.2.2.1, 1, r.2.2.2.2.2)] else []
section Bk
variable {h h' : AH} {v : MV} {G : GH} {M A B : List R_le} {hl ws : Nat → List Nat} {X qs : List Nat} {Q : List R_qu} {a c j : Nat} {r : R_le}
theorem LtR.find (i : LtR h qs Q M ws hl) (h1 : 1 ≤ c) (h2 : c ≤ 3) (e : (hl c)[j]? = some a) : ∃ A r B, M = A ++ r :: B ∧ LeR h qs Q a r ∧ r.2.2.1 = nI c := by
  obtain ⟨rs, f, p⟩ := i.2.2 c h1 h2
  obtain ⟨hj, -⟩ := List.getElem?_eq_some_iff.mp e
  obtain ⟨a', r, e1, e2, e3⟩ := f.get hj
  rw [e] at e1
  cases e1
  have m := p.mem_iff.mp (List.mem_of_getElem? e2)
  obtain ⟨m1, m2⟩ := List.mem_filter.mp m
  obtain ⟨A, B, z⟩ := List.append_of_mem m1
  exact ⟨A, r, B, z, e3, by simpa [cH] using m2⟩
theorem LtR.rem (i : LtR h qs Q (A ++ r :: B) ws hl) (h1 : 1 ≤ c) (h2 : c ≤ 3) (e : (hl c)[j]? = some a) (ha : LeR h qs Q a r) (hc : r.2.2.1 = nI c) (f : LF h h' (a :: X)) (hX : XK h X [8, 5, 101]) : ∃ rs, F2 (LeR h' qs Q) ((hl c).eraseIdx j) rs ∧ rs.Perm (A.filter (cH (nI c)) ++ B.filter (cH (nI c))) := by
  obtain ⟨rs, f2, p⟩ := i.2.2 c h1 h2
  obtain ⟨hj, -⟩ := List.getElem?_eq_some_iff.mp e
  obtain ⟨a', r', e1, e2, e3⟩ := f2.get hj
  rw [e] at e1
  cases e1
  have m := (List.mem_filter.mp (p.mem_iff.mp (List.mem_of_getElem? e2))).1
  have er : r' = r := i.1.uniq m (by rw [← e3.2.1, ha.2.1])
  subst er
  have q : (rs.eraseIdx j).Perm (A.filter (cH (nI c)) ++ B.filter (cH (nI c))) := by
    have p2 := (erase_perm e2).symm.trans p
    rw [filT (by simp [cH, hc])] at p2
    exact List.Perm.cons_inv (p2.trans List.perm_middle)
  refine ⟨rs.eraseIdx j, ?_, q⟩
  refine keep1 (f2.erase j) ha (fun y hy => ?_) f hX
  rcases List.mem_append.mp (q.mem_iff.mp hy) with hy | hy
  · exact i.1.ne.1 y hy
  · exact i.1.ne.2 y hy
theorem qW_held (h1 : 1 ≤ c) (h2 : c ≤ 3) (hc : r.2.2.1 = nI c) (n : Int32) : qW n r = false := by
  have : nI c ≠ 0 := fun z => by
    have := (nI_eq (a := c) (b := 0) (by omega) (by omega)).mp z
    omega
  simp [qW, hc, this]
theorem cH_oth {c' : Nat} (h2 : c ≤ 3) (k2 : c' ≤ 3) (hc : r.2.2.1 = nI c) (ne : c' ≠ c) : cH (nI c') r = false := by
  have : nI c ≠ nI c' := fun z => ne (nI_inj3 h2 k2 z).symm
  simp [cH, hc, this]
theorem LtR.out {o : List R_le} {ws' : Nat → List Nat} (i : LtR h qs Q (A ++ r :: B) ws hl) (h1 : 1 ≤ c) (h2 : c ≤ 3) (e : (hl c)[j]? = some a) (ha : LeR h qs Q a r) (hc : r.2.2.1 = nI c) (f : LF h h' (a :: X)) (hX : XK h X [8, 5, 101]) (ho : o = [] ∨ ∃ r', o = [r'] ∧ r'.1 = r.1) (ho0 : ∀ r' ∈ o, r'.2.2.1 = 0) (HW : ∀ (j q : Nat) (x : R_qu), qs[j]? = some q → Q[j]? = some x → (o.filter (qW x.2.1) = [] ∧ ws' q = ws q) ∨ F2 (LeR h' qs Q) (ws' q) ((A ++ o ++ B).filter (qW x.2.1))) : LtR h' qs Q (A ++ o ++ B) ws' (fu hl c ((hl c).eraseIdx j)) := by
  have oc : ∀ c', 1 ≤ c' → c' ≤ 3 → o.filter (cH (nI c')) = [] := fun c' k1 k2 => by
    rw [List.filter_eq_nil_iff]
    intro y hy
    have : (0 : Int32) ≠ nI c' := fun z => by
      have := (nI_eq (a := 0) (b := c') (by omega) (by omega)).mp z
      omega
    simp [cH, ho0 y hy, this]
  refine i.upd ha f hX ho (fun j' q x k1 k2 => ?_) (fun c' k1 k2 => ?_)
  · rcases HW j' q x k1 k2 with ⟨z1, z2⟩ | z
    · exact .inl ⟨qW_held h1 h2 hc _, z1, z2⟩
    · exact .inr z
  · by_cases ec : c' = c
    · subst ec
      right
      obtain ⟨rs, z1, z2⟩ := i.rem h1 h2 e ha hc f hX
      refine ⟨rs, by rw [fu_s]; exact z1, ?_⟩
      rw [fil3, oc c' k1 k2, List.append_nil]
      exact z2
    · exact .inl ⟨cH_oth h2 k2 hc ec, oc c' k1 k2, fu_n ec⟩
/-- gone -/
theorem Cl.gone (C : Cl h v G (A ++ r :: B) hl) (h1 : 1 ≤ c) (h2 : c ≤ 3) (e : (hl c)[j]? = some a) (ha : LeR h (gQ G) (quL v) a r) (hc : r.2.2.1 = nI c) : Cl h v G (A ++ [] ++ B) (fu hl c ((hl c).eraseIdx j)) := by
  obtain ⟨c1, c2, c3, c4, c5⟩ := C
  refine ⟨c1, c2, c3, c4.out (X := []) (o := []) (ws' := gW G) h1 h2 e ha hc (LF.rf _ _) (by intro x hx; simp at hx) (.inl rfl) (by simp) (fun j' q x _ _ => .inl ⟨rfl, rfl⟩), fun q hq => ?_⟩
  have := c5 q hq
  rw [cnt3 _ h1 h2 e] at this
  omega
theorem tb_l {q : Nat} {l : List Nat} (kq : kd h q = 11) (rq : gR h q 1 = some (q + 1)) (i : LI h (q + 1) l) (h8 : ∀ x ∈ l, kd h x = 8) (ka : kd h a = 8) : ∀ (d p f : Nat), p + d = l.length → d < f → (∀ x n, n < p → l[n]? = some x → gI h x 2 < gI h a 2) → ∃ p', p' ≤ l.length ∧ f_X10_takeBack_7 f q (some a) (nI p) h = f_X10_takeBack_49 q (some a) (nI p') h ∧ (∀ x n, n < p' → l[n]? = some x → gI h x 2 < gI h a 2) ∧ ∀ x, l[p']? = some x → gI h a 2 ≤ gI h x 2 := by
  have hlen := i.len
  intro d
  induction d with
  | zero =>
    intro p f hp hf H
    obtain ⟨g, rfl⟩ : ∃ g, f = g + 1 := ⟨f - 1, by omega⟩
    refine ⟨p, by omega, ?_, H, fun x hx => ?_⟩
    · rw [f_X10_takeBack_7, szL rq kq i, if_pos (nI_le (by omega) (by omega))]
    · rw [List.getElem?_eq_none (by omega)] at hx; cases hx
  | succ d ih =>
    intro p f hp hf H
    obtain ⟨g, rfl⟩ : ∃ g, f = g + 1 := ⟨f - 1, by omega⟩
    have hlt : p < l.length := by omega
    obtain ⟨x, ex⟩ : ∃ x, l[p]? = some x := ⟨_, List.getElem?_eq_getElem hlt⟩
    have kx := h8 x (List.mem_of_getElem? ex)
    have un : f_X10_takeBack_7 (g + 1) q (some a) (nI p) h = if gI h a 2 ≤ gI h x 2 then f_X10_takeBack_49 q (some a) (nI p) h else f_X10_takeBack_7 g q (some a) (nI (p + 1)) h := by
      rw [f_X10_takeBack_7, szL rq kq i, if_neg (nI_ge (by omega) (by omega)), gtL rq kq i hlt, ex, ckc_e kx, nn_s, rdI_e kx, nn_s, rdI_e ka, nI_1]
    by_cases le : gI h a 2 ≤ gI h x 2
    · refine ⟨p, by omega, by rw [un, if_pos le], H, fun y hy => ?_⟩
      rw [ex] at hy; cases hy; exact le
    · obtain ⟨p', z1, z2, z3, z4⟩ := ih (p + 1) g (by omega) (by omega) (fun y n hn hy => by
        by_cases en : n = p
        · subst en; rw [ex] at hy; cases hy; exact Int32.not_le.mp le
        · exact H y n (by omega) hy)
      exact ⟨p', z1, by rw [un, if_neg le, z2], z3, z4⟩
theorem ins_mid {α : Type} (A B : List α) (x : α) : (A ++ B).insertIdx A.length x = A ++ x :: B := by
  induction A with
  | nil => simp
  | cons y A ih => simp [List.insertIdx_succ_cons, ih]
theorem LeR.back {q : Nat} (ha : LeR h qs Q a r) (f : LF h h' (a :: X)) (hX : XK h X [8, 5, 101]) (g2 : gI h' a 2 = gI h a 2) (g3 : gI h' a 3 = 1) (g4 : gI h' a 4 = gI h a 4) (gr : gR h' a = gR h a) : LeR h' qs Q a (r.1, r.2.1, 0, r.2.2.2.1, 1, r.2.2.2.2.2) := by
  obtain ⟨i1, i2, i3, i4, ⟨d, n, i5, i6, i7⟩, q, i8, i9, i10⟩ := ha
  have hx : XK h (a :: X) [5, 101] := fun x hx z => by
    rcases List.mem_cons.mp hx with e | e
    · rw [e, i1] at z; simp at z
    · exact hX x e (by simp at z ⊢; omega)
  exact ⟨f.kk i1 (by decide), g2.trans i2, g4.trans i3, g3, ⟨d, n, by rw [gr]; exact i5, i6, i7.fr f (hx.no i7.1 (by simp)) (hx.no i7.2.2.2.2.1.1 (by simp))⟩, q, by rw [gr]; exact i8, f.kk i9 (by decide), i10⟩
/-- back -/
theorem Cl.back (C : Cl h v G (A ++ r :: B) hl) (h1 : 1 ≤ c) (h2 : c ≤ 3) (e : (hl c)[j]? = some a) (ha : LeR h (gQ G) (quL v) a r) (hc : r.2.2.1 = nI c) : ∃ q h' l', gR h a 1 = some q ∧ kd h q = 11 ∧ f_X10_takeBack q (some a) h = some ((), h') ∧ Cl h' v (sW G q l') (A ++ bk (quL v) r ++ B) (fu hl c ((hl c).eraseIdx j)) ∧ Tr h h' [0, 8] 1 ∧ (∀ b, kd h b = 8 → gI h' b 4 = gI h b 4 ∧ gR h' b = gR h b) := by
  obtain ⟨c1, c2, c3, c4, c5⟩ := C
  have ka := ha.1
  have ha' := ha
  obtain ⟨-, i2, -, -, -, q, i8, i9, i10⟩ := ha'
  obtain ⟨m0, m1, m2, m3⟩ := c3.2.2.2.2.2 q i9
  have lf1 : LF h (sI h a 3 1) [a] := LF.fI
  have m2' : LI (sI h a 3 1) (q + 1) (gW G q) := m2.fr lf1 (by intro z; simp at z; rw [← z, m2.1] at ka; exact absurd ka (by decide))
  have hle : (gW G q).length ≤ 24 := by have := c5 q i9; omega
  have g2 : ∀ b, gI (sI h a 3 1) b 2 = gI h b 2 := fun b => by rw [gI_sI, if_neg (by simp)]
  have g4 : ∀ b, gI (sI h a 3 1) b 4 = gI h b 4 := fun b => by rw [gI_sI, if_neg (by simp)]
  obtain ⟨p, p1, p2, p3, p4⟩ := tb_l (h := sI h a 3 1) (a := a) (q := q) (l := gW G q) i9 m1 m2' m3 ka (gW G q).length 0 FU (by omega) (by unfold FU; omega) (fun x n hn => absurd hn (by omega))
  obtain ⟨h', e1, L, f2, w2, z1, z2, kx⟩ := m2'.addAt (x := a) (j := p) (c1.fI) (by omega) p1 (by show 0 < kd h a ∧ kd h a < 14; omega)
  have naq : a ≠ q + 1 := fun z => by rw [z, m2.1] at ka; exact absurd ka (by decide)
  have f : LF h h' (a :: [q + 1]) := lf1.trW f2 (by simp) (by simp)
  have hX : XK h [q + 1] [8, 5, 101] := by intro x hx z; simp at hx; rw [hx, m2.1] at z; simp at z
  have kpa : ∀ b, kd h b = 8 → Kp (sI h a 3 1) h' b := fun b hb => f2.kp hb (by decide) (by decide) (by intro z; simp at z; rw [z, m2.1] at hb; exact absurd hb (by decide))
  have k8 : ∀ b, kd h b = 8 → gI h' b 4 = gI h b 4 ∧ gR h' b = gR h b := fun b hb => ⟨by rw [(kpa b hb).2.2.1]; exact g4 b, (kpa b hb).2.2.2.2⟩
  have LA : LeR h' (gQ G) (quL v) a (r.1, r.2.1, 0, r.2.2.2.1, 1, r.2.2.2.2.2) := ha.back (q := q) f hX (by rw [(kpa a ka).2.2.1]; exact g2 a) (by rw [(kpa a ka).2.2.1, gI_sI, if_pos ⟨rfl, rfl⟩]) (k8 a ka).1 (k8 a ka).2
  refine ⟨q, h', (gW G q).insertIdx p a, i8, i9, ?_, ⟨w2, c2.fr f (by simp [ka, m2.1]), ?_, ?_, ?_⟩, ⟨f.kf (by simp [ka, m2.1]), z1, z2⟩, k8⟩
  · unfold f_X10_takeBack
    rw [nn_s, wrZ_e ka (.inr rfl)]
    show f_X10_takeBack_7 FU q (some a) (nI 0) (sI h a 3 1) = _
    rw [p2]
    unfold f_X10_takeBack_49
    rw [rdR_e (by exact i9), show gR (sI h a 3 1) q 1 = some (q + 1) from m1, nn_s, kg_e (by exact m2.1), e1, bd_s]
  · refine (c3.fr lf1 (by intro x hx z; simp at hx; rw [hx, ka] at z; simp at z) (fun q hq => hq)).w (by exact i9) f2 kx L (fun x hx => ?_)
    rcases (List.mem_insertIdx p1).mp hx with z | z
    · rw [z]; exact f.kk ka (by decide)
    · exact f.kk (m3 x z) (by decide)
  · refine c4.out (X := [q + 1]) (o := bk (quL v) r) (ws' := fu (gW G) q ((gW G q).insertIdx p a)) h1 h2 e ha hc f hX ?_ ?_ (fun j' q' x k1 k2 => ?_)
    · unfold bk; split
      · exact .inr ⟨_, rfl, rfl⟩
      · exact .inl rfl
    · unfold bk; split
      · intro r' hr'; simp at hr'; rw [hr']
      · simp
    · by_cases eq : q' = q
      · right
        subst eq
        have en : x.2.1 = r.2.1 := (i10 j' q' x k1 k2).mp rfl
        have hb : bk (quL v) r = [(r.1, r.2.1, 0, r.2.2.2.1, 1, r.2.2.2.2.2)] := by
          unfold bk
          rw [if_pos]
          exact List.any_eq_true.mpr ⟨x, List.mem_of_getElem? k2, by simp [en]⟩
        have F := c4.2.1 j' q' x k1 k2
        rw [filM (qW_held h1 h2 hc _)] at F
        rw [fu_s, hb, fil3]
        have ef : List.filter (qW x.2.1) [((r.1, r.2.1, 0, r.2.2.2.1, 1, r.2.2.2.2.2) : R_le)] = [(r.1, r.2.1, 0, r.2.2.2.1, 1, r.2.2.2.2.2)] := by simp [qW, en]
        rw [ef, List.append_assoc, List.singleton_append, ← ins_mid]
        obtain ⟨-, -, s3, s4, -⟩ := c4.1.split
        have hlen := F.1
        rw [List.length_append] at hlen
        have hp : p = (A.filter (qW x.2.1)).length := by
          rcases Nat.lt_trichotomy p (A.filter (qW x.2.1)).length with z | z | z
          · exfalso
            obtain ⟨b, y, y1, y2, y3⟩ := F.get (i := p) (by omega)
            rw [List.getElem?_append_left z] at y2
            have := s3 y (List.mem_filter.mp (List.mem_of_getElem? y2)).1
            have q4 := p4 b y1
            rw [g2, g2, i2, y3.2.1] at q4
            exact Int32.not_le.mpr this q4
          · exact z
          · exfalso
            obtain ⟨b, y, y1, y2, y3⟩ := F.get (i := (A.filter (qW x.2.1)).length) (by omega)
            rw [List.getElem?_append_right (Nat.le_refl _)] at y2
            have := s4 y (List.mem_filter.mp (List.mem_of_getElem? y2)).1
            have q3 := p3 b _ z y1
            rw [g2, g2, i2, y3.2.1] at q3
            exact i32_lt_asymm this q3
        rw [hp]
        refine F2.ins (keep1 F ha (fun y hy => ?_) f hX) (by omega) LA
        rcases List.mem_append.mp hy with hy | hy
        · exact c4.1.ne.1 y hy
        · exact c4.1.ne.2 y hy
      · left
        refine ⟨?_, fu_n eq⟩
        have ne : r.2.1 ≠ x.2.1 := fun z => eq ((i10 j' q' x k1 k2).mpr z.symm)
        unfold bk
        split
        · simp [qW, ne]
        · rfl
  · intro q' hq'
    have kq' : kd h q' = 11 := kx.noq q' hq'
    have cc : ∀ l : List Nat, (∀ b ∈ l, kd h b = 8) → l.countP (fun a => decide (gR h' a 1 = some q')) = l.countP (fun a => decide (gR h a 1 = some q')) := fun l hl' => List.countP_congr (fun b hb => by rw [(k8 b (hl' b hb)).2])
    have b0 := c5 q' kq'
    rw [cnt3 _ h1 h2 e] at b0
    rw [cc _ (fun b hb => ?_)]
    · show (fu (gW G) q ((gW G q).insertIdx p a) q').length + _ ≤ 24
      by_cases eq : q' = q
      · subst eq
        rw [fu_s, List.length_insertIdx_of_le_length p1]
        rw [if_pos (by simp [i8])] at b0
        omega
      · rw [fu_n eq]
        omega
    · have sub : ∀ c', ∀ b ∈ fu hl c ((hl c).eraseIdx j) c', b ∈ hl c' := fun c' b hb => by
        unfold fu at hb
        split at hb
        · rename_i z; rw [z]; exact List.mem_of_mem_eraseIdx hb
        · exact hb
      simp only [List.mem_append] at hb
      rcases hb with (hb | hb) | hb
      · exact c4.k8 (by decide) (by decide) (sub 1 b hb)
      · exact c4.k8 (by decide) (by decide) (sub 2 b hb)
      · exact c4.k8 (by decide) (by decide) (sub 3 b hb)
end Bk

/-! ===== loops that remove from a list, from its end on ===== -/
theorem take_er {α : Type} {l : List α} {k : Nat} : (l.eraseIdx k).take k = l.take k := by
  apply List.ext_getElem?
  intro j
  rw [List.getElem?_take, List.getElem?_take]
  by_cases c : j < k
  · rw [if_pos c, if_pos c, List.getElem?_eraseIdx, if_pos c]
  · rw [if_neg c, if_neg c]
theorem drop_er {α : Type} {l : List α} {k : Nat} : (l.eraseIdx k).drop k = l.drop (k + 1) := by
  apply List.ext_getElem?
  intro j
  rw [List.getElem?_drop, List.getElem?_drop, List.getElem?_eraseIdx, if_neg (by omega)]
  congr 1
  omega
theorem take_s {α : Type} {l : List α} {k : Nat} {r : α} (h : l[k]? = some r) : l.take (k + 1) = l.take k ++ [r] := by rw [List.take_add_one, h]; rfl
theorem drop_s {α : Type} {l : List α} {k : Nat} {r : α} (h : l[k]? = some r) : l.drop k = r :: l.drop (k + 1) := by
  obtain ⟨hk, e⟩ := List.getElem?_eq_some_iff.mp h
  rw [List.drop_eq_getElem_cons hk, e]
theorem down_g {β : Type} {y : Nat} {R : AH → Nat → β → Prop} {p : β → Bool} {Lf : Nat → Int32 → AH → Option (Unit × AH)} {fin : AH → Option (Unit × AH)} {I : AH → Prop} (RF : ∀ h h' a r, I h → LF h h' [y] → kd h y = 0 → R h a r → R h' a r) (IF : ∀ h h', I h → LF h h' [y] → WH h' → KX h h' → kd h y = 0 → I h') (H0 : ∀ f h, I h → Lf (f + 1) (nI 0 - 1) h = fin h) (HS : ∀ f h l k a r, I h → WH h → LI h y l → k < l.length → l[k]? = some a → R h a r → Lf (f + 1) (nI (k + 1) - 1) h = if p r = true then bd (f_Jx4a65c_remove_915e3 y (nI k) h) (fun _ h' => Lf f (nI k - 1) h') else Lf f (nI k - 1) h) : ∀ (k f : Nat) (h : AH) (l : List Nat) (C : List β), I h → WH h → LI h y l → F2 (R h) l C → k ≤ l.length → k < f → ∃ h' l', Lf f (nI k - 1) h = fin h' ∧ LI h' y l' ∧ F2 (R h') l' ((C.take k).filter (fun r => !p r) ++ C.drop k) ∧ I h' ∧ LF h h' [y] ∧ WH h' ∧ KX h h' ∧ hz h' = hz h ∧ hs h' = hs h ∧ l'.Sublist l := by
  intro k
  induction k with
  | zero =>
    intro f h l C i w L F _ hf
    obtain ⟨q, rfl⟩ : ∃ q, f = q + 1 := ⟨f - 1, by omega⟩
    exact ⟨h, l, H0 q h i, L, by simpa using F, i, LF.rf _ _, w, KX.rf _, rfl, rfl, List.Sublist.refl _⟩
  | succ k ih =>
    intro f h l C i w L F hk hf
    obtain ⟨q, rfl⟩ : ∃ q, f = q + 1 := ⟨f - 1, by omega⟩
    obtain ⟨a, r, ea, er, hr⟩ := F.get (i := k) (by omega)
    rw [HS q h l k a r i w L (by omega) ea hr]
    cases hp : p r with
    | true =>
      obtain ⟨h1, e1, L1, f1, w1, z1, z2, kx⟩ := L.rem w (show k < l.length by omega)
      obtain ⟨h', l', x1, x2, x3, x4, x5, x6, x7, x8, x9, x10⟩ := ih q h1 (l.eraseIdx k) (C.eraseIdx k) (IF h h1 i f1 w1 kx L.1) w1 L1 ((F.erase k).imp (fun a b _ _ z => RF h h1 a b i f1 L.1 z)) (by rw [List.length_eraseIdx, if_pos (by omega)]; omega) (by omega)
      refine ⟨h', l', ?_, x2, ?_, x4, f1.tr x5, x6, kx.tr x7, x8.trans z1, x9.trans z2, x10.trans (List.eraseIdx_sublist _ _)⟩
      · rw [if_pos rfl, e1, bd_s]; exact x1
      · rw [take_er, drop_er] at x3
        rw [take_s er, List.filter_append, show List.filter (fun r => !p r) [r] = [] by simp [hp], List.append_nil]
        exact x3
    | false =>
      obtain ⟨h', l', x1, x2, x3, x4⟩ := ih q h l C i w L F (by omega) (by omega)
      refine ⟨h', l', ?_, x2, ?_, x4⟩
      · rw [if_neg (by decide)]; exact x1
      · rw [drop_s er] at x3
        rw [take_s er, List.filter_append, show List.filter (fun r => !p r) [r] = [r] by simp [hp], List.append_assoc]
        exact x3
theorem down_m {β : Type} {p : β → Bool} {Lf : Nat → Int32 → MV → Option (Unit × MV)} {fin : MV → Option (Unit × MV)} {ls : MV → List β} {I : MV → Prop} {rm : Int32 → MV → Option (Unit × MV)} (H0 : ∀ f v, I v → Lf (f + 1) (nI 0 - 1) v = fin v) (HS : ∀ f v k r, I v → (ls v)[k]? = some r → Lf (f + 1) (nI (k + 1) - 1) v = if p r = true then bdm (rm (nI k) v) (fun _ v' => Lf f (nI k - 1) v') else Lf f (nI k - 1) v) (HR : ∀ v k, I v → k < (ls v).length → ∃ v', rm (nI k) v = some ((), v') ∧ ls v' = (ls v).eraseIdx k ∧ I v') : ∀ (k f : Nat) (v : MV), I v → k ≤ (ls v).length → k < f → ∃ v', Lf f (nI k - 1) v = fin v' ∧ ls v' = ((ls v).take k).filter (fun r => !p r) ++ (ls v).drop k ∧ I v' := by
  intro k
  induction k with
  | zero =>
    intro f v i _ hf
    obtain ⟨q, rfl⟩ : ∃ q, f = q + 1 := ⟨f - 1, by omega⟩
    exact ⟨v, H0 q v i, by simp, i⟩
  | succ k ih =>
    intro f v i hk hf
    obtain ⟨q, rfl⟩ : ∃ q, f = q + 1 := ⟨f - 1, by omega⟩
    have er : (ls v)[k]? = some (ls v)[k] := List.getElem?_eq_getElem (by omega)
    rw [HS q v k _ i er]
    cases hp : p (ls v)[k] with
    | true =>
      obtain ⟨v1, e1, e2, i1⟩ := HR v k i (by omega)
      obtain ⟨v', x1, x2, x3⟩ := ih q v1 i1 (by rw [e2, List.length_eraseIdx, if_pos (by omega)]; omega) (by omega)
      refine ⟨v', ?_, ?_, x3⟩
      · rw [if_pos rfl, e1]; exact x1
      · rw [e2, take_er, drop_er] at x2
        rw [take_s er, List.filter_append, show List.filter (fun r => !p r) [(ls v)[k]] = [] by simp [hp], List.append_nil]
        exact x2
    | false =>
      obtain ⟨v', x1, x2, x3⟩ := ih q v i (by omega) (by omega)
      refine ⟨v', ?_, ?_, x3⟩
      · rw [if_neg (by decide)]; exact x1
      · rw [drop_s er] at x2
        rw [take_s er, List.filter_append, show List.filter (fun r => !p r) [(ls v)[k]] = [(ls v)[k]] by simp [hp], List.append_assoc]
        exact x2
theorem LF.sk {h h' : AH} {y : Nat} (f : LF h h' [y]) (s : Sk h) (ky : kd h y = 0) : Sk h' := s.fr (SkF.of s f (fun a ha z => by
  simp at z
  rw [z] at ha
  have := s.kds ha
  omega))
theorem XK.l {h : AH} {y : Nat} {K : List Nat} (ky : kd h y = 0) (k0 : 0 ∉ K) : XK h [y] K := fun x hx z => by
  simp at hx
  rw [hx, ky] at z
  exact k0 z
theorem chA_inj {a b : Nat} : chA a = chA b ↔ a = b := by unfold chA; omega
/-! the class's loops -/
section Dc
variable {h : AH} {l qs xs : List Nat} {Q : List R_qu} {E : List R_ex}
def Rmd {β : Type} (h : AH) (y : Nat) (l : List Nat) (R : AH → Nat → β → Prop) (h' : AH) (l' : List Nat) (C : List β) : Prop := LI h' y l' ∧ F2 (R h') l' C ∧ Sk h' ∧ LF h h' [y] ∧ WH h' ∧ KX h h' ∧ hz h' = hz h ∧ hs h' = hs h ∧ l'.Sublist l
theorem dn_fin {β : Type} {y n : Nat} {R : AH → Nat → β → Prop} {p : β → Bool} {C : List β} {I : AH → Prop} {P : AH → Prop} (hI : ∀ h, I h → Sk h) (hn : n = C.length) (X : ∃ h' l', P h' ∧ LI h' y l' ∧ F2 (R h') l' ((C.take n).filter (fun r => !p r) ++ C.drop n) ∧ I h' ∧ LF h h' [y] ∧ WH h' ∧ KX h h' ∧ hz h' = hz h ∧ hs h' = hs h ∧ l'.Sublist l) : ∃ h' l', P h' ∧ Rmd h y l R h' l' (C.filter (fun r => !p r)) := by
  obtain ⟨h', l', x1, x2, x3, x4, x5⟩ := X
  rw [hn, List.take_length, List.drop_length, List.append_nil] at x3
  exact ⟨h', l', x1, x2, x3, hI h' x4, x5⟩
theorem rcn_ok {c : Nat} {C : List R_co} (h1 : 1 ≤ c) (h2 : c ≤ 3) (s : Sk h) (w : WH h) (L : LI h 13 l) (F : F2 (CoR h qs Q) l C) : ∃ h' l', f_X8_removeConsumersOn 9 (some (chA c)) h = some ((), h') ∧ Rmd h 13 l (fun h => CoR h qs Q) h' l' (C.filter (fun r => !decide (r.2.1 = nI c))) := by
  have hl := L.len
  refine dn_fin (I := Sk) (p := fun r : R_co => decide (r.2.1 = nI c)) (fun _ z => z) F.1 ?_
  have X := down_g (y := 13) (R := fun h => CoR h qs Q) (p := fun r => decide (r.2.1 = nI c)) (Lf := fun f x h => f_X8_removeConsumersOn_12 f 9 (some (chA c)) x h) (fin := fun h => some ((), h)) (I := Sk) (fun h h' a r _ f ky z => z.fr f (XK.l ky (by decide))) (fun h h' s f _ _ ky => f.sk s ky) (fun f h _ => by
    show f_X8_removeConsumersOn_12 (f + 1) 9 (some (chA c)) (nI 0 - 1) h = _
    rw [f_X8_removeConsumersOn_12, if_pos neg1_lt]) (fun f h l k a r s w L hk ea hr => by
    have hl := L.len
    obtain ⟨k3, -, -, -, -, ⟨c', c1, c2, c3, c4⟩, -⟩ := hr
    show f_X8_removeConsumersOn_12 (f + 1) 9 (some (chA c)) (nI (k + 1) - 1) h = _
    rw [f_X8_removeConsumersOn_12, nI_pred, if_neg (nI_pos (by omega)), gtL (s.r9 (by decide)) s.k9 L hk, ea, ckc_e k3, nn_s, rdR_e k3, c4, aq_i w.1 (s.ch c1 c2).1 (s.ch h1 h2).1 (by decide) (by decide)]
    unfold f_X8_removeConsumersOn_47
    rw [sub1]
    by_cases e : c' = c
    · rw [if_pos (chA_inj.mpr e), if_pos (by rw [c3, e]; exact decide_eq_true rfl), rdR_e s.k9, s.r9 (by decide), nn_s, L.kgg]
    · rw [if_neg (fun z => e (chA_inj.mp z)), if_neg (by rw [c3]; simp only [decide_eq_true_eq]; exact fun z => e (nI_inj3 c2 h2 z))]) l.length FU h l C s w L F (Nat.le_refl _) (by unfold FU; omega)
  obtain ⟨h', l', x1, x2⟩ := X
  refine ⟨h', l', ?_, x2⟩
  unfold f_X8_removeConsumersOn
  rw [szL (s.r9 (by decide)) s.k9 L, ltd]
  exact x1
theorem rxb_ok {e ie : Nat} {y : R_ex} {C : List R_bi} (s : Sk h) (w : WH h) (L : LI h 12 l) (F : F2 (BiR h xs qs E Q) l C) (n3 : xs.Nodup) (n4 : (E.map (fun r => r.1)).Nodup) (ke : ∀ a ∈ xs, kd h a = 6) (e1 : xs[ie]? = some e) (e2 : E[ie]? = some y) : ∃ h' l', f_X8_remove 9 (some e) h = f_X8_remove_53 9 (some e) h' ∧ Rmd h 12 l (fun h => BiR h xs qs E Q) h' l' (C.filter (fun r => !decide (r.2.1 = y.1))) := by
  have hl := L.len
  refine dn_fin (I := fun h => Sk h ∧ ∀ a ∈ xs, kd h a = 6) (p := fun r : R_bi => decide (r.2.1 = y.1)) (fun _ z => z.1) F.1 ?_
  have X := down_g (y := 12) (R := fun h => BiR h xs qs E Q) (p := fun r => decide (r.2.1 = y.1)) (Lf := fun f x h => f_X8_remove_12 f 9 (some e) x h) (fin := fun h => f_X8_remove_53 9 (some e) h) (I := fun h => Sk h ∧ ∀ a ∈ xs, kd h a = 6) (fun h h' a r _ f ky z => z.fr f (XK.l ky (by decide))) (fun h h' s f _ _ ky => ⟨f.sk s.1 ky, fun a ha => f.kk (s.2 a ha) (by decide)⟩) (fun f h _ => by
    show f_X8_remove_12 (f + 1) 9 (some e) (nI 0 - 1) h = _
    rw [f_X8_remove_12, if_pos neg1_lt]) (fun f h l k a r s w L hk ea hr => by
    have hl := L.len
    obtain ⟨s, ke⟩ := s
    obtain ⟨e', g1, g2, g3⟩ := hr.e n3 n4 e1 e2
    have k1 := hr.1
    show f_X8_remove_12 (f + 1) 9 (some e) (nI (k + 1) - 1) h = _
    rw [f_X8_remove_12, nI_pred, if_neg (nI_pos (by omega)), gtL (s.r9 (by decide)) s.k9 L hk, ea, ckc_e k1, nn_s, rdR_e k1, g1, aq_i w.1 (ke e' g2) (ke e (List.mem_of_getElem? e1)) (by decide) (by decide)]
    unfold f_X8_remove_47
    rw [sub1]
    by_cases z : e' = e
    · rw [if_pos z, if_pos (decide_eq_true (g3.mp z)), rdR_e s.k9, s.r9 (by decide), nn_s, L.kgg]
    · rw [if_neg z, if_neg (by simp only [decide_eq_true_eq]; exact fun y => z (g3.mpr y))]) l.length FU h l C ⟨s, ke⟩ w L F (Nat.le_refl _) (by unfold FU; omega)
  obtain ⟨h', l', x1, x2⟩ := X
  refine ⟨h', l', ?_, x2⟩
  unfold f_X8_remove
  rw [szL (s.r9 (by decide)) s.k9 L, ltd]
  exact x1
theorem rxx_ok {e : Nat} {n : Int64} {C : List R_ex} (s : Sk h) (w : WH h) (L : LI h 10 l) (F : F2 (fun a r => ExR h a r ∧ (a = e ↔ r.1 = n)) l C) (ke : kd h e = 6) : ∃ h' l', f_X8_remove_53 9 (some e) h = some ((), h') ∧ Rmd h 10 l (fun h a r => ExR h a r ∧ (a = e ↔ r.1 = n)) h' l' (C.filter (fun r => !decide (r.1 = n))) := by
  have hl := L.len
  refine dn_fin (I := fun h => Sk h ∧ kd h e = 6) (p := fun r : R_ex => decide (r.1 = n)) (fun _ z => z.1) F.1 ?_
  have X := down_g (y := 10) (R := fun h a r => ExR h a r ∧ (a = e ↔ r.1 = n)) (p := fun r : R_ex => decide (r.1 = n)) (Lf := fun f x h => f_X8_remove_65 f 9 (some e) x h) (fin := fun h => some ((), h)) (I := fun h => Sk h ∧ kd h e = 6) (fun h h' a r _ f ky z => ⟨z.1.kp (f.kp z.1.1 (by decide) (by decide) ((XK.l ky (K := [6]) (by decide)).no z.1.1 (by simp))), z.2⟩) (fun h h' s f _ _ ky => ⟨f.sk s.1 ky, f.kk s.2 (by decide)⟩) (fun f h _ => by
    show f_X8_remove_65 (f + 1) 9 (some e) (nI 0 - 1) h = _
    rw [f_X8_remove_65, if_pos neg1_lt]) (fun f h l k a r s w L hk ea hr => by
    have hl := L.len
    obtain ⟨s, ke⟩ := s
    obtain ⟨hr, g3⟩ := hr
    have k1 := hr.1
    show f_X8_remove_65 (f + 1) 9 (some e) (nI (k + 1) - 1) h = _
    rw [f_X8_remove_65, nI_pred, if_neg (nI_pos (by omega)), gtL (s.r9 (by decide)) s.k9 L hk, ea, aq_i w.1 k1 ke (by decide) (by decide)]
    unfold f_X8_remove_94
    rw [sub1]
    by_cases z : a = e
    · rw [if_pos z, if_pos (decide_eq_true (g3.mp z)), rdR_e s.k9, s.r9 (by decide), nn_s, L.kgg]
    · rw [if_neg z, if_neg (by simp only [decide_eq_true_eq]; exact fun y => z (g3.mpr y))]) l.length FU h l C ⟨s, ke⟩ w L F (Nat.le_refl _) (by unfold FU; omega)
  obtain ⟨h', l', x1, x2⟩ := X
  refine ⟨h', l', ?_, x2⟩
  unfold f_X8_remove_53
  rw [szL (s.r9 (by decide)) s.k9 L, ltd]
  exact x1
theorem rqb_ok {q iq : Nat} {x : R_qu} {C : List R_bi} (s : Sk h) (w : WH h) (L : LI h 12 l) (F : F2 (BiR h xs qs E Q) l C) (n3 : qs.Nodup) (n4 : (Q.map (fun r => r.1)).Nodup) (ke : ∀ a ∈ qs, kd h a = 11) (e1 : qs[iq]? = some q) (e2 : Q[iq]? = some x) : ∃ h' l', f_X8_remove_ 9 (some q) h = f_X8_remove__53 9 (some q) h' ∧ Rmd h 12 l (fun h => BiR h xs qs E Q) h' l' (C.filter (fun r => !decide (r.1 = x.1))) := by
  have hl := L.len
  refine dn_fin (I := fun h => Sk h ∧ ∀ a ∈ qs, kd h a = 11) (p := fun r : R_bi => decide (r.1 = x.1)) (fun _ z => z.1) F.1 ?_
  have X := down_g (y := 12) (R := fun h => BiR h xs qs E Q) (p := fun r => decide (r.1 = x.1)) (Lf := fun f x h => f_X8_remove__12 f 9 (some q) x h) (fin := fun h => f_X8_remove__53 9 (some q) h) (I := fun h => Sk h ∧ ∀ a ∈ qs, kd h a = 11) (fun h h' a r _ f ky z => z.fr f (XK.l ky (by decide))) (fun h h' s f _ _ ky => ⟨f.sk s.1 ky, fun a ha => f.kk (s.2 a ha) (by decide)⟩) (fun f h _ => by
    show f_X8_remove__12 (f + 1) 9 (some q) (nI 0 - 1) h = _
    rw [f_X8_remove__12, if_pos neg1_lt]) (fun f h l k a r s w L hk ea hr => by
    have hl := L.len
    obtain ⟨s, ke⟩ := s
    obtain ⟨e', g1, g2, g3⟩ := hr.q n3 n4 e1 e2
    have k1 := hr.1
    show f_X8_remove__12 (f + 1) 9 (some q) (nI (k + 1) - 1) h = _
    rw [f_X8_remove__12, nI_pred, if_neg (nI_pos (by omega)), gtL (s.r9 (by decide)) s.k9 L hk, ea, ckc_e k1, nn_s, rdR_e k1, g1, aq_i w.1 (ke e' g2) (ke q (List.mem_of_getElem? e1)) (by decide) (by decide)]
    unfold f_X8_remove__47
    rw [sub1]
    by_cases z : e' = q
    · rw [if_pos z, if_pos (decide_eq_true (g3.mp z)), rdR_e s.k9, s.r9 (by decide), nn_s, L.kgg]
    · rw [if_neg z, if_neg (by simp only [decide_eq_true_eq]; exact fun y => z (g3.mpr y))]) l.length FU h l C ⟨s, ke⟩ w L F (Nat.le_refl _) (by unfold FU; omega)
  obtain ⟨h', l', x1, x2⟩ := X
  refine ⟨h', l', ?_, x2⟩
  unfold f_X8_remove_
  rw [szL (s.r9 (by decide)) s.k9 L, ltd]
  exact x1
theorem rqc_ok {q iq : Nat} {x : R_qu} {C : List R_co} (s : Sk h) (w : WH h) (L : LI h 13 l) (F : F2 (CoR h qs Q) l C) (ke : kd h q = 11) (e1 : qs[iq]? = some q) (e2 : Q[iq]? = some x) : ∃ h' l', f_X8_remove__53 9 (some q) h = f_X8_remove__106 9 (some q) h' ∧ Rmd h 13 l (fun h => CoR h qs Q) h' l' (C.filter (fun r => !decide (r.2.2.2.1 = x.2.1))) := by
  have hl := L.len
  refine dn_fin (I := fun h => Sk h ∧ kd h q = 11) (p := fun r : R_co => decide (r.2.2.2.1 = x.2.1)) (fun _ z => z.1) F.1 ?_
  have X := down_g (y := 13) (R := fun h => CoR h qs Q) (p := fun r => decide (r.2.2.2.1 = x.2.1)) (Lf := fun f x h => f_X8_remove__65 f 9 (some q) x h) (fin := fun h => f_X8_remove__106 9 (some q) h) (I := fun h => Sk h ∧ kd h q = 11) (fun h h' a r _ f ky z => z.fr f (XK.l ky (by decide))) (fun h h' s f _ _ ky => ⟨f.sk s.1 ky, f.kk s.2 (by decide)⟩) (fun f h _ => by
    show f_X8_remove__65 (f + 1) 9 (some q) (nI 0 - 1) h = _
    rw [f_X8_remove__65, if_pos neg1_lt]) (fun f h l k a r s w L hk ea hr => by
    have hl := L.len
    obtain ⟨s, ke⟩ := s
    obtain ⟨k1, -, -, -, -, -, q', g1, g2, g3⟩ := hr
    have g3 := g3 iq q x e1 e2
    show f_X8_remove__65 (f + 1) 9 (some q) (nI (k + 1) - 1) h = _
    rw [f_X8_remove__65, nI_pred, if_neg (nI_pos (by omega)), gtL (s.r9 (by decide)) s.k9 L hk, ea, ckc_e k1, nn_s, rdR_e k1, g1, aq_i w.1 g2 ke (by decide) (by decide)]
    unfold f_X8_remove__100
    rw [sub1]
    by_cases z : q' = q
    · rw [if_pos z, if_pos (decide_eq_true (g3.mp z.symm).symm), rdR_e s.k9, s.r9 (by decide), nn_s, L.kgg]
    · rw [if_neg z, if_neg (by simp only [decide_eq_true_eq]; exact fun y => z (g3.mpr y.symm).symm)]) l.length FU h l C ⟨s, ke⟩ w L F (Nat.le_refl _) (by unfold FU; omega)
  obtain ⟨h', l', x1, x2⟩ := X
  refine ⟨h', l', ?_, x2⟩
  unfold f_X8_remove__53
  rw [szL (s.r9 (by decide)) s.k9 L, ltd]
  exact x1
theorem rqq_ok {e : Nat} {n : Int64} {C : List R_qu} (s : Sk h) (w : WH h) (L : LI h 11 l) (F : F2 (fun a r => QuR h a r ∧ (a = e ↔ r.1 = n)) l C) (ke : kd h e = 11) : ∃ h' l', f_X8_remove__106 9 (some e) h = some ((), h') ∧ Rmd h 11 l (fun h a r => QuR h a r ∧ (a = e ↔ r.1 = n)) h' l' (C.filter (fun r => !decide (r.1 = n))) := by
  have hl := L.len
  refine dn_fin (I := fun h => Sk h ∧ kd h e = 11) (p := fun r : R_qu => decide (r.1 = n)) (fun _ z => z.1) F.1 ?_
  have X := down_g (y := 11) (R := fun h a r => QuR h a r ∧ (a = e ↔ r.1 = n)) (p := fun r : R_qu => decide (r.1 = n)) (Lf := fun f x h => f_X8_remove__118 f 9 (some e) x h) (fin := fun h => some ((), h)) (I := fun h => Sk h ∧ kd h e = 11) (fun h h' a r _ f ky z => ⟨z.1.kp (f.kp z.1.1 (by decide) (by decide) ((XK.l ky (K := [11]) (by decide)).no z.1.1 (by simp))), z.2⟩) (fun h h' s f _ _ ky => ⟨f.sk s.1 ky, f.kk s.2 (by decide)⟩) (fun f h _ => by
    show f_X8_remove__118 (f + 1) 9 (some e) (nI 0 - 1) h = _
    rw [f_X8_remove__118, if_pos neg1_lt]) (fun f h l k a r s w L hk ea hr => by
    have hl := L.len
    obtain ⟨s, ke⟩ := s
    obtain ⟨hr, g3⟩ := hr
    have k1 := hr.1
    show f_X8_remove__118 (f + 1) 9 (some e) (nI (k + 1) - 1) h = _
    rw [f_X8_remove__118, nI_pred, if_neg (nI_pos (by omega)), gtL (s.r9 (by decide)) s.k9 L hk, ea, aq_i w.1 k1 ke (by decide) (by decide)]
    unfold f_X8_remove__147
    rw [sub1]
    by_cases z : a = e
    · rw [if_pos z, if_pos (decide_eq_true (g3.mp z)), rdR_e s.k9, s.r9 (by decide), nn_s, L.kgg]
    · rw [if_neg z, if_neg (by simp only [decide_eq_true_eq]; exact fun y => z (g3.mpr y))]) l.length FU h l C ⟨s, ke⟩ w L F (Nat.le_refl _) (by unfold FU; omega)
  obtain ⟨h', l', x1, x2⟩ := X
  refine ⟨h', l', ?_, x2⟩
  unfold f_X8_remove__106
  rw [szL (s.r9 (by decide)) s.k9 L, ltd]
  exact x1
end Dc
/-! the reference's loops -/
def CoI (v0 v : MV) : Prop := Fr v0 v [17] [19, 20, 21, 22, 23] ∧ CV v 17 6 ∧ Bo v 23
def BiI (v0 v : MV) : Prop := Fr v0 v [13] [14, 15, 16] ∧ CV v 13 12
section Dm
variable {v : MV}
theorem co_HR {v0 : MV} : ∀ v k, CoI v0 v → k < (coL v).length → ∃ v', m_removeConsumer (nI k) v = some ((), v') ∧ coL v' = (coL v).eraseIdx k ∧ CoI v0 v' := fun v k i hk => by
  obtain ⟨v', x1, x2, x3, x4, x5, x6⟩ := co_rm i.2.1 i.2.2 (a := k) (by rw [← coL_len]; exact hk)
  exact ⟨v', x1, x2, (i.1.tr x5).mono (by simp) (by simp), x3, x6⟩
theorem bi_HR {v0 : MV} : ∀ v k, BiI v0 v → k < (biL v).length → ∃ v', m_removeBinding (nI k) v = some ((), v') ∧ biL v' = (biL v).eraseIdx k ∧ BiI v0 v' := fun v k i hk => by
  obtain ⟨v', x1, x2, x3, x4, x5⟩ := bi_rm i.2 (a := k) (by rw [← biL_len]; exact hk)
  exact ⟨v', x1, x2, (i.1.tr x5).mono (by simp) (by simp), x3⟩
theorem dm_fin {β : Type} {n : Nat} {p : β → Bool} {ls : MV → List β} {I P : MV → Prop} (hn : n = (ls v).length) (X : ∃ v', P v' ∧ ls v' = ((ls v).take n).filter (fun r => !p r) ++ (ls v).drop n ∧ I v') : ∃ v', P v' ∧ ls v' = (ls v).filter (fun r => !p r) ∧ I v' := by
  obtain ⟨v', x1, x2, x3⟩ := X
  rw [hn, List.take_length, List.drop_length, List.append_nil] at x2
  exact ⟨v', x1, x2, x3⟩
theorem co_k {k : Nat} {r : R_co} (h : (coL v)[k]? = some r) : k < cN v 17 ∧ r = (v.2.1 19 k, v.2.1 20 k, v.2.2 21 k, v.2.1 22 k, v.2.1 23 k) := by
  have hk : k < cN v 17 := by
    by_cases c : k < cN v 17
    · exact c
    · rw [List.getElem?_eq_none (by rw [coL_len]; omega)] at h; cases h
  have : (coL v)[k]? = some (v.2.1 19 k, v.2.1 20 k, v.2.2 21 k, v.2.1 22 k, v.2.1 23 k) := lst_get _ hk
  rw [this] at h
  exact ⟨hk, (Option.some.inj h).symm⟩
theorem bi_k {k : Nat} {r : R_bi} (h : (biL v)[k]? = some r) : k < cN v 13 ∧ r = (v.2.2 14 k, v.2.2 15 k, v.2.2 16 k) := by
  have hk : k < cN v 13 := by
    by_cases c : k < cN v 13
    · exact c
    · rw [List.getElem?_eq_none (by rw [biL_len]; omega)] at h; cases h
  have : (biL v)[k]? = some (v.2.2 14 k, v.2.2 15 k, v.2.2 16 k) := lst_get _ hk
  rw [this] at h
  exact ⟨hk, (Option.some.inj h).symm⟩
theorem ex_k {k : Nat} {r : R_ex} (h : (exL v)[k]? = some r) : k < cN v 5 ∧ r = (v.2.2 6 k, v.2.1 7 k) := by
  have hk : k < cN v 5 := by
    by_cases c : k < cN v 5
    · exact c
    · rw [List.getElem?_eq_none (by rw [exL_len]; omega)] at h; cases h
  have : (exL v)[k]? = some (v.2.2 6 k, v.2.1 7 k) := lst_get _ hk
  rw [this] at h
  exact ⟨hk, (Option.some.inj h).symm⟩
theorem qu_k {k : Nat} {r : R_qu} (h : (quL v)[k]? = some r) : k < cN v 8 ∧ r = (v.2.2 10 k, v.2.1 11 k, v.2.1 12 k) := by
  have hk : k < cN v 8 := by
    by_cases c : k < cN v 8
    · exact c
    · rw [List.getElem?_eq_none (by rw [quL_len]; omega)] at h; cases h
  have : (quL v)[k]? = some (v.2.2 10 k, v.2.1 11 k, v.2.1 12 k) := lst_get _ hk
  rw [this] at h
  exact ⟨hk, (Option.some.inj h).symm⟩
theorem ec_ok (c : Int32) (h17 : CV v 17 6) (b : Bo v 23) : ∃ v', m_endChannel_14 FU c ((v.1 17) - 1) v = m_endChannel_39 c v' ∧ coL v' = (coL v).filter (fun r => !decide (r.2.1 = c)) ∧ CoI v v' := by
  have hN := h17.2
  refine dm_fin (ls := coL) (p := fun r : R_co => decide (r.2.1 = c)) (n := cN v 17) (coL_len v).symm ?_
  rw [h17.1]
  exact down_m (Lf := fun f x v => m_endChannel_14 f c x v) (p := fun r : R_co => decide (r.2.1 = c)) (fin := fun v => m_endChannel_39 c v) (rm := m_removeConsumer) (fun f v _ => by
    show m_endChannel_14 (f + 1) c (nI 0 - 1) v = _
    rw [m_endChannel_14, if_pos neg1_lt]) (fun f v k r i hr => by
    obtain ⟨hk, er⟩ := co_k hr
    have hN := i.2.1.2
    show m_endChannel_14 (f + 1) c (nI (k + 1) - 1) v = _
    rw [m_endChannel_14, nI_pred, if_neg (nI_pos (by omega)), mrI_e (show k < 6 by omega) (by decide), show v.2.1 20 k = r.2.1 by rw [er]]
    unfold m_endChannel_33
    rw [sub1]
    by_cases z : r.2.1 = c
    · rw [if_pos z, if_pos (decide_eq_true z)]
    · rw [if_neg z, if_neg (by simpa using z)]) co_HR (cN v 17) FU v ⟨(Fr.rf v).mono (by simp) (by simp), h17, b⟩ (by rw [coL_len]; exact Nat.le_refl _) (by unfold FU; omega)
theorem xb_ok {ie : Nat} {y : R_ex} (h13 : CV v 13 12) (h5 : CV v 5 6) (e2 : (exL v)[ie]? = some y) : ∃ v', m_removeExchange (nI ie) v = m_removeExchange_38 (nI ie) v' ∧ biL v' = (biL v).filter (fun r => !decide (r.2.1 = y.1)) ∧ BiI v v' := by
  have hN := h13.2
  have h52 := h5.2
  obtain ⟨hi, ey⟩ := ex_k e2
  refine dm_fin (ls := biL) (p := fun r : R_bi => decide (r.2.1 = y.1)) (n := cN v 13) (biL_len v).symm ?_
  unfold m_removeExchange
  rw [h13.1, ltd]
  exact down_m (Lf := fun f x v => m_removeExchange_7 f (nI ie) x v) (p := fun r : R_bi => decide (r.2.1 = y.1)) (fin := fun v => m_removeExchange_38 (nI ie) v) (rm := m_removeBinding) (fun f v _ => by
    show m_removeExchange_7 (f + 1) (nI ie) (nI 0 - 1) v = _
    rw [m_removeExchange_7, if_pos neg1_lt]) (fun f v1 k r i hr => by
    obtain ⟨hk, er⟩ := bi_k hr
    have hN := i.2.2
    show m_removeExchange_7 (f + 1) (nI ie) (nI (k + 1) - 1) v1 = _
    rw [m_removeExchange_7, nI_pred, if_neg (nI_pos (by omega)), mrJ_e (show k < 12 by omega) (by decide), mrJ_e (show ie < 6 by omega) (by decide), show v1.2.2 15 k = r.2.1 by rw [er], show v1.2.2 6 ie = y.1 by rw [(i.1.2 6 (by decide)).2, ey]]
    unfold m_removeExchange_32
    rw [sub1]
    by_cases z : r.2.1 = y.1
    · rw [if_pos (cmp_eq.mpr z), if_pos (decide_eq_true z)]
    · rw [if_neg (fun w => z (cmp_eq.mp w)), if_neg (by simpa using z)]) bi_HR (cN v 13) FU v ⟨(Fr.rf v).mono (by simp) (by simp), h13⟩ (by rw [biL_len]; exact Nat.le_refl _) (by unfold FU; omega)
theorem qb_ok {iq : Nat} {x : R_qu} (h13 : CV v 13 12) (h8 : CV v 8 5) (e2 : (quL v)[iq]? = some x) : ∃ v', m_removeQueue (nI iq) v = m_removeQueue_38 (nI iq) v' ∧ biL v' = (biL v).filter (fun r => !decide (r.1 = x.1)) ∧ BiI v v' := by
  have hN := h13.2
  have h82 := h8.2
  obtain ⟨hi, ey⟩ := qu_k e2
  refine dm_fin (ls := biL) (p := fun r : R_bi => decide (r.1 = x.1)) (n := cN v 13) (biL_len v).symm ?_
  unfold m_removeQueue
  rw [h13.1, ltd]
  exact down_m (Lf := fun f x v => m_removeQueue_7 f (nI iq) x v) (p := fun r : R_bi => decide (r.1 = x.1)) (fin := fun v => m_removeQueue_38 (nI iq) v) (rm := m_removeBinding) (fun f v _ => by
    show m_removeQueue_7 (f + 1) (nI iq) (nI 0 - 1) v = _
    rw [m_removeQueue_7, if_pos neg1_lt]) (fun f v1 k r i hr => by
    obtain ⟨hk, er⟩ := bi_k hr
    have hN := i.2.2
    show m_removeQueue_7 (f + 1) (nI iq) (nI (k + 1) - 1) v1 = _
    rw [m_removeQueue_7, nI_pred, if_neg (nI_pos (by omega)), mrJ_e (show k < 12 by omega) (by decide), mrJ_e (show iq < 5 by omega) (by decide), show v1.2.2 14 k = r.1 by rw [er], show v1.2.2 10 iq = x.1 by rw [(i.1.2 10 (by decide)).2, ey]]
    unfold m_removeQueue_32
    rw [sub1]
    by_cases z : r.1 = x.1
    · rw [if_pos (cmp_eq.mpr z), if_pos (decide_eq_true z)]
    · rw [if_neg (fun w => z (cmp_eq.mp w)), if_neg (by simpa using z)]) bi_HR (cN v 13) FU v ⟨(Fr.rf v).mono (by simp) (by simp), h13⟩ (by rw [biL_len]; exact Nat.le_refl _) (by unfold FU; omega)
theorem qc_ok {iq : Nat} {x : R_qu} (h17 : CV v 17 6) (b : Bo v 23) (h8 : CV v 8 5) (e2 : (quL v)[iq]? = some x) : ∃ v', m_removeQueue_38 (nI iq) v = m_removeQueue_75 (nI iq) v' ∧ coL v' = (coL v).filter (fun r => !decide (r.2.2.2.1 = x.2.1)) ∧ CoI v v' := by
  have hN := h17.2
  have h82 := h8.2
  obtain ⟨hi, ey⟩ := qu_k e2
  refine dm_fin (ls := coL) (p := fun r : R_co => decide (r.2.2.2.1 = x.2.1)) (n := cN v 17) (coL_len v).symm ?_
  unfold m_removeQueue_38
  rw [h17.1, ltd]
  exact down_m (Lf := fun f x v => m_removeQueue_45 f (nI iq) x v) (p := fun r : R_co => decide (r.2.2.2.1 = x.2.1)) (fin := fun v => m_removeQueue_75 (nI iq) v) (rm := m_removeConsumer) (fun f v _ => by
    show m_removeQueue_45 (f + 1) (nI iq) (nI 0 - 1) v = _
    rw [m_removeQueue_45, if_pos neg1_lt]) (fun f v1 k r i hr => by
    obtain ⟨hk, er⟩ := co_k hr
    have hN := i.2.1.2
    show m_removeQueue_45 (f + 1) (nI iq) (nI (k + 1) - 1) v1 = _
    rw [m_removeQueue_45, nI_pred, if_neg (nI_pos (by omega)), mrI_e (show k < 6 by omega) (by decide), mrI_e (show iq < 5 by omega) (by decide), show v1.2.1 22 k = r.2.2.2.1 by rw [er], show v1.2.1 11 iq = x.2.1 by rw [(i.1.2 11 (by decide)).1, ey]]
    unfold m_removeQueue_69
    rw [sub1]
    by_cases z : r.2.2.2.1 = x.2.1
    · rw [if_pos z, if_pos (decide_eq_true z)]
    · rw [if_neg z, if_neg (by simpa using z)]) co_HR (cN v 17) FU v ⟨(Fr.rf v).mono (by simp) (by simp), h17, b⟩ (by rw [coL_len]; exact Nat.le_refl _) (by unfold FU; omega)
end Dm

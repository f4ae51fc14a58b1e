/-! ===== looking things up: the class's loops over its lists ===== -/
section Lk
variable {β : Type} {h : AH} {a b c j i : Nat} {L : List Nat}
theorem szL {F : Int32 → AH → Option β} (e : gR h a j = some b) (ka : kd h a = c) (l : LI h b L) : (rdR h a c j fun r => nn r fun b => kg h b 0 (bd (f_Jx4a65c_size_8abf5 b h) F)) = F (nI L.length) h := by
  rw [rdR_e ka, e, nn_s, l.kgg, l.size, bd_s]
theorem gtL {F : Option Nat → AH → Option β} (e : gR h a j = some b) (ka : kd h a = c) (l : LI h b L) (hi : i < L.length) : (rdR h a c j fun r => nn r fun b => kg h b 0 (bd (f_Jx4a65c_get_915e3 b (nI i) h) F)) = F (L[i]?) h := by
  rw [rdR_e ka, e, nn_s, l.kgg, l.get hi, bd_s]
end Lk
theorem Sk.k9 {h : AH} (s : Sk h) : kd h 9 = 9 := s.2.2.2.2.2.2.2.2.1
theorem Sk.r9 {h : AH} (s : Sk h) {j : Nat} (hj : j < 4) : gR h 9 j = some (10 + j) := s.2.2.2.2.2.2.2.2.2.1 j hj
theorem Sk.ch {h : AH} (s : Sk h) {c : Nat} (h1 : 1 ≤ c) (h2 : c ≤ 3) : kd h (chA c) = 2 ∧ gR h (chA c) 1 = some (chA c + 1) ∧ gR h (chA c) 2 = some (chA c + 2) ∧ gI h (chA c) 0 = nI c := s.2.2.2.2.2.2.2.2.2.2 c h1 h2
theorem F2.drop {α β : Type} {R : α → β → Prop} {l : List α} {m : List β} (f : F2 R l m) {i : Nat} (h : i < l.length) : ∃ a b, l[i]? = some a ∧ m[i]? = some b ∧ R a b ∧ m.drop i = b :: m.drop (i + 1) := by
  obtain ⟨a, b, h1, h2, h3⟩ := f.get h
  refine ⟨a, b, h1, h2, h3, ?_⟩
  have hi : i < m.length := by rw [← f.1]; exact h
  rw [List.drop_eq_getElem_cons hi]
  rw [List.getElem?_eq_getElem hi] at h2
  rw [Option.some.inj h2]
theorem F2.drop0 {α β : Type} {R : α → β → Prop} {l : List α} {m : List β} (f : F2 R l m) {i : Nat} (h : l.length ≤ i) : m.drop i = [] := List.drop_eq_nil_of_le (by rw [← f.1]; exact h)
theorem exN_l {h : AH} {xs : List Nat} {E : List R_ex} (s : Sk h) (l : LI h 10 xs) (r : F2 (ExR h) xs E) (x : Int64) : ∀ (d i f : Nat), i + d = xs.length → d < f → f_X8_exchangeNamed_2 f 9 x (nI i) h = some (((E.drop i).findIdx? (fun r => decide (r.1 = x))).bind (fun j => xs[i + j]?), h) := by
  have hl := l.len
  have k9 := s.k9
  have r9 : gR h 9 0 = some 10 := s.r9 (by decide)
  intro d
  induction d with
  | zero =>
    intro i f hi hf
    obtain ⟨g, rfl⟩ : ∃ g, f = g + 1 := ⟨f - 1, by omega⟩
    rw [f_X8_exchangeNamed_2, szL r9 k9 l, if_pos (nI_le (by omega) (by omega)), r.drop0 (by omega)]
    rfl
  | succ d ih =>
    intro i f hi hf
    obtain ⟨g, rfl⟩ : ∃ g, f = g + 1 := ⟨f - 1, by omega⟩
    obtain ⟨a, b, h1, h2, h3, h4⟩ := r.drop (show i < xs.length by omega)
    rw [f_X8_exchangeNamed_2, szL r9 k9 l, if_neg (nI_ge (by omega) (by omega)), gtL r9 k9 l (by omega), h1, ckc_e h3.1, nn_s, rdJ_e h3.1, h3.2.1, h4, List.findIdx?_cons]
    by_cases c : b.1 = x
    · rw [if_pos (cmp_eq.mpr c), if_pos (decide_eq_true c)]
      unfold f_X8_exchangeNamed_36
      rw [gtL r9 k9 l (by omega), h1, ckc_e h3.1]
      simp [h1]
    · rw [if_neg (fun z => c (cmp_eq.mp z)), if_neg (by simp [c]), nI_1, ih (i + 1) g (by omega) (by omega)]
      congr 2
      cases (E.drop (i + 1)).findIdx? (fun r => decide (r.1 = x)) with
      | none => rfl
      | some k => show xs[i + 1 + k]? = xs[i + (k + 1)]?; congr 1; omega
def fAt (l : List Nat) (o : Option Nat) : Option Nat := o.bind (fun j => l[j]?)
theorem exN_ok {h : AH} {xs : List Nat} {E : List R_ex} (s : Sk h) (l : LI h 10 xs) (r : F2 (ExR h) xs E) (x : Int64) : f_X8_exchangeNamed 9 x h = some (fAt xs (E.findIdx? (fun r => decide (r.1 = x))), h) := by
  have hl := l.len
  unfold f_X8_exchangeNamed
  have := exN_l s l r x xs.length 0 FU (by omega) (by unfold FU; omega)
  rw [nI_0, List.drop_zero] at this
  rw [this]
  simp [fAt]
theorem quN_l {h : AH} {xs : List Nat} {E : List R_qu} (s : Sk h) (l : LI h 11 xs) (r : F2 (QuR h) xs E) (x : Int64) : ∀ (d i f : Nat), i + d = xs.length → d < f → f_X8_queueNamed_2 f 9 x (nI i) h = some (((E.drop i).findIdx? (fun r => decide (r.1 = x))).bind (fun j => xs[i + j]?), h) := by
  have hl := l.len
  have k9 := s.k9
  have r9 : gR h 9 1 = some 11 := s.r9 (by decide)
  intro d
  induction d with
  | zero =>
    intro i f hi hf
    obtain ⟨g, rfl⟩ : ∃ g, f = g + 1 := ⟨f - 1, by omega⟩
    rw [f_X8_queueNamed_2, szL r9 k9 l, if_pos (nI_le (by omega) (by omega)), r.drop0 (by omega)]
    rfl
  | succ d ih =>
    intro i f hi hf
    obtain ⟨g, rfl⟩ : ∃ g, f = g + 1 := ⟨f - 1, by omega⟩
    obtain ⟨a, b, h1, h2, h3, h4⟩ := r.drop (show i < xs.length by omega)
    rw [f_X8_queueNamed_2, szL r9 k9 l, if_neg (nI_ge (by omega) (by omega)), gtL r9 k9 l (by omega), h1, ckc_e h3.1, nn_s, rdJ_e h3.1, h3.2.1, h4, List.findIdx?_cons]
    by_cases c : b.1 = x
    · rw [if_pos (cmp_eq.mpr c), if_pos (decide_eq_true c)]
      unfold f_X8_queueNamed_36
      rw [gtL r9 k9 l (by omega), h1, ckc_e h3.1]
      simp [h1]
    · rw [if_neg (fun z => c (cmp_eq.mp z)), if_neg (by simp [c]), nI_1, ih (i + 1) g (by omega) (by omega)]
      congr 2
      cases (E.drop (i + 1)).findIdx? (fun r => decide (r.1 = x)) with
      | none => rfl
      | some k => show xs[i + 1 + k]? = xs[i + (k + 1)]?; congr 1; omega
theorem quN_ok {h : AH} {xs : List Nat} {E : List R_qu} (s : Sk h) (l : LI h 11 xs) (r : F2 (QuR h) xs E) (x : Int64) : f_X8_queueNamed 9 x h = some (fAt xs (E.findIdx? (fun r => decide (r.1 = x))), h) := by
  have hl := l.len
  unfold f_X8_queueNamed
  have := quN_l s l r x xs.length 0 FU (by omega) (by unfold FU; omega)
  rw [nI_0, List.drop_zero] at this
  rw [this]
  simp [fAt]
/-- addresses of objects -/
theorem Wf.ge4 {h : AH} (w : Wf h) {a k : Nat} (ka : kd h a = k) (hk : k < 90) : 4 ≤ a := by
  by_cases c : a < 4
  · have := w.1 a c; omega
  · omega
theorem aq_i {β : Type} {h : AH} (w : Wf h) {p q kp kq : Nat} {A B : Option β} (hp : kd h p = kp) (hq : kd h q = kq) (h1 : kp < 90) (h2 : kq < 90) : aq (some p) (some q) A B = if p = q then A else B := by
  by_cases c : p = q
  · rw [if_pos c, aq_t (by rw [c])]
  · rw [if_neg c, aq_f c (w.ge4 hp h1) (w.ge4 hq h2)]
/-- the consumer of a channel with a tag -/
theorem coA_l {h : AH} {cs qs : List Nat} {Q : List R_qu} {C : List R_co} {ch : Nat} (w : Wf h) (s : Sk h) (l : LI h 13 cs) (r : F2 (CoR h qs Q) cs C) (h1 : 1 ≤ ch) (h2 : ch ≤ 3) (x : Int64) : ∀ (d i f : Nat), i + d = cs.length → d < f → f_X8_consumerAt_3 f 9 (some (chA ch)) x (nI i) h = some (fiR i ((C.drop i).findIdx? (fun r => decide (r.2.1 = nI ch ∧ r.2.2.1 = x))), h) := by
  have hl := l.len
  have k9 := s.k9
  have r9 : gR h 9 3 = some 13 := s.r9 (by decide)
  have kc := (s.ch h1 h2).1
  intro d
  induction d with
  | zero =>
    intro i f hi hf
    obtain ⟨g, rfl⟩ : ∃ g, f = g + 1 := ⟨f - 1, by omega⟩
    rw [f_X8_consumerAt_3, szL r9 k9 l, if_pos (nI_le (by omega) (by omega)), r.drop0 (by omega)]
    rfl
  | succ d ih =>
    intro i f hi hf
    obtain ⟨g, rfl⟩ : ∃ g, f = g + 1 := ⟨f - 1, by omega⟩
    obtain ⟨a, b, p1, p2, p3, p4⟩ := r.drop (show i < cs.length by omega)
    obtain ⟨c1, c2, c3, c4, c5, ⟨c', z1, z2, z3, z4⟩, -⟩ := p3
    rw [f_X8_consumerAt_3, szL r9 k9 l, if_neg (nI_ge (by omega) (by omega)), gtL r9 k9 l (by omega), p1, ckc_e c1, nn_s, rdR_e c1, z4, p4, List.findIdx?_cons]
    rw [aq_i w (s.ch z1 z2).1 kc (by decide) (by decide)]
    have next : f_X8_consumerAt_63 (fun a0 r1 x2 x4 h => f_X8_consumerAt_3 g a0 r1 x2 x4 h) 9 (some (chA ch)) x (nI i) h = some (fiR i ((((C.drop (i + 1)).findIdx? (fun r => decide (r.2.1 = nI ch ∧ r.2.2.1 = x)))).map (· + 1)), h) := by
      unfold f_X8_consumerAt_63
      rw [nI_1, fiR_map]
      exact ih (i + 1) g (by omega) (by omega)
    by_cases e : chA c' = chA ch
    · have e' : c' = ch := by unfold chA at e; omega
      rw [if_pos e, gtL r9 k9 l (by omega), p1, ckc_e c1, nn_s, rdJ_e c1, c3]
      by_cases q : b.2.2.1 = x
      · rw [if_pos (cmp_eq.mpr q), if_pos (by simp [z3, e', q])]
        rfl
      · rw [if_neg (fun y => q (cmp_eq.mp y)), if_neg (by simp [q]), next]
    · have e' : ¬ b.2.1 = nI ch := fun y => e (by
        rw [z3] at y
        have := (nI_eq (by omega) (by omega)).mp y
        rw [this])
      rw [if_neg e, if_neg (by simp [e']), next]
theorem coA_ok {h : AH} {cs qs : List Nat} {Q : List R_qu} {C : List R_co} {ch : Nat} (w : Wf h) (s : Sk h) (l : LI h 13 cs) (r : F2 (CoR h qs Q) cs C) (h1 : 1 ≤ ch) (h2 : ch ≤ 3) (x : Int64) : f_X8_consumerAt 9 (some (chA ch)) x h = some (fiR 0 (C.findIdx? (fun r => decide (r.2.1 = nI ch ∧ r.2.2.1 = x))), h) := by
  have hl := l.len
  unfold f_X8_consumerAt
  have := coA_l w s l r h1 h2 x cs.length 0 FU (by omega) (by unfold FU; omega)
  rw [nI_0, List.drop_zero] at this
  exact this
/-- names and addresses, of what is there -/
theorem Nodup.idx {α : Type} {l : List α} (n : l.Nodup) {i j : Nat} {a : α} (h1 : l[i]? = some a) (h2 : l[j]? = some a) : i = j := by
  have hi : i < l.length := by
    by_cases c : i < l.length
    · exact c
    · rw [List.getElem?_eq_none (by omega)] at h1; simp at h1
  have hj : j < l.length := by
    by_cases c : j < l.length
    · exact c
    · rw [List.getElem?_eq_none (by omega)] at h2; simp at h2
  rw [List.getElem?_eq_getElem hi] at h1
  rw [List.getElem?_eq_getElem hj] at h2
  by_cases e : i = j
  · exact e
  · exfalso
    have := List.pairwise_iff_getElem.mp n
    rcases Nat.lt_or_gt_of_ne e with z | z
    · exact this i j hi hj z (by rw [Option.some.inj h1, Option.some.inj h2])
    · exact this j i hj hi z (by rw [Option.some.inj h1, Option.some.inj h2])
theorem map_get {α β : Type} {l : List α} {f : α → β} {i : Nat} {a : α} (h : l[i]? = some a) : (l.map f)[i]? = some (f a) := by rw [List.getElem?_map, h]; rfl
/-- the queue (exchange) of a binding, beside a queue (exchange) that is there -/
theorem BiR.q {h : AH} {xs qs : List Nat} {E : List R_ex} {Q : List R_qu} {a : Nat} {r : R_bi} (b : BiR h xs qs E Q a r) (n1 : qs.Nodup) (n2 : (Q.map (fun r => r.1)).Nodup) {i q : Nat} {x : R_qu} (h1 : qs[i]? = some q) (h2 : Q[i]? = some x) : ∃ q', gR h a 0 = some q' ∧ q' ∈ qs ∧ (q' = q ↔ r.1 = x.1) := by
  obtain ⟨-, -, -, -, -, ⟨j, q', x', a1, a2, a3, a4⟩, -⟩ := b
  refine ⟨q', a3, List.mem_of_getElem? a1, fun z => ?_, fun z => ?_⟩
  · subst z
    have := Nodup.idx n1 a1 h1
    subst this
    rw [a2] at h2
    cases h2
    exact a4.symm
  · have := Nodup.idx n2 (map_get a2) (by rw [a4, z]; exact map_get h2)
    subst this
    rw [a1] at h1
    exact Option.some.inj h1
theorem BiR.e {h : AH} {xs qs : List Nat} {E : List R_ex} {Q : List R_qu} {a : Nat} {r : R_bi} (b : BiR h xs qs E Q a r) (n1 : xs.Nodup) (n2 : (E.map (fun r => r.1)).Nodup) {i e : Nat} {x : R_ex} (h1 : xs[i]? = some e) (h2 : E[i]? = some x) : ∃ e', gR h a 1 = some e' ∧ e' ∈ xs ∧ (e' = e ↔ r.2.1 = x.1) := by
  obtain ⟨-, -, -, -, -, -, j, e', x', a1, a2, a3, a4⟩ := b
  refine ⟨e', a3, List.mem_of_getElem? a1, fun z => ?_, fun z => ?_⟩
  · subst z
    have := Nodup.idx n1 a1 h1
    subst this
    rw [a2] at h2
    cases h2
    exact a4.symm
  · have := Nodup.idx n2 (map_get a2) (by rw [a4, z]; exact map_get h2)
    subst this
    rw [a1] at h1
    exact Option.some.inj h1
theorem biA_l {h : AH} {bs xs qs : List Nat} {E : List R_ex} {Q : List R_qu} {B : List R_bi} {iq q ie e : Nat} {x : R_qu} {y : R_ex} (w : Wf h) (s : Sk h) (l : LI h 12 bs) (r : F2 (BiR h xs qs E Q) bs B) (n1 : qs.Nodup) (n2 : (Q.map (fun r => r.1)).Nodup) (n3 : xs.Nodup) (n4 : (E.map (fun r => r.1)).Nodup) (kq : ∀ a ∈ qs, kd h a = 11) (ke : ∀ a ∈ xs, kd h a = 6) (q1 : qs[iq]? = some q) (q2 : Q[iq]? = some x) (e1 : xs[ie]? = some e) (e2 : E[ie]? = some y) (k : Int64) : ∀ (d i f : Nat), i + d = bs.length → d < f → f_X8_bindingAt_3 f 9 (some q) (some e) k (nI i) h = some (fiR i ((B.drop i).findIdx? (fun r => decide (r.1 = x.1 ∧ r.2.1 = y.1 ∧ r.2.2 = k))), h) := by
  have hl := l.len
  have k9 := s.k9
  have r9 : gR h 9 2 = some 12 := s.r9 (by decide)
  intro d
  induction d with
  | zero =>
    intro i f hi hf
    obtain ⟨g, rfl⟩ : ∃ g, f = g + 1 := ⟨f - 1, by omega⟩
    rw [f_X8_bindingAt_3, szL r9 k9 l, if_pos (nI_le (by omega) (by omega)), r.drop0 (by omega)]
    rfl
  | succ d ih =>
    intro i f hi hf
    obtain ⟨g, rfl⟩ : ∃ g, f = g + 1 := ⟨f - 1, by omega⟩
    obtain ⟨a, b, p1, p2, p3, p4⟩ := r.drop (show i < bs.length by omega)
    obtain ⟨q', a1, a2, a3⟩ := p3.q n1 n2 q1 q2
    obtain ⟨e', b1, b2, b3⟩ := p3.e n3 n4 e1 e2
    rw [f_X8_bindingAt_3, szL r9 k9 l, if_neg (nI_ge (by omega) (by omega)), gtL r9 k9 l (by omega), p1, ckc_e p3.1, nn_s, rdR_e p3.1, a1, p4, List.findIdx?_cons, aq_i w (kq q' a2) (kq q (List.mem_of_getElem? q1)) (by decide) (by decide)]
    have next : f_X8_bindingAt_64 (fun a0 r1 r2 x3 x5 h => f_X8_bindingAt_3 g a0 r1 r2 x3 x5 h) 9 (some q) (some e) k (nI i) h = some (fiR i ((((B.drop (i + 1)).findIdx? (fun r => decide (r.1 = x.1 ∧ r.2.1 = y.1 ∧ r.2.2 = k)))).map (· + 1)), h) := by
      unfold f_X8_bindingAt_64
      rw [nI_1, fiR_map]
      exact ih (i + 1) g (by omega) (by omega)
    by_cases c1 : q' = q
    · rw [if_pos c1, rdR_e p3.1, b1, aq_i w (ke e' b2) (ke e (List.mem_of_getElem? e1)) (by decide) (by decide)]
      have z1 := a3.mp c1
      by_cases c2 : e' = e
      · have z2 := b3.mp c2
        rw [if_pos c2, rdJ_e p3.1, p3.2.1]
        by_cases c3 : b.2.2 = k
        · rw [if_pos (cmp_eq.mpr c3), if_pos (by simp [z1, z2, c3])]
          rfl
        · rw [if_neg (fun z => c3 (cmp_eq.mp z)), if_neg (by simp [c3]), next]
      · have z2 : ¬ b.2.1 = y.1 := fun z => c2 (b3.mpr z)
        rw [if_neg c2, if_neg (by simp [z2]), next]
    · have z1 : ¬ b.1 = x.1 := fun z => c1 (a3.mpr z)
      rw [if_neg c1, if_neg (by simp [z1]), next]
theorem coO_l {h : AH} {cs qs : List Nat} {Q : List R_qu} {C : List R_co} {iq q : Nat} {x : R_qu} (w : Wf h) (s : Sk h) (l : LI h 13 cs) (r : F2 (CoR h qs Q) cs C) (kq : kd h q = 11) (q1 : qs[iq]? = some q) (q2 : Q[iq]? = some x) : ∀ (d i f : Nat) (n : Int32), i + d = cs.length → d < f → f_X8_consumersOf_4 f 9 (some q) n (nI i) h = some (n + nI ((C.drop i).countP (fun r => decide (r.2.2.2.1 = x.2.1))), h) := by
  have hl := l.len
  have k9 := s.k9
  have r9 : gR h 9 3 = some 13 := s.r9 (by decide)
  intro d
  induction d with
  | zero =>
    intro i f n hi hf
    obtain ⟨g, rfl⟩ : ∃ g, f = g + 1 := ⟨f - 1, by omega⟩
    rw [f_X8_consumersOf_4, szL r9 k9 l, if_pos (nI_le (by omega) (by omega)), r.drop0 (by omega)]
    simp [nI_0]
  | succ d ih =>
    intro i f n hi hf
    obtain ⟨g, rfl⟩ : ∃ g, f = g + 1 := ⟨f - 1, by omega⟩
    obtain ⟨a, b, p1, p2, p3, p4⟩ := r.drop (show i < cs.length by omega)
    obtain ⟨c1, -, -, -, -, -, q', z1, z2, z3⟩ := p3
    have z4 := z3 iq q x q1 q2
    rw [f_X8_consumersOf_4, szL r9 k9 l, if_neg (nI_ge (by omega) (by omega)), gtL r9 k9 l (by omega), p1, ckc_e c1, nn_s, rdR_e c1, z1, p4, List.countP_cons, aq_i w z2 kq (by decide) (by decide)]
    have next : ∀ s0 : Int32, f_X8_consumersOf_43 (fun a0 r1 x2 x3 h => f_X8_consumersOf_4 g a0 r1 x2 x3 h) 9 (some q) (nI i) s0 n h = some (n + s0 + nI ((C.drop (i + 1)).countP (fun r => decide (r.2.2.2.1 = x.2.1))), h) := by
      intro s0
      unfold f_X8_consumersOf_43
      rw [ltd, nI_1]
      exact ih (i + 1) g (n + s0) (by omega) (by omega)
    by_cases e : q' = q
    · have e' : b.2.2.2.1 = x.2.1 := (z4.mp e.symm).symm
      rw [if_pos e, next, cadd1, if_pos (decide_eq_true e')]
    · have e' : ¬ b.2.2.2.1 = x.2.1 := fun y => e (z4.mpr y.symm).symm
      rw [if_neg e, next, Int32.add_zero, if_neg (by simp [e'])]
      rfl
theorem coO_ok {h : AH} {cs qs : List Nat} {Q : List R_qu} {C : List R_co} {iq q : Nat} {x : R_qu} (w : Wf h) (s : Sk h) (l : LI h 13 cs) (r : F2 (CoR h qs Q) cs C) (kq : kd h q = 11) (q1 : qs[iq]? = some q) (q2 : Q[iq]? = some x) : f_X8_consumersOf 9 (some q) h = some (nI (C.countP (fun r => decide (r.2.2.2.1 = x.2.1))), h) := by
  have hl := l.len
  unfold f_X8_consumersOf
  have := coO_l w s l r kq q1 q2 cs.length 0 FU 0 (by omega) (by unfold FU; omega)
  rw [nI_0, List.drop_zero, Int32.zero_add] at this
  exact this
theorem biO_l {h : AH} {bs xs qs : List Nat} {E : List R_ex} {Q : List R_qu} {B : List R_bi} {iq q : Nat} {x : R_qu} (w : Wf h) (s : Sk h) (l : LI h 12 bs) (r : F2 (BiR h xs qs E Q) bs B) (n1 : qs.Nodup) (n2 : (Q.map (fun r => r.1)).Nodup) (kq : ∀ a ∈ qs, kd h a = 11) (q1 : qs[iq]? = some q) (q2 : Q[iq]? = some x) : ∀ (d i f : Nat) (n : Int32), i + d = bs.length → d < f → f_X8_bindingsOf_4 f 9 (some q) n (nI i) h = some (n + nI ((B.drop i).countP (fun r => decide (r.1 = x.1))), h) := by
  have hl := l.len
  have k9 := s.k9
  have r9 : gR h 9 2 = some 12 := s.r9 (by decide)
  intro d
  induction d with
  | zero =>
    intro i f n hi hf
    obtain ⟨g, rfl⟩ : ∃ g, f = g + 1 := ⟨f - 1, by omega⟩
    rw [f_X8_bindingsOf_4, szL r9 k9 l, if_pos (nI_le (by omega) (by omega)), r.drop0 (by omega)]
    simp [nI_0]
  | succ d ih =>
    intro i f n hi hf
    obtain ⟨g, rfl⟩ : ∃ g, f = g + 1 := ⟨f - 1, by omega⟩
    obtain ⟨a, b, p1, p2, p3, p4⟩ := r.drop (show i < bs.length by omega)
    obtain ⟨q', a1, a2, a3⟩ := p3.q n1 n2 q1 q2
    rw [f_X8_bindingsOf_4, szL r9 k9 l, if_neg (nI_ge (by omega) (by omega)), gtL r9 k9 l (by omega), p1, ckc_e p3.1, nn_s, rdR_e p3.1, a1, p4, List.countP_cons, aq_i w (kq q' a2) (kq q (List.mem_of_getElem? q1)) (by decide) (by decide)]
    have next : ∀ s0 : Int32, f_X8_bindingsOf_43 (fun a0 r1 x2 x3 h => f_X8_bindingsOf_4 g a0 r1 x2 x3 h) 9 (some q) (nI i) s0 n h = some (n + s0 + nI ((B.drop (i + 1)).countP (fun r => decide (r.1 = x.1))), h) := by
      intro s0
      unfold f_X8_bindingsOf_43
      rw [ltd, nI_1]
      exact ih (i + 1) g (n + s0) (by omega) (by omega)
    by_cases e : q' = q
    · rw [if_pos e, next, cadd1, if_pos (decide_eq_true (a3.mp e))]
    · have e' : ¬ b.1 = x.1 := fun y => e (a3.mpr y)
      rw [if_neg e, next, Int32.add_zero, if_neg (by simp [e'])]
      rfl
theorem isB_l {h : AH} {bs xs qs : List Nat} {E : List R_ex} {Q : List R_qu} {B : List R_bi} {ie e : Nat} {y : R_ex} (w : Wf h) (s : Sk h) (l : LI h 12 bs) (r : F2 (BiR h xs qs E Q) bs B) (n3 : xs.Nodup) (n4 : (E.map (fun r => r.1)).Nodup) (ke : ∀ a ∈ xs, kd h a = 6) (e1 : xs[ie]? = some e) (e2 : E[ie]? = some y) : ∀ (d i f : Nat), i + d = bs.length → d < f → f_X8_isBound_2 f 9 (some e) (nI i) h = some (bit ((B.drop i).any (fun r => decide (r.2.1 = y.1))), h) := by
  have hl := l.len
  have k9 := s.k9
  have r9 : gR h 9 2 = some 12 := s.r9 (by decide)
  intro d
  induction d with
  | zero =>
    intro i f hi hf
    obtain ⟨g, rfl⟩ : ∃ g, f = g + 1 := ⟨f - 1, by omega⟩
    rw [f_X8_isBound_2, szL r9 k9 l, if_pos (nI_le (by omega) (by omega)), r.drop0 (by omega)]
    rfl
  | succ d ih =>
    intro i f hi hf
    obtain ⟨g, rfl⟩ : ∃ g, f = g + 1 := ⟨f - 1, by omega⟩
    obtain ⟨a, b, p1, p2, p3, p4⟩ := r.drop (show i < bs.length by omega)
    obtain ⟨e', b1, b2, b3⟩ := p3.e n3 n4 e1 e2
    rw [f_X8_isBound_2, szL r9 k9 l, if_neg (nI_ge (by omega) (by omega)), gtL r9 k9 l (by omega), p1, ckc_e p3.1, nn_s, rdR_e p3.1, b1, p4, List.any_cons, aq_i w (ke e' b2) (ke e (List.mem_of_getElem? e1)) (by decide) (by decide)]
    by_cases c : e' = e
    · rw [if_pos c, decide_eq_true (b3.mp c)]
      rfl
    · rw [if_neg c, decide_eq_false (fun z => c (b3.mpr z)), nI_1]
      exact ih (i + 1) g (by omega) (by omega)
/-! ===== who may take the next letter ===== -/
def hdC (v : MV) (c : Nat) : Nat := (leL v).countP (fun r : R_le => decide (r.2.2.1 = nI c))
/-- may a consumer take a letter, by the reference's rows -/
def wlR (v : MV) (r : R_co) : Bool := decide (v.2.1 37 r.2.1.toNatClampNeg ≠ 0) && (decide (r.2.2.2.2 ≠ 0) || decide (v.2.1 36 r.2.1.toNatClampNeg = 0) || decide (nI (hdC v r.2.1.toNatClampNeg) < v.2.1 36 r.2.1.toNatClampNeg))
theorem co_at {v : MV} (h : CV v 17 6) {k : Nat} (hk : k < cN v 17) : (coL v)[k]? = some (v.2.1 19 k, v.2.1 20 k, v.2.2 21 k, v.2.1 22 k, v.2.1 23 k) := lst_get _ hk
theorem can_ok {v : MV} {k c : Nat} {r : R_co} (h : CV v 17 6) (h24 : CV v 24 24) (hk : k < cN v 17) (hr : (coL v)[k]? = some r) (hc : r.2.1 = nI c) (c3 : c ≤ 3) : m_canTake (nI k) v = some (bit (wlR v r), v) := by
  have hN := h.2
  rw [co_at h hk] at hr
  cases hr
  have hc' : v.2.1 20 k = nI c := hc
  unfold m_canTake wlR
  have cl : (nI c).toNatClampNeg = c := nI_clamp (by omega)
  simp only [hc', cl]
  rw [mrI_e (show k < alen 20 from by show k < 6; omega) (by decide), hc', mrI_e (show c < alen 37 from by show c < 4; omega) (by decide)]
  by_cases f1 : v.2.1 37 c = 0
  · rw [if_pos f1]
    simp [f1, rz, bit]
  · rw [if_neg f1, mrI_e (show k < alen 23 from by show k < 6; omega) (by decide)]
    by_cases f2 : v.2.1 23 k = 0
    · rw [if_pos f2, mrI_e (show c < alen 36 from by show c < 4; omega) (by decide)]
      by_cases f3 : v.2.1 36 c = 0
      · rw [if_pos f3]
        simp [f1, f2, f3, rz, bit]
      · rw [if_neg f3, held_ok h24, bdm_s, mrI_e (show c < alen 36 from by show c < 4; omega) (by decide)]
        show (if v.2.1 36 c ≤ nI (hdC v c) then _ else _) = _
        by_cases f4 : nI (hdC v c) < v.2.1 36 c
        · rw [if_neg (Int32.not_le.mpr f4)]
          simp [f1, f2, f3, f4, rz, bit]
        · rw [if_pos (Int32.not_lt.mp f4)]
          simp [f1, f2, f3, f4, rz, bit]
    · rw [if_neg f2]
      simp [f1, f2, rz, bit]
theorem will_ok {h : AH} {v : MV} {qs : List Nat} {Q : List R_qu} {hl : Nat → List Nat} {a : Nat} {r : R_co} (s : Sk h) (sc : Sc h v) (ls : ∀ c, 1 ≤ c → c ≤ 3 → LI h (chA c + 1) (hl c)) (hh : ∀ c, 1 ≤ c → c ≤ 3 → (hl c).length = hdC v c) (b : CoR h qs Q a r) : f_X2_isWilling a h = some (bit (wlR v r), h) := by
  obtain ⟨b1, b2, b3, b4, b5, ⟨c, z1, z2, z3, z4⟩, -⟩ := b
  obtain ⟨k1, k2, k3, k4⟩ := s.ch z1 z2
  obtain ⟨-, s2, s3, -, -⟩ := sc.2.2 c z1 z2
  have l := ls c z1 z2
  have cl : (nI c).toNatClampNeg = c := nI_clamp (by omega)
  unfold f_X2_isWilling wlR
  rw [z3, cl, rdR_e b1, z4, nn_s, rdI_e k1, s3]
  by_cases f1 : v.2.1 37 c = 0
  · rw [if_pos f1]
    simp [f1, rz, bit]
  · rw [if_neg f1, rdI_e b1, b4]
    by_cases f2 : r.2.2.2.2 = 0
    · rw [if_pos f2, rdR_e b1, z4, nn_s, rdI_e k1, s2]
      by_cases f3 : v.2.1 36 c = 0
      · rw [if_pos f3]
        simp [f1, f2, f3, rz, bit]
      · rw [if_neg f3, rdR_e b1, z4, nn_s, szL k2 k1 l, hh c z1 z2, rdR_e b1, z4, nn_s, rdI_e k1, s2]
        by_cases f4 : nI (hdC v c) < v.2.1 36 c
        · rw [if_neg (Int32.not_le.mpr f4)]
          simp [f1, f2, f3, f4, rz, bit]
        · rw [if_pos (Int32.not_lt.mp f4)]
          simp [f1, f2, f3, f4, rz, bit]
    · rw [if_neg f2]
      simp [f1, f2, rz, bit]
/-- the next consumer of a queue: the first behind the latest one, else the first -/
def nxP (v : MV) (n : Int32) : R_co → Bool := fun r => decide (r.2.2.2.1 = n) && wlR v r
def nxF (v : MV) (n lt : Int32) (C : List R_co) : Option Nat := match C.findIdx? (fun r => nxP v n r && decide (lt < r.1)) with
  | some k => some k
  | none => C.findIdx? (nxP v n)
theorem nxC_l {h : AH} {v : MV} {cs qs : List Nat} {Q : List R_qu} {C : List R_co} {hl : Nat → List Nat} {iq q : Nat} {x : R_qu} (w : Wf h) (s : Sk h) (sc : Sc h v) (ls : ∀ c, 1 ≤ c → c ≤ 3 → LI h (chA c + 1) (hl c)) (hh : ∀ c, 1 ≤ c → c ≤ 3 → (hl c).length = hdC v c) (l : LI h 13 cs) (r : F2 (CoR h qs Q) cs C) (kq : QuR h q x) (q1 : qs[iq]? = some q) (q2 : Q[iq]? = some x) : ∀ (d i f : Nat) (o : Option Nat), i + d = cs.length → d < f → f_X8_nextConsumerOf_4 f 9 (some q) o (nI i) h = some ((match (C.drop i).findIdx? (fun r => nxP v x.2.1 r && decide (x.2.2 < r.1)) with
    | some k => cs[i + k]?
    | none => match o with
      | some a => some a
      | none => ((C.drop i).findIdx? (nxP v x.2.1)).bind (fun j => cs[i + j]?)), h) := by
  have hll := l.len
  have k9 := s.k9
  have r9 : gR h 9 3 = some 13 := s.r9 (by decide)
  intro d
  induction d with
  | zero =>
    intro i f o hi hf
    obtain ⟨g, rfl⟩ : ∃ g, f = g + 1 := ⟨f - 1, by omega⟩
    rw [f_X8_nextConsumerOf_4, szL r9 k9 l, if_pos (nI_le (by omega) (by omega)), r.drop0 (by omega)]
    cases o <;> rfl
  | succ d ih =>
    intro i f o hi hf
    obtain ⟨g, rfl⟩ : ∃ g, f = g + 1 := ⟨f - 1, by omega⟩
    obtain ⟨a, b, p1, p2, p3, p4⟩ := r.drop (show i < cs.length by omega)
    have wk := will_ok s sc ls hh p3
    obtain ⟨c1, c2, -, -, -, -, q', z1, z2, z3⟩ := p3
    have z4 := z3 iq q x q1 q2
    rw [f_X8_nextConsumerOf_4, szL r9 k9 l, if_neg (nI_ge (by omega) (by omega)), gtL r9 k9 l (by omega), p1, ckc_e c1, nn_s, rdR_e c1, z1, p4, aq_i w z2 kq.1 (by decide) (by decide), kg_e c1, wk, bd_s]
    have next : ∀ o : Option Nat, f_X8_nextConsumerOf_75 (fun a0 r1 r2 x3 h => f_X8_nextConsumerOf_4 g a0 r1 r2 x3 h) 9 (some q) o (nI i) h = some ((match (C.drop (i + 1)).findIdx? (fun r => nxP v x.2.1 r && decide (x.2.2 < r.1)) with
        | some k => cs[i + 1 + k]?
        | none => match o with
          | some a => some a
          | none => ((C.drop (i + 1)).findIdx? (nxP v x.2.1)).bind (fun j => cs[i + 1 + j]?)), h) := by
      intro o
      unfold f_X8_nextConsumerOf_75
      rw [nI_1]
      exact ih (i + 1) g o (by omega) (by omega)
    have sh : ∀ k, cs[i + (k + 1)]? = cs[i + 1 + k]? := fun k => by congr 1; omega
    -- a record that doesn't count
    have skip : nxP v x.2.1 b = false → f_X8_nextConsumerOf_75 (fun a0 r1 r2 x3 h => f_X8_nextConsumerOf_4 g a0 r1 r2 x3 h) 9 (some q) o (nI i) h = some ((match (b :: C.drop (i + 1)).findIdx? (fun r => nxP v x.2.1 r && decide (x.2.2 < r.1)) with
        | some k => cs[i + k]?
        | none => match o with
          | some a => some a
          | none => ((b :: C.drop (i + 1)).findIdx? (nxP v x.2.1)).bind (fun j => cs[i + j]?)), h) := by
      intro hb
      rw [next o, List.findIdx?_cons, List.findIdx?_cons, hb]
      simp only [Bool.false_and, Bool.false_eq_true, if_false]
      congr 2
      cases (C.drop (i + 1)).findIdx? (fun r => nxP v x.2.1 r && decide (x.2.2 < r.1)) with
      | some k => exact (sh k).symm
      | none =>
        cases o with
        | some a => rfl
        | none =>
          cases (C.drop (i + 1)).findIdx? (nxP v x.2.1) with
          | none => rfl
          | some k => exact (sh k).symm
    by_cases e : q' = q
    · have e' : b.2.2.2.1 = x.2.1 := (z4.mp e.symm).symm
      rw [if_pos e]
      by_cases wb : wlR v b = true
      · have hb : nxP v x.2.1 b = true := by unfold nxP; rw [decide_eq_true e', wb]; rfl
        rw [wb, if_neg (by decide), rdI_e c1, c2, nn_s, rdI_e kq.1, kq.2.2, List.findIdx?_cons, List.findIdx?_cons, hb]
        by_cases g1 : x.2.2 < b.1
        · rw [if_neg (Int32.not_le.mpr g1), decide_eq_true g1]
          simp only [Bool.and_self, if_true]
          rw [Nat.add_zero, p1]
        · rw [if_pos (Int32.not_lt.mp g1), decide_eq_false g1]
          simp only [Bool.and_false, Bool.false_eq_true, if_false, if_true]
          unfold f_X8_nextConsumerOf_74
          cases o with
          | none =>
            show f_X8_nextConsumerOf_75 _ 9 (some q) (some a) (nI i) h = _
            rw [next (some a)]
            congr 2
            cases (C.drop (i + 1)).findIdx? (fun r => nxP v x.2.1 r && decide (x.2.2 < r.1)) with
            | some k => exact (sh k).symm
            | none => exact p1.symm
          | some a' =>
            show f_X8_nextConsumerOf_75 _ 9 (some q) (some a') (nI i) h = _
            rw [next (some a')]
            congr 2
            cases (C.drop (i + 1)).findIdx? (fun r => nxP v x.2.1 r && decide (x.2.2 < r.1)) with
            | some k => exact (sh k).symm
            | none => rfl
      · rw [Bool.not_eq_true] at wb
        rw [wb, if_pos bit_f]
        exact skip (by unfold nxP; rw [wb, Bool.and_false])
    · have e' : ¬ b.2.2.2.1 = x.2.1 := fun y => e (z4.mpr y.symm).symm
      rw [if_neg e]
      exact skip (by unfold nxP; rw [decide_eq_false e']; rfl)
theorem nxC_ok {h : AH} {v : MV} {cs qs : List Nat} {Q : List R_qu} {C : List R_co} {hl : Nat → List Nat} {iq q : Nat} {x : R_qu} (w : Wf h) (s : Sk h) (sc : Sc h v) (ls : ∀ c, 1 ≤ c → c ≤ 3 → LI h (chA c + 1) (hl c)) (hh : ∀ c, 1 ≤ c → c ≤ 3 → (hl c).length = hdC v c) (l : LI h 13 cs) (r : F2 (CoR h qs Q) cs C) (kq : QuR h q x) (q1 : qs[iq]? = some q) (q2 : Q[iq]? = some x) : f_X8_nextConsumerOf 9 (some q) h = some (fAt cs (nxF v x.2.1 x.2.2 C), h) := by
  have hl := l.len
  unfold f_X8_nextConsumerOf
  have := nxC_l w s sc ls hh l r kq q1 q2 cs.length 0 FU none (by omega) (by unfold FU; omega)
  rw [nI_0, List.drop_zero] at this
  rw [this]
  unfold nxF fAt
  cases C.findIdx? (fun r => nxP v x.2.1 r && decide (x.2.2 < r.1)) with
  | some k => simp
  | none => simp
/-- the reference's two loops -/
theorem nxM_l {v : MV} {iq : Nat} {x : R_qu} (h17 : CV v 17 6) (h24 : CV v 24 24) (h8 : CV v 8 5) (hq : (quL v)[iq]? = some x) (hcs : ∀ r ∈ coL v, ∃ c, c ≤ 3 ∧ r.2.1 = nI c) (y : Int32) : ∀ (d i f : Nat), i + d = cN v 17 → d < f → m_nextConsumer_50 f (nI iq) y (nI i) v = some ((match ((coL v).drop i).findIdx? (fun r => nxP v x.2.1 r && decide (x.2.2 < r.1)) with
    | some k => nI (i + k)
    | none => y), v) := by
  have hN := h17.2
  have hiq : iq < cN v 8 := by
    by_cases c : iq < cN v 8
    · exact c
    · rw [List.getElem?_eq_none (by rw [quL_len]; omega)] at hq; simp at hq
  have hN8 := h8.2
  have ex : x = (v.2.2 10 iq, v.2.1 11 iq, v.2.1 12 iq) := by
    have : (quL v)[iq]? = some (v.2.2 10 iq, v.2.1 11 iq, v.2.1 12 iq) := lst_get _ hiq
    rw [this] at hq
    exact (Option.some.inj hq).symm
  have x1 : v.2.1 11 iq = x.2.1 := by rw [ex]
  have x2 : v.2.1 12 iq = x.2.2 := by rw [ex]
  intro d
  induction d with
  | zero =>
    intro i f hi hf
    obtain ⟨g, rfl⟩ : ∃ g, f = g + 1 := ⟨f - 1, by omega⟩
    have hd : (coL v).drop i = [] := List.drop_eq_nil_of_le (by rw [coL_len]; omega)
    rw [m_nextConsumer_50, if_pos (by rw [h17.1]; exact nI_le (by omega) (by omega)), hd]
    rfl
  | succ d ih =>
    intro i f hi hf
    obtain ⟨g, rfl⟩ : ∃ g, f = g + 1 := ⟨f - 1, by omega⟩
    have hr := co_at h17 (show i < cN v 17 by omega)
    have hd : (coL v).drop i = (v.2.1 19 i, v.2.1 20 i, v.2.2 21 i, v.2.1 22 i, v.2.1 23 i) :: (coL v).drop (i + 1) := lst_drop _ (by omega)
    obtain ⟨c, c3, hc⟩ := hcs _ (List.mem_of_getElem? hr)
    have cn := can_ok h17 h24 (show i < cN v 17 by omega) hr hc c3
    generalize hb : (v.2.1 19 i, v.2.1 20 i, v.2.2 21 i, v.2.1 22 i, v.2.1 23 i) = b at *
    have b1 : v.2.1 22 i = b.2.2.2.1 := by rw [← hb]
    have b2 : v.2.1 19 i = b.1 := by rw [← hb]
    have next : m_nextConsumer_98 (fun x1 x2 x3 v => m_nextConsumer_50 g x1 x2 x3 v) (nI iq) y (nI i) v = some ((match ((coL v).drop (i + 1)).findIdx? (fun r => nxP v x.2.1 r && decide (x.2.2 < r.1)) with
        | some k => nI (i + 1 + k)
        | none => y), v) := by
      unfold m_nextConsumer_98
      rw [nI_1]
      exact ih (i + 1) g (by omega) (by omega)
    have skip : (nxP v x.2.1 b && decide (x.2.2 < b.1)) = false → m_nextConsumer_98 (fun x1 x2 x3 v => m_nextConsumer_50 g x1 x2 x3 v) (nI iq) y (nI i) v = some ((match (b :: (coL v).drop (i + 1)).findIdx? (fun r => nxP v x.2.1 r && decide (x.2.2 < r.1)) with
        | some k => nI (i + k)
        | none => y), v) := by
      intro e
      rw [next, List.findIdx?_cons, e]
      simp only [Bool.false_eq_true, if_false]
      congr 2
      cases ((coL v).drop (i + 1)).findIdx? (fun r => nxP v x.2.1 r && decide (x.2.2 < r.1)) with
      | none => rfl
      | some k => show nI (i + 1 + k) = nI (i + (k + 1)); congr 1; omega
    rw [m_nextConsumer_50, if_neg (by rw [h17.1]; exact nI_ge (by omega) (by omega)), hd, mrI_e (show i < alen 22 from by show i < 6; omega) (by decide), mrI_e (show iq < alen 11 from by show iq < 5; omega) (by decide), x1, b1]
    by_cases e : b.2.2.2.1 = x.2.1
    · rw [if_pos e, cn, bdm_s]
      by_cases wb : wlR v b = true
      · rw [wb, if_neg (by decide), mrI_e (show i < alen 19 from by show i < 6; omega) (by decide), mrI_e (show iq < alen 12 from by show iq < 5; omega) (by decide), x2, b2]
        by_cases g1 : x.2.2 < b.1
        · rw [if_neg (Int32.not_le.mpr g1), List.findIdx?_cons, decide_eq_true g1]
          unfold nxP
          rw [decide_eq_true e, wb]
          rfl
        · rw [if_pos (Int32.not_lt.mp g1)]
          exact skip (by rw [decide_eq_false g1, Bool.and_false])
      · rw [Bool.not_eq_true] at wb
        rw [wb, if_pos bit_f]
        exact skip (by unfold nxP; rw [wb, Bool.and_false]; rfl)
    · rw [if_neg e]
      exact skip (by unfold nxP; rw [decide_eq_false e]; rfl)
theorem nxD_l {v : MV} {iq : Nat} {x : R_qu} (h17 : CV v 17 6) (h24 : CV v 24 24) (h8 : CV v 8 5) (hq : (quL v)[iq]? = some x) (hcs : ∀ r ∈ coL v, ∃ c, c ≤ 3 ∧ r.2.1 = nI c) : ∀ (k f : Nat) (y : Int32), k ≤ cN v 17 → k < f → m_nextConsumer_9 f (nI iq) y (nI k - 1) v = m_nextConsumer_50 FU (nI iq) (match ((coL v).take k).findIdx? (nxP v x.2.1) with
    | some j => nI j
    | none => y) 0 v := by
  have hN := h17.2
  have hiq : iq < cN v 8 := by
    by_cases c : iq < cN v 8
    · exact c
    · rw [List.getElem?_eq_none (by rw [quL_len]; omega)] at hq; simp at hq
  have hN8 := h8.2
  have ex : x = (v.2.2 10 iq, v.2.1 11 iq, v.2.1 12 iq) := by
    have : (quL v)[iq]? = some (v.2.2 10 iq, v.2.1 11 iq, v.2.1 12 iq) := lst_get _ hiq
    rw [this] at hq
    exact (Option.some.inj hq).symm
  have x1 : v.2.1 11 iq = x.2.1 := by rw [ex]
  intro k
  induction k with
  | zero =>
    intro f y _ hf
    obtain ⟨g, rfl⟩ : ∃ g, f = g + 1 := ⟨f - 1, by omega⟩
    rw [m_nextConsumer_9, if_pos neg1_lt]
    rfl
  | succ k ih =>
    intro f y hk hf
    obtain ⟨g, rfl⟩ : ∃ g, f = g + 1 := ⟨f - 1, by omega⟩
    have hr := co_at h17 (show k < cN v 17 by omega)
    obtain ⟨c, c3, hc⟩ := hcs _ (List.mem_of_getElem? hr)
    have cn := can_ok h17 h24 (show k < cN v 17 by omega) hr hc c3
    generalize hb : (v.2.1 19 k, v.2.1 20 k, v.2.2 21 k, v.2.1 22 k, v.2.1 23 k) = b at *
    have b1 : v.2.1 22 k = b.2.2.2.1 := by rw [← hb]
    have tk : (coL v).take (k + 1) = (coL v).take k ++ [b] := by rw [List.take_add_one, hr]; rfl
    have lk : ((coL v).take k).length = k := by rw [List.length_take, coL_len]; omega
    have next : ∀ s0 : Int32, m_nextConsumer_41 (fun x1 x2 x3 v => m_nextConsumer_9 g x1 x2 x3 v) (nI iq) (nI k) s0 v = m_nextConsumer_50 FU (nI iq) (match ((coL v).take k).findIdx? (nxP v x.2.1) with
        | some j => nI j
        | none => s0) 0 v := by
      intro s0
      unfold m_nextConsumer_41
      rw [sub1]
      exact ih g s0 (by omega) (by omega)
    have no : nxP v x.2.1 b = false → m_nextConsumer_41 (fun x1 x2 x3 v => m_nextConsumer_9 g x1 x2 x3 v) (nI iq) (nI k) y v = m_nextConsumer_50 FU (nI iq) (match ((coL v).take (k + 1)).findIdx? (nxP v x.2.1) with
        | some j => nI j
        | none => y) 0 v := by
      intro e
      rw [next y, tk, List.findIdx?_append]
      congr 1
      cases ((coL v).take k).findIdx? (nxP v x.2.1) with
      | some j => rfl
      | none => simp [List.findIdx?_cons, e]
    rw [m_nextConsumer_9, nI_pred, if_neg (nI_pos (by omega)), mrI_e (show k < alen 22 from by show k < 6; omega) (by decide), mrI_e (show iq < alen 11 from by show iq < 5; omega) (by decide), x1, b1]
    by_cases e : b.2.2.2.1 = x.2.1
    · rw [if_pos e, cn, bdm_s]
      by_cases wb : wlR v b = true
      · have hp : nxP v x.2.1 b = true := by unfold nxP; rw [decide_eq_true e, wb]; rfl
        rw [wb, if_neg (by decide), next, tk, List.findIdx?_append]
        congr 1
        cases ((coL v).take k).findIdx? (nxP v x.2.1) with
        | some j => rfl
        | none => simp [List.findIdx?_cons, hp, lk]
      · rw [Bool.not_eq_true] at wb
        rw [wb, if_pos bit_f]
        exact no (by unfold nxP; rw [wb, Bool.and_false])
    · rw [if_neg e]
      exact no (by unfold nxP; rw [decide_eq_false e]; rfl)
theorem nxM_ok {v : MV} {iq : Nat} {x : R_qu} (h17 : CV v 17 6) (h24 : CV v 24 24) (h8 : CV v 8 5) (hq : (quL v)[iq]? = some x) (hcs : ∀ r ∈ coL v, ∃ c, c ≤ 3 ∧ r.2.1 = nI c) : m_nextConsumer (nI iq) v = some (fiR 0 (nxF v x.2.1 x.2.2 (coL v)), v) := by
  have hN := h17.2
  unfold m_nextConsumer
  rw [ltd, h17.1, nxD_l h17 h24 h8 hq hcs (cN v 17) FU (-1) (Nat.le_refl _) (by unfold FU; omega)]
  have e : (coL v).take (cN v 17) = coL v := List.take_of_length_le (by rw [coL_len]; exact Nat.le_refl _)
  have := nxM_l h17 h24 h8 hq hcs (match (coL v).findIdx? (nxP v x.2.1) with
    | some j => nI j
    | none => -1) (cN v 17) 0 FU (by omega) (by unfold FU; omega)
  rw [nI_0, List.drop_zero] at this
  rw [e, this]
  unfold nxF
  cases (coL v).findIdx? (fun r => nxP v x.2.1 r && decide (x.2.2 < r.1)) with
  | some k => rfl
  | none =>
    cases (coL v).findIdx? (nxP v x.2.1) with
    | none => rfl
    | some k => show some (nI k, v) = some (nI (0 + k), v); rw [Nat.zero_add]
/-! how many letters there are -/
theorem sumL {qs : List Nat} {h : AH} (ws : Nat → List Nat) (s : Sk h) (l : LI h 11 qs) (hw : ∀ q ∈ qs, kd h q = 11 ∧ gR h q 1 = some (q + 1) ∧ LI h (q + 1) (ws q)) : ∀ (d i f : Nat) (n : Int32), i + d = qs.length → d < f → f_X8_lettersThatWait_4 f 9 n (nI i) h = some (n + nI (((qs.drop i).map (fun q => (ws q).length)).sum), h) := by
  have hl := l.len
  have k9 := s.k9
  have r9 : gR h 9 1 = some 11 := s.r9 (by decide)
  intro d
  induction d with
  | zero =>
    intro i f n hi hf
    obtain ⟨g, rfl⟩ : ∃ g, f = g + 1 := ⟨f - 1, by omega⟩
    rw [f_X8_lettersThatWait_4, szL r9 k9 l, if_pos (nI_le (by omega) (by omega)), List.drop_eq_nil_of_le (by omega)]
    simp [nI_0]
  | succ d ih =>
    intro i f n hi hf
    obtain ⟨g, rfl⟩ : ∃ g, f = g + 1 := ⟨f - 1, by omega⟩
    have hi2 : i < qs.length := by omega
    obtain ⟨w1, w2, w3⟩ := hw qs[i] (List.getElem_mem hi2)
    rw [f_X8_lettersThatWait_4, szL r9 k9 l, if_neg (nI_ge (by omega) (by omega)), gtL r9 k9 l (by omega), List.getElem?_eq_getElem hi2, ckc_e w1, nn_s, szL w2 w1 w3, ltd, nI_1, ih (i + 1) g _ (by omega) (by omega), List.drop_eq_getElem_cons hi2]
    simp only [List.map_cons, List.sum_cons]
    rw [← nI_add, Int32.add_assoc]

/-! ===== frames by kinds; the class's letters with ghost lists of what is held ===== -/
def KF (h h' : AH) (K : List Nat) : Prop := hz h ≤ hz h' ∧ (∀ b, kd h b ≠ 999 → kd h' b = kd h b ∧ ln h' b = ln h b) ∧ ∀ b, kd h b ≠ 999 → kd h b ≠ 103 → kd h b ∉ K → gI h' b = gI h b ∧ gJ h' b = gJ h b ∧ gR h' b = gR h b
section KFs
variable {h h1 h2 : AH} {K L : List Nat}
theorem KF.rf (h : AH) (K : List Nat) : KF h h K := ⟨Nat.le_refl _, fun _ _ => ⟨rfl, rfl⟩, fun _ _ _ _ => ⟨rfl, rfl, rfl⟩⟩
theorem KF.mono (f : KF h h1 K) (s : ∀ k ∈ K, k ∈ L) : KF h h1 L := ⟨f.1, f.2.1, fun b k1 k2 k3 => f.2.2 b k1 k2 (fun z => k3 (s _ z))⟩
theorem KF.tr (f : KF h h1 K) (g : KF h1 h2 K) : KF h h2 K := by
  refine ⟨Nat.le_trans f.1 g.1, fun b k => ?_, fun b k k2 k3 => ?_⟩
  · obtain ⟨e1, e2⟩ := f.2.1 b k
    obtain ⟨e3, e4⟩ := g.2.1 b (by rw [e1]; exact k)
    exact ⟨e3.trans e1, e4.trans e2⟩
  · have e1 := (f.2.1 b k).1
    obtain ⟨p1, p2, p3⟩ := f.2.2 b k k2 k3
    obtain ⟨q1, q2, q3⟩ := g.2.2 b (by rw [e1]; exact k) (by rw [e1]; exact k2) (by rw [e1]; exact k3)
    exact ⟨q1.trans p1, q2.trans p2, q3.trans p3⟩
theorem LF.kf {X : List Nat} (f : LF h h1 X) (hX : ∀ x ∈ X, kd h x ∈ K ∨ kd h x = 999) : KF h h1 K := ⟨f.1, f.2.1, fun b k1 k2 k3 => f.2.2.1 b k1 (fun z => by
  rcases hX b z with e | e
  · exact k3 e
  · exact k1 e) k2⟩
theorem KF.kp (f : KF h h1 K) {a k : Nat} (ka : kd h a = k) (e1 : k ≠ 999) (e2 : k ≠ 103) (e3 : k ∉ K) : Kp h h1 a := by
  subst ka
  obtain ⟨q1, q2⟩ := f.2.1 a e1
  obtain ⟨q3, q4, q5⟩ := f.2.2 a e1 e2 e3
  exact ⟨q1, q2, q3, q4, q5⟩
theorem KF.kk (f : KF h h1 K) {b c : Nat} (k : kd h b = c) (hc : c ≠ 999) : kd h1 b = c := (f.2.1 b (by rw [k]; exact hc)).1.trans k
end KFs
/-- a change of cells of kinds K that takes at most n units of room -/
def Tr (h h' : AH) (K : List Nat) (n : Nat) : Prop := KF h h' K ∧ hz h' ≤ hz h + n ∧ hs h' ≤ hs h + 100 * n
section Trs
variable {h h1 h2 : AH} {K L : List Nat} {n m : Nat}
theorem Tr.rf (h : AH) (K : List Nat) : Tr h h K 0 := ⟨KF.rf h K, by omega, by omega⟩
theorem Tr.tr (f : Tr h h1 K n) (g : Tr h1 h2 K m) : Tr h h2 K (n + m) := ⟨f.1.tr g.1, by have := f.2.1; have := g.2.1; omega, by have := f.2.2; have := g.2.2; omega⟩
theorem Tr.mono (f : Tr h h1 K n) (s : ∀ k ∈ K, k ∈ L) (hn : n ≤ m) : Tr h h1 L m := ⟨f.1.mono s, by have := f.2.1; omega, by have := f.2.2; omega⟩
theorem Ci.tr0 {X : List Nat} (c : Ci h h1 X) (hX : ∀ x ∈ X, kd h x ∈ K ∨ kd h x = 999) : Tr h h1 K 0 := ⟨c.lf.kf hX, by rw [c.1]; omega, by rw [c.2.1]; omega⟩
end Trs
/-! ghosts -/
def fu (f : Nat → List Nat) (c : Nat) (l : List Nat) : Nat → List Nat := fun x => if x = c then l else f x
theorem fu_s (f : Nat → List Nat) (c : Nat) (l : List Nat) : fu f c l c = l := if_pos rfl
theorem fu_n {f : Nat → List Nat} {c x : Nat} {l : List Nat} (e : x ≠ c) : fu f c l x = f x := if_neg e
theorem fu_id (f : Nat → List Nat) (c : Nat) : fu f c (f c) = f := by
  funext x
  unfold fu
  split
  · rename_i e; rw [e]
  · rfl
theorem fu_fu (f : Nat → List Nat) (c : Nat) (l m : List Nat) : fu (fu f c l) c m = fu f c m := by
  funext x
  unfold fu
  split <;> rfl
def sW (G : GH) (q : Nat) (l : List Nat) : GH := (G.1, fu G.2.1 q l, G.2.2)
def sH (G : GH) (c : Nat) (l : List Nat) : GH := (G.1, G.2.1, fu G.2.2.1 c l, G.2.2.2)
def sK (G : GH) (c : Nat) (l : List Nat) : GH := (G.1, G.2.1, G.2.2.1, fu G.2.2.2 c l)
def BdH (h : AH) (ws hl : Nat → List Nat) : Prop := ∀ q, kd h q = 11 → (ws q).length + ((hl 1 ++ hl 2 ++ hl 3).countP (fun a => decide (gR h a 1 = some q))) ≤ 24
def Cr (h : AH) (v : MV) (G : GH) : Prop := Sk h ∧ Sc h v ∧ Ob h v G ∧ Ch h v G
def Cl (h : AH) (v : MV) (G : GH) (M : List R_le) (hl : Nat → List Nat) : Prop := WH h ∧ Cr h v G ∧ Ls h G ∧ LtR h (gQ G) (quL v) M (gW G) hl ∧ BdH h (gW G) hl
theorem Sk.kds {h : AH} (s : Sk h) {a : Nat} (ha : a ∈ skc) : kd h a = 12 ∨ kd h a = 9 ∨ kd h a = 104 ∨ kd h a = 2 := by
  obtain ⟨s1, -, -, -, -, s6, -, -, s9, -, s11⟩ := s
  have c1 := (s11 1 (by decide) (by decide)).1
  have c2 := (s11 2 (by decide) (by decide)).1
  have c3 := (s11 3 (by decide) (by decide)).1
  have e1 : chA 1 = 17 := rfl
  have e2 : chA 2 = 20 := rfl
  have e3 : chA 3 = 23 := rfl
  rw [e1] at c1
  rw [e2] at c2
  rw [e3] at c3
  simp only [skc, List.mem_cons, List.not_mem_nil, or_false] at ha
  rcases ha with e | e | e | e | e | e <;> subst e <;> omega
section Cls
variable {h h' : AH} {v : MV} {G : GH} {M : List R_le} {hl : Nat → List Nat} {X : List Nat}
theorem Cr.fr (r : Cr h v G) (f : LF h h' X) (hX : ∀ x ∈ X, kd h x = 0 ∨ kd h x = 8) : Cr h' v G := by
  obtain ⟨s, c, o, d⟩ := r
  have sk : ∀ a ∈ skc, a ∉ X := fun a ha z => by
    have := s.kds ha
    have := hX a z
    omega
  have xk : ∀ K : List Nat, 0 ∉ K → 8 ∉ K → XK h X K := fun K k0 k8 x hx z => by
    rcases hX x hx with e | e <;> rw [e] at z
    · exact k0 z
    · exact k8 z
  refine ⟨s.fr (SkF.of s f sk), c.fr (ScF.of s f sk) (Fr.rf v) (by decide) (by decide), o.fr f (xk _ (by decide) (by decide)), d.fr f (xk _ (by decide) (by decide)) (fun c h1 h2 => ?_)⟩
  obtain ⟨k, -⟩ := s.ch h1 h2
  rw [(f.kp k (by decide) (by decide) (sk _ (skc_ch h1 h2))).2.2.2.2]
theorem KX.noq (k : KX h h') : NoQ h h' := fun q hq => by
  rcases k q with e | ⟨-, e⟩
  · rw [← e]; exact hq
  · rw [e] at hq; exact absurd hq (by decide)
theorem Ls.hh (l : Ls h G) {c : Nat} {l' : List Nat} (h1 : 1 ≤ c) (h2 : c ≤ 3) (f : LF h h' [chA c + 1]) (k : KX h h') (i : LI h' (chA c + 1) l') : Ls h' (sH G c l') := by
  obtain ⟨l1, l2, l3, l4, l5, l6⟩ := l
  refine ⟨l1.fr f (by simp [chA]; omega), l2.fr f (by simp [chA]; omega), l3.fr f (by simp [chA]; omega), l4.fr f (by simp [chA]; omega), fun c' k1 k2 => ?_, fun q hq => ?_⟩
  · obtain ⟨m1, m2⟩ := l5 c' k1 k2
    refine ⟨?_, m2.fr f (by simp [chA]; omega)⟩
    show LI h' (chA c' + 1) (fu G.2.2.1 c l' c')
    by_cases e : c' = c
    · subst e; rw [fu_s]; exact i
    · rw [fu_n e]; exact m1.fr f (by simp [chA]; omega)
  · have kq := k.noq q hq
    obtain ⟨m0, m1, m2, m3⟩ := l6 q kq
    refine ⟨m0, ?_, m2.fr f (by simp [chA]; omega), fun a ha => f.kk (m3 a ha) (by decide)⟩
    rw [(f.kp kq (by decide) (by decide) (by simp [chA]; omega)).2.2.2.2]
    exact m1
theorem Ls.k (l : Ls h G) {c : Nat} {l' : List Nat} (h1 : 1 ≤ c) (h2 : c ≤ 3) (f : LF h h' [chA c + 2]) (k : KX h h') (i : LI h' (chA c + 2) l') : Ls h' (sK G c l') := by
  obtain ⟨l1, l2, l3, l4, l5, l6⟩ := l
  refine ⟨l1.fr f (by simp [chA]; omega), l2.fr f (by simp [chA]; omega), l3.fr f (by simp [chA]; omega), l4.fr f (by simp [chA]; omega), fun c' k1 k2 => ?_, fun q hq => ?_⟩
  · obtain ⟨m1, m2⟩ := l5 c' k1 k2
    refine ⟨m1.fr f (by simp [chA]; omega), ?_⟩
    show LI h' (chA c' + 2) (fu G.2.2.2 c l' c')
    by_cases e : c' = c
    · subst e; rw [fu_s]; exact i
    · rw [fu_n e]; exact m2.fr f (by simp [chA]; omega)
  · have kq := k.noq q hq
    obtain ⟨m0, m1, m2, m3⟩ := l6 q kq
    refine ⟨m0, ?_, m2.fr f (by simp [chA]; omega), fun a ha => f.kk (m3 a ha) (by decide)⟩
    rw [(f.kp kq (by decide) (by decide) (by simp [chA]; omega)).2.2.2.2]
    exact m1
theorem Ls.w (l : Ls h G) {q0 : Nat} {l' : List Nat} (hq : kd h q0 = 11) (f : LF h h' [q0 + 1]) (k : KX h h') (i : LI h' (q0 + 1) l') (h8 : ∀ a ∈ l', kd h' a = 8) : Ls h' (sW G q0 l') := by
  obtain ⟨l1, l2, l3, l4, l5, l6⟩ := l
  have b := (l6 q0 hq).1
  refine ⟨l1.fr f (by simp; omega), l2.fr f (by simp; omega), l3.fr f (by simp; omega), l4.fr f (by simp; omega), fun c' k1 k2 => ?_, fun q hq' => ?_⟩
  · obtain ⟨m1, m2⟩ := l5 c' k1 k2
    exact ⟨m1.fr f (by simp [chA]; omega), m2.fr f (by simp [chA]; omega)⟩
  · have kq := k.noq q hq'
    obtain ⟨m0, m1, m2, m3⟩ := l6 q kq
    have nq : q ≠ q0 + 1 := fun z => by rw [z] at kq; have := (l6 q0 hq).2.2.1.1; omega
    refine ⟨m0, ?_, ?_⟩
    · rw [(f.kp kq (by decide) (by decide) (by simpa using nq)).2.2.2.2]
      exact m1
    · show LI h' (q + 1) (fu G.2.1 q0 l' q) ∧ ∀ a ∈ fu G.2.1 q0 l' q, kd h' a = 8
      by_cases e : q = q0
      · subst e; rw [fu_s]; exact ⟨i, h8⟩
      · rw [fu_n e]; exact ⟨m2.fr f (by simp; omega), fun a ha => f.kk (m3 a ha) (by decide)⟩
theorem LtR.k8 {qs : List Nat} {Q : List R_qu} {ws : Nat → List Nat} (i : LtR h qs Q M ws hl) {c a : Nat} (h1 : 1 ≤ c) (h2 : c ≤ 3) (ha : a ∈ hl c) : kd h a = 8 := by
  obtain ⟨rs, f, -⟩ := i.2.2 c h1 h2
  obtain ⟨b, -, z⟩ := f.ofL ha
  exact z.1
theorem LtR.k8a {qs : List Nat} {Q : List R_qu} {ws : Nat → List Nat} (i : LtR h qs Q M ws hl) {a : Nat} (ha : a ∈ hl 1 ++ hl 2 ++ hl 3) : kd h a = 8 := by
  simp only [List.mem_append] at ha
  rcases ha with (ha | ha) | ha
  · exact i.k8 (by decide) (by decide) ha
  · exact i.k8 (by decide) (by decide) ha
  · exact i.k8 (by decide) (by decide) ha
theorem BdH.fr {ws : Nat → List Nat} (b : BdH h ws hl) (k8 : ∀ a ∈ hl 1 ++ hl 2 ++ hl 3, kd h a = 8) (g : ∀ a, kd h a = 8 → gR h' a = gR h a) (nq : NoQ h h') : BdH h' ws hl := fun q hq => by
  have e : (hl 1 ++ hl 2 ++ hl 3).countP (fun a => decide (gR h' a 1 = some q)) = (hl 1 ++ hl 2 ++ hl 3).countP (fun a => decide (gR h a 1 = some q)) := List.countP_congr (fun a ha => by rw [g a (k8 a ha)])
  rw [e]
  exact b q (nq q hq)
/-- a channel's list of letters held is changed (the ghost hl isn't) -/
theorem Cl.held (C : Cl h v G M hl) {c : Nat} {l' : List Nat} (h1 : 1 ≤ c) (h2 : c ≤ 3) (f : LF h h' [chA c + 1]) (w : WH h') (k : KX h h') (i : LI h' (chA c + 1) l') : Cl h' v (sH G c l') M hl := by
  obtain ⟨c1, c2, c3, c4, c5⟩ := C
  have k0 : kd h (chA c + 1) = 0 := (c3.2.2.2.2.1 c h1 h2).1.1
  refine ⟨w, c2.fr f (by simp [k0]), c3.hh h1 h2 f k i, c4.fr f (by intro x hx z; simp at hx; subst hx; rw [k0] at z; simp at z), c5.fr (fun a ha => c4.k8a ha) (fun a ha => ?_) k.noq⟩
  exact (f.kp ha (by decide) (by decide) (by intro z; simp at z; subst z; omega)).2.2.2.2
end Cls

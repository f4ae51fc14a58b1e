/-! ===== the class's state beside the reference's ===== -/
def chA (c : Nat) : Nat := 14 + 3 * c
/-- the cells that the constructors tie together for good -/
def Sk (h : AH) : Prop := kd h 4 = 12 ∧ gR h 4 0 = some 5 ∧ gR h 4 1 = some 7 ∧ gR h 4 2 = some 9 ∧ gR h 4 3 = some 16 ∧ kd h 16 = 104 ∧ ln h 16 = 3 ∧ (∀ i, i < 3 → gR h 16 i = some (chA (i + 1))) ∧ kd h 9 = 9 ∧ (∀ j, j < 4 → gR h 9 j = some (10 + j)) ∧ ∀ c, 1 ≤ c → c ≤ 3 → kd h (chA c) = 2 ∧ gR h (chA c) 1 = some (chA c + 1) ∧ gR h (chA c) 2 = some (chA c + 2) ∧ gI h (chA c) 0 = nI c
def skc : List Nat := [4, 9, 16, 17, 20, 23]
theorem skc_ch {c : Nat} (h1 : 1 ≤ c) (h2 : c ≤ 3) : chA c ∈ skc := by
  have : c = 1 ∨ c = 2 ∨ c = 3 := by omega
  rcases this with e | e | e <;> subst e <;> decide
/-- those cells keep their kinds and what ties them -/
def SkF (h h' : AH) : Prop := ∀ a ∈ skc, kd h' a = kd h a ∧ ln h' a = ln h a ∧ (∀ j, j < 8 → gR h' a j = gR h a j) ∧ gI h' a 0 = gI h a 0
theorem Sk.fr {h h' : AH} (s : Sk h) (f : SkF h h') : Sk h' := by
  obtain ⟨s1, s2, s3, s4, s5, s6, s7, s8, s9, s10, s11⟩ := s
  obtain ⟨a1, a2, a3, a4⟩ := f 4 (by decide)
  obtain ⟨b1, b2, b3, b4⟩ := f 9 (by decide)
  obtain ⟨c1, c2, c3, c4⟩ := f 16 (by decide)
  refine ⟨a1.trans s1, (a3 0 (by decide)).trans s2, (a3 1 (by decide)).trans s3, (a3 2 (by decide)).trans s4, (a3 3 (by decide)).trans s5, c1.trans s6, c2.trans s7, fun i hi => (c3 i (by omega)).trans (s8 i hi), b1.trans s9, fun j hj => (b3 j (by omega)).trans (s10 j hj), fun c h1 h2 => ?_⟩
  obtain ⟨d1, d2, d3, d4⟩ := f (chA c) (skc_ch h1 h2)
  obtain ⟨e1, e2, e3, e4⟩ := s11 c h1 h2
  exact ⟨d1.trans e1, (d3 1 (by decide)).trans e2, (d3 2 (by decide)).trans e3, d4.trans e4⟩
theorem Sk.kdc {h : AH} (s : Sk h) {a : Nat} (ha : a ∈ skc) : kd h a ≠ 999 ∧ kd h a ≠ 103 ∧ kd h a ≠ 0 := by
  obtain ⟨s1, -, -, -, -, s6, -, -, s9, -, s11⟩ := s
  have c1 := (s11 1 (by decide) (by decide)).1
  have c2 := (s11 2 (by decide) (by decide)).1
  have c3 := (s11 3 (by decide) (by decide)).1
  have e1 : chA 1 = 17 := rfl
  have e2 : chA 2 = 20 := rfl
  have e3 : chA 3 = 23 := rfl
  rw [e1] at c1
  rw [e2] at c2
  rw [e3] at c3
  simp only [skc, List.mem_cons, List.not_mem_nil, or_false] at ha
  rcases ha with e | e | e | e | e | e <;> subst e <;> omega
theorem SkF.of {h h' : AH} {X : List Nat} (s : Sk h) (f : LF h h' X) (hX : ∀ a ∈ skc, a ∉ X) : SkF h h' := fun a ha => by
  obtain ⟨k1, k2, -⟩ := s.kdc ha
  obtain ⟨p1, p2, p3, p4, p5⟩ := f.kp rfl k1 k2 (hX a ha)
  exact ⟨p1, p2, fun j _ => by rw [p5], by rw [p3]⟩
theorem SkF.rf (h : AH) : SkF h h := fun _ _ => ⟨rfl, rfl, fun _ _ => rfl, rfl⟩
theorem SkF.tr {h h1 h2 : AH} (f : SkF h h1) (g : SkF h1 h2) : SkF h h2 := fun a ha => by
  obtain ⟨p1, p2, p3, p4⟩ := f a ha
  obtain ⟨q1, q2, q3, q4⟩ := g a ha
  exact ⟨q1.trans p1, q2.trans p2, fun j hj => (q3 j hj).trans (p3 j hj), q4.trans p4⟩
theorem SkF.fI {h : AH} {a k : Nat} {x : Int32} (hk : k ≠ 0) : SkF h (sI h a k x) := fun b _ => ⟨rfl, rfl, fun _ _ => rfl, by rw [gI_sI, if_neg (fun z => hk z.2.symm)]⟩
theorem SkF.fR {h : AH} {a k : Nat} {x : Option Nat} (hk : 8 ≤ k) : SkF h (sR h a k x) := fun b _ => ⟨rfl, rfl, fun j hj => by rw [gR_sR, if_neg (fun z => by omega)], rfl⟩
/-- the numbers of the office and of the channels -/
def Sc (h : AH) (v : MV) : Prop := gI h 9 4 = v.1 25 ∧ gI h 9 5 = v.1 18 ∧ ∀ c, 1 ≤ c → c ≤ 3 → gI h (chA c) 3 = v.2.1 35 c ∧ gI h (chA c) 4 = v.2.1 36 c ∧ gI h (chA c) 5 = v.2.1 37 c ∧ gI h (chA c) 6 = v.2.1 39 c ∧ gI h (chA c) 7 = v.2.1 38 c
def ScF (h h' : AH) : Prop := gI h' 9 = gI h 9 ∧ ∀ c, 1 ≤ c → c ≤ 3 → gI h' (chA c) = gI h (chA c)
theorem ScF.of {h h' : AH} {X : List Nat} (s : Sk h) (f : LF h h' X) (hX : ∀ a ∈ skc, a ∉ X) : ScF h h' := by
  refine ⟨?_, fun c h1 h2 => ?_⟩
  · obtain ⟨k1, k2, -⟩ := s.kdc (show 9 ∈ skc by decide)
    exact (f.kp rfl k1 k2 (hX 9 (by decide))).2.2.1
  · obtain ⟨k1, k2, -⟩ := s.kdc (skc_ch h1 h2)
    exact (f.kp rfl k1 k2 (hX _ (skc_ch h1 h2))).2.2.1
theorem Sc.fr {h h' : AH} {v v' : MV} {F A : List Nat} (s : Sc h v) (c : ScF h h') (f : Fr v v' F A) (hF : 25 ∉ F ∧ 18 ∉ F) (hA : 35 ∉ A ∧ 36 ∉ A ∧ 37 ∉ A ∧ 38 ∉ A ∧ 39 ∉ A) : Sc h' v' := by
  obtain ⟨s1, s2, s3⟩ := s
  obtain ⟨a1, a2, a3, a4, a5⟩ := hA
  refine ⟨by rw [c.1, f.1 25 hF.1]; exact s1, by rw [c.1, f.1 18 hF.2]; exact s2, fun k h1 h2 => ?_⟩
  rw [c.2 k h1 h2, (f.2 35 a1).1, (f.2 36 a2).1, (f.2 37 a3).1, (f.2 38 a4).1, (f.2 39 a5).1]
  exact s3 k h1 h2
/-- the lists as they lie there -/
abbrev GH : Type := (List Nat × List Nat × List Nat × List Nat) × (Nat → List Nat) × (Nat → List Nat) × (Nat → List Nat)
def gX (G : GH) : List Nat := G.1.1
def gQ (G : GH) : List Nat := G.1.2.1
def gB (G : GH) : List Nat := G.1.2.2.1
def gC (G : GH) : List Nat := G.1.2.2.2
def gW (G : GH) : Nat → List Nat := G.2.1
def gH (G : GH) : Nat → List Nat := G.2.2.1
def gK (G : GH) : Nat → List Nat := G.2.2.2
def Ls (h : AH) (G : GH) : Prop := LI h 10 (gX G) ∧ LI h 11 (gQ G) ∧ LI h 12 (gB G) ∧ LI h 13 (gC G) ∧ (∀ c, 1 ≤ c → c ≤ 3 → LI h (chA c + 1) (gH G c) ∧ LI h (chA c + 2) (gK G c)) ∧ ∀ q, kd h q = 11 → 30 < q ∧ gR h q 1 = some (q + 1) ∧ LI h (q + 1) (gW G q) ∧ ∀ a ∈ gW G q, kd h a = 8
/-- no new queue -/
def NoQ (h h' : AH) : Prop := ∀ q, kd h' q = 11 → kd h q = 11
theorem Ls.fr {h h' : AH} {X : List Nat} {G : GH} (l : Ls h G) (f : LF h h' X) (hX : XK h X [0, 11]) (nq : NoQ h h') : Ls h' G := by
  obtain ⟨l1, l2, l3, l4, l5, l6⟩ := l
  refine ⟨l1.fr f (hX.no l1.1 (by simp)), l2.fr f (hX.no l2.1 (by simp)), l3.fr f (hX.no l3.1 (by simp)), l4.fr f (hX.no l4.1 (by simp)), fun c h1 h2 => ?_, fun q hq => ?_⟩
  · obtain ⟨m1, m2⟩ := l5 c h1 h2
    exact ⟨m1.fr f (hX.no m1.1 (by simp)), m2.fr f (hX.no m2.1 (by simp))⟩
  · have kq := nq q hq
    obtain ⟨m0, m1, m2, m3⟩ := l6 q kq
    refine ⟨m0, ?_, m2.fr f (hX.no m2.1 (by simp)), fun a ha => f.kk (m3 a ha) (by decide)⟩
    rw [(f.kp kq (by decide) (by decide) (hX.no kq (by simp))).2.2.2.2]
    exact m1
/-- bindings and consumers -/
def BiR (h : AH) (xs qs : List Nat) (E : List R_ex) (Q : List R_qu) (a : Nat) (r : R_bi) : Prop := kd h a = 1 ∧ gJ h a 2 = r.2.2 ∧ gR h a 3 = some (a + 1) ∧ WdR h (a + 1) r.2.2 ∧ NmO r.2.2 ∧ (∃ (i q : Nat) (x : R_qu), qs[i]? = some q ∧ Q[i]? = some x ∧ gR h a 0 = some q ∧ x.1 = r.1) ∧ ∃ (i e : Nat) (x : R_ex), xs[i]? = some e ∧ E[i]? = some x ∧ gR h a 1 = some e ∧ x.1 = r.2.1
def CoR (h : AH) (qs : List Nat) (Q : List R_qu) (a : Nat) (r : R_co) : Prop := kd h a = 3 ∧ gI h a 4 = r.1 ∧ gJ h a 2 = r.2.2.1 ∧ gI h a 3 = r.2.2.2.2 ∧ NmO r.2.2.1 ∧ (∃ c, 1 ≤ c ∧ c ≤ 3 ∧ r.2.1 = nI c ∧ gR h a 1 = some (chA c)) ∧ ∃ q, gR h a 0 = some q ∧ kd h q = 11 ∧ Qid qs Q q r.2.2.2.1
theorem BiR.fr {h h' : AH} {X xs qs : List Nat} {E : List R_ex} {Q : List R_qu} {a : Nat} {r : R_bi} (i : BiR h xs qs E Q a r) (f : LF h h' X) (hX : XK h X [1, 101]) : BiR h' xs qs E Q a r := by
  obtain ⟨i1, i2, i3, i4, i5, i6, i7⟩ := i
  have p := f.kp i1 (by decide) (by decide) (hX.no i1 (by simp))
  refine ⟨p.k i1, by rw [p.2.2.2.1]; exact i2, by rw [p.2.2.2.2]; exact i3, i4.kp (f.kp i4.1 (by decide) (by decide) (hX.no i4.1 (by simp))), i5, ?_, ?_⟩
  · rw [p.2.2.2.2]; exact i6
  · rw [p.2.2.2.2]; exact i7
theorem CoR.fr {h h' : AH} {X qs : List Nat} {Q : List R_qu} {a : Nat} {r : R_co} (i : CoR h qs Q a r) (f : LF h h' X) (hX : XK h X [3]) : CoR h' qs Q a r := by
  obtain ⟨i1, i2, i3, i4, i5, i6, q, i7, i8, i9⟩ := i
  have p := f.kp i1 (by decide) (by decide) (hX.no i1 (by simp))
  refine ⟨p.k i1, by rw [p.2.2.1]; exact i2, by rw [p.2.2.2.1]; exact i3, by rw [p.2.2.1]; exact i4, i5, ?_, q, by rw [p.2.2.2.2]; exact i7, f.kk i8 (by decide), i9⟩
  rw [p.2.2.2.2]; exact i6
def Ob (h : AH) (v : MV) (G : GH) : Prop := F2 (ExR h) (gX G) (exL v) ∧ F2 (QuR h) (gQ G) (quL v) ∧ (gQ G).Nodup ∧ (gX G).Nodup ∧ F2 (BiR h (gX G) (gQ G) (exL v) (quL v)) (gB G) (biL v) ∧ F2 (CoR h (gQ G) (quL v)) (gC G) (coL v)
theorem Ob.fr {h h' : AH} {X : List Nat} {v : MV} {G : GH} (o : Ob h v G) (f : LF h h' X) (hX : XK h X [1, 3, 6, 11, 101]) : Ob h' v G := by
  obtain ⟨o1, o2, o3, o4, o5, o6⟩ := o
  refine ⟨o1.imp (fun a b _ _ z => z.kp (f.kp z.1 (by decide) (by decide) (hX.no z.1 (by simp)))), o2.imp (fun a b _ _ z => z.kp (f.kp z.1 (by decide) (by decide) (hX.no z.1 (by simp)))), o3, o4, o5.imp (fun a b _ _ z => z.fr f (fun x hx y => hX x hx (by simp at y ⊢; omega))), o6.imp (fun a b _ _ z => z.fr f (fun x hx y => hX x hx (by simp at y ⊢; omega)))⟩
/-- what a channel keeps for its commit -/
abbrev R_kp : Type := Int32 × Int64 × Int64 × Int32 × Int32 × Int64
def kcN (v : MV) (c : Nat) : Nat := (v.2.1 47 c).toNatClampNeg
def kpL (v : MV) (c : Nat) : List R_kp := lst (kcN v c) (fun i => (v.2.1 48 (12 * c + i), v.2.2 49 (12 * c + i), v.2.2 50 (12 * c + i), v.2.1 51 (12 * c + i), v.2.1 52 (12 * c + i), v.2.2 53 (12 * c + i)))
def DeR (h : AH) (a : Nat) (r : R_kp) : Prop := kd h a = 4 ∧ ((r.1 = 0 ∧ ∃ d n b, gR h a 0 = some d ∧ r.2.2.2.2.1 = nI n ∧ DrR h d r.2.1 r.2.2.1 n r.2.2.2.2.2 ∧ gI h d 2 = bit b ∧ r.2.2.2.1 = bit b) ∨ ∃ k n b, r.1 = nI k ∧ 1 ≤ k ∧ k ≤ 3 ∧ gR h a 0 = none ∧ r.2.1 = (nI n).toInt64 ∧ n < 65536 ∧ gI h a 1 = nI n ∧ gI h a 2 = bit b ∧ r.2.2.2.1 = bit b ∧ gI h a 3 = bit (decide (k = 2)))
theorem DeR.fr {h h' : AH} {X : List Nat} {a : Nat} {r : R_kp} (i : DeR h a r) (f : LF h h' X) (hX : XK h X [4, 5, 101]) : DeR h' a r := by
  obtain ⟨i1, i2⟩ := i
  have p := f.kp i1 (by decide) (by decide) (hX.no i1 (by simp))
  refine ⟨p.k i1, ?_⟩
  rcases i2 with ⟨j1, d, n, b, j2, j3, j4, j5, j6⟩ | ⟨k, n, b, j1, j2, j3, j4, j5, j6, j7, j8, j9, j10⟩
  · have pd := f.kp j4.1 (by decide) (by decide) (hX.no j4.1 (by simp))
    exact .inl ⟨j1, d, n, b, by rw [p.2.2.2.2]; exact j2, j3, j4.fr f (hX.no j4.1 (by simp)) (hX.no j4.2.2.2.2.1.1 (by simp)), by rw [pd.2.2.1]; exact j5, j6⟩
  · exact .inr ⟨k, n, b, j1, j2, j3, by rw [p.2.2.2.2]; exact j4, j5, j6, by rw [p.2.2.1]; exact j7, by rw [p.2.2.1]; exact j8, j9, by rw [p.2.2.1]; exact j10⟩
/-- a draft on its way -/
def DpR (h : AH) (d : Nat) (e k : Int64) (b : Bool) : Prop := kd h d = 5 ∧ gJ h d 0 = e ∧ gJ h d 1 = k ∧ gI h d 2 = bit b ∧ gR h d 3 = some (d + 1) ∧ WdR h (d + 1) k ∧ NmO e ∧ NmO k
def ChD (h : AH) (v : MV) (c : Nat) : Prop := (v.2.1 40 c = 0 ∧ gR h (chA c) 8 = none) ∨ ∃ d b, gR h (chA c) 8 = some d ∧ DpR h d (v.2.2 41 c) (v.2.2 42 c) b ∧ v.2.1 43 c = bit b ∧ ((v.2.1 40 c = 1 ∧ gI h d 4 = -1 ∧ gI h d 6 = 0 ∧ gJ h d 5 = 0) ∨ (v.2.1 40 c = 2 ∧ ∃ n l, 1 ≤ l ∧ l ≤ n ∧ n ≤ 6 ∧ v.2.1 44 c = nI n ∧ v.2.1 45 c = nI l ∧ gI h d 4 = nI n ∧ gI h d 6 = nI (n - l) ∧ gJ h d 5 = v.2.2 46 c))
theorem DpR.fr {h h' : AH} {X : List Nat} {d : Nat} {e k : Int64} {b : Bool} (i : DpR h d e k b) (f : LF h h' X) (hX : XK h X [5, 101]) : DpR h' d e k b ∧ Kp h h' d := by
  obtain ⟨i1, i2, i3, i4, i5, i6, i7⟩ := i
  have p := f.kp i1 (by decide) (by decide) (hX.no i1 (by simp))
  exact ⟨⟨p.k i1, by rw [p.2.2.2.1]; exact i2, by rw [p.2.2.2.1]; exact i3, by rw [p.2.2.1]; exact i4, by rw [p.2.2.2.2]; exact i5, i6.kp (f.kp i6.1 (by decide) (by decide) (hX.no i6.1 (by simp))), i7⟩, p⟩
theorem ChD.fr {h h' : AH} {X : List Nat} {v : MV} {c : Nat} (i : ChD h v c) (f : LF h h' X) (hX : XK h X [5, 101]) (e : gR h' (chA c) 8 = gR h (chA c) 8) : ChD h' v c := by
  rcases i with ⟨i1, i2⟩ | ⟨d, b, i1, i2, i3, i4⟩
  · exact .inl ⟨i1, e.trans i2⟩
  · obtain ⟨j, p⟩ := i2.fr f hX
    refine .inr ⟨d, b, e.trans i1, j, i3, ?_⟩
    rw [p.2.2.1, p.2.2.2.1]
    exact i4
theorem ChD.fv {h : AH} {v v' : MV} {F A : List Nat} {c : Nat} (i : ChD h v c) (f : Fr v v' F A) (hA : ∀ k, 40 ≤ k → k ≤ 46 → k ∉ A) : ChD h v' c := by
  unfold ChD
  rw [(f.2 40 (hA 40 (by omega) (by omega))).1, (f.2 41 (hA 41 (by omega) (by omega))).2, (f.2 42 (hA 42 (by omega) (by omega))).2, (f.2 43 (hA 43 (by omega) (by omega))).1, (f.2 44 (hA 44 (by omega) (by omega))).1, (f.2 45 (hA 45 (by omega) (by omega))).1, (f.2 46 (hA 46 (by omega) (by omega))).2]
  exact i
def Ch (h : AH) (v : MV) (G : GH) : Prop := (∀ c, 1 ≤ c → c ≤ 3 → F2 (DeR h) (gK G c) (kpL v c) ∧ ChD h v c) ∧ ∀ c c' d, 1 ≤ c → c ≤ 3 → 1 ≤ c' → c' ≤ 3 → gR h (chA c) 8 = some d → gR h (chA c') 8 = some d → c = c'
theorem Ch.fr {h h' : AH} {X : List Nat} {v : MV} {G : GH} (i : Ch h v G) (f : LF h h' X) (hX : XK h X [4, 5, 101]) (e : ∀ c, 1 ≤ c → c ≤ 3 → gR h' (chA c) 8 = gR h (chA c) 8) : Ch h' v G := by
  refine ⟨fun c h1 h2 => ?_, fun c c' d h1 h2 h3 h4 h5 h6 => ?_⟩
  · obtain ⟨i1, i2⟩ := i.1 c h1 h2
    exact ⟨i1.imp (fun a b _ _ z => z.fr f hX), i2.fr f (fun x hx z => hX x hx (by simp at z ⊢; omega)) (e c h1 h2)⟩
  · rw [e c h1 h2] at h5
    rw [e c' h3 h4] at h6
    exact i.2 c c' d h1 h2 h3 h4 h5 h6
theorem kpL_fr {v v' : MV} {F A : List Nat} {c : Nat} (f : Fr v v' F A) (hA : ∀ k, 47 ≤ k → k ≤ 53 → k ∉ A) : kpL v' c = kpL v c := by
  unfold kpL kcN
  rw [(f.2 47 (hA 47 (by omega) (by omega))).1]
  exact lst_congr (fun i _ => by rw [(f.2 48 (hA 48 (by omega) (by omega))).1, (f.2 49 (hA 49 (by omega) (by omega))).2, (f.2 50 (hA 50 (by omega) (by omega))).2, (f.2 51 (hA 51 (by omega) (by omega))).1, (f.2 52 (hA 52 (by omega) (by omega))).1, (f.2 53 (hA 53 (by omega) (by omega))).2])
theorem Ch.fv {h : AH} {v v' : MV} {F A : List Nat} {G : GH} (i : Ch h v G) (f : Fr v v' F A) (hA : ∀ k, 40 ≤ k → k ≤ 53 → k ∉ A) : Ch h v' G := by
  refine ⟨fun c h1 h2 => ?_, i.2⟩
  obtain ⟨i1, i2⟩ := i.1 c h1 h2
  exact ⟨by rw [kpL_fr f (fun k k1 k2 => hA k (by omega) (by omega))]; exact i1, i2.fv f (fun k k1 k2 => hA k (by omega) (by omega))⟩
/-- what holds of the reference alone; t bounds its numbers -/
def ViL (v : MV) : Prop := CV v 5 6 ∧ CV v 8 5 ∧ CV v 13 12 ∧ CV v 17 6 ∧ CV v 24 24 ∧ (exL v)[0]? = some (0, 0) ∧ ((exL v).map (fun r => r.1)).Nodup ∧ (∀ r ∈ exL v, NmO r.1 ∧ ∃ k, k ≤ 2 ∧ r.2 = nI k) ∧ ((quL v).map (fun r => r.1)).Nodup ∧ ((quL v).map (fun r => r.2.1)).Nodup ∧ (∀ r ∈ quL v, NmO r.1) ∧ ((coL v).map (fun r => (r.2.1, r.2.2.1))).Nodup
/-- numbers: queues, letters, consumers -/
def ViN (v : MV) (t : Nat) : Prop := ∃ n, v.1 9 = nI n ∧ n ≤ t ∧ (∀ r ∈ quL v, ∃ k, 0 < k ∧ k ≤ n ∧ r.2.1 = nI k) ∧ (∀ r ∈ coL v, ∃ k, k ≤ n ∧ r.2.2.2.1 = nI k) ∧ (∀ r ∈ leL v, ∃ k, k ≤ n ∧ r.2.1 = nI k) ∧ ∃ m, v.1 25 = nI m ∧ m ≤ t ∧ ∀ r ∈ leL v, ∃ k, k ≤ m ∧ r.1 = nI k
def ViB (v : MV) : Prop := Bo v 23 ∧ Bo v 30 ∧ Bo v 37 ∧ Bo v 39 ∧ Bo v 43 ∧ Bo v 51 ∧ Bo v 60
/-- letters: who holds them; those that wait, wait in a queue that is there -/
def ViM (v : MV) : Prop := ∀ r ∈ leL v, (∃ c, c ≤ 3 ∧ r.2.2.1 = nI c) ∧ (r.2.2.1 = 0 → ∃ x ∈ quL v, x.2.1 = r.2.1)
/-- channels: one that isn't open has nothing -/
def ViC (v : MV) (t : Nat) : Prop := v.2.1 35 0 = 0 ∧ ∀ c, 1 ≤ c → c ≤ 3 → (∃ s, s ≤ 2 ∧ v.2.1 35 c = nI s) ∧ (∃ l, l ≤ 255 ∧ v.2.1 36 c = nI l) ∧ (∃ n, n ≤ t ∧ v.2.1 38 c = nI n) ∧ (∃ k, k ≤ 12 ∧ v.2.1 47 c = nI k) ∧ (v.2.1 35 c ≠ 1 → v.2.1 39 c = 0 ∧ v.2.1 47 c = 0 ∧ v.2.1 40 c = 0 ∧ (∀ r ∈ coL v, r.2.1 ≠ nI c) ∧ ∀ r ∈ leL v, r.2.2.1 ≠ nI c)
def VI (v : MV) (t : Nat) : Prop := ViL v ∧ ViN v t ∧ ViB v ∧ ViM v ∧ ViC v t
/-- a queue's list, and what comes back to it: at most 24 -/
def Bd (h : AH) (G : GH) : Prop := ∀ q, kd h q = 11 → (gW G q).length + ((gH G 1 ++ gH G 2 ++ gH G 3).countP (fun a => decide (gR h a 1 = some q))) ≤ 24
def OfG (h : AH) (v : MV) (G : GH) (t : Nat) : Prop := Sk h ∧ Sc h v ∧ Ls h G ∧ Ob h v G ∧ LtR h (gQ G) (quL v) (leL v) (gW G) (gH G) ∧ Ch h v G ∧ VI v t ∧ Bd h G

/-! ===== what inbox and outbox leave alone ===== -/
theorem ViN.mono {v : MV} {t u : Nat} (i : ViN v t) (h : t ≤ u) : ViN v u := by
  obtain ⟨n, a1, a2, a3, a4, a5, m, a6, a7, a8⟩ := i
  exact ⟨n, a1, by omega, a3, a4, a5, m, a6, by omega, a8⟩
theorem ViC.mono {v : MV} {t u : Nat} (i : ViC v t) (h : t ≤ u) : ViC v u := by
  refine ⟨i.1, fun c h1 h2 => ?_⟩
  obtain ⟨a1, a2, ⟨n, a3, a4⟩, a5⟩ := i.2 c h1 h2
  exact ⟨a1, a2, ⟨n, by omega, a4⟩, a5⟩
theorem VI.mono {v : MV} {t u : Nat} (i : VI v t) (h : t ≤ u) : VI v u := ⟨i.1, i.2.1.mono h, i.2.2.1, i.2.2.2.1, i.2.2.2.2.mono h⟩
theorem OfG.mono {h : AH} {v : MV} {G : GH} {t u : Nat} (i : OfG h v G t) (k : t ≤ u) : OfG h v G u := by
  obtain ⟨i1, i2, i3, i4, i5, i6, i7, i8⟩ := i
  exact ⟨i1, i2, i3, i4, i5, i6, i7.mono k, i8⟩
/-- fields and rows that only inbox, outbox and the reader use -/
def oF : List Nat := [0, 2, 4, 54, 55, 56, 57, 61]
def oA : List Nat := [1, 3, 58, 59]
theorem no_oF {F : List Nat} (hF : ∀ k ∈ F, k ∈ oF) {k : Nat} (hk : k ∉ oF) : k ∉ F := fun z => hk (hF k z)
section Vfr
variable {v v' : MV} {F A : List Nat}
theorem exL_o (f : Fr v v' F A) (hF : ∀ k ∈ F, k ∈ oF) (hA : ∀ k ∈ A, k ∈ oA) : exL v' = exL v := exL_fr f (fun z => absurd (hF _ z) (by decide)) (fun z => absurd (hA _ z) (by decide)) (fun z => absurd (hA _ z) (by decide))
theorem quL_o (f : Fr v v' F A) (hF : ∀ k ∈ F, k ∈ oF) (hA : ∀ k ∈ A, k ∈ oA) : quL v' = quL v := quL_fr f (fun z => absurd (hF _ z) (by decide)) (fun z => absurd (hA _ z) (by decide)) (fun z => absurd (hA _ z) (by decide)) (fun z => absurd (hA _ z) (by decide))
theorem biL_o (f : Fr v v' F A) (hF : ∀ k ∈ F, k ∈ oF) (hA : ∀ k ∈ A, k ∈ oA) : biL v' = biL v := biL_fr f (fun z => absurd (hF _ z) (by decide)) (fun z => absurd (hA _ z) (by decide)) (fun z => absurd (hA _ z) (by decide)) (fun z => absurd (hA _ z) (by decide))
theorem coL_o (f : Fr v v' F A) (hF : ∀ k ∈ F, k ∈ oF) (hA : ∀ k ∈ A, k ∈ oA) : coL v' = coL v := coL_fr f (fun z => absurd (hF _ z) (by decide)) (fun z => absurd (hA _ z) (by decide)) (fun z => absurd (hA _ z) (by decide)) (fun z => absurd (hA _ z) (by decide)) (fun z => absurd (hA _ z) (by decide)) (fun z => absurd (hA _ z) (by decide))
theorem leL_o (f : Fr v v' F A) (hF : ∀ k ∈ F, k ∈ oF) (hA : ∀ k ∈ A, k ∈ oA) : leL v' = leL v := leL_fr f (fun z => absurd (hF _ z) (by decide)) (fun z => absurd (hA _ z) (by decide)) (fun z => absurd (hA _ z) (by decide)) (fun z => absurd (hA _ z) (by decide)) (fun z => absurd (hA _ z) (by decide)) (fun z => absurd (hA _ z) (by decide)) (fun z => absurd (hA _ z) (by decide)) (fun z => absurd (hA _ z) (by decide)) (fun z => absurd (hA _ z) (by decide)) (fun z => absurd (hA _ z) (by decide))
theorem VI.o {t : Nat} (i : VI v t) (f : Fr v v' F A) (hF : ∀ k ∈ F, k ∈ oF) (hA : ∀ k ∈ A, k ∈ oA) : VI v' t := by
  have e1 := exL_o f hF hA
  have e2 := quL_o f hF hA
  have e4 := coL_o f hF hA
  have e5 := leL_o f hF hA
  have nF : ∀ k, k ∉ oF → k ∉ F := fun k hk z => hk (hF k z)
  have nA : ∀ k, k ∉ oA → k ∉ A := fun k hk z => hk (hA k z)
  obtain ⟨⟨a1, a2, a3, a4, a5, a6⟩, b, ⟨c1, c2, c3, c4, c5, c6, c7⟩, d, e⟩ := i
  refine ⟨⟨(a1.fr f (nF 5 (by decide))).1, (a2.fr f (nF 8 (by decide))).1, (a3.fr f (nF 13 (by decide))).1, (a4.fr f (nF 17 (by decide))).1, (a5.fr f (nF 24 (by decide))).1, ?_⟩, ?_, ⟨c1.fr f (nA 23 (by decide)), c2.fr f (nA 30 (by decide)), c3.fr f (nA 37 (by decide)), c4.fr f (nA 39 (by decide)), c5.fr f (nA 43 (by decide)), c6.fr f (nA 51 (by decide)), c7.fr f (nA 60 (by decide))⟩, ?_, ?_⟩
  · rw [e1, e2, e4]; exact a6
  · unfold ViN
    rw [e2, e4, e5, f.1 9 (nF 9 (by decide)), f.1 25 (nF 25 (by decide))]
    exact b
  · unfold ViM
    rw [e2, e5]
    exact d
  · unfold ViC
    rw [e4, e5, (f.2 35 (nA 35 (by decide))).1, (f.2 36 (nA 36 (by decide))).1, (f.2 38 (nA 38 (by decide))).1, (f.2 39 (nA 39 (by decide))).1, (f.2 40 (nA 40 (by decide))).1, (f.2 47 (nA 47 (by decide))).1]
    exact e
end Vfr
theorem OfG.fr0 {h h' : AH} {X : List Nat} {v v' : MV} {F A : List Nat} {G : GH} {t : Nat} (o : OfG h v G t) (c : Ci h h' X) (hX : ∀ x ∈ X, x ∈ [5, 6, 7, 8]) (hk : kd h 5 = 7 ∧ kd h 6 = 100 ∧ kd h 7 = 10 ∧ kd h 8 = 100) (f : Fr v v' F A) (hF : ∀ k ∈ F, k ∈ oF) (hA : ∀ k ∈ A, k ∈ oA) : OfG h' v' G t := by
  have e1 := exL_o f hF hA
  have e2 := quL_o f hF hA
  have e3 := biL_o f hF hA
  have e4 := coL_o f hF hA
  have e5 := leL_o f hF hA
  have nF : ∀ k, k ∉ oF → k ∉ F := fun k hk z => hk (hF k z)
  have nA : ∀ k, k ∉ oA → k ∉ A := fun k hk z => hk (hA k z)
  obtain ⟨o1, o2, o3, o4, o5, o6, o7, o8⟩ := o
  have l := c.lf
  have xk : ∀ K : List Nat, 7 ∉ K → 100 ∉ K → 10 ∉ K → XK h X K := fun K k1 k2 k3 x hx z => by
    have := hX x hx
    simp only [List.mem_cons, List.not_mem_nil, or_false] at this
    rcases this with e | e | e | e
    · rw [e, hk.1] at z; exact k1 z
    · rw [e, hk.2.1] at z; exact k2 z
    · rw [e, hk.2.2.1] at z; exact k3 z
    · rw [e, hk.2.2.2] at z; exact k2 z
  have sk : ∀ a ∈ skc, a ∉ X := fun a ha z => by
    have := hX a z
    simp only [skc, List.mem_cons, List.not_mem_nil, or_false] at this ha
    omega
  have kd' := c.k
  have gR' := c.R
  refine ⟨o1.fr (SkF.of o1 l sk), o2.fr (ScF.of o1 l sk) f ⟨nF 25 (by decide), nF 18 (by decide)⟩ ⟨nA 35 (by decide), nA 36 (by decide), nA 37 (by decide), nA 38 (by decide), nA 39 (by decide)⟩, o3.fr l (xk _ (by decide) (by decide) (by decide)) (fun q hq => by rw [kd'] at hq; exact hq), ?_, ?_, ?_, o7.o f hF hA, ?_⟩
  · have := o4.fr l (xk _ (by decide) (by decide) (by decide))
    unfold Ob at this ⊢
    rw [e1, e2, e3, e4]
    exact this
  · rw [e2, e5]
    exact o5.fr l (xk _ (by decide) (by decide) (by decide))
  · exact (o6.fr l (xk _ (by decide) (by decide) (by decide)) (fun c _ _ => by rw [gR'])).fv f (fun k k1 k2 => nA k (fun z => by simp only [oA, List.mem_cons, List.not_mem_nil, or_false] at z; omega))
  · intro q hq
    rw [kd'] at hq
    rw [gR']
    exact o8 q hq
/-- all but the inbox -/
def St (h : AH) (v : MV) (G : GH) (t : Nat) : Prop := WH h ∧ gI h 4 4 = v.1 0 ∧ OR h v ∧ OfG h v G t
theorem OR.kk {h : AH} {v : MV} (o : OR h v) : kd h 7 = 10 ∧ kd h 8 = 100 := by
  obtain ⟨-, s, o1, -, o3, -⟩ := o
  exact ⟨o1, o3⟩
theorem St.kk {h : AH} {v : MV} {G : GH} {t : Nat} (s : St h v G t) (i : IR h v) : kd h 5 = 7 ∧ kd h 6 = 100 ∧ kd h 7 = 10 ∧ kd h 8 = 100 := ⟨i.1, i.2.2.1, s.2.2.1.kk.1, s.2.2.1.kk.2⟩
/-- reading leaves the rest alone -/
theorem St.rd {h h' : AH} {v v' : MV} {G : GH} {t : Nat} (s : St h v G t) (i : IR h v) (r : Rd h v h' v') : St h' v' G t := by
  obtain ⟨s1, s2, s3, s4⟩ := s
  refine ⟨r.1.wh s1, ?_, s3.fr r.1.lf r.2.1 (by decide) (by decide) (by decide) (by decide), s4.fr0 r.1 (by decide) ⟨i.1, i.2.2.1, s3.kk.1, s3.kk.2⟩ r.2.1 (by decide) (by decide)⟩
  rw [r.1.I (by decide), r.2.1.1 0 (by decide)]
  exact s2
/-- sending too -/
theorem St.ou {h h' : AH} {v v' : MV} {G : GH} {t : Nat} (s : St h v G t) (i : IR h v) (o : OR h' v') (c : Ci h h' [7, 8]) (f : Fr v v' [4, 61] [3]) : St h' v' G t := by
  obtain ⟨s1, s2, s3, s4⟩ := s
  refine ⟨c.wh s1, ?_, o, s4.fr0 c (by decide) ⟨i.1, i.2.2.1, s3.kk.1, s3.kk.2⟩ f (by decide) (by decide)⟩
  rw [c.I (by decide), f.1 0 (by decide)]
  exact s2
theorem IR.ou {h h' : AH} {v v' : MV} (i : IR h v) (c : Ci h h' [7, 8]) (f : Fr v v' [4, 61] [3]) : IR h' v' := i.fr c.lf f (by decide) (by decide) (by decide) (by rw [c.I (by decide)]) (by rw [c.R])
/-- the inbox's own cells stay -/
def IK (h h' : AH) : Prop := gI h' 6 = gI h 6 ∧ gI h' 5 2 = gI h 5 2 ∧ gI h' 5 0 = gI h 5 0
theorem IK.rf (h : AH) : IK h h := ⟨rfl, rfl, rfl⟩
theorem IK.tr {h h1 h2 : AH} (a : IK h h1) (b : IK h1 h2) : IK h h2 := ⟨b.1.trans a.1, b.2.1.trans a.2.1, b.2.2.trans a.2.2⟩
theorem Ci.ik {h h' : AH} {X : List Nat} (c : Ci h h' X) (h5 : 5 ∉ X) (h6 : 6 ∉ X) : IK h h' := ⟨c.I h6, by rw [c.I h5], by rw [c.I h5]⟩
theorem LF.ik {h h' : AH} {X : List Nat} (f : LF h h' X) (k5 : kd h 5 = 7) (k6 : kd h 6 = 100) (h5 : 5 ∉ X) (h6 : 6 ∉ X) : IK h h' := by
  have p5 := (f.kp k5 (by decide) (by decide) h5).2.2.1
  have p6 := (f.kp k6 (by decide) (by decide) h6).2.2.1
  exact ⟨p6, by rw [p5], by rw [p5]⟩
theorem Rd.ik {h h' : AH} {v v' : MV} (r : Rd h v h' v') : IK h h' := ⟨r.1.I (by decide), r.2.2.1, r.2.2.2⟩

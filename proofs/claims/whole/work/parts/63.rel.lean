/-! ===== lists side by side; the class's objects beside the reference's records ===== -/
def F2 {α β : Type} (R : α → β → Prop) (l : List α) (m : List β) : Prop := l.length = m.length ∧ ∀ (i : Nat) (a : α) (b : β), l[i]? = some a → m[i]? = some b → R a b
section F2s
variable {α β : Type} {R S : α → β → Prop} {l : List α} {m : List β}
theorem F2.nil : F2 R [] [] := ⟨rfl, fun i a b h => by simp at h⟩
theorem F2.imp (f : F2 R l m) (k : ∀ a b, a ∈ l → b ∈ m → R a b → S a b) : F2 S l m := ⟨f.1, fun i a b h1 h2 => k a b (List.mem_of_getElem? h1) (List.mem_of_getElem? h2) (f.2 i a b h1 h2)⟩
theorem F2.get (f : F2 R l m) {i : Nat} (h : i < l.length) : ∃ a b, l[i]? = some a ∧ m[i]? = some b ∧ R a b := by
  have h2 : i < m.length := by rw [← f.1]; exact h
  exact ⟨l[i], m[i], List.getElem?_eq_getElem h, List.getElem?_eq_getElem h2, f.2 i _ _ (List.getElem?_eq_getElem h) (List.getElem?_eq_getElem h2)⟩
theorem F2.ofL (f : F2 R l m) {a : α} (h : a ∈ l) : ∃ b, b ∈ m ∧ R a b := by
  obtain ⟨i, hi, e⟩ := List.mem_iff_getElem.mp h
  obtain ⟨a', b, h1, h2, h3⟩ := f.get hi
  rw [List.getElem?_eq_getElem hi, e] at h1
  cases h1
  exact ⟨b, List.mem_of_getElem? h2, h3⟩
theorem F2.ofR (f : F2 R l m) {b : β} (h : b ∈ m) : ∃ a, a ∈ l ∧ R a b := by
  obtain ⟨i, hi, e⟩ := List.mem_iff_getElem.mp h
  obtain ⟨a, b', h1, h2, h3⟩ := f.get (by rw [f.1]; exact hi)
  rw [List.getElem?_eq_getElem hi, e] at h2
  cases h2
  exact ⟨a, List.mem_of_getElem? h1, h3⟩
theorem F2.snoc (f : F2 R l m) {a : α} {b : β} (r : R a b) : F2 R (l ++ [a]) (m ++ [b]) := by
  refine ⟨by simp [f.1], fun i x y h1 h2 => ?_⟩
  by_cases c : i < l.length
  · rw [List.getElem?_append_left c] at h1
    rw [List.getElem?_append_left (by rw [← f.1]; exact c)] at h2
    exact f.2 i x y h1 h2
  · rw [List.getElem?_append_right (by omega)] at h1
    rw [List.getElem?_append_right (by rw [← f.1]; omega), ← f.1] at h2
    cases hi : i - l.length with
    | zero => rw [hi] at h1 h2; simp at h1 h2; rw [← h1, ← h2]; exact r
    | succ n => rw [hi] at h1; simp at h1
theorem F2.erase (f : F2 R l m) (i : Nat) : F2 R (l.eraseIdx i) (m.eraseIdx i) := by
  refine ⟨by rw [List.length_eraseIdx, List.length_eraseIdx, f.1], fun j x y h1 h2 => ?_⟩
  rw [List.getElem?_eraseIdx] at h1 h2
  by_cases c : j < i
  · rw [if_pos c] at h1 h2; exact f.2 j x y h1 h2
  · rw [if_neg c] at h1 h2; exact f.2 (j + 1) x y h1 h2
theorem F2.ins (f : F2 R l m) {i : Nat} {a : α} {b : β} (hi : i ≤ l.length) (r : R a b) : F2 R (l.insertIdx i a) (m.insertIdx i b) := by
  have hm : i ≤ m.length := by rw [← f.1]; exact hi
  refine ⟨by rw [List.length_insertIdx_of_le_length hi, List.length_insertIdx_of_le_length hm, f.1], fun j x y h1 h2 => ?_⟩
  by_cases c1 : j < i
  · rw [List.getElem?_insertIdx_of_lt c1] at h1 h2; exact f.2 j x y h1 h2
  · by_cases c2 : j = i
    · subst c2
      rw [List.getElem?_insertIdx_self, if_pos hi] at h1
      rw [List.getElem?_insertIdx_self, if_pos hm] at h2
      cases h1
      cases h2
      exact r
    · rw [List.getElem?_insertIdx_of_gt (by omega)] at h1 h2
      exact f.2 (j - 1) x y h1 h2
end F2s
/-! the reference's letters that wait in a queue, and that a channel holds -/
def qW (n : Int32) : R_le → Bool := fun r => decide (r.2.1 = n ∧ r.2.2.1 = 0)
def cH (c : Int32) : R_le → Bool := fun r => decide (r.2.2.1 = c)
/-- cells that stay as they are -/
def Kp (h h' : AH) (a : Nat) : Prop := kd h' a = kd h a ∧ ln h' a = ln h a ∧ gI h' a = gI h a ∧ gJ h' a = gJ h a ∧ gR h' a = gR h a
theorem LF.kp {h h' : AH} {X : List Nat} (f : LF h h' X) {a k : Nat} (ka : kd h a = k) (h1 : k ≠ 999) (h2 : k ≠ 103) (hX : a ∉ X) : Kp h h' a := by
  obtain ⟨e1, e2⟩ := f.2.1 a (by rw [ka]; exact h1)
  obtain ⟨e3, e4, e5⟩ := f.2.2.1 a (by rw [ka]; exact h1) hX (by rw [ka]; exact h2)
  exact ⟨e1, e2, e3, e4, e5⟩
/-- no cell of X is of a kind in K -/
def XK (h : AH) (X K : List Nat) : Prop := ∀ x ∈ X, kd h x ∉ K
theorem XK.no {h : AH} {X K : List Nat} (x : XK h X K) {a k : Nat} (ka : kd h a = k) (hk : k ∈ K) : a ∉ X := fun z => x a z (by rw [ka]; exact hk)
/-- the words of a key: its bytes, cut at the dots -/
def wst (s : List Nat × Nat) (b : Nat) : List Nat × Nat := if b = 46 then (s.1 ++ [s.2], 0) else (s.1, s.2 * 256 + b)
def by8 (x : Int64) : List Nat := [bN x 7, bN x 6, bN x 5, bN x 4, bN x 3, bN x 2, bN x 1, bN x 0]
def wdN (x : Int64) : List Nat := let s := (by8 x).foldl wst ([], 0); s.1 ++ [s.2]
def WdR (h : AH) (w : Nat) (x : Int64) : Prop := kd h w = 101 ∧ ln h w = (wdN x).length ∧ ∀ i n, (wdN x)[i]? = some n → gJ h w i = lN n
def ExR (h : AH) (a : Nat) (r : R_ex) : Prop := kd h a = 6 ∧ gJ h a 0 = r.1 ∧ gI h a 1 = r.2
def QuR (h : AH) (a : Nat) (r : R_qu) : Prop := kd h a = 11 ∧ gJ h a 0 = r.1 ∧ gI h a 2 = r.2.2
def DrR (h : AH) (d : Nat) (e k : Int64) (n : Nat) (x : Int64) : Prop := kd h d = 5 ∧ gJ h d 0 = e ∧ gJ h d 1 = k ∧ gR h d 3 = some (d + 1) ∧ WdR h (d + 1) k ∧ gI h d 4 = nI n ∧ gI h d 6 = nI n ∧ gJ h d 5 = x ∧ n ≤ 6 ∧ NmO e ∧ NmO k
/-- address q and number n mean the same among the queues that are there -/
def Qid (qs : List Nat) (Q : List R_qu) (q : Nat) (n : Int32) : Prop := ∀ (i : Nat) (q' : Nat) (r : R_qu), qs[i]? = some q' → Q[i]? = some r → (q' = q ↔ r.2.1 = n)
def LeR (h : AH) (qs : List Nat) (Q : List R_qu) (a : Nat) (r : R_le) : Prop := kd h a = 8 ∧ gI h a 2 = r.1 ∧ gI h a 4 = r.2.2.2.1 ∧ gI h a 3 = r.2.2.2.2.1 ∧ (∃ d n, gR h a 0 = some d ∧ r.2.2.2.2.2.2.2.1 = nI n ∧ DrR h d r.2.2.2.2.2.1 r.2.2.2.2.2.2.1 n r.2.2.2.2.2.2.2.2) ∧ ∃ q, gR h a 1 = some q ∧ kd h q = 11 ∧ Qid qs Q q r.2.1
section Frs
variable {h h' : AH} {X : List Nat}
theorem Kp.k {a k : Nat} (p : Kp h h' a) (ka : kd h a = k) : kd h' a = k := p.1.trans ka
theorem WdR.kp {w : Nat} {x : Int64} (i : WdR h w x) (p : Kp h h' w) : WdR h' w x := ⟨p.k i.1, by rw [p.2.1]; exact i.2.1, by rw [p.2.2.2.1]; exact i.2.2⟩
theorem ExR.kp {a : Nat} {r : R_ex} (i : ExR h a r) (p : Kp h h' a) : ExR h' a r := ⟨p.k i.1, by rw [p.2.2.2.1]; exact i.2.1, by rw [p.2.2.1]; exact i.2.2⟩
theorem QuR.kp {a : Nat} {r : R_qu} (i : QuR h a r) (p : Kp h h' a) : QuR h' a r := ⟨p.k i.1, by rw [p.2.2.2.1]; exact i.2.1, by rw [p.2.2.1]; exact i.2.2⟩
theorem DrR.kp {d n : Nat} {e k x : Int64} (i : DrR h d e k n x) (p : Kp h h' d) (p1 : Kp h h' (d + 1)) : DrR h' d e k n x := by
  obtain ⟨i1, i2, i3, i4, i5, i6, i7, i8, i9⟩ := i
  exact ⟨p.k i1, by rw [p.2.2.2.1]; exact i2, by rw [p.2.2.2.1]; exact i3, by rw [p.2.2.2.2]; exact i4, i5.kp p1, by rw [p.2.2.1]; exact i6, by rw [p.2.2.1]; exact i7, by rw [p.2.2.2.1]; exact i8, i9⟩
theorem DrR.fr {d n : Nat} {e k x : Int64} (i : DrR h d e k n x) (f : LF h h' X) (x5 : d ∉ X) (x6 : d + 1 ∉ X) : DrR h' d e k n x := i.kp (f.kp i.1 (by decide) (by decide) x5) (f.kp i.2.2.2.2.1.1 (by decide) (by decide) x6)
theorem LeR.kp {qs : List Nat} {Q : List R_qu} {a : Nat} {r : R_le} (i : LeR h qs Q a r) (f : LF h h' X) (p : Kp h h' a) (hx : XK h X [5, 101]) : LeR h' qs Q a r := by
  obtain ⟨i1, i2, i3, i4, ⟨d, n, i5, i6, i7⟩, q, i8, i9, i10⟩ := i
  exact ⟨p.k i1, by rw [p.2.2.1]; exact i2, by rw [p.2.2.1]; exact i3, by rw [p.2.2.1]; exact i4, ⟨d, n, by rw [p.2.2.2.2]; exact i5, i6, i7.fr f (hx.no i7.1 (by simp)) (hx.no i7.2.2.2.2.1.1 (by simp))⟩, q, by rw [p.2.2.2.2]; exact i8, f.kk i9 (by decide), i10⟩
theorem LeR.fr {qs : List Nat} {Q : List R_qu} {a : Nat} {r : R_le} (i : LeR h qs Q a r) (f : LF h h' X) (hx : XK h X [8, 5, 101]) : LeR h' qs Q a r := i.kp f (f.kp i.1 (by decide) (by decide) (hx.no i.1 (by simp))) (fun x hx2 z => hx x hx2 (by simp at z ⊢; omega))
end Frs
/-! ===== the letters: the class's lists beside the list M of records ===== -/
def Srt (M : List R_le) : Prop := M.Pairwise (fun a b => a.1 < b.1)
/-- ws: the lists of all queues (by address); hl: the letters held (by channel) -/
def LtR (h : AH) (qs : List Nat) (Q : List R_qu) (M : List R_le) (ws hl : Nat → List Nat) : Prop := Srt M ∧ (∀ (i q : Nat) (r : R_qu), qs[i]? = some q → Q[i]? = some r → F2 (LeR h qs Q) (ws q) (M.filter (qW r.2.1))) ∧ ∀ c, 1 ≤ c → c ≤ 3 → ∃ rs, F2 (LeR h qs Q) (hl c) rs ∧ rs.Perm (M.filter (cH (nI c)))
theorem LtR.fr {h h' : AH} {X : List Nat} {qs : List Nat} {Q : List R_qu} {M : List R_le} {ws hl : Nat → List Nat} (i : LtR h qs Q M ws hl) (f : LF h h' X) (hx : XK h X [8, 5, 101]) : LtR h' qs Q M ws hl := by
  obtain ⟨i1, i2, i3⟩ := i
  refine ⟨i1, fun j q r h1 h2 => (i2 j q r h1 h2).imp (fun a b _ _ z => z.fr f hx), fun c h1 h2 => ?_⟩
  obtain ⟨rs, z1, z2⟩ := i3 c h1 h2
  exact ⟨rs, z1.imp (fun a b _ _ z => z.fr f hx), z2⟩
theorem i32_lt_irrefl {a : Int32} : ¬ a < a := Int32.lt_irrefl
theorem i32_lt_trans {a b c : Int32} (h : a < b) (k : b < c) : a < c := Int32.lt_trans h k
theorem i32_lt_asymm {a b : Int32} (h : a < b) : ¬ b < a := fun k => i32_lt_irrefl (i32_lt_trans h k)
theorem Srt.split {A B : List R_le} {r : R_le} (s : Srt (A ++ r :: B)) : Srt A ∧ Srt B ∧ (∀ a ∈ A, a.1 < r.1) ∧ (∀ b ∈ B, r.1 < b.1) ∧ ∀ a ∈ A, ∀ b ∈ B, a.1 < b.1 := by
  unfold Srt at s
  rw [List.pairwise_append] at s
  obtain ⟨s1, s2, s3⟩ := s
  rw [List.pairwise_cons] at s2
  exact ⟨s1, s2.2, fun a ha => s3 a ha r (by simp), s2.1, fun a ha b hb => s3 a ha b (by simp [hb])⟩
theorem Srt.join {A B : List R_le} {o : List R_le} {x : Int32} (sA : Srt A) (sB : Srt B) (hA : ∀ a ∈ A, a.1 < x) (hB : ∀ b ∈ B, x < b.1) (ho : o = [] ∨ ∃ r, o = [r] ∧ r.1 = x) : Srt (A ++ o ++ B) := by
  unfold Srt
  rw [List.append_assoc, List.pairwise_append]
  rcases ho with e | ⟨r, e, e2⟩
  · subst e
    exact ⟨sA, sB, fun a ha b hb => i32_lt_trans (hA a ha) (hB b (by simpa using hb))⟩
  · subst e
    subst e2
    refine ⟨sA, ?_, fun a ha b hb => ?_⟩
    · show List.Pairwise _ (r :: B)
      rw [List.pairwise_cons]
      exact ⟨hB, sB⟩
    · simp only [List.cons_append, List.nil_append, List.mem_cons] at hb
      rcases hb with hb | hb
      · rw [hb]; exact hA a ha
      · exact i32_lt_trans (hA a ha) (hB b hb)
/-- one letter of M is changed to o (nothing, or a letter of the same number) -/
theorem Srt.upd {A B o : List R_le} {r : R_le} (s : Srt (A ++ r :: B)) (ho : o = [] ∨ ∃ r', o = [r'] ∧ r'.1 = r.1) : Srt (A ++ o ++ B) := by
  obtain ⟨s1, s2, s3, s4, -⟩ := s.split
  exact Srt.join s1 s2 s3 s4 ho
section Lt
variable {h h' : AH} {X : List Nat} {qs : List Nat} {Q : List R_qu} {M A B o : List R_le} {ws hl ws' hl' : Nat → List Nat} {a : Nat} {r : R_le}
theorem LeR.oth {b : Nat} {y : R_le} (j : LeR h qs Q b y) (ha : LeR h qs Q a r) (hn : y.1 ≠ r.1) (f : LF h h' (a :: X)) (hX : XK h X [8, 5, 101]) : LeR h' qs Q b y := by
  have ne : b ≠ a := fun z => hn (by rw [← j.2.1, ← ha.2.1, z])
  have nX : b ∉ a :: X := by
    intro z
    rcases List.mem_cons.mp z with z | z
    · exact ne z
    · exact hX.no j.1 (by simp) z
  refine j.kp f (f.kp j.1 (by decide) (by decide) nX) (fun x hx z => ?_)
  rcases List.mem_cons.mp hx with e | e
  · rw [e, ha.1] at z; simp at z
  · exact hX x e (by simp at z ⊢; omega)
theorem keep1 {l : List Nat} {m : List R_le} (j : F2 (LeR h qs Q) l m) (ha : LeR h qs Q a r) (hn : ∀ y ∈ m, y.1 ≠ r.1) (f : LF h h' (a :: X)) (hX : XK h X [8, 5, 101]) : F2 (LeR h' qs Q) l m := j.imp (fun _ b _ hb z => z.oth ha (hn b hb) f hX)
theorem Srt.ne {p : R_le → Bool} (s : Srt (A ++ r :: B)) : (∀ y ∈ A.filter p, y.1 ≠ r.1) ∧ ∀ y ∈ B.filter p, y.1 ≠ r.1 := by
  obtain ⟨-, -, s3, s4, -⟩ := s.split
  refine ⟨fun y hy z => ?_, fun y hy z => ?_⟩
  · have := s3 y (List.mem_filter.mp hy).1
    rw [z] at this
    exact i32_lt_irrefl this
  · have := s4 y (List.mem_filter.mp hy).1
    rw [z] at this
    exact i32_lt_irrefl this
theorem fil3 {p : R_le → Bool} : (A ++ o ++ B).filter p = A.filter p ++ o.filter p ++ B.filter p := by simp
theorem filM {p : R_le → Bool} (hp : p r = false) : (A ++ r :: B).filter p = A.filter p ++ B.filter p := by simp [List.filter_cons, hp]
theorem filT {p : R_le → Bool} (hp : p r = true) : (A ++ r :: B).filter p = A.filter p ++ r :: B.filter p := by simp [List.filter_cons, hp]
theorem LtR.upd (i : LtR h qs Q (A ++ r :: B) ws hl) (ha : LeR h qs Q a r) (f : LF h h' (a :: X)) (hX : XK h X [8, 5, 101]) (ho : o = [] ∨ ∃ r', o = [r'] ∧ r'.1 = r.1) (HW : ∀ (j q : Nat) (x : R_qu), qs[j]? = some q → Q[j]? = some x → (qW x.2.1 r = false ∧ o.filter (qW x.2.1) = [] ∧ ws' q = ws q) ∨ F2 (LeR h' qs Q) (ws' q) ((A ++ o ++ B).filter (qW x.2.1))) (HH : ∀ c, 1 ≤ c → c ≤ 3 → (cH (nI c) r = false ∧ o.filter (cH (nI c)) = [] ∧ hl' c = hl c) ∨ ∃ rs, F2 (LeR h' qs Q) (hl' c) rs ∧ rs.Perm ((A ++ o ++ B).filter (cH (nI c)))) : LtR h' qs Q (A ++ o ++ B) ws' hl' := by
  obtain ⟨i1, i2, i3⟩ := i
  refine ⟨i1.upd ho, fun j q x h1 h2 => ?_, fun c h1 h2 => ?_⟩
  · rcases HW j q x h1 h2 with ⟨z1, z2, z3⟩ | z
    · have := i2 j q x h1 h2
      rw [filM z1] at this
      rw [z3, fil3, z2, List.append_nil]
      refine keep1 this ha (fun y hy => ?_) f hX
      rcases List.mem_append.mp hy with hy | hy
      · exact i1.ne.1 y hy
      · exact i1.ne.2 y hy
    · exact z
  · rcases HH c h1 h2 with ⟨z1, z2, z3⟩ | z
    · obtain ⟨rs, y1, y2⟩ := i3 c h1 h2
      rw [filM z1] at y2
      refine ⟨rs, ?_, by rw [fil3, z2, List.append_nil]; exact y2⟩
      rw [z3]
      refine keep1 y1 ha (fun y hy => ?_) f hX
      rcases List.mem_append.mp (y2.mem_iff.mp hy) with hy | hy
      · exact i1.ne.1 y hy
      · exact i1.ne.2 y hy
    · exact z
end Lt

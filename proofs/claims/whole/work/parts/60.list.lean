/-! ===== the class's side: reads over writes, frames, lists ===== -/
section RW
variable {h : AH} {a b j k c n s : Nat} {x : Int32} {y : Int64} {r : Option Nat}
theorem kd_sI : kd (sI h a k x) = kd h := rfl
theorem kd_sJ : kd (sJ h a k y) = kd h := rfl
theorem kd_sR : kd (sR h a k r) = kd h := rfl
theorem ln_sI : ln (sI h a k x) = ln h := rfl
theorem ln_sJ : ln (sJ h a k y) = ln h := rfl
theorem ln_sR : ln (sR h a k r) = ln h := rfl
theorem hz_sI : hz (sI h a k x) = hz h := rfl
theorem hz_sJ : hz (sJ h a k y) = hz h := rfl
theorem hz_sR : hz (sR h a k r) = hz h := rfl
theorem hs_sI : hs (sI h a k x) = hs h := rfl
theorem hs_sJ : hs (sJ h a k y) = hs h := rfl
theorem hs_sR : hs (sR h a k r) = hs h := rfl
theorem gJ_sI : gJ (sI h a k x) = gJ h := rfl
theorem gR_sI : gR (sI h a k x) = gR h := rfl
theorem gI_sJ : gI (sJ h a k y) = gI h := rfl
theorem gR_sJ : gR (sJ h a k y) = gR h := rfl
theorem gI_sR : gI (sR h a k r) = gI h := rfl
theorem gJ_sR : gJ (sR h a k r) = gJ h := rfl
theorem gI_sI : gI (sI h a k x) b j = if b = a ∧ j = k then x else gI h b j := by
  show rw1 (gI h) a (upd (gI h a) k x) b j = _
  unfold rw1 upd
  by_cases e : b = a
  · subst e; by_cases e2 : j = k <;> simp [e2]
  · simp [e]
theorem gJ_sJ : gJ (sJ h a k y) b j = if b = a ∧ j = k then y else gJ h b j := by
  show rw1 (gJ h) a (vp_updL (gJ h a) k y) b j = _
  unfold rw1 vp_updL
  by_cases e : b = a
  · subst e; by_cases e2 : j = k <;> simp [e2]
  · simp [e]
theorem gR_sR : gR (sR h a k r) b j = if b = a ∧ j = k then r else gR h b j := by
  show rw1 (gR h) a (va_up (gR h a) k r) b j = _
  unfold rw1 va_up
  by_cases e : b = a
  · subst e; by_cases e2 : j = k <;> simp [e2]
  · simp [e]
theorem gI_sIn (e : b ≠ a) : gI (sI h a k x) b = gI h b := rw1_n _ _ e
theorem gJ_sJn (e : b ≠ a) : gJ (sJ h a k y) b = gJ h b := rw1_n _ _ e
theorem gR_sRn (e : b ≠ a) : gR (sR h a k r) b = gR h b := rw1_n _ _ e
theorem gR_wR {g : Nat → Option Nat} : gR (wR h a g) a = g := rw1_s _ _ _
theorem gR_wRn {g : Nat → Option Nat} (e : b ≠ a) : gR (wR h a g) b = gR h b := rw1_n _ _ e
theorem kd_wR {g : Nat → Option Nat} : kd (wR h a g) = kd h := rfl
theorem ln_wR {g : Nat → Option Nat} : ln (wR h a g) = ln h := rfl
theorem gI_wR {g : Nat → Option Nat} : gI (wR h a g) = gI h := rfl
theorem kd_al : kd (al h c n s) b = if b = hz h + 4 then c else kd h b := rfl
theorem ln_al : ln (al h c n s) b = if b = hz h + 4 then n else ln h b := rfl
theorem hz_al : hz (al h c n s) = hz h + 1 := rfl
theorem hs_al : hs (al h c n s) = hs h + s := rfl
theorem gI_al : gI (al h c n s) b j = if b = hz h + 4 then 0 else gI h b j := by
  show rw1 (gI h) (hz h + 4) (fun _ => 0) b j = _
  unfold rw1
  split <;> rfl
theorem gJ_al : gJ (al h c n s) b j = if b = hz h + 4 then 0 else gJ h b j := by
  show rw1 (gJ h) (hz h + 4) (fun _ => 0) b j = _
  unfold rw1
  split <;> rfl
theorem gR_al : gR (al h c n s) b j = if b = hz h + 4 then none else gR h b j := by
  show rw1 (gR h) (hz h + 4) (fun _ => none) b j = _
  unfold rw1
  split <;> rfl
theorem gI_aln (e : b ≠ hz h + 4) : gI (al h c n s) b = gI h b := rw1_n _ _ e
theorem gJ_aln (e : b ≠ hz h + 4) : gJ (al h c n s) b = gJ h b := rw1_n _ _ e
theorem gR_aln (e : b ≠ hz h + 4) : gR (al h c n s) b = gR h b := rw1_n _ _ e
end RW
section WE
variable {β : Type} {h : AH} {a c k n : Nat} {i v : Int32} {y : Int64} {r r2 : Option Nat} {X A B : Option β}
theorem rdI_e {F : Int32 → Option β} (e : kd h a = c) : rdI h a c k F = F (gI h a k) := if_pos e
theorem rdJ_e {F : Int64 → Option β} (e : kd h a = c) : rdJ h a c k F = F (gJ h a k) := if_pos e
theorem rdR_e {F : Option Nat → Option β} (e : kd h a = c) : rdR h a c k F = F (gR h a k) := if_pos e
theorem wrI_e {F : AH → Option β} (e : kd h a = c) : wrI h a c k v F = F (sI h a k v) := if_pos e
theorem wrJ_e {F : AH → Option β} (e : kd h a = c) : wrJ h a c k y F = F (sJ h a k y) := if_pos e
theorem wrR_e {F : AH → Option β} (e : kd h a = c) : wrR h a c k r F = F (sR h a k r) := if_pos e
theorem wrZ_e {F : AH → Option β} (e : kd h a = c) (b : v = 0 ∨ v = 1) : wrZ h a c k v F = F (sI h a k v) := if_pos ⟨e, b⟩
theorem kg_e (e : kd h a = c) : kg h a c X = X := if_pos e
theorem ckc_e {b : Nat} (e : kd h b = c) : ckc h (some b) c X = X := if_pos e
theorem arI_e {F : Int32 → Option β} (e : kd h a = 100) (b : inb i (ln h a) = true) : arI h a i F = F (gI h a i.toNatClampNeg) := if_pos ⟨e, b⟩
theorem arJ_e {F : Int64 → Option β} (e : kd h a = 101) (b : inb i (ln h a) = true) : arJ h a i F = F (gJ h a i.toNatClampNeg) := if_pos ⟨e, b⟩
theorem arO_e {F : Option Nat → Option β} (e : kd h a = 103) (b : inb i (ln h a) = true) : arO h a i F = F (gR h a i.toNatClampNeg) := if_pos ⟨e, b⟩
theorem arC_e {F : Option Nat → Option β} (e : kd h a = 104) (b : inb i (ln h a) = true) : arC h a i F = F (gR h a i.toNatClampNeg) := if_pos ⟨e, b⟩
theorem asI_e {F : AH → Option β} (e : kd h a = 100) (b : inb i (ln h a) = true) : asI h a i v F = F (sI h a i.toNatClampNeg v) := if_pos ⟨e, b⟩
theorem asJ_e {F : AH → Option β} (e : kd h a = 101) (b : inb i (ln h a) = true) : asJ h a i y F = F (sJ h a i.toNatClampNeg y) := if_pos ⟨e, b⟩
theorem asO_e {F : AH → Option β} (e : kd h a = 103) (b : inb i (ln h a) = true) (o : okE h r = true) : asO h a i r F = F (sR h a i.toNatClampNeg r) := if_pos ⟨e, b, o⟩
theorem aln_0 {F : Int32 → Option β} (e : kd h a = 90) : aln h a F = F 0 := if_pos e
theorem aln_e {F : Int32 → Option β} (e : kd h a = c) (h1 : 100 ≤ c) (h2 : c ≤ 104) : aln h a F = F (nI (ln h a)) := by
  unfold aln
  rw [if_neg (by omega), if_pos (by omega)]
theorem nwA_e {F : Nat → AH → Option β} (hn : n ≤ 100000) : nwA h c (nI n) F = F (hz h + 4) (al h c n n) := by
  unfold nwA
  rw [if_pos (by rw [nI_clamp (by omega)]; exact ⟨nI_pos' (by omega), hn⟩), nI_clamp (by omega)]
theorem bd_s {α : Type} {x : α} {F : α → AH → Option β} : bd (some (x, h)) F = F x h := rfl
theorem rz_b {b : Bool} : rz (bit b) X = X := by cases b <;> rfl
theorem rz_1 : rz 1 X = X := rfl
theorem rz_0 : rz 0 X = X := rfl
theorem aq_t (e : r = r2) : aq r r2 A B = A := if_pos e
theorem aq_f {p q : Nat} (e : p ≠ q) (h1 : 4 ≤ p) (h2 : 4 ≤ q) : aq (some p) (some q) A B = B := by
  unfold aq
  rw [if_neg (fun z => e (Option.some.inj z)), if_pos]
  simp [okq, okr]
  omega
end WE
theorem nI_s1 {n : Nat} (h : 1 ≤ n) : nI n - 1 = nI (n - 1) := pk_sub (b := 1) h
theorem wR_id (h : AH) (a : Nat) : wR h a (gR h a) = h := by
  have e : rw1 (gR h) a (gR h a) = gR h := by
    funext b
    unfold rw1
    split
    · rename_i z; rw [z]
    · rfl
  unfold wR
  rw [e]
  rfl
theorem wR_wR (h : AH) (a : Nat) (g g' : Nat → Option Nat) : wR (wR h a g) a g' = wR h a g' := by
  have e : rw1 (gR (wR h a g)) a g' = rw1 (gR h) a g' := by
    funext b
    unfold rw1
    split
    · rfl
    · rename_i z; exact gR_wRn z
  show (hz h, hs h, kd h, ln h, gI h, gJ h, rw1 (gR (wR h a g)) a g') = _
  rw [e]
  rfl
theorem cpO_e {β : Type} {h : AH} {a b sp dp n : Nat} {F : AH → Option β} (k : kd h a = 103) (k2 : kd h b = 103) (h1 : sp + n ≤ ln h a) (h2 : dp + n ≤ ln h b) (l1 : ln h a ≤ 1000) (l2 : ln h b ≤ 1000) (o : ∀ i, i < n → okE h (gR h a (sp + i)) = true) : cpO h a (nI sp) b (nI dp) (nI n) F = F (wR h b (va_cpy (gR h a) (gR h b) sp dp n)) := by
  unfold cpO
  rw [nI_clamp (by omega), nI_clamp (by omega), nI_clamp (by omega), if_pos]
  refine ⟨k, k2, nI_pos' (by omega), nI_pos' (by omega), nI_pos' (by omega), h1, h2, ?_⟩
  rw [List.all_eq_true]
  exact fun i hi => o i (List.mem_range.mp hi)
/-- no two lists share an array -/
def Own (h : AH) : Prop := (∀ a d, kd h a = 0 → gR h a 1 = some d → kd h d ≠ 999) ∧ ∀ a b d, kd h a = 0 → kd h b = 0 → gR h a 1 = some d → gR h b 1 = some d → kd h d = 103 → a = b
def WH (h : AH) : Prop := Wf h ∧ Own h
theorem Wf.top {h : AH} (w : Wf h) : kd h (hz h + 4) = 999 := w.2.1 _ (Nat.le_refl _)
/-- what stays: all cells but those in X and the lists' arrays; the arrays of lists not in X -/
def LF (h h' : AH) (X : List Nat) : Prop := hz h ≤ hz h' ∧ (∀ b, kd h b ≠ 999 → kd h' b = kd h b ∧ ln h' b = ln h b) ∧ (∀ b, kd h b ≠ 999 → b ∉ X → kd h b ≠ 103 → gI h' b = gI h b ∧ gJ h' b = gJ h b ∧ gR h' b = gR h b) ∧ ∀ b, b ∉ X → kd h b = 0 → ∀ d, gR h b 1 = some d → kd h d = 103 → gR h' d = gR h d
section LFs
variable {h h1 h2 : AH} {X Y : List Nat}
theorem LF.rf (h : AH) (X : List Nat) : LF h h X := ⟨Nat.le_refl _, fun _ _ => ⟨rfl, rfl⟩, fun _ _ _ _ => ⟨rfl, rfl, rfl⟩, fun _ _ _ _ _ _ => rfl⟩
theorem LF.mono (f : LF h h1 X) (s : ∀ b ∈ X, b ∈ Y) : LF h h1 Y := ⟨f.1, f.2.1, fun b k hb => f.2.2.1 b k (fun z => hb (s b z)), fun b hb => f.2.2.2 b (fun z => hb (s b z))⟩
theorem LF.kk (f : LF h h1 X) {b c : Nat} (k : kd h b = c) (hc : c ≠ 999) : kd h1 b = c := (f.2.1 b (by rw [k]; exact hc)).1.trans k
theorem LF.tr (f : LF h h1 X) (g : LF h1 h2 X) : LF h h2 X := by
  refine ⟨Nat.le_trans f.1 g.1, fun b k => ?_, fun b k hb k3 => ?_, fun b hb k d e kd' => ?_⟩
  · obtain ⟨e1, e2⟩ := f.2.1 b k
    obtain ⟨e3, e4⟩ := g.2.1 b (by rw [e1]; exact k)
    exact ⟨e3.trans e1, e4.trans e2⟩
  · have e1 := (f.2.1 b k).1
    obtain ⟨p1, p2, p3⟩ := f.2.2.1 b k hb k3
    obtain ⟨q1, q2, q3⟩ := g.2.2.1 b (by rw [e1]; exact k) hb (by rw [e1]; exact k3)
    exact ⟨q1.trans p1, q2.trans p2, q3.trans p3⟩
  · have n9 : kd h b ≠ 999 := by rw [k]; decide
    have e1 := f.kk k (by decide)
    have p3 := (f.2.2.1 b n9 hb (by rw [k]; decide)).2.2
    have e4 := f.kk kd' (by decide)
    exact (g.2.2.2 b hb e1 d (by rw [p3]; exact e) e4).trans (f.2.2.2 b hb k d e kd')
theorem LF.trW {Z : List Nat} (f : LF h h1 X) (g : LF h1 h2 Y) (sX : ∀ b ∈ X, b ∈ Z) (sY : ∀ b ∈ Y, b ∈ Z) : LF h h2 Z := (f.mono sX).tr (g.mono sY)
theorem LF.fI {a k : Nat} {x : Int32} : LF h (sI h a k x) [a] := ⟨Nat.le_refl _, fun _ _ => ⟨rfl, rfl⟩, fun b _ hb _ => ⟨gI_sIn (by simpa using hb), rfl, rfl⟩, fun _ _ _ _ _ _ => rfl⟩
theorem LF.fJ {a k : Nat} {x : Int64} : LF h (sJ h a k x) [a] := ⟨Nat.le_refl _, fun _ _ => ⟨rfl, rfl⟩, fun b _ hb _ => ⟨rfl, gJ_sJn (by simpa using hb), rfl⟩, fun _ _ _ _ _ _ => rfl⟩
theorem LF.fR {a k : Nat} {x : Option Nat} (ha : kd h a ≠ 103) : LF h (sR h a k x) [a] := ⟨Nat.le_refl _, fun _ _ => ⟨rfl, rfl⟩, fun b _ hb _ => ⟨rfl, rfl, gR_sRn (by simpa using hb)⟩, fun b _ _ d _ kd' => gR_sRn (fun z => ha (by rw [← z]; exact kd'))⟩
theorem LF.fA {c n s : Nat} (w : Wf h) : LF h (al h c n s) [] := by
  have t := w.top
  refine ⟨Nat.le_succ _, fun b k => ?_, fun b k _ _ => ?_, fun b _ k d _ kd' => ?_⟩
  · have : b ≠ hz h + 4 := fun z => k (by rw [z]; exact t)
    rw [kd_al, ln_al, if_neg this, if_neg this]
    exact ⟨rfl, rfl⟩
  · have : b ≠ hz h + 4 := fun z => k (by rw [z]; exact t)
    exact ⟨gI_aln this, gJ_aln this, gR_aln this⟩
  · have : d ≠ hz h + 4 := fun z => by rw [z, t] at kd'; exact absurd kd' (by decide)
    exact gR_aln this
/-- an array of a list in X is written -/
theorem LF.fW {a d : Nat} {g : Nat → Option Nat} (w : WH h) (ka : kd h a = 0) (e : gR h a 1 = some d) (k : kd h d = 103) : LF h (wR h d g) [a] := by
  refine ⟨Nat.le_refl _, fun _ _ => ⟨rfl, rfl⟩, fun b _ _ k3 => ⟨rfl, rfl, gR_wRn (fun z => k3 (by rw [z]; exact k))⟩, fun b hb kb d' e' kd' => ?_⟩
  refine gR_wRn (fun z => ?_)
  subst z
  exact hb (by rw [w.2.2 b a d' kb ka e' e kd']; simp)
theorem LF.fE {a d k : Nat} {x : Option Nat} (w : WH h) (ka : kd h a = 0) (e : gR h a 1 = some d) (kk : kd h d = 103) : LF h (sR h d k x) [a] := LF.fW w ka e kk
theorem WH.fI {a k : Nat} {x : Int32} (w : WH h) : WH (sI h a k x) := w
theorem WH.fJ {a k : Nat} {x : Int64} (w : WH h) : WH (sJ h a k x) := w
theorem WH.fW {a : Nat} {g : Nat → Option Nat} (w : WH h) (ha : kd h a ≠ 0) : WH (wR h a g) := by
  refine ⟨w.1, fun p d kp ep => ?_, fun p q d kp kq ep eq kd' => ?_⟩
  · rw [gR_wRn (fun z => ha (by rw [← z]; exact kp))] at ep
    exact w.2.1 p d kp ep
  · rw [gR_wRn (fun z => ha (by rw [← z]; exact kp))] at ep
    rw [gR_wRn (fun z => ha (by rw [← z]; exact kq))] at eq
    exact w.2.2 p q d kp kq ep eq kd'
theorem WH.fR {a k : Nat} {x : Option Nat} (w : WH h) (ha : kd h a ≠ 0) : WH (sR h a k x) := w.fW ha
/-- a list gets an array that no list has -/
theorem WH.fD {a d : Nat} (w : WH h) (kd' : kd h d ≠ 999) (fr : ∀ p, kd h p = 0 → gR h p 1 = some d → kd h d ≠ 103) : WH (sR h a 1 (some d)) := by
  refine ⟨w.1, fun p e kp ep => ?_, fun p q e kp kq ep eq ke => ?_⟩
  · rw [gR_sR] at ep
    by_cases c : p = a
    · rw [if_pos ⟨c, rfl⟩] at ep
      cases ep
      exact kd'
    · rw [if_neg (fun z => c z.1)] at ep
      exact w.2.1 p e kp ep
  · rw [gR_sR] at ep eq
    by_cases c1 : p = a
    · by_cases c2 : q = a
      · rw [c1, c2]
      · rw [if_pos ⟨c1, rfl⟩] at ep
        rw [if_neg (fun z => c2 z.1)] at eq
        cases ep
        exact absurd ke (fr q kq eq)
    · rw [if_neg (fun z => c1 z.1)] at ep
      by_cases c2 : q = a
      · rw [if_pos ⟨c2, rfl⟩] at eq
        cases eq
        exact absurd ke (fr p kp ep)
      · rw [if_neg (fun z => c2 z.1)] at eq
        exact w.2.2 p q e kp kq ep eq ke
theorem Wf.fA {c n s : Nat} (w : Wf h) (hc : c < 90 ∨ 100 ≤ c) : Wf (al h c n s) := by
  refine ⟨fun a ha => ?_, fun a ha => ?_, fun a h1 h2 => ?_⟩
  · rw [kd_al, if_neg (by omega)]; exact w.1 a ha
  · rw [hz_al] at ha
    rw [kd_al, if_neg (by omega)]; exact w.2.1 a (by omega)
  · rw [hz_al] at h2
    rw [kd_al]
    by_cases e : a = hz h + 4
    · rw [if_pos e]; exact hc
    · rw [if_neg e]; exact w.2.2 a h1 (by omega)
theorem WH.fA {c n s : Nat} (w : WH h) (hc : c < 90 ∨ 100 ≤ c) (h9 : c ≠ 999) : WH (al h c n s) := by
  refine ⟨w.1.fA hc, fun p d kp ep => ?_, fun p q d kp kq ep eq kd' => ?_⟩
  · rw [gR_al] at ep
    rw [kd_al] at kp ⊢
    by_cases e1 : p = hz h + 4
    · rw [if_pos e1] at ep; exact absurd ep (by simp)
    · rw [if_neg e1] at kp ep
      split
      · exact h9
      · exact w.2.1 p d kp ep
  · rw [kd_al] at kp kq kd'
    rw [gR_al] at ep eq
    by_cases e1 : p = hz h + 4
    · rw [if_pos e1] at ep; exact absurd ep (by simp)
    · by_cases e2 : q = hz h + 4
      · rw [if_pos e2] at eq; exact absurd eq (by simp)
      · rw [if_neg e1] at kp ep
        rw [if_neg e2] at kq eq
        have e3 : d ≠ hz h + 4 := fun z => w.2.1 p d kp ep (by rw [z]; exact w.1.top)
        rw [if_neg e3] at kd'
        exact w.2.2 p q d kp kq ep eq kd'
end LFs
/-- the list at a holds l -/
def LI (h : AH) (a : Nat) (l : List Nat) : Prop := kd h a = 0 ∧ gI h a 2 = nI l.length ∧ (∀ x ∈ l, 0 < kd h x ∧ kd h x < 14) ∧ ∃ d, gR h a 1 = some d ∧ ((d = 0 ∧ l = []) ∨ (kd h d = 103 ∧ 10 ≤ ln h d ∧ ln h d ≤ 100 ∧ l.length ≤ ln h d ∧ ∀ i, i < l.length → gR h d i = l[i]?))
theorem LI.fr {h h' : AH} {a : Nat} {l X : List Nat} (i : LI h a l) (f : LF h h' X) (ha : a ∉ X) : LI h' a l := by
  obtain ⟨i1, i2, i3, d, i4, i5⟩ := i
  have n9 : kd h a ≠ 999 := by rw [i1]; decide
  obtain ⟨p1, p2, p3⟩ := f.2.2.1 a n9 ha (by rw [i1]; decide)
  refine ⟨f.kk i1 (by decide), by rw [p1]; exact i2, fun x hx => ?_, d, by rw [p3]; exact i4, ?_⟩
  · obtain ⟨q1, q2⟩ := i3 x hx
    rw [(f.2.1 x (by omega)).1]
    exact ⟨q1, q2⟩
  · rcases i5 with i5 | ⟨j1, j2, j3, j4, j5⟩
    · exact .inl i5
    · obtain ⟨e1, e2⟩ := f.2.1 d (by rw [j1]; decide)
      refine .inr ⟨e1.trans j1, by rw [e2]; exact j2, by rw [e2]; exact j3, by rw [e2]; exact j4, fun k hk => ?_⟩
      rw [f.2.2.2 a ha i1 d i4 j1]
      exact j5 k hk
theorem LI.len {h : AH} {a : Nat} {l : List Nat} (i : LI h a l) : l.length ≤ 100 := by
  obtain ⟨-, -, -, d, -, i5⟩ := i
  rcases i5 with ⟨-, e⟩ | ⟨-, -, j3, j4, -⟩
  · rw [e]; exact Nat.zero_le _
  · omega
theorem LI.size {h : AH} {a : Nat} {l : List Nat} (i : LI h a l) : f_Jx4a65c_size_8abf5 a h = some (nI l.length, h) := by
  unfold f_Jx4a65c_size_8abf5
  rw [rdI_e i.1, i.2.1]
theorem LI.kgg {β : Type} {h : AH} {a : Nat} {l : List Nat} (i : LI h a l) {X : Option β} : kg h a 0 X = X := if_pos i.1
theorem LI.chk {h : AH} {n i : Nat} (hi : i < n) (hn : n < 2 ^ 31) : f_J15_checkIndex_7cf53 (nI i) (nI n) h = some (nI i, h) := by
  unfold f_J15_checkIndex_7cf53 f_J3_checkIndex_8e157
  rw [if_neg (nI_pos (by omega)), if_pos (nI_lt hi (by omega))]
  rfl
theorem LI.get {h : AH} {a j : Nat} {l : List Nat} (i : LI h a l) (hj : j < l.length) : f_Jx4a65c_get_915e3 a (nI j) h = some (l[j]?, h) := by
  have hl := i.len
  obtain ⟨i1, i2, i3, d, i4, i5⟩ := i
  rcases i5 with ⟨-, e⟩ | ⟨j1, j2, j3, j4, j5⟩
  · rw [e] at hj; exact absurd hj (Nat.not_lt_zero _)
  · unfold f_Jx4a65c_get_915e3 f_Jx4a65c_elementData_915e3
    rw [rdI_e i1, i2, LI.chk hj (by omega), bd_s, kg_e i1, rdR_e i1, i4, nn_s, arO_e j1 (inb_nI (by omega) (by omega)), bd_s, nI_clamp (by omega), j5 j hj]
theorem LI.emp {h : AH} {a : Nat} {l : List Nat} (i : LI h a l) : f_Jx4a65c_isEmpty_aae02 a h = some (bit l.isEmpty, h) := by
  have hl := i.len
  unfold f_Jx4a65c_isEmpty_aae02
  rw [rdI_e i.1, i.2.1]
  cases l with
  | nil => rfl
  | cons x l =>
    rw [if_neg (nI_ne0 (by simp) (by omega))]
    rfl
/-- the kinds stay; what is new is a list's array -/
def KX (h h' : AH) : Prop := ∀ b, kd h' b = kd h b ∨ (kd h b = 999 ∧ kd h' b = 103)
theorem KX.rf (h : AH) : KX h h := fun _ => .inl rfl
theorem KX.tr {h h1 h2 : AH} (a : KX h h1) (b : KX h1 h2) : KX h h2 := fun x => by
  rcases a x with e | ⟨e1, e2⟩ <;> rcases b x with f | ⟨f1, f2⟩
  · exact .inl (f.trans e)
  · exact .inr ⟨e ▸ f1, f2⟩
  · exact .inr ⟨e1, f.trans e2⟩
  · rw [e2] at f1; exact absurd f1 (by decide)
/-- a larger array, when the list's is full -/
theorem LI.grow {h : AH} {a : Nat} {l : List Nat} (w : WH h) (i : LI h a l) (hl : l.length < 60) (hf : ∀ d, gR h a 1 = some d → d = 0 ∨ l.length = ln h d) : ∃ d h', f_Jx4a65c_grow_d5877 a h = some (some d, h') ∧ gR h' a 1 = some d ∧ kd h' d = 103 ∧ l.length < ln h' d ∧ LI h' a l ∧ LF h h' [a] ∧ WH h' ∧ hz h' = hz h + 1 ∧ hs h' ≤ hs h + 100 ∧ KX h h' := by
  obtain ⟨i1, i2, i3, d, i4, i5⟩ := i
  have hd := hf d i4
  have t := w.1.top
  have at' : a ≠ hz h + 4 := fun z => by rw [z, t] at i1; exact absurd i1 (by decide)
  have k90 : kd h 0 = 90 := w.1.1 0 (by decide)
  -- the new array at the top, filled with f
  have key : ∀ (n : Nat) (g : Nat → Option Nat), 10 ≤ n → n ≤ 100 → l.length < n → (∀ i, i < l.length → g i = l[i]?) → ∀ h1, h1 = sR (wR (al h 103 n n) (hz h + 4) g) a 1 (some (hz h + 4)) → gR h1 a 1 = some (hz h + 4) ∧ kd h1 (hz h + 4) = 103 ∧ l.length < ln h1 (hz h + 4) ∧ LI h1 a l ∧ LF h h1 [a] ∧ WH h1 ∧ hz h1 = hz h + 1 ∧ hs h1 ≤ hs h + 100 ∧ KX h h1 := by
    intro n g hn1 hn2 hn3 hg h1 e1
    have w1 : WH (al h 103 n n) := w.fA (by omega) (by decide)
    have ka1 : kd (al h 103 n n) a = 0 := by rw [kd_al, if_neg at']; exact i1
    have kt1 : kd (al h 103 n n) (hz h + 4) = 103 := by rw [kd_al, if_pos rfl]
    have w2 : WH (wR (al h 103 n n) (hz h + 4) g) := w1.fW (by rw [kt1]; decide)
    have fresh : ∀ p, kd h p = 0 → gR h p 1 ≠ some (hz h + 4) := fun p kp ep => w.2.1 p _ kp ep t
    have pne : ∀ p, kd (al h 103 n n) p = 0 → p ≠ hz h + 4 := fun p kp z => by rw [z, kt1] at kp; exact absurd kp (by decide)
    have w3 : WH h1 := by
      rw [e1]
      refine w2.fD (by rw [kd_wR, kt1]; decide) (fun p kp ep => ?_)
      rw [kd_wR] at kp
      have pn := pne p kp
      rw [kd_al, if_neg pn] at kp
      rw [gR_wRn pn, gR_aln pn] at ep
      exact absurd ep (fresh p kp)
    have f1 : LF h (al h 103 n n) [a] := (LF.fA w.1).mono (by simp)
    have f2 : LF h (wR (al h 103 n n) (hz h + 4) g) [a] := by
      refine ⟨f1.1, f1.2.1, fun b k hb k3 => ?_, fun b hb k d' e' kd' => ?_⟩
      · have : b ≠ hz h + 4 := fun z => k (by rw [z]; exact t)
        obtain ⟨q1, q2, q3⟩ := f1.2.2.1 b k hb k3
        exact ⟨q1, q2, (gR_wRn this).trans q3⟩
      · have : d' ≠ hz h + 4 := fun z => by rw [z, t] at kd'; exact absurd kd' (by decide)
        exact (gR_wRn this).trans (f1.2.2.2 b hb k d' e' kd')
    have f3 : LF h h1 [a] := by
      rw [e1]
      exact f2.tr (LF.fR (by rw [kd_wR, ka1]; decide))
    have r1 : gR h1 a 1 = some (hz h + 4) := by rw [e1, gR_sR, if_pos ⟨rfl, rfl⟩]
    have r2 : kd h1 (hz h + 4) = 103 := by rw [e1]; exact kt1
    have r3 : ln h1 (hz h + 4) = n := by rw [e1, ln_sR, ln_wR, ln_al, if_pos rfl]
    have r4 : gR h1 (hz h + 4) = g := by rw [e1, gR_sRn (Ne.symm at'), gR_wR]
    refine ⟨r1, r2, by rw [r3]; exact hn3, ⟨f3.kk i1 (by decide), ?_, fun x hx => ?_, _, r1, .inr ⟨r2, by rw [r3]; exact hn1, by rw [r3]; exact hn2, by rw [r3]; omega, by rw [r4]; exact hg⟩⟩, f3, w3, by rw [e1]; rfl, by rw [e1]; show hs h + n ≤ _; omega, fun b => ?_⟩
    · rw [e1, gI_sR, gI_wR, gI_aln at']
      exact i2
    · obtain ⟨q1, q2⟩ := i3 x hx
      rw [(f3.2.1 x (by omega)).1]
      exact ⟨q1, q2⟩
    · rw [e1, kd_sR, kd_wR, kd_al]
      by_cases z : b = hz h + 4
      · rw [if_pos z, z]; exact .inr ⟨t, rfl⟩
      · rw [if_neg z]; exact .inl rfl
  unfold f_Jx4a65c_grow_d5877
  rw [rdI_e i1, kg_e i1, i2, nI_1]
  unfold f_Jx4a65c_grow_92f84
  rw [rdR_e i1, i4, nn_s]
  rcases i5 with ⟨e0, el⟩ | ⟨j1, j2, j3, j4, j5⟩
  · subst e0
    subst el
    refine ⟨hz h + 4, _, ?_, key 10 (fun _ => none) (by omega) (by omega) (by simp) (fun i hi => absurd hi (by simp)) _ rfl⟩
    rw [aln_0 k90, if_neg (by decide), rdR_e i1, i4, aq_t rfl]
    rw [show (if (10 : Int32) < nI ([] : List Nat).length.succ then nI (([] : List Nat).length + 1) else 10) = nI 10 by decide]
    rw [nwA_e (by decide), wrR_e (by rw [kd_al, if_neg at']; exact i1), bd_s]
    congr 2
    have : wR (al h 103 10 10) (hz h + 4) (fun _ => none) = al h 103 10 10 := by
      have e : gR (al h 103 10 10) (hz h + 4) = fun _ => none := rw1_s _ _ _
      rw [← e]
      exact wR_id _ _
    rw [this]
  · have hld : l.length = ln h d := by
      rcases hd with e | e
      · rw [e, k90] at j1; exact absurd j1 (by decide)
      · exact e
    refine ⟨hz h + 4, _, ?_, key (l.length + l.length / 2) (va_cpy (gR h d) (fun _ => none) 0 0 l.length) (by omega) (by omega) (by omega) (fun i hi => ?_) _ rfl⟩
    · have hdt : d ≠ hz h + 4 := fun z => by rw [z, t] at j1; exact absurd j1 (by decide)
      rw [aln_e j1 (by omega) (by omega), ← hld, if_pos (by rw [← nI_0]; exact nI_lt (by omega) (by omega))]
      unfold f_Jx4a65c_grow_92f84_20 f_J8_newLength_cabcc
      rw [pk_sub (by omega), pk_shrN (by omega) _ 1 (by decide), ltd]
      rw [if_pos (show nI (l.length + 1 - l.length) < nI (l.length / 2 ^ 1) from nI_lt (by omega) (by omega)), nI_add]
      rw [show l.length / 2 ^ 1 = l.length / 2 from rfl, if_neg (nI_nle (by omega) (by omega)), if_neg (show ¬ (2147483639 : Int32) < nI (l.length + l.length / 2) from nI_nlt (a := 2147483639) (by omega) (by omega)), bd_s, rdR_e i1, i4]
      unfold f_J7_copyOf_1904c f_J7_copyOf_6403c
      rw [nn_s, kg_e j1, aq_t rfl, nwA_e (by omega), nn_s, aln_e (c := 103) (by rw [kd_al, if_neg hdt]; exact j1) (by omega) (by omega), ln_al, if_neg hdt, ← hld, if_neg (nI_nlt (by omega) (by omega))]
      unfold cpO
      rw [if_pos]
      · rw [bd_s, bd_s, wrR_e (by rw [kd_wR, kd_al, if_neg at']; exact i1), bd_s, gR_aln hdt, show gR (al h 103 (l.length + l.length / 2) (l.length + l.length / 2)) (hz h + 4) = fun _ => none from rw1_s _ _ _, nI_clamp (by omega)]
        rfl
      · rw [kd_al, kd_al, if_neg hdt, if_pos rfl, ln_al, ln_al, if_neg hdt, if_pos rfl, nI_clamp (by omega), gR_aln hdt]
        refine ⟨j1, rfl, by decide, by decide, nI_pos' (by omega), by show 0 + _ ≤ _; omega, by show 0 + _ ≤ _; omega, ?_⟩
        rw [List.all_eq_true]
        intro k hk
        have hk := List.mem_range.mp hk
        show okE _ (gR h d (0 + k)) = true
        rw [Nat.zero_add, j5 k hk, List.getElem?_eq_getElem hk]
        obtain ⟨q1, q2⟩ := i3 _ (List.getElem_mem hk)
        have : l[k] ≠ hz h + 4 := fun z => by rw [z, t] at q2; exact absurd q2 (by decide)
        simp only [okE, kd_al, if_neg this, Bool.and_eq_true, decide_eq_true_eq]
        exact ⟨q1, q2⟩
    · rw [pk_cpy_in (by omega) (by omega)]
      rw [Nat.zero_add, Nat.sub_zero]
      exact j5 i hi
theorem LI.mod {h : AH} {a : Nat} {l : List Nat} {m : Int32} (i : LI h a l) : LI (sI h a 0 m) a l := by
  obtain ⟨i1, i2, i3, d, i4, i5⟩ := i
  exact ⟨i1, by rw [gI_sI, if_neg (by simp)]; exact i2, i3, d, i4, i5⟩
/-- the list's contents set anew: its array to g, its size to the new length -/
theorem LI.set {h : AH} {a d : Nat} {l l' : List Nat} {g : Nat → Option Nat} (w : WH h) (i : LI h a l) (e : gR h a 1 = some d) (k : kd h d = 103) (hn : l'.length ≤ ln h d) (hg : ∀ j, j < l'.length → g j = l'[j]?) (hx : ∀ x ∈ l', 0 < kd h x ∧ kd h x < 14) : ∀ h1, h1 = sI (wR h d g) a 2 (nI l'.length) → LI h1 a l' ∧ LF h h1 [a] ∧ WH h1 ∧ hz h1 = hz h ∧ hs h1 = hs h ∧ KX h h1 := by
  intro h1 e1
  obtain ⟨i1, i2, i3, d', i4, i5⟩ := i
  rw [e] at i4
  cases i4
  have k90 : kd h 0 = 90 := w.1.1 0 (by decide)
  have ne : a ≠ d := fun z => by rw [← z, i1] at k; exact absurd k (by decide)
  rcases i5 with ⟨z, -⟩ | ⟨j1, j2, j3, j4, j5⟩
  · rw [z, k90] at k; exact absurd k (by decide)
  · refine ⟨⟨by rw [e1]; exact i1, by rw [e1, gI_sI, if_pos ⟨rfl, rfl⟩], by rw [e1]; exact hx, d, ?_, .inr ⟨by rw [e1]; exact k, by rw [e1]; exact j2, by rw [e1]; exact j3, by rw [e1]; exact hn, ?_⟩⟩, ?_, ?_, by rw [e1]; rfl, by rw [e1]; rfl, by rw [e1]; exact fun _ => .inl rfl⟩
    · rw [e1, gR_sI, gR_wRn ne]; exact e
    · rw [e1, gR_sI, gR_wR]; exact hg
    · rw [e1]
      exact (LF.fW w i1 e k).tr LF.fI
    · rw [e1]
      exact w.fW (by rw [k]; decide)
theorem sI_wR {h : AH} {a d j : Nat} {v : Int32} {g : Nat → Option Nat} : sI (wR h d g) a j v = wR (sI h a j v) d g := rfl
theorem LI.put {h : AH} {a d x : Nat} {l : List Nat} (w : WH h) (i : LI h a l) (e : gR h a 1 = some d) (k : kd h d = 103) (hn : l.length < ln h d) (hx : 0 < kd h x ∧ kd h x < 14) : ∃ h', f_Jx4a65c_add_72be8_11 a (some x) (some d) (nI l.length) h = some ((), h') ∧ LI h' a (l ++ [x]) ∧ LF h h' [a] ∧ WH h' ∧ hz h' = hz h ∧ hs h' = hs h ∧ KX h h' := by
  have hl := i.len
  have i1 := i.1
  have hnd : ∀ j, j < l.length → gR h d j = l[j]? := by
    obtain ⟨-, -, -, d', i4, i5⟩ := i
    rw [e] at i4
    cases i4
    rcases i5 with ⟨z, -⟩ | ⟨j1, j2, j3, j4, j5⟩
    · rw [z, w.1.1 0 (by decide)] at k; exact absurd k (by decide)
    · exact j5
  have hcap : ln h d ≤ 100 := by
    obtain ⟨-, -, -, d', i4, i5⟩ := i
    rw [e] at i4
    cases i4
    rcases i5 with ⟨z, -⟩ | ⟨j1, j2, j3, j4, j5⟩
    · rw [z, w.1.1 0 (by decide)] at k; exact absurd k (by decide)
    · exact j3
  refine ⟨_, ?_, i.set (l' := l ++ [x]) (g := va_up (gR h d) l.length (some x)) w e k (by simp; omega) (fun j hj => ?_) (fun y hy => ?_) _ rfl⟩
  · unfold f_Jx4a65c_add_72be8_11
    rw [nn_s, asO_e k (inb_nI hn (by omega)) (by simp [okE, hx]), wrI_e (by rw [kd_sR]; exact i1), nI_clamp (by omega), nI_1]
    rw [List.length_append]
    rfl
  · rw [List.length_append] at hj
    by_cases c : j = l.length
    · subst c
      rw [va_up_self, List.getElem?_append_right (Nat.le_refl _), Nat.sub_self]
      rfl
    · have : j < l.length := by simp at hj; omega
      rw [va_up_ne _ _ c, List.getElem?_append_left this]
      exact hnd j this
  · rcases List.mem_append.mp hy with hy | hy
    · exact i.2.2.1 y hy
    · rw [List.mem_singleton.mp hy]; exact hx
theorem LI.add {h : AH} {a x : Nat} {l : List Nat} (w : WH h) (i : LI h a l) (hl : l.length < 60) (hx : 0 < kd h x ∧ kd h x < 14) : ∃ h', f_Jx4a65c_add_9ea2d a (some x) h = some (1, h') ∧ LI h' a (l ++ [x]) ∧ LF h h' [a] ∧ WH h' ∧ hz h' ≤ hz h + 1 ∧ hs h' ≤ hs h + 100 ∧ KX h h' := by
  have i1 := i.1
  unfold f_Jx4a65c_add_9ea2d
  rw [rdI_e i1, wrI_e i1]
  have i' : LI (sI h a 0 (gI h a 0 + 1)) a l := i.mod
  have w' : WH (sI h a 0 (gI h a 0 + 1)) := w.fI
  have f' : LF h (sI h a 0 (gI h a 0 + 1)) [a] := LF.fI
  have kx' : KX h (sI h a 0 (gI h a 0 + 1)) := fun _ => .inl rfl
  have z1 : hz (sI h a 0 (gI h a 0 + 1)) = hz h := rfl
  have z2 : hs (sI h a 0 (gI h a 0 + 1)) = hs h := rfl
  have hx' : 0 < kd (sI h a 0 (gI h a 0 + 1)) x ∧ kd (sI h a 0 (gI h a 0 + 1)) x < 14 := hx
  generalize sI h a 0 (gI h a 0 + 1) = g at *
  have g1 := i'.1
  rw [rdR_e g1, rdI_e g1, kg_e g1, i'.2.1]
  have i2 := i'
  obtain ⟨-, -, -, d, i4, i5⟩ := i2
  rw [i4]
  unfold f_Jx4a65c_add_72be8
  rw [nn_s]
  have k90 : kd g 0 = 90 := w'.1.1 0 (by decide)
  by_cases full : d = 0 ∨ l.length = ln g d
  · obtain ⟨d2, h2, e2, r2, k2, n2, L2, F2, W2, Z2, S2, K2⟩ := i'.grow w' hl (fun q hq => by rw [i4] at hq; cases hq; exact full)
    obtain ⟨h3, e3, L3, F3, W3, Z3, S3, K3⟩ := L2.put (x := x) W2 r2 k2 n2 (by rw [(F2.2.1 x (by omega)).1]; exact hx')
    refine ⟨h3, ?_, L3, (f'.tr F2).tr F3, W3, by omega, by omega, (kx'.tr K2).tr K3⟩
    rcases i5 with ⟨z, el⟩ | ⟨j1, j2, j3, j4, j5⟩
    · subst z
      subst el
      rw [aln_0 k90, if_pos (show nI ([] : List Nat).length = 0 from nI_0), kg_e g1, e2, bd_s, e3, bd_s, rz_1]
    · have : l.length = ln g d := by
        rcases full with z | z
        · rw [z, k90] at j1; exact absurd j1 (by decide)
        · exact z
      rw [aln_e j1 (by omega) (by omega), if_pos (by rw [this]), kg_e g1, e2, bd_s, e3, bd_s, rz_1]
  · rcases i5 with ⟨z, -⟩ | ⟨j1, j2, j3, j4, j5⟩
    · exact absurd (.inl z) full
    · have nf : l.length < ln g d := by omega
      obtain ⟨h3, e3, L3, F3, W3, Z3, S3, K3⟩ := i'.put (x := x) w' i4 j1 nf hx'
      refine ⟨h3, ?_, L3, f'.tr F3, W3, by omega, by omega, kx'.tr K3⟩
      rw [aln_e j1 (by omega) (by omega), if_neg (by rw [nI_eq (by omega) (by omega)]; omega), e3, bd_s, rz_1]
theorem LI.data {h : AH} {a : Nat} {l : List Nat} (w : WH h) (i : LI h a l) (h0 : 0 < l.length) : ∃ d, gR h a 1 = some d ∧ kd h d = 103 ∧ ln h d ≤ 100 ∧ l.length ≤ ln h d ∧ ∀ j, j < l.length → gR h d j = l[j]? := by
  obtain ⟨-, -, -, d, i4, i5⟩ := i
  rcases i5 with ⟨-, e⟩ | ⟨j1, j2, j3, j4, j5⟩
  · rw [e] at h0; exact absurd h0 (by simp)
  · exact ⟨d, i4, j1, j3, j4, j5⟩
/-- an element is taken out -/
theorem LI.rem {h : AH} {a j : Nat} {l : List Nat} (w : WH h) (i : LI h a l) (hj : j < l.length) : ∃ h', f_Jx4a65c_remove_915e3 a (nI j) h = some (l[j]?, h') ∧ LI h' a (l.eraseIdx j) ∧ LF h h' [a] ∧ WH h' ∧ hz h' = hz h ∧ hs h' = hs h ∧ KX h h' := by
  have hl := i.len
  have i1 := i.1
  have i2 := i.2.1
  obtain ⟨d, e, k, n1, n2, hd⟩ := i.data w (by omega)
  have i' : LI (sI h a 0 (gI h a 0 + 1)) a l := i.mod
  have w' : WH (sI h a 0 (gI h a 0 + 1)) := w.fI
  have f' : LF h (sI h a 0 (gI h a 0 + 1)) [a] := LF.fI
  have hle : (l.eraseIdx j).length = l.length - 1 := by rw [List.length_eraseIdx, if_pos hj]
  have hmem : ∀ x ∈ l.eraseIdx j, 0 < kd h x ∧ kd h x < 14 := fun x hx => i.2.2.1 x (List.mem_of_mem_eraseIdx hx)
  have s := i'.set (l' := l.eraseIdx j) (g := va_up (va_cpy (gR h d) (gR h d) (j + 1) j (l.length - 1 - j)) (l.length - 1) none) w' e k (by rw [hle]; show _ ≤ ln h d; omega) (fun q hq => by
    rw [hle] at hq
    rw [va_up_ne _ _ (by omega), List.getElem?_eraseIdx]
    by_cases c : q < j
    · rw [pk_cpy_out (.inl c), if_pos c]; exact hd q (by omega)
    · rw [pk_cpy_in (by omega) (by omega), if_neg c, show j + 1 + (q - j) = q + 1 by omega]; exact hd (q + 1) (by omega)) hmem _ rfl
  refine ⟨_, ?_, s.1, f'.tr s.2.1, s.2.2.1, s.2.2.2.1, s.2.2.2.2.1, s.2.2.2.2.2⟩
  unfold f_Jx4a65c_remove_915e3
  rw [rdI_e i1, i2, LI.chk hj (by omega), bd_s, rdR_e i1, e, nn_s, arO_e k (inb_nI (by omega) (by omega)), kg_e i1, nI_clamp (by omega), hd j hj]
  unfold f_Jx4a65c_fastRemove_b59b0
  rw [rdI_e i1, wrI_e i1, rdI_e (show kd (sI h a 0 (gI h a 0 + 1)) a = 0 from i1), show gI (sI h a 0 (gI h a 0 + 1)) a 2 = nI l.length by rw [gI_sI, if_neg (by simp)]; exact i2, ltd, nI_s1 (n := l.length) (by omega)]
  have fin : ∀ g : Nat → Option Nat, va_up g (l.length - 1) none = va_up (va_cpy (gR h d) (gR h d) (j + 1) j (l.length - 1 - j)) (l.length - 1) none → f_Jx4a65c_fastRemove_b59b0_34 a (some d) (nI (l.length - 1)) (wR (sI h a 0 (gI h a 0 + 1)) d g) = some ((), sI (wR (sI h a 0 (gI h a 0 + 1)) d (va_up (va_cpy (gR h d) (gR h d) (j + 1) j (l.length - 1 - j)) (l.length - 1) none)) a 2 (nI (l.eraseIdx j).length)) := by
    intro g hg
    unfold f_Jx4a65c_fastRemove_b59b0_34
    rw [wrI_e (by exact i1), nn_s, asO_e (by exact k) (by show inb _ (ln h d) = true; exact inb_nI (by omega) (by omega)) rfl, nI_clamp (by omega), hle, ← hg]
    congr 2
    unfold sR
    rw [gR_sI, gR_wR, sI_wR, wR_wR]
    rfl
  by_cases c : l.length - 1 ≤ j
  · rw [if_pos (by show nI (l.length - 1) ≤ nI j; exact nI_le c (by omega))]
    have q := fin (gR h d) (by
      have : l.length - 1 - j = 0 := by omega
      rw [this]
      congr 1
      funext b
      rw [pk_cpy_out (by omega)])
    have z : wR (sI h a 0 (gI h a 0 + 1)) d (gR h d) = sI h a 0 (gI h a 0 + 1) := wR_id _ d
    rw [z] at q
    rw [q, bd_s]
  · rw [if_neg (by show ¬ nI (l.length - 1) ≤ nI j; exact nI_ge (by omega) (by omega)), nn_s]
    rw [nI_1, pk_sub (by omega), cpO_e (by exact k) (by exact k) (by show _ ≤ ln h d; omega) (by show _ ≤ ln h d; omega) (by show ln h d ≤ _; omega) (by show ln h d ≤ _; omega), gR_sI, fin _ rfl, bd_s]
    intro q hq
    rw [gR_sI, hd (j + 1 + q) (by omega), List.getElem?_eq_getElem (by omega)]
    obtain ⟨q1, q2⟩ := i.2.2.1 _ (List.getElem_mem (show j + 1 + q < l.length by omega))
    simp only [okE, Bool.and_eq_true, decide_eq_true_eq]
    exact ⟨q1, q2⟩
/-- an element is put in -/
theorem LI.ins {h : AH} {a d j x : Nat} {l : List Nat} (w : WH h) (i : LI h a l) (hj : j ≤ l.length) (e : gR h a 1 = some d) (k : kd h d = 103) (hn : l.length < ln h d) (hx : 0 < kd h x ∧ kd h x < 14) : ∃ h', f_Jx4a65c_add_7a177_38 a (nI j) (some x) (nI l.length) (some d) h = some ((), h') ∧ LI h' a (l.insertIdx j x) ∧ LF h h' [a] ∧ WH h' ∧ hz h' = hz h ∧ hs h' = hs h ∧ KX h h' := by
  have hl := i.len
  have i1 := i.1
  have hnd : ln h d ≤ 100 ∧ ∀ j, j < l.length → gR h d j = l[j]? := by
    obtain ⟨-, -, -, d', i4, i5⟩ := i
    rw [e] at i4
    cases i4
    rcases i5 with ⟨z, -⟩ | ⟨j1, j2, j3, j4, j5⟩
    · rw [z, w.1.1 0 (by decide)] at k; exact absurd k (by decide)
    · exact ⟨j3, j5⟩
  obtain ⟨hcap, hd⟩ := hnd
  have hle : (l.insertIdx j x).length = l.length + 1 := List.length_insertIdx_of_le_length hj _
  have s := i.set (l' := l.insertIdx j x) (g := va_up (va_cpy (gR h d) (gR h d) j (j + 1) (l.length - j)) j (some x)) w e k (by rw [hle]; omega) (fun q hq => by
    rw [hle] at hq
    by_cases c1 : q < j
    · rw [va_up_ne _ _ (by omega), pk_cpy_out (by omega), List.getElem?_insertIdx_of_lt c1]
      exact hd q (by omega)
    · by_cases c2 : q = j
      · rw [c2, va_up_self, List.getElem?_insertIdx_self, if_pos hj]
      · rw [va_up_ne _ _ c2, pk_cpy_in (by omega) (by omega), List.getElem?_insertIdx_of_gt (by omega), show j + (q - (j + 1)) = q - 1 by omega]
        exact hd (q - 1) (by omega)) (fun y hy => by
    rcases (List.mem_insertIdx hj).mp hy with hy | hy
    · rw [hy]; exact hx
    · exact i.2.2.1 y hy) _ rfl
  refine ⟨_, ?_, s⟩
  unfold f_Jx4a65c_add_7a177_38
  rw [nn_s]
  rw [nI_1, pk_sub (by omega), cpO_e k k (by omega) (by omega) (by omega) (by omega), asO_e (by exact k) (by show inb _ (ln h d) = true; exact inb_nI (by omega) (by omega)) (by simp only [okE, Bool.and_eq_true, decide_eq_true_eq]; exact hx), wrI_e (by exact i1), nI_clamp (by omega), nI_1, hle]
  · congr 2
    unfold sR
    rw [gR_wR, wR_wR]
  · intro q hq
    rw [hd (j + q) (by omega), List.getElem?_eq_getElem (by omega)]
    obtain ⟨q1, q2⟩ := i.2.2.1 _ (List.getElem_mem (show j + q < l.length by omega))
    simp only [okE, Bool.and_eq_true, decide_eq_true_eq]
    exact ⟨q1, q2⟩
theorem LI.addAt {h : AH} {a x j : Nat} {l : List Nat} (w : WH h) (i : LI h a l) (hl : l.length < 60) (hj : j ≤ l.length) (hx : 0 < kd h x ∧ kd h x < 14) : ∃ h', f_Jx4a65c_add_7a177 a (nI j) (some x) h = some ((), h') ∧ LI h' a (l.insertIdx j x) ∧ LF h h' [a] ∧ WH h' ∧ hz h' ≤ hz h + 1 ∧ hs h' ≤ hs h + 100 ∧ KX h h' := by
  have i1 := i.1
  unfold f_Jx4a65c_add_7a177 f_Jx4a65c_rangeCheckForAdd_d00df
  rw [kg_e i1, rdI_e i1, i.2.1, if_neg (nI_nlt hj (by omega)), if_pos (nI_pos' (by omega)), bd_s, rdI_e i1, wrI_e i1]
  have i' : LI (sI h a 0 (gI h a 0 + 1)) a l := i.mod
  have w' : WH (sI h a 0 (gI h a 0 + 1)) := w.fI
  have f' : LF h (sI h a 0 (gI h a 0 + 1)) [a] := LF.fI
  have kx' : KX h (sI h a 0 (gI h a 0 + 1)) := fun _ => .inl rfl
  have z1 : hz (sI h a 0 (gI h a 0 + 1)) = hz h := rfl
  have z2 : hs (sI h a 0 (gI h a 0 + 1)) = hs h := rfl
  have hx' : 0 < kd (sI h a 0 (gI h a 0 + 1)) x ∧ kd (sI h a 0 (gI h a 0 + 1)) x < 14 := hx
  generalize sI h a 0 (gI h a 0 + 1) = g at *
  have g1 := i'.1
  rw [rdI_e g1, rdR_e g1, i'.2.1]
  have i2 := i'
  obtain ⟨-, -, -, d, i4, i5⟩ := i2
  rw [i4, nn_s]
  have k90 : kd g 0 = 90 := w'.1.1 0 (by decide)
  by_cases full : d = 0 ∨ l.length = ln g d
  · obtain ⟨d2, h2, e2, r2, k2, n2, L2, F2, W2, Z2, S2, K2⟩ := i'.grow w' hl (fun q hq => by rw [i4] at hq; cases hq; exact full)
    obtain ⟨h3, e3, L3, F3, W3, Z3, S3, K3⟩ := L2.ins (x := x) W2 hj r2 k2 n2 (by rw [(F2.2.1 x (by omega)).1]; exact hx')
    refine ⟨h3, ?_, L3, (f'.tr F2).tr F3, W3, by omega, by omega, (kx'.tr K2).tr K3⟩
    rcases i5 with ⟨z, el⟩ | ⟨j1, j2, j3, j4, j5⟩
    · subst z
      subst el
      rw [aln_0 k90, if_pos (show nI ([] : List Nat).length = 0 from nI_0), kg_e g1, e2, bd_s, e3]
    · have : l.length = ln g d := by
        rcases full with z | z
        · rw [z, k90] at j1; exact absurd j1 (by decide)
        · exact z
      rw [aln_e j1 (by omega) (by omega), if_pos (by rw [this]), kg_e g1, e2, bd_s, e3]
  · rcases i5 with ⟨z, -⟩ | ⟨j1, j2, j3, j4, j5⟩
    · exact absurd (.inl z) full
    · have nf : l.length < ln g d := by omega
      obtain ⟨h3, e3, L3, F3, W3, Z3, S3, K3⟩ := i'.ins (x := x) w' hj i4 j1 nf hx'
      refine ⟨h3, ?_, L3, f'.tr F3, W3, by omega, by omega, kx'.tr K3⟩
      rw [aln_e j1 (by omega) (by omega), if_neg (by rw [nI_eq (by omega) (by omega)]; omega), e3]
theorem clear_l {d n : Nat} (hn : n ≤ 100) : ∀ (m i f : Nat) (h : AH), i + m = n → m < f → kd h d = 103 → n ≤ ln h d → ∃ g, f_Jx4a65c_clear_da8c8_27 f (some d) (nI n) (nI i) h = some ((), wR h d g) := by
  intro m
  induction m with
  | zero =>
    intro i f h hi hf _ _
    obtain ⟨q, rfl⟩ : ∃ q, f = q + 1 := ⟨f - 1, by omega⟩
    refine ⟨gR h d, ?_⟩
    rw [f_Jx4a65c_clear_da8c8_27, if_pos (nI_le (by omega) (by omega)), wR_id]
  | succ m ih =>
    intro i f h hi hf k hl
    obtain ⟨q, rfl⟩ : ∃ q, f = q + 1 := ⟨f - 1, by omega⟩
    obtain ⟨g, hg⟩ := ih (i + 1) q (sR h d i none) (by omega) (by omega) k hl
    refine ⟨g, ?_⟩
    rw [f_Jx4a65c_clear_da8c8_27, if_neg (nI_ge (by omega) (by omega)), nn_s, asO_e k (by unfold inb; rw [nI_clamp (by omega)]; simp only [Bool.and_eq_true, decide_eq_true_eq]; exact ⟨nI_pos' (by omega), by omega⟩) rfl, nI_clamp (by omega), nI_1, hg]
    congr 2
    unfold sR wR
    simp only [gI, gR, hz, hs, kd, ln, gJ]
    congr 6
    funext b
    unfold rw1
    split <;> rfl
theorem LI.clr {h : AH} {a : Nat} {l : List Nat} (w : WH h) (i : LI h a l) : ∃ h', f_Jx4a65c_clear_da8c8 a h = some ((), h') ∧ LI h' a [] ∧ LF h h' [a] ∧ WH h' ∧ hz h' = hz h ∧ hs h' = hs h ∧ KX h h' := by
  have hl := i.len
  have i1 := i.1
  unfold f_Jx4a65c_clear_da8c8
  rw [rdI_e i1, wrI_e i1]
  have i' : LI (sI h a 0 (gI h a 0 + 1)) a l := i.mod
  have w' : WH (sI h a 0 (gI h a 0 + 1)) := w.fI
  have f' : LF h (sI h a 0 (gI h a 0 + 1)) [a] := LF.fI
  have kx' : KX h (sI h a 0 (gI h a 0 + 1)) := fun _ => .inl rfl
  have z1 : hz (sI h a 0 (gI h a 0 + 1)) = hz h := rfl
  have z2 : hs (sI h a 0 (gI h a 0 + 1)) = hs h := rfl
  generalize sI h a 0 (gI h a 0 + 1) = g at *
  have g1 := i'.1
  rw [rdR_e g1, rdI_e g1, wrI_e g1, i'.2.1]
  cases l with
  | nil =>
    have i2 := i'
    obtain ⟨-, -, i3, d, i4, i5⟩ := i2
    refine ⟨sI g a 2 0, ?_, ⟨g1, by rw [gI_sI, if_pos ⟨rfl, rfl⟩]; rfl, i3, d, i4, i5⟩, f'.tr LF.fI, w'.fI, z1, z2, kx'⟩
    rw [i4, show FU = 9999 + 1 from rfl, f_Jx4a65c_clear_da8c8_27, if_pos (by decide)]
  | cons x l =>
    obtain ⟨d, e, k, n1, n2, hd⟩ := i'.data w' (by simp)
    obtain ⟨q, hq⟩ := clear_l (d := d) hl (x :: l).length 0 FU (sI g a 2 0) (by omega) (by unfold FU; omega) k n2
    obtain ⟨s1, s2, s3, s4, s5, s6⟩ := i'.set (l' := []) (g := q) w' e k (by simp) (fun j hj => absurd hj (by simp)) (fun y hy => absurd hy (by simp)) _ rfl
    refine ⟨_, ?_, s1, f'.tr s2, s3, s4.trans z1, s5.trans z2, kx'.tr s6⟩
    rw [e]
    exact hq
theorem LI.new {h : AH} (w : WH h) : ∃ h', f_Jx4a65c_init_da8c8 (hz h + 4) (al h 0 0 (cnf 0)) = some ((), h') ∧ LI h' (hz h + 4) [] ∧ LF h h' [] ∧ WH h' ∧ hz h' = hz h + 1 ∧ hs h' = hs h + 3 ∧ (∀ b, b ≠ hz h + 4 → kd h' b = kd h b ∧ gI h' b = gI h b ∧ gJ h' b = gJ h b ∧ gR h' b = gR h b) := by
  have t := w.1.top
  have kt : kd (al h 0 0 (cnf 0)) (hz h + 4) = 0 := by rw [kd_al, if_pos rfl]
  refine ⟨sR (sI (al h 0 0 (cnf 0)) (hz h + 4) 0 0) (hz h + 4) 1 (some 0), ?_, ⟨kt, ?_, fun _ hx => absurd hx (by simp), 0, ?_, .inl ⟨rfl, rfl⟩⟩, ?_, ?_, rfl, rfl, fun b hb => ⟨?_, ?_, ?_, ?_⟩⟩
  · unfold f_Jx4a65c_init_da8c8 f_Jxc12de_init_da8c8 f_Jxa1e45_init_da8c8
    rw [bd_s, wrI_e kt, bd_s, wrR_e (by exact kt)]
  · rw [gI_sR, gI_sI, if_neg (by simp), gI_al, if_pos rfl]; rfl
  · rw [gR_sR, if_pos ⟨rfl, rfl⟩]
  · have f1 : LF h (al h 0 0 (cnf 0)) [] := LF.fA w.1
    refine ⟨f1.1, f1.2.1, fun b k hb k3 => ?_, fun b hb k d e kd' => ?_⟩
    · have : b ≠ hz h + 4 := fun z => k (by rw [z]; exact t)
      obtain ⟨q1, q2, q3⟩ := f1.2.2.1 b k hb k3
      exact ⟨(gI_sIn (h := al h 0 0 (cnf 0)) this).trans q1, q2, (gR_sRn (h := sI (al h 0 0 (cnf 0)) (hz h + 4) 0 0) this).trans q3⟩
    · have : d ≠ hz h + 4 := fun z => by rw [z, t] at kd'; exact absurd kd' (by decide)
      exact (gR_sRn (h := sI (al h 0 0 (cnf 0)) (hz h + 4) 0 0) this).trans (f1.2.2.2 b hb k d e kd')
  · refine WH.fD (h := sI (al h 0 0 (cnf 0)) (hz h + 4) 0 0) ((w.fA (by omega) (by decide)).fI) ?_ (fun p _ _ => ?_)
    · rw [kd_sI, kd_al, if_neg (by omega), w.1.1 0 (by decide)]; decide
    · rw [kd_sI, kd_al, if_neg (by omega), w.1.1 0 (by decide)]; decide
  · rw [kd_sR, kd_sI, kd_al, if_neg hb]
  · exact (gI_sIn (h := al h 0 0 (cnf 0)) hb).trans (gI_aln hb)
  · exact gJ_aln (c := 0) (n := 0) (s := cnf 0) hb
  · exact (gR_sRn (h := sI (al h 0 0 (cnf 0)) (hz h + 4) 0 0) hb).trans (gR_aln (c := 0) (n := 0) (s := cnf 0) hb)

/-! ===== the abstract heap: how many cells and slots are made, a kind and a length for each address, and three memories (ints, longs, references) by address and place ===== -/
abbrev AH : Type := Nat × Nat × (Nat → Nat) × (Nat → Nat) × (Nat → Nat → Int32) × (Nat → Nat → Int64) × (Nat → Nat → Option Nat)
def hz (h : AH) : Nat := h.1
def hs (h : AH) : Nat := h.2.1
def kd (h : AH) : Nat → Nat := h.2.2.1
def ln (h : AH) : Nat → Nat := h.2.2.2.1
def gI (h : AH) : Nat → Nat → Int32 := h.2.2.2.2.1
def gJ (h : AH) : Nat → Nat → Int64 := h.2.2.2.2.2.1
def gR (h : AH) : Nat → Nat → Option Nat := h.2.2.2.2.2.2
/-- a row of a memory is replaced -/
def rw1 {α : Type} (f : Nat → Nat → α) (a : Nat) (g : Nat → α) : Nat → Nat → α := fun b => if b = a then g else f b
def wI (h : AH) (a : Nat) (g : Nat → Int32) : AH := (hz h, hs h, kd h, ln h, rw1 (gI h) a g, gJ h, gR h)
def wJ (h : AH) (a : Nat) (g : Nat → Int64) : AH := (hz h, hs h, kd h, ln h, gI h, rw1 (gJ h) a g, gR h)
def wR (h : AH) (a : Nat) (g : Nat → Option Nat) : AH := (hz h, hs h, kd h, ln h, gI h, gJ h, rw1 (gR h) a g)
def sI (h : AH) (a k : Nat) (v : Int32) : AH := wI h a (upd (gI h a) k v)
def sJ (h : AH) (a k : Nat) (v : Int64) : AH := wJ h a (vp_updL (gJ h a) k v)
def sR (h : AH) (a k : Nat) (v : Option Nat) : AH := wR h a (va_up (gR h a) k v)
/-- a new cell of kind c, of n places, s slots -/
def al (h : AH) (c n s : Nat) : AH := (hz h + 1, hs h + s, va_up (kd h) (hz h + 4) c, va_up (ln h) (hz h + 4) n, rw1 (gI h) (hz h + 4) (fun _ => 0), rw1 (gJ h) (hz h + 4) (fun _ => 0), rw1 (gR h) (hz h + 4) (fun _ => none))
theorem rw1_s {α : Type} (f : Nat → Nat → α) (a : Nat) (g : Nat → α) : rw1 f a g a = g := by simp [rw1]
theorem rw1_n {α : Type} (f : Nat → Nat → α) {a b : Nat} (g : Nat → α) (h : b ≠ a) : rw1 f a g b = f b := by simp [rw1, h]
/-- the run's own constants: launch, tables' numbers, the heap's size at the law's entry, that heap, the four addresses from there, the array classes, the script -/
abbrev Om : Type := Launch × va_G × Nat × Heap × (Nat → Nat) × (Nat → ClassId) × Nat × (Nat → Int32)
def oL (Ω : Om) : Launch := Ω.1
def oD (Ω : Om) : va_G := Ω.2.1
def oB (Ω : Om) : Nat := Ω.2.2.1
def oH (Ω : Om) : Heap := Ω.2.2.2.1
def oS (Ω : Om) : Nat → Nat := Ω.2.2.2.2.1
def oC (Ω : Om) : Nat → ClassId := Ω.2.2.2.2.2.1
def oN (Ω : Om) : Nat := Ω.2.2.2.2.2.2.1
def oX (Ω : Om) : Nat → Int32 := Ω.2.2.2.2.2.2.2
def ad (Ω : Om) (a : Nat) : Nat := if a < 4 then oS Ω a else oB Ω + (a - 4)
def vR (Ω : Om) (r : Option Nat) : Value := va_rf (r.map (ad Ω))
def ge (Ω : Om) : Nat → Prop := fun q => oB Ω ≤ q
def cty (c : Nat) : Nat → FieldType := match c with
  | 0 => tyJx4a65c
  | 1 => tyX0
  | 2 => tyX1
  | 3 => tyX2
  | 4 => tyX3
  | 5 => tyX4
  | 6 => tyX5
  | 7 => tyX6
  | 8 => tyX7
  | 9 => tyX8
  | 10 => tyX9
  | 11 => tyX10
  | 12 => tyX11
  | _ => tyX12
def cnf (c : Nat) : Nat := match c with
  | 0 => 3
  | 1 => 4
  | 2 => 9
  | 3 => 5
  | 4 => 4
  | 5 => 7
  | 6 => 2
  | 7 => 6
  | 8 => 5
  | 9 => 6
  | 10 => 5
  | 11 => 3
  | 12 => 5
  | _ => 62
def fvt (Ω : Om) (h : AH) (a k : Nat) (t : FieldType) : Value := match t with
  | .long => .long (gJ h a k)
  | .object _ => vR Ω (gR h a k)
  | .array _ => vR Ω (gR h a k)
  | _ => .int (gI h a k)
def fvs (Ω : Om) (h : AH) (a c : Nat) : List Value := (List.range (cnf c)).map (fun k => fvt Ω h a k (cty c k))
def ce (Ω : Om) (h : AH) (a : Nat) : va_E :=
  if kd h a < 14 then .inr (kd h a, fvs Ω h a (kd h a))
  else if kd h a = 100 then .inl (oC Ω 0, ln h a, .inl (gI h a))
  else if kd h a = 101 then .inl (oC Ω 1, ln h a, .inr (.inl (gJ h a)))
  else if kd h a = 102 then .inl (oC Ω 2, ln h a, .inl (gI h a))
  else if kd h a = 103 then .inl (oC Ω 3, ln h a, .inr (.inr (.inr (.inr (fun j => (gR h a j).map (ad Ω))))))
  else .inl (oC Ω 4, ln h a, .inr (.inr (.inr (.inr (fun j => (gR h a j).map (ad Ω))))))
def pool (Ω : Om) (h : AH) : va_W := (List.range (hz h)).map (fun i => (oB Ω + i, ce Ω h (i + 4)))
abbrev tyO (Ω : Om) : List (ClassId × FieldType) := [(oC Ω 0, .int), (oC Ω 1, .long), (oC Ω 2, .boolean), (oC Ω 3, .object "java/lang/Object"), (oC Ω 4, .object "LetterBroker$Channel")]
def Wf (h : AH) : Prop := (∀ a, a < 4 → kd h a = 90 + a) ∧ (∀ a, hz h + 4 ≤ a → kd h a = 999) ∧ ∀ a, 4 ≤ a → a < hz h + 4 → kd h a < 90 ∨ 100 ≤ kd h a
def HR (Ω : Om) (h : AH) (H : Heap) : Prop := Wf h ∧ va_P (oD Ω) vwCl (pool Ω h) H
def Le (h h' : AH) : Prop := hz h ≤ hz h' ∧ hs h ≤ hs h'
theorem Le.rf (h : AH) : Le h h := ⟨Nat.le_refl _, Nat.le_refl _⟩
theorem Le.tr {a b c : AH} (h : Le a b) (k : Le b c) : Le a c := ⟨Nat.le_trans h.1 k.1, Nat.le_trans h.2 k.2⟩
theorem pool_get {Ω : Om} {h : AH} {i : Nat} (hi : i < hz h) : (pool Ω h)[i]? = some (oB Ω + i, ce Ω h (i + 4)) := by
  simp [pool, List.getElem?_map, List.getElem?_range hi]
theorem pool_of {Ω : Om} {h : AH} {k : Nat} {q : Nat × va_E} (hk : (pool Ω h)[k]? = some q) : k < hz h ∧ q = (oB Ω + k, ce Ω h (k + 4)) := by
  have hl : k < hz h := by
    have := (List.getElem?_eq_some_iff.mp hk).1
    simpa [pool] using this
  rw [pool_get hl] at hk
  exact ⟨hl, (Option.some.inj hk).symm⟩
theorem pool_D {Ω : Om} {h : AH} : va_D (ge Ω) (pool Ω h) := by
  refine ⟨fun i j p q hp hq e => ?_, fun k q hk => ?_⟩
  · obtain ⟨_, rfl⟩ := pool_of hp
    obtain ⟨_, rfl⟩ := pool_of hq
    have e' : oB Ω + i = oB Ω + j := e
    omega
  · obtain ⟨_, rfl⟩ := pool_of hk
    exact Nat.le_add_right _ _
/-- an address of a kind below 90 or of 100 and up to 104 is that of a made cell -/
theorem Wf.at {h : AH} (w : Wf h) {a c : Nat} (hk : kd h a = c) (hc : c < 90 ∨ (100 ≤ c ∧ c < 999)) : 4 ≤ a ∧ a - 4 < hz h ∧ a - 4 + 4 = a := by
  have h1 : 4 ≤ a := by
    rcases Nat.lt_or_ge a 4 with q | q
    · have := w.1 a q
      omega
    · exact q
  have h2 : a < hz h + 4 := by
    rcases Nat.lt_or_ge a (hz h + 4) with q | q
    · exact q
    · have := w.2.1 a q
      omega
  omega
theorem ad_hi {Ω : Om} {a : Nat} (h : 4 ≤ a) : ad Ω a = oB Ω + (a - 4) := by simp [ad, Nat.not_lt.mpr h]
theorem pool_at {Ω : Om} {h : AH} (w : Wf h) {a c : Nat} (hk : kd h a = c) (hc : c < 90 ∨ (100 ≤ c ∧ c < 999)) : (pool Ω h)[a - 4]? = some (ad Ω a, ce Ω h a) := by
  obtain ⟨h1, h2, h3⟩ := w.at hk hc
  rw [pool_get h2, h3, ad_hi h1]
theorem ce_obj {Ω : Om} {h : AH} {a c : Nat} (hk : kd h a = c) (hc : c < 14) : ce Ω h a = .inr (c, fvs Ω h a c) := by
  subst hk
  simp [ce, hc]
theorem ce_I {Ω : Om} {h : AH} {a : Nat} (hk : kd h a = 100) : ce Ω h a = .inl (oC Ω 0, ln h a, .inl (gI h a)) := by simp [ce, hk]
theorem ce_J {Ω : Om} {h : AH} {a : Nat} (hk : kd h a = 101) : ce Ω h a = .inl (oC Ω 1, ln h a, .inr (.inl (gJ h a))) := by simp [ce, hk]
theorem ce_Z {Ω : Om} {h : AH} {a : Nat} (hk : kd h a = 102) : ce Ω h a = .inl (oC Ω 2, ln h a, .inl (gI h a)) := by simp [ce, hk]
theorem ce_O {Ω : Om} {h : AH} {a : Nat} (hk : kd h a = 103) : ce Ω h a = .inl (oC Ω 3, ln h a, .inr (.inr (.inr (.inr (fun j => (gR h a j).map (ad Ω)))))) := by simp [ce, hk]
theorem ce_C {Ω : Om} {h : AH} {a : Nat} (hk : kd h a = 104) : ce Ω h a = .inl (oC Ω 4, ln h a, .inr (.inr (.inr (.inr (fun j => (gR h a j).map (ad Ω)))))) := by simp [ce, hk]
theorem fvs_get {Ω : Om} {h : AH} {a c k : Nat} (hk : k < cnf c) : (fvs Ω h a c)[k]? = some (fvt Ω h a k (cty c k)) := by
  simp [fvs, List.getElem?_map, List.getElem?_range hk]
theorem fvs_len {Ω : Om} {h : AH} {a c : Nat} : (fvs Ω h a c).length = cnf c := by simp [fvs]
/-- a cell is written: the pool with one cell replaced is the pool of the new heap -/
theorem pool_set {Ω : Om} {h h' : AH} {a : Nat} (h1 : 4 ≤ a) (h2 : a - 4 < hz h) (hzz : hz h' = hz h) (ho : ∀ b, b ≠ a → ce Ω h' b = ce Ω h b) : (pool Ω h).set (a - 4) (ad Ω a, ce Ω h' a) = pool Ω h' := by
  apply List.ext_getElem?
  intro j
  have hL : (pool Ω h).length = hz h := by simp [pool]
  by_cases hj : j = a - 4
  · subst hj
    rw [List.getElem?_set_self (by omega), pool_get (by omega), ad_hi h1, show a - 4 + 4 = a by omega]
  · rw [List.getElem?_set_ne (Ne.symm hj)]
    by_cases hl : j < hz h
    · rw [pool_get hl, pool_get (by omega), ho (j + 4) (by omega)]
    · rw [List.getElem?_eq_none (by omega), List.getElem?_eq_none (by simp [pool]; omega)]

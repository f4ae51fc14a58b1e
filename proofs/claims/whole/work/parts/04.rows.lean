/-! ===== the words of a decompiled method ===== -/
section Words
variable {α β : Type}
def nn (r : Option Nat) (F : Nat → Option β) : Option β := match r with
  | none => none
  | some a => F a
def nz (z : Int32) (X : Option β) : Option β := if z = 0 then none else X
def rdI (h : AH) (a c k : Nat) (F : Int32 → Option β) : Option β := if kd h a = c then F (gI h a k) else none
def rdJ (h : AH) (a c k : Nat) (F : Int64 → Option β) : Option β := if kd h a = c then F (gJ h a k) else none
def rdR (h : AH) (a c k : Nat) (F : Option Nat → Option β) : Option β := if kd h a = c then F (gR h a k) else none
def wrI (h : AH) (a c k : Nat) (v : Int32) (F : AH → Option β) : Option β := if kd h a = c then F (sI h a k v) else none
def wrZ (h : AH) (a c k : Nat) (v : Int32) (F : AH → Option β) : Option β := if kd h a = c ∧ (v = 0 ∨ v = 1) then F (sI h a k v) else none
def wrJ (h : AH) (a c k : Nat) (v : Int64) (F : AH → Option β) : Option β := if kd h a = c then F (sJ h a k v) else none
def wrR (h : AH) (a c k : Nat) (v : Option Nat) (F : AH → Option β) : Option β := if kd h a = c then F (sR h a k v) else none
def inb (i : Int32) (n : Nat) : Bool := decide (0 ≤ i) && decide (i.toNatClampNeg < n)
def arI (h : AH) (a : Nat) (i : Int32) (F : Int32 → Option β) : Option β := if kd h a = 100 ∧ inb i (ln h a) = true then F (gI h a i.toNatClampNeg) else none
def arZ (h : AH) (a : Nat) (i : Int32) (F : Int32 → Option β) : Option β := if kd h a = 102 ∧ inb i (ln h a) = true then F (gI h a i.toNatClampNeg) else none
def arJ (h : AH) (a : Nat) (i : Int32) (F : Int64 → Option β) : Option β := if kd h a = 101 ∧ inb i (ln h a) = true then F (gJ h a i.toNatClampNeg) else none
def arO (h : AH) (a : Nat) (i : Int32) (F : Option Nat → Option β) : Option β := if kd h a = 103 ∧ inb i (ln h a) = true then F (gR h a i.toNatClampNeg) else none
def arC (h : AH) (a : Nat) (i : Int32) (F : Option Nat → Option β) : Option β := if kd h a = 104 ∧ inb i (ln h a) = true then F (gR h a i.toNatClampNeg) else none
def asI (h : AH) (a : Nat) (i v : Int32) (F : AH → Option β) : Option β := if kd h a = 100 ∧ inb i (ln h a) = true then F (sI h a i.toNatClampNeg v) else none
def asZ (h : AH) (a : Nat) (i v : Int32) (F : AH → Option β) : Option β := if kd h a = 102 ∧ inb i (ln h a) = true ∧ (v = 0 ∨ v = 1) then F (sI h a i.toNatClampNeg v) else none
def asJ (h : AH) (a : Nat) (i : Int32) (v : Int64) (F : AH → Option β) : Option β := if kd h a = 101 ∧ inb i (ln h a) = true then F (sJ h a i.toNatClampNeg v) else none
/-- what an array of objects may take: null, or an object of one of the classes but the list's own -/
def okE (h : AH) (v : Option Nat) : Bool := match v with
  | none => true
  | some b => decide (0 < kd h b) && decide (kd h b < 14)
def asO (h : AH) (a : Nat) (i : Int32) (v : Option Nat) (F : AH → Option β) : Option β := if kd h a = 103 ∧ inb i (ln h a) = true ∧ okE h v = true then F (sR h a i.toNatClampNeg v) else none
def okC (h : AH) (v : Option Nat) : Bool := match v with
  | none => true
  | some b => decide (kd h b = 2)
def asC (h : AH) (a : Nat) (i : Int32) (v : Option Nat) (F : AH → Option β) : Option β := if kd h a = 104 ∧ inb i (ln h a) = true ∧ okC h v = true then F (sR h a i.toNatClampNeg v) else none
def aln (h : AH) (a : Nat) (F : Int32 → Option β) : Option β := if kd h a = 90 then F 0 else if 100 ≤ kd h a ∧ kd h a ≤ 104 then F (nI (ln h a)) else none
def ckc (h : AH) (r : Option Nat) (c : Nat) (X : Option β) : Option β := match r with
  | none => X
  | some a => if kd h a = c then X else none
def okr (r : Option Nat) : Bool := match r with
  | none => true
  | some a => decide (4 ≤ a)
def okq (r1 r2 : Option Nat) : Bool := (okr r1 || okr r2) && decide (r1 ≠ some 2) && decide (r2 ≠ some 2)
def aq (r1 r2 : Option Nat) (A B : Option β) : Option β := if r1 = r2 then A else if okq r1 r2 = true then B else none
def nwO (h : AH) (c : Nat) (F : Nat → AH → Option β) : Option β := F (hz h + 4) (al h c 0 (cnf c))
def nwA (h : AH) (c : Nat) (n : Int32) (F : Nat → AH → Option β) : Option β := if 0 ≤ n ∧ n.toNatClampNeg ≤ 100000 then F (hz h + 4) (al h c n.toNatClampNeg n.toNatClampNeg) else none
def kg (h : AH) (a c : Nat) (X : Option β) : Option β := if kd h a = c then X else none
def bd (x : Option (α × AH)) (F : α → AH → Option β) : Option β := match x with
  | none => none
  | some q => F q.1 q.2
end Words
theorem inb_in {i : Int32} {n : Nat} (h : inb i n = true) : vp_in i n := by
  simp only [inb, Bool.and_eq_true, decide_eq_true_eq] at h
  rintro (q | q)
  · exact absurd h.1 (Int32.not_le.mpr q)
  · omega
/-- the class number c: its rows of the tables -/
def ClOk (c : Nat) : Prop := ∃ q : vw_C, vwCl[c]? = some q ∧ q.2.2 = cnf c ∧ (∀ w ∈ u_ws q.1 q.2.1 q.2.2, w ∈ lw_tbl) ∧ (∀ k, k < q.2.2 → parseFieldDescriptor (q.2.1 k).2.2.1 = some (cty c k)) ∧ (∀ a, a < q.2.2 → ∀ b, b < q.2.2 → a ≠ b → (q.2.1 a).2.1 ≠ (q.2.1 b).2.1) ∧ Cond.instantiable q.1 q.2.2 ∈ lw_tbl ∧ Cond.initialized q.1 ∈ lw_tbl
theorem clk : ∀ c, c < 14 → ClOk c := by
  intro c hc
  match c, hc with
  | 0, _ => exact ⟨_, rfl, rfl, by decide +kernel, tyJx4a65c_ok, nmJx4a65c, by decide +kernel, by decide +kernel⟩
  | 1, _ => exact ⟨_, rfl, rfl, by decide +kernel, tyX0_ok, nmX0, by decide +kernel, by decide +kernel⟩
  | 2, _ => exact ⟨_, rfl, rfl, by decide +kernel, tyX1_ok, nmX1, by decide +kernel, by decide +kernel⟩
  | 3, _ => exact ⟨_, rfl, rfl, by decide +kernel, tyX2_ok, nmX2, by decide +kernel, by decide +kernel⟩
  | 4, _ => exact ⟨_, rfl, rfl, by decide +kernel, tyX3_ok, nmX3, by decide +kernel, by decide +kernel⟩
  | 5, _ => exact ⟨_, rfl, rfl, by decide +kernel, tyX4_ok, nmX4, by decide +kernel, by decide +kernel⟩
  | 6, _ => exact ⟨_, rfl, rfl, by decide +kernel, tyX5_ok, nmX5, by decide +kernel, by decide +kernel⟩
  | 7, _ => exact ⟨_, rfl, rfl, by decide +kernel, tyX6_ok, nmX6, by decide +kernel, by decide +kernel⟩
  | 8, _ => exact ⟨_, rfl, rfl, by decide +kernel, tyX7_ok, nmX7, by decide +kernel, by decide +kernel⟩
  | 9, _ => exact ⟨_, rfl, rfl, by decide +kernel, tyX8_ok, nmX8, by decide +kernel, by decide +kernel⟩
  | 10, _ => exact ⟨_, rfl, rfl, by decide +kernel, tyX9_ok, nmX9, by decide +kernel, by decide +kernel⟩
  | 11, _ => exact ⟨_, rfl, rfl, by decide +kernel, tyX10_ok, nmX10, by decide +kernel, by decide +kernel⟩
  | 12, _ => exact ⟨_, rfl, rfl, by decide +kernel, tyX11_ok, nmX11, by decide +kernel, by decide +kernel⟩
  | 13, _ => exact ⟨_, rfl, rfl, by decide +kernel, tyX12_ok, nmX12, by decide +kernel, by decide +kernel⟩
  | n + 14, h => exact absurd h (by omega)
theorem okw_lay (C : String) (T : u_T) (k : Nat) : okw (u_lay C T k) = true := by
  unfold u_lay
  split <;> rfl
theorem tw_lays {U : State} (h : TW U) {C : String} {T : u_T} {N : Nat} (hs : ∀ w ∈ u_ws C T N, w ∈ lw_tbl) (a : Array Value) : ∀ w ∈ u_ws C T N, w.before a U = true := fun w hw => by
  refine h w (hs w hw) ?_ a
  obtain ⟨k, -, rfl⟩ := List.mem_map.mp hw
  exact okw_lay C T k
/-- the link of a field: of the class own, entry idx, field k of class c -/
def Fl (own : String) (idx c k : Nat) : Prop := c < 14 ∧ ∃ q : vw_C, vwCl[c]? = some q ∧ k < cnf c ∧ ∃ ref, Cond.fieldLink own idx ref (q.2.1 k).2.1 (q.2.1 k).2.2.1 ∈ lw_tbl ∧ (ref = (q.2.1 k).1 ∨ Cond.sameField ref (q.2.1 k).1 (q.2.1 k).2.1 (q.2.1 k).2.2.1 ∈ lw_tbl)
theorem vR_some (Ω : Om) (a : Nat) : vR Ω (some a) = .ref (ad Ω a) := rfl
section Heap
variable {α : Type} {Ω : Om} {y : Mt} {pc : Nat} {lv : List (Nat × Value)} {st : List Value} {h h' : AH} {r : Option Value} {q : α × AH}
theorem go_nn {g : Nat → Prop} {x : Option Nat} {F : Nat → Option (α × AH)} (hf : nn x F = some q) : ∃ a, x = some a ∧ F a = some q := by
  cases x with
  | none => cases hf
  | some a => exact ⟨a, rfl, hf⟩
theorem go_get {c k a idx : Nat} (hd : decode (mb y) pc = .ok (.getfield idx, 3)) (fl : Fl (my y).cls idx c k) (hk : kd h a = c) (kk : Go Ω y (pc + 3) lv (fvt Ω h a k (cty c k) :: st) h r h') : Go Ω y pc lv (vR Ω (some a) :: st) h r h' := by
  refine ⟨kk.1, fun p e s m args below meth c0 H locs ls h0 C L P S hv => ?_⟩
  obtain ⟨hc, x, hx, hkn, ref, hl, hsm⟩ := fl
  obtain ⟨x', hx', e2, hw, -, -, -, -⟩ := clk c hc
  obtain rfl : x = x' := Option.some.inj (hx.symm.trans hx')
  obtain ⟨T1, T2, -, -⟩ := C.2.2.2.2.2.2.2.1
  refine va_get (D := oD Ω) (cl := vwCl) (tys := tyO Ω) (ws := pool Ω h) (ci := c) (C := x.1) (T := x.2.1) (N := x.2.2) C.1 C.2.1 (tw_lays T1 hw args) (fun _ h => h) C.2.2.2.2.1 T2 P.2 (a - 4) (fs := fvs Ω h a c) ?_ hx k (by rw [e2]; exact hkn) (T1 _ hl rfl args) ?_ (fvs_get hkn) hd (kk.2 p e s m args below meth c0 H locs ls h0 C L P S hv)
  · rw [pool_at P.1 hk (Or.inl (by omega)), ce_obj hk hc]
  · rcases hsm with rfl | hsm
    · exact fun _ h => h
    · exact u_same (T1 _ hsm rfl args)
theorem go_getI {c k a idx : Nat} {F : Int32 → Option (α × AH)} (hd : decode (mb y) pc = .ok (.getfield idx, 3)) (fl : Fl (my y).cls idx c k) (ht : ∀ h a, fvt Ω h a k (cty c k) = .int (gI h a k)) (hf : rdI h a c k F = some q) (kk : ∀ x, F x = some q → Go Ω y (pc + 3) lv (.int x :: st) h r h') : Go Ω y pc lv (vR Ω (some a) :: st) h r h' := by
  unfold rdI at hf
  split at hf
  · rename_i hk
    exact go_get hd fl hk (by rw [ht]; exact kk _ hf)
  · cases hf
theorem go_getJ {c k a idx : Nat} {F : Int64 → Option (α × AH)} (hd : decode (mb y) pc = .ok (.getfield idx, 3)) (fl : Fl (my y).cls idx c k) (ht : ∀ h a, fvt Ω h a k (cty c k) = .long (gJ h a k)) (hf : rdJ h a c k F = some q) (kk : ∀ x, F x = some q → Go Ω y (pc + 3) lv (.long x :: st) h r h') : Go Ω y pc lv (vR Ω (some a) :: st) h r h' := by
  unfold rdJ at hf
  split at hf
  · rename_i hk
    exact go_get hd fl hk (by rw [ht]; exact kk _ hf)
  · cases hf
theorem go_getR {c k a idx : Nat} {F : Option Nat → Option (α × AH)} (hd : decode (mb y) pc = .ok (.getfield idx, 3)) (fl : Fl (my y).cls idx c k) (ht : ∀ h a, fvt Ω h a k (cty c k) = vR Ω (gR h a k)) (hf : rdR h a c k F = some q) (kk : ∀ x, F x = some q → Go Ω y (pc + 3) lv (vR Ω x :: st) h r h') : Go Ω y pc lv (vR Ω (some a) :: st) h r h' := by
  unfold rdR at hf
  split at hf
  · rename_i hk
    exact go_get hd fl hk (by rw [ht]; exact kk _ hf)
  · cases hf
/-- a heap that differs from another in one row alone -/
def Row1 (Ω : Om) (h h1 : AH) (a : Nat) : Prop := hz h1 = hz h ∧ hs h1 = hs h ∧ kd h1 = kd h ∧ ln h1 = ln h ∧ ∀ b, b ≠ a → ce Ω h1 b = ce Ω h b
theorem row1_wI (Ω : Om) (h : AH) (a : Nat) (g : Nat → Int32) : Row1 Ω h (wI h a g) a := ⟨rfl, rfl, rfl, rfl, fun b hb => by
  have e : gI (wI h a g) b = gI h b := rw1_n _ _ hb
  have e2 : gJ (wI h a g) b = gJ h b := rfl
  have e3 : gR (wI h a g) b = gR h b := rfl
  have e4 : kd (wI h a g) b = kd h b := rfl
  have e5 : ln (wI h a g) b = ln h b := rfl
  simp only [ce, fvs, fvt, e, e2, e3, e4, e5]⟩
theorem row1_wJ (Ω : Om) (h : AH) (a : Nat) (g : Nat → Int64) : Row1 Ω h (wJ h a g) a := ⟨rfl, rfl, rfl, rfl, fun b hb => by
  have e : gJ (wJ h a g) b = gJ h b := rw1_n _ _ hb
  have e2 : gI (wJ h a g) b = gI h b := rfl
  have e3 : gR (wJ h a g) b = gR h b := rfl
  have e4 : kd (wJ h a g) b = kd h b := rfl
  have e5 : ln (wJ h a g) b = ln h b := rfl
  simp only [ce, fvs, fvt, e, e2, e3, e4, e5]⟩
theorem row1_wR (Ω : Om) (h : AH) (a : Nat) (g : Nat → Option Nat) : Row1 Ω h (wR h a g) a := ⟨rfl, rfl, rfl, rfl, fun b hb => by
  have e : gR (wR h a g) b = gR h b := rw1_n _ _ hb
  have e2 : gI (wR h a g) b = gI h b := rfl
  have e3 : gJ (wR h a g) b = gJ h b := rfl
  have e4 : kd (wR h a g) b = kd h b := rfl
  have e5 : ln (wR h a g) b = ln h b := rfl
  simp only [ce, fvs, fvt, e, e2, e3, e4, e5]⟩
theorem Row1.HR {h1 : AH} {a c : Nat} (R1 : Row1 Ω h h1 a) (w : Wf h) (hk : kd h a = c) (hc : c < 90 ∨ (100 ≤ c ∧ c < 999)) {H : Heap} (hP : va_P (oD Ω) vwCl ((pool Ω h).set (a - 4) (ad Ω a, ce Ω h1 a)) H) : HR Ω h1 H := by
  obtain ⟨e1, e2, e3, e4, e5⟩ := R1
  obtain ⟨h1', h2', h3'⟩ := w.at hk hc
  refine ⟨⟨fun b hb => by rw [e3]; exact w.1 b hb, fun b hb => by rw [e3]; exact w.2.1 b (by rw [← e1]; exact hb), fun b hb hb2 => by rw [e3]; exact w.2.2 b hb (by rw [← e1]; exact hb2)⟩, ?_⟩
  rw [← pool_set h1' h2' e1 e5]
  exact hP
theorem Row1.le {h1 : AH} {a : Nat} (R1 : Row1 Ω h h1 a) : Le h h1 := ⟨Nat.le_of_eq R1.1.symm, Nat.le_of_eq R1.2.1.symm⟩
theorem fvs_sI {a c k : Nat} {v : Int32} (ht : ∀ h a, fvt Ω h a k (cty c k) = .int (gI h a k)) : fvs Ω (sI h a k v) a c = (fvs Ω h a c).set k (.int v) := by
  apply List.ext_getElem?
  intro j
  by_cases hj : j < cnf c
  · rw [fvs_get hj]
    by_cases e : j = k
    · subst e
      rw [List.getElem?_set_self (by rw [fvs_len]; exact hj), ht]
      simp [sI, wI, gI, rw1, upd]
    · rw [List.getElem?_set_ne (Ne.symm e), fvs_get hj]
      have e1 : gI (sI h a k v) a j = gI h a j := by simp [sI, wI, gI, rw1, upd, e]
      have e2 : gJ (sI h a k v) a j = gJ h a j := rfl
      have e3 : gR (sI h a k v) a j = gR h a j := rfl
      simp only [fvt, e1, e2, e3]
  · rw [List.getElem?_eq_none (by rw [fvs_len]; omega), List.getElem?_eq_none (by rw [List.length_set, fvs_len]; omega)]
theorem fvs_sJ {a c k : Nat} {v : Int64} (ht : ∀ h a, fvt Ω h a k (cty c k) = .long (gJ h a k)) : fvs Ω (sJ h a k v) a c = (fvs Ω h a c).set k (.long v) := by
  apply List.ext_getElem?
  intro j
  by_cases hj : j < cnf c
  · rw [fvs_get hj]
    by_cases e : j = k
    · subst e
      rw [List.getElem?_set_self (by rw [fvs_len]; exact hj), ht]
      simp [sJ, wJ, gJ, rw1, vp_updL]
    · rw [List.getElem?_set_ne (Ne.symm e), fvs_get hj]
      have e1 : gJ (sJ h a k v) a j = gJ h a j := by simp [sJ, wJ, gJ, rw1, vp_updL, e]
      have e2 : gI (sJ h a k v) a j = gI h a j := rfl
      have e3 : gR (sJ h a k v) a j = gR h a j := rfl
      simp only [fvt, e1, e2, e3]
  · rw [List.getElem?_eq_none (by rw [fvs_len]; omega), List.getElem?_eq_none (by rw [List.length_set, fvs_len]; omega)]
theorem fvs_sR {a c k : Nat} {v : Option Nat} (ht : ∀ h a, fvt Ω h a k (cty c k) = vR Ω (gR h a k)) : fvs Ω (sR h a k v) a c = (fvs Ω h a c).set k (vR Ω v) := by
  apply List.ext_getElem?
  intro j
  by_cases hj : j < cnf c
  · rw [fvs_get hj]
    by_cases e : j = k
    · subst e
      rw [List.getElem?_set_self (by rw [fvs_len]; exact hj), ht]
      simp [sR, wR, gR, rw1, va_up]
    · rw [List.getElem?_set_ne (Ne.symm e), fvs_get hj]
      have e1 : gR (sR h a k v) a j = gR h a j := by simp [sR, wR, gR, rw1, va_up, e]
      have e2 : gI (sR h a k v) a j = gI h a j := rfl
      have e3 : gJ (sR h a k v) a j = gJ h a j := rfl
      simp only [fvt, e1, e2, e3]
  · rw [List.getElem?_eq_none (by rw [fvs_len]; omega), List.getElem?_eq_none (by rw [List.length_set, fvs_len]; omega)]
def Fin (y : Mt) (c k : Nat) : Prop := ∀ q : vw_C, vwCl[c]? = some q → (q.2.1 k).2.2.2 = false ∨ ((q.2.1 k).2.2.2 = true ∧ (my y).name = "<init>" ∧ (q.2.1 k).1 = (my y).cls)
theorem go_put {c k a idx : Nat} {v : Value} {h1 : AH} (hd : decode (mb y) pc = .ok (.putfield idx, 3)) (fl : Fl (my y).cls idx c k) (fi : Fin y c k) (hk : kd h a = c) (hn : narrow (cty c k) v = v) (hfit : fits (cty c k) v = true) (R1 : Row1 Ω h h1 a) (hfs : fvs Ω h1 a c = (fvs Ω h a c).set k v) (kk : Go Ω y (pc + 3) lv st h1 r h') : Go Ω y pc lv (v :: vR Ω (some a) :: st) h r h' := by
  refine ⟨R1.le.tr kk.1, fun p e s m args below meth c0 H locs ls h0 C L P S hv => ?_⟩
  obtain ⟨hc, x, hx, hkn, ref, hl, hsm⟩ := fl
  obtain ⟨x', hx', e2, hw, hty, hnm, -, -⟩ := clk c hc
  obtain rfl : x = x' := Option.some.inj (hx.symm.trans hx')
  obtain ⟨T1, T2, -, -⟩ := C.2.2.2.2.2.2.2.1
  have he : (pool Ω h)[a - 4]? = some (ad Ω a, .inr (c, fvs Ω h a c)) := by rw [pool_at P.1 hk (Or.inl (by omega)), ce_obj hk hc]
  have hsame : ∀ z, s.fieldFound? (x.2.1 k).1 (x.2.1 k).2.1 (x.2.1 k).2.2.1 = some z → s.fieldFound? ref (x.2.1 k).2.1 (x.2.1 k).2.2.1 = some z := by
    rcases hsm with rfl | hsm
    · exact fun _ h => h
    · exact u_same (T1 _ hsm rfl args)
  have hkN : k < x.2.2 := by rw [e2]; exact hkn
  have hgo : ∀ (H1 : Heap) (locs1 : List Loc), va_P (oD Ω) vwCl ((pool Ω h).set (a - 4) (ad Ω a, .inr (c, (fvs Ω h a c).set k v))) H1 → va_D (ge Ω) ((pool Ω h).set (a - 4) (ad Ω a, .inr (c, (fvs Ω h a c).set k v))) → va_S (ge Ω) s.heap H1 locs1 → W p (oL Ω) e (rmO y h0 h') s m args below meth c0 H1 locs1 (hz h - hz h0) (hs h - hs h0) (MQ below (Qc Ω r h') args s (hz h' - hz h0) (hs h' - hs h0) (ge Ω)) (F0 m (pc + 3) ls st) := by
    intro H1 locs1 hP1 _ hS1
    have hR : HR Ω h1 H1 := R1.HR P.1 hk (Or.inl (by omega)) (by rw [ce_obj (by rw [R1.2.2.1]; exact hk) hc, hfs]; exact hP1)
    have k2 := kk.2 p e s m args below meth c0 H1 locs1 ls h0 C (L.tr R1.le) hR hS1 hv
    rw [R1.1, R1.2.1] at k2
    exact k2
  rcases fi x hx with f0 | ⟨f1, f2, f3⟩
  · exact va_put (D := oD Ω) (cl := vwCl) (tys := tyO Ω) (ws := pool Ω h) (A := ge Ω) (ci := c) (C := x.1) (T := x.2.1) (N := x.2.2) C.1 C.2.1 (tw_lays T1 hw args) (fun _ h => h) (cty c) hty hnm C.2.2.2.2.1 T2 P.2 pool_D S (a - 4) he hx k hkN (T1 _ hl rfl args) hsame f0 (hty k hkN) hn hfit (by rw [fvs_len]; exact hkn) hd hgo
  · exact va_putF (D := oD Ω) (cl := vwCl) (tys := tyO Ω) (ws := pool Ω h) (A := ge Ω) (ci := c) (C := x.1) (T := x.2.1) (N := x.2.2) C.1 C.2.1 (tw_lays T1 hw args) (fun _ h => h) (cty c) hty hnm C.2.2.2.2.1 T2 P.2 pool_D S (a - 4) he hx k hkN (T1 _ hl rfl args) hsame f1 (C.2.2.2.2.2.1 f2) f3 (hty k hkN) hn hfit (by rw [fvs_len]; exact hkn) hd hgo
theorem go_putI {c k a idx : Nat} {v : Int32} {F : AH → Option (α × AH)} (hd : decode (mb y) pc = .ok (.putfield idx, 3)) (fl : Fl (my y).cls idx c k) (fi : Fin y c k) (ht : ∀ h a, fvt Ω h a k (cty c k) = .int (gI h a k)) (hc : cty c k = .int) (hf : wrI h a c k v F = some q) (kk : ∀ h, F h = some q → Go Ω y (pc + 3) lv st h r h') : Go Ω y pc lv (.int v :: vR Ω (some a) :: st) h r h' := by
  unfold wrI at hf
  split at hf
  · rename_i hk
    exact go_put hd fl fi hk (by rw [hc]; rfl) (by rw [hc]; rfl) (row1_wI Ω h a _) (fvs_sI ht) (kk _ hf)
  · cases hf
theorem go_putZ {c k a idx : Nat} {v : Int32} {F : AH → Option (α × AH)} (hd : decode (mb y) pc = .ok (.putfield idx, 3)) (fl : Fl (my y).cls idx c k) (fi : Fin y c k) (ht : ∀ h a, fvt Ω h a k (cty c k) = .int (gI h a k)) (hc : cty c k = .boolean) (hf : wrZ h a c k v F = some q) (kk : ∀ h, F h = some q → Go Ω y (pc + 3) lv st h r h') : Go Ω y pc lv (.int v :: vR Ω (some a) :: st) h r h' := by
  unfold wrZ at hf
  split at hf
  · rename_i hk
    obtain ⟨hk, hb⟩ := hk
    exact go_put hd fl fi hk (by rw [hc]; rcases hb with rfl | rfl <;> decide) (by rw [hc]; rcases hb with rfl | rfl <;> decide) (row1_wI Ω h a _) (fvs_sI ht) (kk _ hf)
  · cases hf
theorem go_putJ {c k a idx : Nat} {v : Int64} {F : AH → Option (α × AH)} (hd : decode (mb y) pc = .ok (.putfield idx, 3)) (fl : Fl (my y).cls idx c k) (fi : Fin y c k) (ht : ∀ h a, fvt Ω h a k (cty c k) = .long (gJ h a k)) (hc : cty c k = .long) (hf : wrJ h a c k v F = some q) (kk : ∀ h, F h = some q → Go Ω y (pc + 3) lv st h r h') : Go Ω y pc lv (.long v :: vR Ω (some a) :: st) h r h' := by
  unfold wrJ at hf
  split at hf
  · rename_i hk
    exact go_put hd fl fi hk (by rw [hc]; rfl) (by rw [hc]; rfl) (row1_wJ Ω h a _) (fvs_sJ ht) (kk _ hf)
  · cases hf
theorem go_putR {c k a idx : Nat} {v : Option Nat} {F : AH → Option (α × AH)} (hd : decode (mb y) pc = .ok (.putfield idx, 3)) (fl : Fl (my y).cls idx c k) (fi : Fin y c k) (ht : ∀ h a, fvt Ω h a k (cty c k) = vR Ω (gR h a k)) (hc : (∃ n, cty c k = .object n) ∨ ∃ t, cty c k = .array t) (hf : wrR h a c k v F = some q) (kk : ∀ h, F h = some q → Go Ω y (pc + 3) lv st h r h') : Go Ω y pc lv (vR Ω v :: vR Ω (some a) :: st) h r h' := by
  unfold wrR at hf
  split at hf
  · rename_i hk
    refine go_put hd fl fi hk ?_ ?_ (row1_wR Ω h a _) (fvs_sR ht) (kk _ hf)
    · rcases hc with ⟨n, e⟩ | ⟨n, e⟩ <;> rw [e] <;> cases v <;> rfl
    · rcases hc with ⟨n, e⟩ | ⟨n, e⟩ <;> rw [e] <;> cases v <;> rfl
  · cases hf
end Heap

/-! ===== natives, and Math's two ===== -/
section Nat9
variable {α : Type} {Ω : Om} {y : Mt} {pc : Nat} {lv : List (Nat × Value)} {st : List Value} {h h' : AH} {r : Option Value} {q : α × AH}
def cpI {β : Type} (h : AH) (a0 : Nat) (sp : Int32) (a1 : Nat) (dp n : Int32) (F : AH → Option β) : Option β :=
  if kd h a0 = 100 ∧ kd h a1 = 100 ∧ 0 ≤ sp ∧ 0 ≤ dp ∧ 0 ≤ n ∧ sp.toNatClampNeg + n.toNatClampNeg ≤ ln h a0 ∧ dp.toNatClampNeg + n.toNatClampNeg ≤ ln h a1 then F (wI h a1 (va_cpy (gI h a0) (gI h a1) sp.toNatClampNeg dp.toNatClampNeg n.toNatClampNeg)) else none
def cpO {β : Type} (h : AH) (a0 : Nat) (sp : Int32) (a1 : Nat) (dp n : Int32) (F : AH → Option β) : Option β :=
  if kd h a0 = 103 ∧ kd h a1 = 103 ∧ 0 ≤ sp ∧ 0 ≤ dp ∧ 0 ≤ n ∧ sp.toNatClampNeg + n.toNatClampNeg ≤ ln h a0 ∧ dp.toNatClampNeg + n.toNatClampNeg ≤ ln h a1 ∧ (List.range n.toNatClampNeg).all (fun i => okE h (gR h a0 (sp.toNatClampNeg + i))) = true then F (wR h a1 (va_cpy (gR h a0) (gR h a1) sp.toNatClampNeg dp.toNatClampNeg n.toNatClampNeg)) else none
def Nw (y : Mt) (st : List Value) : Prop := 1 ≤ mF y ∧ (st.map fun v => v.category).sum + (nativeFrameWords "java/lang/System" "arraycopy" 5 + 11) ≤ mW y
theorem go_cpI {idx a0 a1 : Nat} {sp dp n : Int32} {F : AH → Option (α × AH)} (hd : decode (mb y) pc = .ok (.invokestatic idx, 3)) (hl : Cond.methodLink (my y).cls idx arraycopyName ∈ lw_tbl) (hw : Nw y st) (hf : cpI h a0 sp a1 dp n F = some q) (kk : ∀ h, F h = some q → Go Ω y (pc + 3) lv st h r h') : Go Ω y pc lv (.int n :: .int dp :: vR Ω (some a1) :: .int sp :: vR Ω (some a0) :: st) h r h' := by
  unfold cpI at hf
  split at hf
  · rename_i hk
    obtain ⟨k0, k1, s1, s2, s3, l0, l1⟩ := hk
    have k2 := kk _ hf
    have R1 := row1_wI Ω h a1 (va_cpy (gI h a0) (gI h a1) sp.toNatClampNeg dp.toNatClampNeg n.toNatClampNeg)
    have e1 : ce Ω (wI h a1 (va_cpy (gI h a0) (gI h a1) sp.toNatClampNeg dp.toNatClampNeg n.toNatClampNeg)) a1 = .inl (oC Ω 0, ln h a1, .inl (va_cpy (gI h a0) (gI h a1) sp.toNatClampNeg dp.toNatClampNeg n.toNatClampNeg)) := (ce_I (h := wI h a1 (va_cpy (gI h a0) (gI h a1) sp.toNatClampNeg dp.toNatClampNeg n.toNatClampNeg)) k1).trans (by rw [show gI (wI h a1 (va_cpy (gI h a0) (gI h a1) sp.toNatClampNeg dp.toNatClampNeg n.toNatClampNeg)) a1 = va_cpy (gI h a0) (gI h a1) sp.toNatClampNeg dp.toNatClampNeg n.toNatClampNeg from rw1_s _ _ _]; rfl)
    refine ⟨R1.le.tr k2.1, fun p e s m args below meth c0 H locs ls h0 C L P S hv => ?_⟩
    have k3 := row1_k (e := e) (args := args) (below := below) R1 k1 (Or.inr ⟨by omega, by omega⟩) k2 C L P.1 hv
    rw [e1] at k3
    have T := cxW C
    exact va_copyi (ws := pool Ω h) (ty := .int) C.1 C.2.1 (C.2.2.1.trans hv.1.symm) (cxO C) (T _ hl rfl args) (T _ (by decide +kernel) rfl args) (T _ (by decide +kernel) rfl args) (T _ (by decide +kernel) rfl args) (cxK C) P.2 pool_D S (a0 - 4) (a1 - 4) 0 0 ((pool_at P.1 k0 (by omega)).trans (by rw [ce_I k0])) ((pool_at P.1 k1 (by omega)).trans (by rw [ce_I k1])) rfl rfl rfl (Int32.not_lt.mpr s1) (Int32.not_lt.mpr s2) (Int32.not_lt.mpr s3) l0 l1 (fun _ _ => rfl) hw.1 hw.2 hd k3
  · cases hf
theorem map_cpy {f g : Nat → Option Nat} {m : Nat → Nat} {sp dp n : Nat} : (fun j => (va_cpy f g sp dp n j).map m) = va_cpy (fun j => (f j).map m) (fun j => (g j).map m) sp dp n := by
  funext j
  unfold va_cpy
  split <;> rfl
theorem go_cpO {idx a0 a1 : Nat} {sp dp n : Int32} {F : AH → Option (α × AH)} (hd : decode (mb y) pc = .ok (.invokestatic idx, 3)) (hl : Cond.methodLink (my y).cls idx arraycopyName ∈ lw_tbl) (hw : Nw y st) (hf : cpO h a0 sp a1 dp n F = some q) (kk : ∀ h, F h = some q → Go Ω y (pc + 3) lv st h r h') : Go Ω y pc lv (.int n :: .int dp :: vR Ω (some a1) :: .int sp :: vR Ω (some a0) :: st) h r h' := by
  unfold cpO at hf
  split at hf
  · rename_i hk
    obtain ⟨k0, k1, s1, s2, s3, l0, l1, hel⟩ := hk
    have k2 := kk _ hf
    have R1 := row1_wR Ω h a1 (va_cpy (gR h a0) (gR h a1) sp.toNatClampNeg dp.toNatClampNeg n.toNatClampNeg)
    have e1 : ce Ω (wR h a1 (va_cpy (gR h a0) (gR h a1) sp.toNatClampNeg dp.toNatClampNeg n.toNatClampNeg)) a1 = .inl (oC Ω 3, ln h a1, .inr (.inr (.inr (.inr (va_cpy (fun j => (gR h a0 j).map (ad Ω)) (fun j => (gR h a1 j).map (ad Ω)) sp.toNatClampNeg dp.toNatClampNeg n.toNatClampNeg))))) := (ce_O (h := wR h a1 (va_cpy (gR h a0) (gR h a1) sp.toNatClampNeg dp.toNatClampNeg n.toNatClampNeg)) k1).trans (by rw [show gR (wR h a1 (va_cpy (gR h a0) (gR h a1) sp.toNatClampNeg dp.toNatClampNeg n.toNatClampNeg)) a1 = va_cpy (gR h a0) (gR h a1) sp.toNatClampNeg dp.toNatClampNeg n.toNatClampNeg from rw1_s _ _ _, map_cpy]; rfl)
    refine ⟨R1.le.tr k2.1, fun p e s m args below meth c0 H locs ls h0 C L P S hv => ?_⟩
    have k3 := row1_k (e := e) (args := args) (below := below) R1 k1 (Or.inr ⟨by omega, by omega⟩) k2 C L P.1 hv
    rw [e1] at k3
    have T := cxW C
    refine va_copyM (ws := pool Ω h) C.1 C.2.1 (C.2.2.1.trans hv.1.symm) (cxO C) (T _ hl rfl args) (T _ (by decide +kernel) rfl args) (T _ (by decide +kernel) rfl args) (T _ (by decide +kernel) rfl args) (cxK C) P.2 pool_D S (a0 - 4) (a1 - 4) 3 3 ((pool_at P.1 k0 (by omega)).trans (by rw [ce_O k0])) ((pool_at P.1 k1 (by omega)).trans (by rw [ce_O k1])) rfl rfl (Int32.not_lt.mpr s1) (Int32.not_lt.mpr s2) (Int32.not_lt.mpr s3) l0 l1 ?_ hw.1 hw.2 hd k3
    intro i hi b hb
    have hi2 := List.all_eq_true.mp hel i (List.mem_range.mpr hi)
    cases hg : gR h a0 (sp.toNatClampNeg + i) with
    | none => rw [hg] at hb; cases hb
    | some b' =>
      rw [hg] at hb hi2
      simp only [okE, Bool.and_eq_true, decide_eq_true_eq] at hi2
      cases hb
      exact anyO C P hi2.1 hi2.2
  · cases hf
theorem go_max {idx : Nat} {x z : Int32} (hd : decode (mb y) pc = .ok (.invokestatic idx, 3)) (hl : Cond.methodLink (my y).cls idx Lib.Math.max.name ∈ lw_tbl) (hw : 1 ≤ mF y ∧ (st.map fun v => v.category).sum + 13 ≤ mW y) (k : Go Ω y (pc + 3) lv (.int (if x < z then z else x) :: st) h r h') : Go Ω y pc lv (.int z :: .int x :: st) h r h' :=
  ⟨k.1, fun p e s m args below meth c H locs ls h0 C L P S hv => by
    have T := cxW C
    have a1 := k.1.1
    have a2 := k.1.2
    exact va_mmax C.1 C.2.1 (C.2.2.1.trans hv.1.symm) (cxO C) (T _ hl rfl args) (T _ (by decide +kernel) rfl args) (T _ (by decide +kernel) rfl args) (T _ (by decide +kernel) rfl args) hw.1 hw.2 (show hz h - hz h0 ≤ hz h' - hz h0 by omega) (show hs h - hs h0 ≤ hs h' - hs h0 by omega) hd (k.2 p e s m args below meth c H locs ls h0 C L P S hv)⟩
theorem go_min {idx : Nat} {x z : Int32} (hd : decode (mb y) pc = .ok (.invokestatic idx, 3)) (hl : Cond.methodLink (my y).cls idx Lib.Math.min.name ∈ lw_tbl) (hw : 1 ≤ mF y ∧ (st.map fun v => v.category).sum + 13 ≤ mW y) (k : Go Ω y (pc + 3) lv (.int (if z < x then z else x) :: st) h r h') : Go Ω y pc lv (.int z :: .int x :: st) h r h' :=
  ⟨k.1, fun p e s m args below meth c H locs ls h0 C L P S hv => by
    have T := cxW C
    have a1 := k.1.1
    have a2 := k.1.2
    exact va_mmin C.1 C.2.1 (C.2.2.1.trans hv.1.symm) (cxO C) (T _ hl rfl args) (T _ (by decide +kernel) rfl args) (T _ (by decide +kernel) rfl args) (T _ (by decide +kernel) rfl args) hw.1 hw.2 (show hz h - hz h0 ≤ hz h' - hz h0 by omega) (show hs h - hs h0 ≤ hs h' - hs h0 by omega) hd (k.2 p e s m args below meth c H locs ls h0 C L P S hv)⟩
theorem go_getC {idx a : Nat} {X : Option (α × AH)} (hd : decode (mb y) pc = .ok (.invokevirtual idx, 3)) (hl : Cond.methodLink (my y).cls idx ⟨"java/lang/Object", "getClass", "()Ljava/lang/Class;"⟩ ∈ lw_tbl) (hw : 1 ≤ mF y ∧ (st.map fun v => v.category).sum + 14 ≤ mW y) (hf : kg h a 103 X = some q) (kk : X = some q → Go Ω y (pc + 3) lv (vR Ω (some 2) :: st) h r h') : Go Ω y pc lv (vR Ω (some a) :: st) h r h' := by
  obtain ⟨hk, hf⟩ := kg_some hf
  have k := kk hf
  refine ⟨k.1, fun p e s m args below meth c H locs ls h0 C L P S hv => ?_⟩
  have T := cxW C
  have hp := P.2 _ _ ((pool_at (Ω := Ω) P.1 hk (by omega)).trans (by rw [ce_O hk]))
  obtain ⟨_, _, -, -, -, f1⟩ := ((cxK C).2 3 _ rfl).2
  exact va_getC (C := "[Ljava/lang/Object;") C.1 C.2.1 (C.2.2.1.trans hv.1.symm) (cxO C) (T _ hl rfl args) (T _ (by decide +kernel) rfl args) (T _ (by decide +kernel) rfl args) (T _ (by decide +kernel) rfl args) (T _ (by decide +kernel) rfl args) (cxS C).1 ⟨_, hp, rfl, f1⟩ hw.1 hw.2 hd (k.2 p e s m args below meth c H locs ls h0 C L P S hv)
end Nat9

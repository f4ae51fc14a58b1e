/-! ===== arrays ===== -/
section Arr
variable {α : Type} {Ω : Om} {y : Mt} {pc : Nat} {lv : List (Nat × Value)} {st : List Value} {h h' : AH} {r : Option Value} {q : α × AH}
theorem cxK {p : Program} {s : State} {m : MethodId} {meth : Method} {c : Code} {h0 : AH} (C : Cx Ω y p s m meth c h0) : va_K (oD Ω) vwCl (tyO Ω) s := C.2.2.2.2.2.2.2.1.2.1
theorem cxW {p : Program} {s : State} {m : MethodId} {meth : Method} {c : Code} {h0 : AH} (C : Cx Ω y p s m meth c h0) : TW s := C.2.2.2.2.2.2.2.1.1
theorem cxF {p : Program} {s : State} {m : MethodId} {meth : Method} {c : Code} {h0 : AH} (C : Cx Ω y p s m meth c h0) : TF s := C.2.2.2.2.2.2.2.1.2.2.1
theorem cxS {p : Program} {s : State} {m : MethodId} {meth : Method} {c : Code} {h0 : AH} (C : Cx Ω y p s m meth c h0) : TS Ω s := C.2.2.2.2.2.2.2.1.2.2.2
theorem cxO {p : Program} {s : State} {m : MethodId} {meth : Method} {c : Code} {h0 : AH} (C : Cx Ω y p s m meth c h0) : s.vm.findClass (my y).cls = some m.cls := C.2.2.2.2.1
theorem cxZ {p : Program} {s : State} {m : MethodId} {meth : Method} {c : Code} {h0 : AH} (C : Cx Ω y p s m meth c h0) : s.heap.size = oB Ω + hz h0 := C.2.2.2.2.2.2.2.2.2.1
theorem cxOld {p : Program} {s : State} {m : MethodId} {meth : Method} {c : Code} {h0 : AH} (C : Cx Ω y p s m meth c h0) : Old Ω s.heap := C.2.2.2.2.2.2.2.2.2.2
theorem go_iaload {a : Nat} {i : Int32} {F : Int32 → Option (α × AH)} (hd : decode (mb y) pc = .ok (.iaload, 1)) (hf : arI h a i F = some q) (kk : ∀ x, F x = some q → Go Ω y (pc + 1) lv (.int x :: st) h r h') : Go Ω y pc lv (.int i :: vR Ω (some a) :: st) h r h' := by
  unfold arI at hf
  split at hf
  · rename_i hk
    have k2 := kk _ hf
    exact ⟨k2.1, fun p e s m args below meth c0 H locs ls h0 C L P S hv => va_iald (ws := pool Ω h) C.1 C.2.1 (cxK C) P.2 (a - 4) 0 ((pool_at P.1 hk.1 (by omega)).trans (by rw [ce_I hk.1])) rfl (inb_in hk.2) hd (k2.2 p e s m args below meth c0 H locs ls h0 C L P S hv)⟩
  · cases hf
theorem go_zaload {a : Nat} {i : Int32} {F : Int32 → Option (α × AH)} (hd : decode (mb y) pc = .ok (.baload, 1)) (hf : arZ h a i F = some q) (kk : ∀ x, F x = some q → Go Ω y (pc + 1) lv (.int x :: st) h r h') : Go Ω y pc lv (.int i :: vR Ω (some a) :: st) h r h' := by
  unfold arZ at hf
  split at hf
  · rename_i hk
    have k2 := kk _ hf
    exact ⟨k2.1, fun p e s m args below meth c0 H locs ls h0 C L P S hv => va_zald (ws := pool Ω h) C.1 C.2.1 (cxK C) P.2 (a - 4) 2 ((pool_at P.1 hk.1 (by omega)).trans (by rw [ce_Z hk.1])) rfl (inb_in hk.2) hd (k2.2 p e s m args below meth c0 H locs ls h0 C L P S hv)⟩
  · cases hf
theorem go_laload {a : Nat} {i : Int32} {F : Int64 → Option (α × AH)} (hd : decode (mb y) pc = .ok (.laload, 1)) (hf : arJ h a i F = some q) (kk : ∀ x, F x = some q → Go Ω y (pc + 1) lv (.long x :: st) h r h') : Go Ω y pc lv (.int i :: vR Ω (some a) :: st) h r h' := by
  unfold arJ at hf
  split at hf
  · rename_i hk
    have k2 := kk _ hf
    exact ⟨k2.1, fun p e s m args below meth c0 H locs ls h0 C L P S hv => va_lald (ws := pool Ω h) C.1 C.2.1 (cxK C) P.2 (a - 4) 1 ((pool_at P.1 hk.1 (by omega)).trans (by rw [ce_J hk.1])) rfl (inb_in hk.2) hd (k2.2 p e s m args below meth c0 H locs ls h0 C L P S hv)⟩
  · cases hf
theorem go_oaload {a : Nat} {i : Int32} {F : Option Nat → Option (α × AH)} (hd : decode (mb y) pc = .ok (.aaload, 1)) (hf : arO h a i F = some q) (kk : ∀ x, F x = some q → Go Ω y (pc + 1) lv (vR Ω x :: st) h r h') : Go Ω y pc lv (.int i :: vR Ω (some a) :: st) h r h' := by
  unfold arO at hf
  split at hf
  · rename_i hk
    have k2 := kk _ hf
    exact ⟨k2.1, fun p e s m args below meth c0 H locs ls h0 C L P S hv => va_aldq (ws := pool Ω h) (f := fun j => (gR h a j).map (ad Ω)) C.1 C.2.1 (cxK C) P.2 (a - 4) 3 ((pool_at P.1 hk.1 (by omega)).trans (by rw [ce_O hk.1])) rfl (inb_in hk.2) hd (k2.2 p e s m args below meth c0 H locs ls h0 C L P S hv)⟩
  · cases hf
theorem go_caload {a : Nat} {i : Int32} {F : Option Nat → Option (α × AH)} (hd : decode (mb y) pc = .ok (.aaload, 1)) (hf : arC h a i F = some q) (kk : ∀ x, F x = some q → Go Ω y (pc + 1) lv (vR Ω x :: st) h r h') : Go Ω y pc lv (.int i :: vR Ω (some a) :: st) h r h' := by
  unfold arC at hf
  split at hf
  · rename_i hk
    have k2 := kk _ hf
    exact ⟨k2.1, fun p e s m args below meth c0 H locs ls h0 C L P S hv => va_aldq (ws := pool Ω h) (f := fun j => (gR h a j).map (ad Ω)) C.1 C.2.1 (cxK C) P.2 (a - 4) 4 ((pool_at P.1 hk.1 (by omega)).trans (by rw [ce_C hk.1])) rfl (inb_in hk.2) hd (k2.2 p e s m args below meth c0 H locs ls h0 C L P S hv)⟩
  · cases hf
/-- behind a write of one row -/
theorem row1_k {h1 : AH} {a c : Nat} (R1 : Row1 Ω h h1 a) (hk : kd h a = c) (hc : c < 90 ∨ (100 ≤ c ∧ c < 999)) {n : Nat} (kk : Go Ω y n lv st h1 r h') {p : Program} {e : Env} {s : State} {m : MethodId} {args : Array Value} {below : List Frame} {meth : Method} {c0 : Code} {h0 : AH} (C : Cx Ω y p s m meth c0 h0) (L : Le h0 h) (w : Wf h) {ls : Array Slot} (hv : lv_has ls (mL y) lv) :
    ∀ (H1 : Heap) (locs1 : List Loc), va_P (oD Ω) vwCl ((pool Ω h).set (a - 4) (ad Ω a, ce Ω h1 a)) H1 → va_D (ge Ω) ((pool Ω h).set (a - 4) (ad Ω a, ce Ω h1 a)) → va_S (ge Ω) s.heap H1 locs1 → W p (oL Ω) e (rmO y h0 h') s m args below meth c0 H1 locs1 (hz h - hz h0) (hs h - hs h0) (MQ below (Qc Ω r h') args s (hz h' - hz h0) (hs h' - hs h0) (ge Ω)) (F0 m n ls st) := by
  intro H1 locs1 hP1 _ hS1
  have k2 := kk.2 p e s m args below meth c0 H1 locs1 ls h0 C (L.tr R1.le) (R1.HR w hk hc hP1) hS1 hv
  rw [R1.1, R1.2.1] at k2
  exact k2
theorem go_iastore {a : Nat} {i v : Int32} {F : AH → Option (α × AH)} (hd : decode (mb y) pc = .ok (.iastore, 1)) (hf : asI h a i v F = some q) (kk : ∀ h, F h = some q → Go Ω y (pc + 1) lv st h r h') : Go Ω y pc lv (.int v :: .int i :: vR Ω (some a) :: st) h r h' := by
  unfold asI at hf
  split at hf
  · rename_i hk
    have k2 := kk _ hf
    have R1 := row1_wI Ω h a (upd (gI h a) i.toNatClampNeg v)
    have e1 : ce Ω (sI h a i.toNatClampNeg v) a = .inl (oC Ω 0, ln h a, .inl (upd (gI h a) i.toNatClampNeg v)) := (ce_I (h := sI h a i.toNatClampNeg v) hk.1).trans (by rw [show gI (sI h a i.toNatClampNeg v) a = upd (gI h a) i.toNatClampNeg v from rw1_s _ _ _]; rfl)
    refine ⟨R1.le.tr k2.1, fun p e s m args below meth c0 H locs ls h0 C L P S hv => ?_⟩
    have k3 := row1_k (e := e) (args := args) (below := below) R1 hk.1 (Or.inr ⟨by omega, by omega⟩) k2 C L P.1 hv
    change ∀ (H1 : Heap) (locs1 : List Loc), va_P (oD Ω) vwCl ((pool Ω h).set (a - 4) (ad Ω a, ce Ω (sI h a i.toNatClampNeg v) a)) H1 → va_D (ge Ω) ((pool Ω h).set (a - 4) (ad Ω a, ce Ω (sI h a i.toNatClampNeg v) a)) → _ at k3
    rw [e1] at k3
    exact va_iast (ws := pool Ω h) C.1 C.2.1 (cxK C) P.2 pool_D S (a - 4) 0 ((pool_at P.1 hk.1 (by omega)).trans (by rw [ce_I hk.1])) rfl (inb_in hk.2) hd k3
  · cases hf
theorem nar_bool {v : Int32} (h : v = 0 ∨ v = 1) : vp_nar .boolean v = v := by
  rcases h with rfl | rfl <;> decide
theorem go_zastore {a : Nat} {i v : Int32} {F : AH → Option (α × AH)} (hd : decode (mb y) pc = .ok (.bastore, 1)) (hf : asZ h a i v F = some q) (kk : ∀ h, F h = some q → Go Ω y (pc + 1) lv st h r h') : Go Ω y pc lv (.int v :: .int i :: vR Ω (some a) :: st) h r h' := by
  unfold asZ at hf
  split at hf
  · rename_i hk
    have k2 := kk _ hf
    have R1 := row1_wI Ω h a (upd (gI h a) i.toNatClampNeg v)
    have e1 : ce Ω (sI h a i.toNatClampNeg v) a = .inl (oC Ω 2, ln h a, .inl (upd (gI h a) i.toNatClampNeg (vp_nar .boolean v))) := (ce_Z (h := sI h a i.toNatClampNeg v) hk.1).trans (by rw [show gI (sI h a i.toNatClampNeg v) a = upd (gI h a) i.toNatClampNeg v from rw1_s _ _ _, nar_bool hk.2.2]; rfl)
    refine ⟨R1.le.tr k2.1, fun p e s m args below meth c0 H locs ls h0 C L P S hv => ?_⟩
    have k3 := row1_k (e := e) (args := args) (below := below) R1 hk.1 (Or.inr ⟨by omega, by omega⟩) k2 C L P.1 hv
    change ∀ (H1 : Heap) (locs1 : List Loc), va_P (oD Ω) vwCl ((pool Ω h).set (a - 4) (ad Ω a, ce Ω (sI h a i.toNatClampNeg v) a)) H1 → va_D (ge Ω) ((pool Ω h).set (a - 4) (ad Ω a, ce Ω (sI h a i.toNatClampNeg v) a)) → _ at k3
    rw [e1] at k3
    exact va_zast (ws := pool Ω h) C.1 C.2.1 (cxK C) P.2 pool_D S (a - 4) 2 ((pool_at P.1 hk.1 (by omega)).trans (by rw [ce_Z hk.1])) rfl (inb_in hk.2.1) hd k3
  · cases hf
theorem go_lastore {a : Nat} {i : Int32} {v : Int64} {F : AH → Option (α × AH)} (hd : decode (mb y) pc = .ok (.lastore, 1)) (hf : asJ h a i v F = some q) (kk : ∀ h, F h = some q → Go Ω y (pc + 1) lv st h r h') : Go Ω y pc lv (.long v :: .int i :: vR Ω (some a) :: st) h r h' := by
  unfold asJ at hf
  split at hf
  · rename_i hk
    have k2 := kk _ hf
    have R1 := row1_wJ Ω h a (vp_updL (gJ h a) i.toNatClampNeg v)
    have e1 : ce Ω (sJ h a i.toNatClampNeg v) a = .inl (oC Ω 1, ln h a, .inr (.inl (vp_updL (gJ h a) i.toNatClampNeg v))) := (ce_J (h := sJ h a i.toNatClampNeg v) hk.1).trans (by rw [show gJ (sJ h a i.toNatClampNeg v) a = vp_updL (gJ h a) i.toNatClampNeg v from rw1_s _ _ _]; rfl)
    refine ⟨R1.le.tr k2.1, fun p e s m args below meth c0 H locs ls h0 C L P S hv => ?_⟩
    have k3 := row1_k (e := e) (args := args) (below := below) R1 hk.1 (Or.inr ⟨by omega, by omega⟩) k2 C L P.1 hv
    change ∀ (H1 : Heap) (locs1 : List Loc), va_P (oD Ω) vwCl ((pool Ω h).set (a - 4) (ad Ω a, ce Ω (sJ h a i.toNatClampNeg v) a)) H1 → va_D (ge Ω) ((pool Ω h).set (a - 4) (ad Ω a, ce Ω (sJ h a i.toNatClampNeg v) a)) → _ at k3
    rw [e1] at k3
    exact va_last (ws := pool Ω h) C.1 C.2.1 (cxK C) P.2 pool_D S (a - 4) 1 ((pool_at P.1 hk.1 (by omega)).trans (by rw [ce_J hk.1])) rfl (inb_in hk.2) hd k3
  · cases hf
/-- an object's cell, and its class -/
theorem obj_at {p : Program} {s : State} {m : MethodId} {meth : Method} {c0 : Code} {h0 : AH} (C : Cx Ω y p s m meth c0 h0) {H : Heap} (P : HR Ω h H) {a c : Nat} (hk : kd h a = c) {x : vw_C} (hx : vwCl[c]? = some x) (hc : c < 14) : ∃ cell : Cell, H[ad Ω a]? = some cell ∧ cell.vm.isStatics = false ∧ s.vm.findClass x.1 = some cell.cls :=
  va_recv (cxK C) P.2 hx ((pool_at P.1 hk (Or.inl (by omega))).trans (by rw [ce_obj hk hc]))
theorem castO : ∀ c, 0 < c → c < 14 → ∃ x : vw_C, vwCl[c]? = some x ∧ Cond.castable x.1 "java/lang/Object" ∈ lw_tbl := by
  intro c h0 hc
  match c, h0, hc with
  | 1, _, _ => exact ⟨_, rfl, by decide +kernel⟩
  | 2, _, _ => exact ⟨_, rfl, by decide +kernel⟩
  | 3, _, _ => exact ⟨_, rfl, by decide +kernel⟩
  | 4, _, _ => exact ⟨_, rfl, by decide +kernel⟩
  | 5, _, _ => exact ⟨_, rfl, by decide +kernel⟩
  | 6, _, _ => exact ⟨_, rfl, by decide +kernel⟩
  | 7, _, _ => exact ⟨_, rfl, by decide +kernel⟩
  | 8, _, _ => exact ⟨_, rfl, by decide +kernel⟩
  | 9, _, _ => exact ⟨_, rfl, by decide +kernel⟩
  | 10, _, _ => exact ⟨_, rfl, by decide +kernel⟩
  | 11, _, _ => exact ⟨_, rfl, by decide +kernel⟩
  | 12, _, _ => exact ⟨_, rfl, by decide +kernel⟩
  | 13, _, _ => exact ⟨_, rfl, by decide +kernel⟩
  | n + 14, _, h => exact absurd h (by omega)
theorem anyO {p : Program} {s : State} {m : MethodId} {meth : Method} {c0 : Code} {h0 : AH} (C : Cx Ω y p s m meth c0 h0) {H : Heap} (P : HR Ω h H) {b : Nat} (hb : 0 < kd h b) (hc : kd h b < 14) : va_Any "java/lang/Object" s H (ad Ω b) := by
  obtain ⟨x, hx, hw⟩ := castO _ hb hc
  refine va_rAny (cxK C) P.2 ((pool_at (a := b) P.1 rfl (Or.inl (by omega))).trans (by rw [ce_obj rfl hc])) hx ?_
  intro comp c1 f1 f2
  obtain ⟨c', t', g1, g2, g3⟩ := Cond.castable_spec (cxW C _ hw rfl #[])
  cases f1.symm.trans g2
  cases f2.symm.trans g1
  exact g3
theorem map_up {f : Nat → Option Nat} {g : Nat → Nat} {k : Nat} {v : Option Nat} : (fun j => (va_up f k v j).map g) = va_up (fun j => (f j).map g) k (v.map g) := by
  funext j
  by_cases e : j = k
  · subst e
    simp [va_up]
  · simp [va_up, e]
theorem go_oastore {a : Nat} {i : Int32} {v : Option Nat} {F : AH → Option (α × AH)} (hd : decode (mb y) pc = .ok (.aastore, 1)) (hf : asO h a i v F = some q) (kk : ∀ h, F h = some q → Go Ω y (pc + 1) lv st h r h') : Go Ω y pc lv (vR Ω v :: .int i :: vR Ω (some a) :: st) h r h' := by
  unfold asO at hf
  split at hf
  · rename_i hk
    have k2 := kk _ hf
    have R1 := row1_wR Ω h a (va_up (gR h a) i.toNatClampNeg v)
    have e1 : ce Ω (sR h a i.toNatClampNeg v) a = .inl (oC Ω 3, ln h a, .inr (.inr (.inr (.inr (va_up (fun j => (gR h a j).map (ad Ω)) i.toNatClampNeg (v.map (ad Ω))))))) := (ce_O (h := sR h a i.toNatClampNeg v) hk.1).trans (by rw [show gR (sR h a i.toNatClampNeg v) a = va_up (gR h a) i.toNatClampNeg v from rw1_s _ _ _, map_up]; rfl)
    refine ⟨R1.le.tr k2.1, fun p e s m args below meth c0 H locs ls h0 C L P S hv => ?_⟩
    have k3 := row1_k (e := e) (args := args) (below := below) R1 hk.1 (Or.inr ⟨by omega, by omega⟩) k2 C L P.1 hv
    change ∀ (H1 : Heap) (locs1 : List Loc), va_P (oD Ω) vwCl ((pool Ω h).set (a - 4) (ad Ω a, ce Ω (sR h a i.toNatClampNeg v) a)) H1 → va_D (ge Ω) ((pool Ω h).set (a - 4) (ad Ω a, ce Ω (sR h a i.toNatClampNeg v) a)) → _ at k3
    rw [e1] at k3
    cases v with
    | none => exact va_astqN (ws := pool Ω h) C.1 C.2.1 (cxK C) P.2 pool_D S (a - 4) 3 ((pool_at P.1 hk.1 (by omega)).trans (by rw [ce_O hk.1])) rfl (inb_in hk.2.1) hd k3
    | some b =>
      have hb := hk.2.2
      simp only [okE, Bool.and_eq_true, decide_eq_true_eq] at hb
      exact va_astqM (ws := pool Ω h) C.1 C.2.1 (cxK C) P.2 pool_D S (a - 4) 3 ((pool_at P.1 hk.1 (by omega)).trans (by rw [ce_O hk.1])) rfl (anyO C P hb.1 hb.2) (inb_in hk.2.1) hd k3
  · cases hf
theorem go_castore {a : Nat} {i : Int32} {v : Option Nat} {F : AH → Option (α × AH)} (hd : decode (mb y) pc = .ok (.aastore, 1)) (hf : asC h a i v F = some q) (kk : ∀ h, F h = some q → Go Ω y (pc + 1) lv st h r h') : Go Ω y pc lv (vR Ω v :: .int i :: vR Ω (some a) :: st) h r h' := by
  unfold asC at hf
  split at hf
  · rename_i hk
    have k2 := kk _ hf
    have R1 := row1_wR Ω h a (va_up (gR h a) i.toNatClampNeg v)
    have e1 : ce Ω (sR h a i.toNatClampNeg v) a = .inl (oC Ω 4, ln h a, .inr (.inr (.inr (.inr (va_up (fun j => (gR h a j).map (ad Ω)) i.toNatClampNeg (v.map (ad Ω))))))) := (ce_C (h := sR h a i.toNatClampNeg v) hk.1).trans (by rw [show gR (sR h a i.toNatClampNeg v) a = va_up (gR h a) i.toNatClampNeg v from rw1_s _ _ _, map_up]; rfl)
    refine ⟨R1.le.tr k2.1, fun p e s m args below meth c0 H locs ls h0 C L P S hv => ?_⟩
    have k3 := row1_k (e := e) (args := args) (below := below) R1 hk.1 (Or.inr ⟨by omega, by omega⟩) k2 C L P.1 hv
    change ∀ (H1 : Heap) (locs1 : List Loc), va_P (oD Ω) vwCl ((pool Ω h).set (a - 4) (ad Ω a, ce Ω (sR h a i.toNatClampNeg v) a)) H1 → va_D (ge Ω) ((pool Ω h).set (a - 4) (ad Ω a, ce Ω (sR h a i.toNatClampNeg v) a)) → _ at k3
    rw [e1] at k3
    cases v with
    | none => exact va_astqN (ws := pool Ω h) C.1 C.2.1 (cxK C) P.2 pool_D S (a - 4) 4 ((pool_at P.1 hk.1 (by omega)).trans (by rw [ce_C hk.1])) rfl (inb_in hk.2.1) hd k3
    | some b =>
      have hb := hk.2.2
      simp only [okC, decide_eq_true_eq] at hb
      refine va_astqM (ws := pool Ω h) C.1 C.2.1 (cxK C) P.2 pool_D S (a - 4) 4 ((pool_at P.1 hk.1 (by omega)).trans (by rw [ce_C hk.1])) rfl ?_ (inb_in hk.2.1) hd k3
      refine va_rAny (cxK C) P.2 ((pool_at P.1 hb (Or.inl (by omega))).trans (by rw [ce_obj hb (by omega)])) (show vwCl[2]? = some _ from rfl) ?_
      intro comp c1 f1 f2
      cases f1.symm.trans f2
      exact va_asg _ _
  · cases hf
theorem go_alen {a : Nat} {F : Int32 → Option (α × AH)} (hd : decode (mb y) pc = .ok (.arraylength, 1)) (hf : aln h a F = some q) (kk : ∀ x, F x = some q → Go Ω y (pc + 1) lv (.int x :: st) h r h') : Go Ω y pc lv (vR Ω (some a) :: st) h r h' := by
  unfold aln at hf
  split at hf
  · rename_i hk
    have k2 := kk _ hf
    refine ⟨k2.1, fun p e s m args below meth c0 H locs ls h0 C L P S hv => ?_⟩
    have ha : a = 0 := by
      rcases Nat.lt_or_ge a 4 with z | z
      · have := P.1.1 a z
        omega
      · rcases Nat.lt_or_ge a (hz h + 4) with z2 | z2
        · have := P.1.2.2 a z z2
          omega
        · have := P.1.2.1 a z2
          omega
    subst ha
    obtain ⟨-, -, t1, -, -, -⟩ := cxS C
    have ho := cxOld C
    have t2 := t1.kept (H1 := s.heap) (fun q hq _ => ho.2 q (by rw [← ho.1]; exact hq))
    exact va_tlen (v := 0) C.1 C.2.1 t2 S rfl hd (k2.2 p e s m args below meth c0 H locs ls h0 C L P S hv)
  · split at hf
    · rename_i hk
      have k2 := kk _ hf
      refine ⟨k2.1, fun p e s m args below meth c0 H locs ls h0 C L P S hv => ?_⟩
      have h5 : kd h a = 100 ∨ kd h a = 101 ∨ kd h a = 102 ∨ kd h a = 103 ∨ kd h a = 104 := by omega
      rcases h5 with z | z | z | z | z
      · exact va_alen (ws := pool Ω h) (x := (ln h a, .inl (gI h a))) C.1 C.2.1 (cxK C) P.2 (a - 4) 0 ((pool_at P.1 z (by omega)).trans (by rw [ce_I z])) (ty := .int) rfl rfl hd (k2.2 p e s m args below meth c0 H locs ls h0 C L P S hv)
      · exact va_alen (ws := pool Ω h) (x := (ln h a, .inr (.inl (gJ h a)))) C.1 C.2.1 (cxK C) P.2 (a - 4) 1 ((pool_at P.1 z (by omega)).trans (by rw [ce_J z])) (ty := .long) rfl rfl hd (k2.2 p e s m args below meth c0 H locs ls h0 C L P S hv)
      · exact va_alen (ws := pool Ω h) (x := (ln h a, .inl (gI h a))) C.1 C.2.1 (cxK C) P.2 (a - 4) 2 ((pool_at P.1 z (by omega)).trans (by rw [ce_Z z])) (ty := .boolean) rfl rfl hd (k2.2 p e s m args below meth c0 H locs ls h0 C L P S hv)
      · exact va_alen (ws := pool Ω h) (x := (ln h a, .inr (.inr (.inr (.inr (fun j => (gR h a j).map (ad Ω))))))) C.1 C.2.1 (cxK C) P.2 (a - 4) 3 ((pool_at P.1 z (by omega)).trans (by rw [ce_O z])) (ty := .object "java/lang/Object") rfl rfl hd (k2.2 p e s m args below meth c0 H locs ls h0 C L P S hv)
      · exact va_alen (ws := pool Ω h) (x := (ln h a, .inr (.inr (.inr (.inr (fun j => (gR h a j).map (ad Ω))))))) C.1 C.2.1 (cxK C) P.2 (a - 4) 4 ((pool_at P.1 z (by omega)).trans (by rw [ce_C z])) (ty := .object "LetterBroker$Channel") rfl rfl hd (k2.2 p e s m args below meth c0 H locs ls h0 C L P S hv)
    · cases hf
end Arr

/-! ===== new cells ===== -/
section New
variable {α : Type} {Ω : Om} {y : Mt} {pc : Nat} {lv : List (Nat × Value)} {st : List Value} {h h' : AH} {r : Option Value} {q : α × AH}
theorem al_ce (c n s1 : Nat) {b : Nat} (hb : b ≠ hz h + 4) : ce Ω (al h c n s1) b = ce Ω h b := by
  have e1 : gI (al h c n s1) b = gI h b := rw1_n _ _ hb
  have e2 : gJ (al h c n s1) b = gJ h b := rw1_n _ _ hb
  have e3 : gR (al h c n s1) b = gR h b := rw1_n _ _ hb
  have e4 : kd (al h c n s1) b = kd h b := va_up_ne _ _ hb
  have e5 : ln (al h c n s1) b = ln h b := va_up_ne _ _ hb
  simp only [ce, fvs, fvt, e1, e2, e3, e4, e5]
theorem al_pool (c n s1 : Nat) : pool Ω (al h c n s1) = pool Ω h ++ [(oB Ω + hz h, ce Ω (al h c n s1) (hz h + 4))] := by
  have e : hz (al h c n s1) = hz h + 1 := rfl
  unfold pool
  rw [e, List.range_succ, List.map_append]
  congr 1
  apply List.map_congr_left
  intro i hi
  have := List.mem_range.mp hi
  rw [al_ce c n s1 (by omega)]
theorem al_wf {c n s1 : Nat} (w : Wf h) (hc : c < 90 ∨ (100 ≤ c ∧ c < 999)) : Wf (al h c n s1) := by
  have e : hz (al h c n s1) = hz h + 1 := rfl
  refine ⟨fun a ha => ?_, fun a ha => ?_, fun a h1 h2 => ?_⟩
  · rw [show kd (al h c n s1) a = kd h a from va_up_ne _ _ (by omega)]
    exact w.1 a ha
  · rw [e] at ha
    rw [show kd (al h c n s1) a = kd h a from va_up_ne _ _ (by omega)]
    exact w.2.1 a (by omega)
  · rw [e] at h2
    by_cases z : a = hz h + 4
    · subst z
      rw [show kd (al h c n s1) (hz h + 4) = c from va_up_self _ _ _]
      omega
    · rw [show kd (al h c n s1) a = kd h a from va_up_ne _ _ z]
      exact w.2.2 a h1 (by omega)
theorem al_HR {c n s1 : Nat} (w : Wf h) (hc : c < 90 ∨ (100 ≤ c ∧ c < 999)) {H1 : Heap} {x : Nat} {ec : va_E} (he : ce Ω (al h c n s1) (hz h + 4) = ec) (hP : va_P (oD Ω) vwCl (pool Ω h ++ [(x, ec)]) H1) (hD : va_D (ge Ω) (pool Ω h ++ [(x, ec)])) (hle : H1.size ≤ oB Ω + hz h + 1) : x = oB Ω + hz h ∧ HR Ω (al h c n s1) H1 := by
  have hL : (pool Ω h).length = hz h := by simp [pool]
  have hlast : (pool Ω h ++ [(x, ec)])[hz h]? = some (x, ec) := by
    rw [List.getElem?_append_right (by omega), hL, Nat.sub_self]
    rfl
  have h1 : x < H1.size := (hP _ _ hlast).lt
  have h2 : oB Ω ≤ x := hD.2 _ _ hlast
  have h3 : x = oB Ω + hz h := by
    rcases Nat.lt_or_ge x (oB Ω + hz h) with z | z
    · have hi : (pool Ω h ++ [(x, ec)])[x - oB Ω]? = some (oB Ω + (x - oB Ω), ce Ω h (x - oB Ω + 4)) := by
        rw [List.getElem?_append_left (by omega)]
        exact pool_get (by omega)
      have := hD.1 _ _ _ _ hi hlast (by show oB Ω + (x - oB Ω) = x; omega)
      omega
    · omega
  subst h3
  refine ⟨rfl, al_wf w hc, ?_⟩
  rw [al_pool, he]
  exact hP
theorem al_k {c n s1 : Nat} (hc : c < 90 ∨ (100 ≤ c ∧ c < 999)) {ec : va_E} (he : ce Ω (al h c n s1) (hz h + 4) = ec) {npc : Nat} (kk : Go Ω y npc lv (vR Ω (some (hz h + 4)) :: st) (al h c n s1) r h') {p : Program} {e : Env} {s : State} {m : MethodId} {args : Array Value} {below : List Frame} {meth : Method} {c0 : Code} {h0 : AH} (C : Cx Ω y p s m meth c0 h0) (L : Le h0 h) (w : Wf h) {ls : Array Slot} {locs : List Loc} (hv : lv_has ls (mL y) lv) :
    ∀ (x : Nat) (H1 : Heap), va_P (oD Ω) vwCl (pool Ω h ++ [(x, ec)]) H1 → va_D (ge Ω) (pool Ω h ++ [(x, ec)]) → va_S (ge Ω) s.heap H1 locs → W p (oL Ω) e (rmO y h0 h') s m args below meth c0 H1 locs (hz h - hz h0 + 1) (hs h - hs h0 + s1) (MQ below (Qc Ω r h') args s (hz h' - hz h0) (hs h' - hs h0) (ge Ω)) (F0 m npc ls (.ref x :: st)) := by
  intro x H1 hP1 hD1 hS1
  refine W_size (fun hle => ?_)
  have hsz := cxZ C
  have L1 := L.1
  have L2 := L.2
  obtain ⟨rfl, hR⟩ := al_HR w hc he hP1 hD1 (by omega)
  have e1 : hz (al h c n s1) = hz h + 1 := rfl
  have e2 : hs (al h c n s1) = hs h + s1 := rfl
  have k2 := kk.2 p e s m args below meth c0 H1 locs ls h0 C ⟨by omega, by omega⟩ hR hS1 hv
  rw [e1, e2, show hz h + 1 - hz h0 = hz h - hz h0 + 1 by omega, show hs h + s1 - hs h0 = hs h - hs h0 + s1 by omega] at k2
  rw [show oB Ω + hz h = ad Ω (hz h + 4) from by rw [ad_hi (by omega)]; rfl]
  exact k2
def isfl : FieldType → Bool
  | .float => true
  | .double => true
  | _ => false
theorem noflt : ∀ c, c < 14 → ∀ k, k < cnf c → isfl (cty c k) = false := by decide +kernel
theorem al_fvs {c : Nat} (hc : c < 14) (n s1 : Nat) : fvs Ω (al h c n s1) (hz h + 4) c = (List.range (cnf c)).map (fun k => defaultValue (cty c k)) := by
  unfold fvs
  apply List.map_congr_left
  intro k hk
  have e1 : gI (al h c n s1) (hz h + 4) k = 0 := congrFun (rw1_s _ _ _) k
  have e2 : gJ (al h c n s1) (hz h + 4) k = 0 := congrFun (rw1_s _ _ _) k
  have e3 : gR (al h c n s1) (hz h + 4) k = none := congrFun (rw1_s _ _ _) k
  have hf := noflt c hc k (List.mem_range.mp hk)
  revert hf
  generalize cty c k = t
  intro hf
  cases t <;> first | (simp [isfl] at hf; done) | simp [fvt, e1, e2, e3, defaultValue, vR, va_rf]
theorem go_new {c idx : Nat} {F : Nat → AH → Option (α × AH)} (hd : decode (mb y) pc = .ok (.new idx, 3)) (hc : c < 14) {x : vw_C} (hx : vwCl[c]? = some x) (hl : Cond.classLink (my y).cls idx x.1 ∈ lw_tbl) (hf : nwO h c F = some q) (kk : ∀ a h, F a h = some q → Go Ω y (pc + 3) lv (vR Ω (some a) :: st) h r h') : Go Ω y pc lv st h r h' := by
  have k2 := kk _ _ hf
  refine ⟨Le.tr ⟨Nat.le_succ _, Nat.le_add_right _ _⟩ k2.1, fun p e s m args below meth c0 H locs ls h0 C L P S hv => ?_⟩
  obtain ⟨x', hx', e2, hw, hty, -, hin, hini⟩ := clk c hc
  obtain rfl : x = x' := Option.some.inj (hx.symm.trans hx')
  have b1 : hz h + 1 ≤ hz h' := k2.1.1
  have b2 : hs h + cnf c ≤ hs h' := k2.1.2
  have L1 := L.1
  have L2 := L.2
  have T1 := cxW C
  refine va_new (D := oD Ω) (cl := vwCl) (tys := tyO Ω) (ws := pool Ω h) (A := ge Ω) (ci := c) (C := x.1) (T := x.2.1) (N := x.2.2) (fs := fvs Ω (al h c 0 (cnf c)) (hz h + 4) c) C.1 C.2.1 (tw_lays T1 hw args) (fun _ h => h) (cty c) hty (cxO C) (T1 _ hl rfl args) (T1 _ hin rfl args) (T1 _ hini rfl args) (cxK C) P.2 pool_D S (fun z hz1 => Nat.le_trans (by rw [cxZ C]; exact Nat.le_add_right _ _) hz1) hx ?_ ?_ ?_ hd ?_
  · intro j hj
    rw [al_fvs hc]
    simp [vp_V, List.getD, List.getElem?_map, List.getElem?_range (show j < cnf c by omega)]
  · show hz h - hz h0 + 1 ≤ hz h' - hz h0
    omega
  · show hs h - hs h0 + x.2.2 ≤ hs h' - hs h0
    omega
  · rw [e2]
    exact al_k (Or.inl (by omega)) (ce_obj (show kd (al h c 0 (cnf c)) (hz h + 4) = c from va_up_self _ _ _) hc) k2 C L P.1 hv
theorem go_newarr {kk0 : Nat} {atype : ArrayType} {ty : FieldType} {n : Int32} {F : Nat → AH → Option (α × AH)} (hd : decode (mb y) pc = .ok (.newarray atype, 2)) (hty : newarray.typeOf atype = ty) (hk0 : 100 ≤ kk0 ∧ kk0 < 103) (ht : (tyO Ω)[kk0 - 100]? = some (oC Ω (kk0 - 100), ty)) (hb8 : componentBytes ty ≤ 8) (hw : Cond.arrayClass ty ∈ lw_tbl) {a0 : vp_A} (ha0 : ∀ cA : ClassId, vp_cell cA a0 = arrV cA n.toNatClampNeg (fun _ => defaultValue ty)) (hce : ce Ω (al h kk0 n.toNatClampNeg n.toNatClampNeg) (hz h + 4) = .inl (oC Ω (kk0 - 100), a0)) (hnm : ∀ (cA cB : ClassId) (U : State), va_RA U cA ty → va_RA U cB ty → cA = cB) (hf : nwA h kk0 n F = some q) (kk : ∀ a h, F a h = some q → Go Ω y (pc + 2) lv (vR Ω (some a) :: st) h r h') : Go Ω y pc lv (.int n :: st) h r h' := by
  unfold nwA at hf
  split at hf
  · rename_i hn
    have k2 := kk _ _ hf
    refine ⟨Le.tr ⟨Nat.le_succ _, Nat.le_add_right _ _⟩ k2.1, fun p e s m args below meth c0 H locs ls h0 C L P S hv => ?_⟩
    have b1 : hz h + 1 ≤ hz h' := k2.1.1
    have b2 : hs h + n.toNatClampNeg ≤ hs h' := k2.1.2
    have L1 := L.1
    have L2 := L.2
    have T1 := cxW C
    refine va_newa (D := oD Ω) (cl := vwCl) (tys := tyO Ω) (ws := pool Ω h) (A := ge Ω) (a0 := a0) C.1 C.2.1 (by rw [hty]; exact T1 _ hw rfl args) hty (cxK C) P.2 pool_D S (fun z hz1 => Nat.le_trans (by rw [cxZ C]; exact Nat.le_add_right _ _) hz1) ha0 (Int32.not_lt.mpr hn.1) rfl ?_ ?_ ?_ hd ?_
    · have := Nat.mul_le_mul hn.2 hb8
      omega
    · show hz h - hz h0 + 1 ≤ hz h' - hz h0
      omega
    · show hs h - hs h0 + n.toNatClampNeg ≤ hs h' - hs h0
      omega
    · intro x cA H1 hK1 hP1 hD1 hS1
      have hlen : (tyO Ω).length = 5 := rfl
      have r1 := (hK1.2 5 (cA, ty) (by rw [List.getElem?_append_right (by rw [hlen]; omega)]; rfl)).2
      have r2 := ((cxK C).2 (kk0 - 100) _ ht).2
      obtain rfl := hnm _ _ _ r1 r2
      exact al_k (Or.inr ⟨by omega, by omega⟩) hce k2 C L P.1 hv x H1 hP1 hD1 hS1
  · cases hf
theorem al_g {c n s1 : Nat} : gI (al h c n s1) (hz h + 4) = (fun _ => 0) ∧ gJ (al h c n s1) (hz h + 4) = (fun _ => 0) ∧ gR (al h c n s1) (hz h + 4) = (fun _ => none) ∧ kd (al h c n s1) (hz h + 4) = c ∧ ln (al h c n s1) (hz h + 4) = n := ⟨rw1_s _ _ _, rw1_s _ _ _, rw1_s _ _ _, va_up_self _ _ _, va_up_self _ _ _⟩
theorem go_newI {n : Int32} {F : Nat → AH → Option (α × AH)} (hd : decode (mb y) pc = .ok (.newarray .int, 2)) (hf : nwA h 100 n F = some q) (kk : ∀ a h, F a h = some q → Go Ω y (pc + 2) lv (vR Ω (some a) :: st) h r h') : Go Ω y pc lv (.int n :: st) h r h' :=
  go_newarr (ty := .int) (a0 := (n.toNatClampNeg, .inl (fun _ => 0))) hd rfl ⟨by omega, by omega⟩ rfl (by decide) (by decide +kernel) (fun cA => rfl) ((ce_I al_g.2.2.2.1).trans (by rw [al_g.1, al_g.2.2.2.2])) (fun cA cB U h1 h2 => Option.some.inj (h1.symm.trans h2)) hf kk
theorem go_newJ {n : Int32} {F : Nat → AH → Option (α × AH)} (hd : decode (mb y) pc = .ok (.newarray .long, 2)) (hf : nwA h 101 n F = some q) (kk : ∀ a h, F a h = some q → Go Ω y (pc + 2) lv (vR Ω (some a) :: st) h r h') : Go Ω y pc lv (.int n :: st) h r h' :=
  go_newarr (ty := .long) (a0 := (n.toNatClampNeg, .inr (.inl (fun _ => 0)))) hd rfl ⟨by omega, by omega⟩ rfl (by decide) (by decide +kernel) (fun cA => rfl) ((ce_J al_g.2.2.2.1).trans (by rw [al_g.2.1, al_g.2.2.2.2])) (fun cA cB U h1 h2 => Option.some.inj (h1.symm.trans h2)) hf kk
theorem go_newZ {n : Int32} {F : Nat → AH → Option (α × AH)} (hd : decode (mb y) pc = .ok (.newarray .boolean, 2)) (hf : nwA h 102 n F = some q) (kk : ∀ a h, F a h = some q → Go Ω y (pc + 2) lv (vR Ω (some a) :: st) h r h') : Go Ω y pc lv (.int n :: st) h r h' :=
  go_newarr (ty := .boolean) (a0 := (n.toNatClampNeg, .inl (fun _ => 0))) hd rfl ⟨by omega, by omega⟩ rfl (by decide) (by decide +kernel) (fun cA => rfl) ((ce_Z al_g.2.2.2.1).trans (by rw [al_g.1, al_g.2.2.2.2])) (fun cA cB U h1 h2 => Option.some.inj (h1.symm.trans h2)) hf kk
theorem go_anew {kk0 idx : Nat} {E : String} {n : Int32} {F : Nat → AH → Option (α × AH)} (hd : decode (mb y) pc = .ok (.anewarray idx, 3)) (hk0 : kk0 = 103 ∨ kk0 = 104) (ht : (tyO Ω)[kk0 - 100]? = some (oC Ω (kk0 - 100), .object E)) (hl : Cond.classLink (my y).cls idx E ∈ lw_tbl) (hw : Cond.arrayOver (.object E) ∈ lw_tbl) (hf : nwA h kk0 n F = some q) (kk : ∀ a h, F a h = some q → Go Ω y (pc + 3) lv (vR Ω (some a) :: st) h r h') : Go Ω y pc lv (.int n :: st) h r h' := by
  unfold nwA at hf
  split at hf
  · rename_i hn
    have k2 := kk _ _ hf
    refine ⟨Le.tr ⟨Nat.le_succ _, Nat.le_add_right _ _⟩ k2.1, fun p e s m args below meth c0 H locs ls h0 C L P S hv => ?_⟩
    have b1 : hz h + 1 ≤ hz h' := k2.1.1
    have b2 : hs h + n.toNatClampNeg ≤ hs h' := k2.1.2
    have L1 := L.1
    have L2 := L.2
    have T1 := cxW C
    refine va_newq (D := oD Ω) (cl := vwCl) (tys := tyO Ω) (ws := pool Ω h) (A := ge Ω) C.1 C.2.1 (cxO C) (T1 _ hl rfl args) (va_AO.of (T1 _ hw rfl args)) (cxK C) P.2 pool_D S (fun z hz1 => Nat.le_trans (by rw [cxZ C]; exact Nat.le_add_right _ _) hz1) (Int32.not_lt.mpr hn.1) rfl (by omega) ?_ ?_ hd ?_
    · show hz h - hz h0 + 1 ≤ hz h' - hz h0
      omega
    · show hs h - hs h0 + n.toNatClampNeg ≤ hs h' - hs h0
      omega
    · intro x cA H1 hK1 hP1 hD1 hS1
      have hlen : (tyO Ω).length = 5 := rfl
      have r1 := (hK1.2 5 (cA, .object E) (by rw [List.getElem?_append_right (by rw [hlen]; omega)]; rfl)).2
      have r2 := ((cxK C).2 (kk0 - 100) _ ht).2
      obtain rfl : cA = oC Ω (kk0 - 100) := by
        obtain ⟨_, _, -, -, -, z1⟩ := r1
        obtain ⟨_, _, -, -, -, z2⟩ := r2
        exact Option.some.inj (z1.symm.trans z2)
      have hce : ce Ω (al h kk0 n.toNatClampNeg n.toNatClampNeg) (hz h + 4) = .inl (oC Ω (kk0 - 100), n.toNatClampNeg, .inr (.inr (.inr (.inr (fun _ => none))))) := by
        rcases hk0 with rfl | rfl
        · exact (ce_O al_g.2.2.2.1).trans (by rw [al_g.2.2.1, al_g.2.2.2.2]; rfl)
        · exact (ce_C al_g.2.2.2.1).trans (by rw [al_g.2.2.1, al_g.2.2.2.2]; rfl)
      exact al_k (Or.inr ⟨by omega, by omega⟩) hce k2 C L P.1 hv x H1 hP1 hD1 hS1
  · cases hf
end New

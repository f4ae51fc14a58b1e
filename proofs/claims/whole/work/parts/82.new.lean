/-! ===== new letters ===== -/
theorem sum_le (n : Int32) : ∀ M : List R_le, (M.filter (qW n)).length + ((M.filter (cH (nI 1))).length + (M.filter (cH (nI 2))).length + (M.filter (cH (nI 3))).length) ≤ M.length := by
  intro M
  induction M with
  | nil => simp
  | cons r M ih =>
    simp only [List.filter_cons]
    have d1 : ∀ c, 1 ≤ c → c ≤ 3 → r.2.2.1 = nI c → qW n r = false := fun c h1 h2 hc => qW_held h1 h2 hc n
    by_cases e1 : r.2.2.1 = nI 1
    · have a1 : cH (nI 1) r = true := by simp [cH, e1]
      have a2 : cH (nI 2) r = false := cH_oth (c := 1) (by decide) (by decide) e1 (by decide)
      have a3 : cH (nI 3) r = false := cH_oth (c := 1) (by decide) (by decide) e1 (by decide)
      simp only [d1 1 (by decide) (by decide) e1, a1, a2, a3]
      simp; omega
    · have b1 : cH (nI 1) r = false := by simp [cH, e1]
      by_cases e2 : r.2.2.1 = nI 2
      · have a1 : cH (nI 2) r = true := by simp [cH, e2]
        have a3 : cH (nI 3) r = false := cH_oth (c := 2) (by decide) (by decide) e2 (by decide)
        simp only [d1 2 (by decide) (by decide) e2, a1, b1, a3]
        simp; omega
      · have b2 : cH (nI 2) r = false := by simp [cH, e2]
        by_cases e3 : r.2.2.1 = nI 3
        · have a1 : cH (nI 3) r = true := by simp [cH, e3]
          simp only [d1 3 (by decide) (by decide) e3, a1, b1, b2]
          simp; omega
        · have b3 : cH (nI 3) r = false := by simp [cH, e3]
          simp only [b1, b2, b3]
          cases qW n r <;> simp <;> omega
theorem sum_z {f : R_qu → Nat} : ∀ {Q : List R_qu}, (∀ x ∈ Q, f x = 0) → (Q.map f).sum = 0 := by
  intro Q
  induction Q with
  | nil => intro _; rfl
  | cons y Q ih => intro H; rw [List.map_cons, List.sum_cons, H y (by simp), ih (fun x hx => H x (by simp [hx]))]
theorem sum_q {Q : List R_qu} {r : R_le} (nd : (Q.map (fun x => x.2.1)).Nodup) (h0 : r.2.2.1 = 0) (ex : ∃ x ∈ Q, x.2.1 = r.2.1) : (Q.map (fun x => if qW x.2.1 r = true then 1 else 0)).sum = 1 := by
  induction Q with
  | nil => obtain ⟨x, hx, -⟩ := ex; simp at hx
  | cons y Q ih =>
    simp only [List.map_cons, List.nodup_cons] at nd
    rw [List.map_cons, List.sum_cons]
    by_cases e : y.2.1 = r.2.1
    · rw [sum_z (fun x hx => ?_), if_pos (by simp [qW, e, h0])]
      rw [if_neg]
      simp only [qW, decide_eq_true_eq]
      exact fun z => nd.1 (List.mem_map.mpr ⟨x, hx, z.1.symm.trans e.symm⟩)
    · rw [if_neg (by simp only [qW, decide_eq_true_eq]; exact fun z => e z.1.symm)]
      rw [ih nd.2 (by
        obtain ⟨x, hx, ex⟩ := ex
        rcases List.mem_cons.mp hx with z | z
        · rw [z] at ex; exact absurd ex e
        · exact ⟨x, z, ex⟩)]
theorem sum_0 {Q : List R_qu} {r : R_le} (h0 : ∀ n, qW n r = false) : (Q.map (fun x => if qW x.2.1 r = true then 1 else 0)).sum = 0 := sum_z (fun x _ => by rw [h0]; rfl)
theorem sum_split {Q : List R_qu} {r : R_le} {M : List R_le} : (Q.map (fun x => ((r :: M).filter (qW x.2.1)).length)).sum = (Q.map (fun x => if qW x.2.1 r = true then 1 else 0)).sum + (Q.map (fun x => (M.filter (qW x.2.1)).length)).sum := by
  induction Q with
  | nil => rfl
  | cons y Q ih =>
    rw [List.map_cons, List.sum_cons, List.map_cons, List.sum_cons, List.map_cons, List.sum_cons, ih]
    have : ((r :: M).filter (qW y.2.1)).length = (if qW y.2.1 r = true then 1 else 0) + (M.filter (qW y.2.1)).length := by
      rw [List.filter_cons]
      split
      · simp; omega
      · simp
    omega
theorem sum_all {Q : List R_qu} (nd : (Q.map (fun x => x.2.1)).Nodup) : ∀ M : List R_le, (∀ r ∈ M, (∃ c, c ≤ 3 ∧ r.2.2.1 = nI c) ∧ (r.2.2.1 = 0 → ∃ x ∈ Q, x.2.1 = r.2.1)) → (Q.map (fun x => (M.filter (qW x.2.1)).length)).sum + ((M.filter (cH (nI 1))).length + (M.filter (cH (nI 2))).length + (M.filter (cH (nI 3))).length) = M.length := by
  intro M
  induction M with
  | nil =>
    intro _
    clear nd
    induction Q with
    | nil => rfl
    | cons _ _ ih => simpa using ih
  | cons r M ih =>
    intro H
    have i := ih (fun y hy => H y (by simp [hy]))
    obtain ⟨⟨c, hc, ec⟩, h0⟩ := H r (by simp)
    rw [sum_split]
    simp only [List.filter_cons, List.length_cons]
    have : c = 0 ∨ c = 1 ∨ c = 2 ∨ c = 3 := by omega
    rcases this with z | z | z | z <;> subst z
    · rw [sum_q nd ec (h0 ec)]
      have a : ∀ c, 1 ≤ c → c ≤ 3 → cH (nI c) r = false := fun c h1 h2 => cH_oth (c := 0) (by decide) h2 ec (by omega)
      simp only [a 1 (by decide) (by decide), a 2 (by decide) (by decide), a 3 (by decide) (by decide)]
      simp; omega
    · rw [sum_0 (fun n => qW_held (by decide) (by decide) ec n)]
      have a0 : cH (nI 1) r = true := by simp [cH, ec]
      simp only [a0, cH_oth (c := 1) (c' := 2) (by decide) (by decide) ec (by decide), cH_oth (c := 1) (c' := 3) (by decide) (by decide) ec (by decide)]
      simp; omega
    · rw [sum_0 (fun n => qW_held (by decide) (by decide) ec n)]
      have a0 : cH (nI 2) r = true := by simp [cH, ec]
      simp only [a0, cH_oth (c := 2) (c' := 1) (by decide) (by decide) ec (by decide), cH_oth (c := 2) (c' := 3) (by decide) (by decide) ec (by decide)]
      simp; omega
    · rw [sum_0 (fun n => qW_held (by decide) (by decide) ec n)]
      have a0 : cH (nI 3) r = true := by simp [cH, ec]
      simp only [a0, cH_oth (c := 3) (c' := 1) (by decide) (by decide) ec (by decide), cH_oth (c := 3) (c' := 2) (by decide) (by decide) ec (by decide)]
      simp; omega
section Nl
variable {h h' : AH} {v v' : MV} {G : GH} {M : List R_le} {hl : Nat → List Nat}
theorem hl_len (C : Cl h v G M hl) {c : Nat} (h1 : 1 ≤ c) (h2 : c ≤ 3) : (hl c).length = (M.filter (cH (nI c))).length := by
  obtain ⟨rs, f, p⟩ := C.2.2.2.1.2.2 c h1 h2
  rw [f.1, p.length_eq]
theorem bd_live (C : Cl h v G M hl) {j q : Nat} {x : R_qu} (k1 : (gQ G)[j]? = some q) (k2 : (quL v)[j]? = some x) (p : Nat → Bool) : (gW G q).length + (hl 1 ++ hl 2 ++ hl 3).countP p ≤ M.length := by
  have a := sum_le x.2.1 M
  have b := (C.2.2.2.1.2.1 j q x k1 k2).1
  have c1 := hl_len C (c := 1) (by decide) (by decide)
  have c2 := hl_len C (c := 2) (by decide) (by decide)
  have c3 := hl_len C (c := 3) (by decide) (by decide)
  have d := List.countP_le_length (p := p) (l := hl 1 ++ hl 2 ++ hl 3)
  simp only [List.length_append] at d
  omega
/-- one letter is put into a queue -/
theorem Cl.new1 {d q j n m : Nat} {x : R_qu} {e k ct : Int64} (C : Cl h v G M hl) (k1 : (gQ G)[j]? = some q) (k2 : (quL v)[j]? = some x) (dr : DrR h d e k n ct) (nd : ((quL v).map (fun r => r.2.1)).Nodup) (e25 : v.1 25 = nI m) (hm : m < 100000) (big : ∀ r ∈ M, r.1 < nI (m + 1)) (hM : M.length < 24) : ∃ h', (∀ {β : Type} (F : AH → Option β), (rdI h 9 9 4 fun x_6 => wrI h 9 9 4 (x_6 + 1) fun h_7 => rdR h_7 9 9 1 fun r_8 => nn r_8 fun a_9 => kg h_7 a_9 0 (bd (f_Jx4a65c_get_915e3 a_9 (nI j) h_7) fun r_12 h_11 => ckc h_11 r_12 11 (nn r_12 fun a_13 => rdR h_11 a_13 11 1 fun r_14 => nwO h_11 8 fun a_15 h_16 => rdR h_16 9 9 1 fun r_17 => nn r_17 fun a_18 => kg h_16 a_18 0 (bd (f_Jx4a65c_get_915e3 a_18 (nI j) h_16) fun r_21 h_20 => ckc h_20 r_21 11 (rdI h_20 9 9 4 fun x_22 => bd (f_X7_init a_15 (some d) r_21 x_22 h_20) fun _ h_24 => nn r_14 fun a_25 => kg h_24 a_25 0 (bd (f_Jx4a65c_add_9ea2d a_25 (some a_15) h_24) fun x_28 h_27 => F h_27)))))) = F h') ∧ Cl h' (mset v 25 (nI (m + 1))) (sW G q (gW G q ++ [hz h + 4])) (M ++ [(nI (m + 1), x.2.1, 0, 0, 0, e, k, nI n, ct)]) hl ∧ Tr h h' [0, 9] 2 ∧ DrR h' d e k n ct := by
  obtain ⟨w, ⟨s0, s1, s2, s3⟩, ls, lt, bd0⟩ := C
  have k9 := s0.k9
  have kq : kd h q = 11 := by
    obtain ⟨r, hr, z⟩ := s2.2.1.ofL (List.mem_of_getElem? k1)
    exact z.1
  obtain ⟨m0, m1, m2, m3⟩ := ls.2.2.2.2.2 q kq
  have hj : j < (gQ G).length := (List.getElem?_eq_some_iff.mp k1).1
  have t9 : kd h (hz h + 4) = 999 := w.1.top
  -- the heap with the new letter, before it is put into the list
  have fa : LF h (sI h 9 4 (gI h 9 4 + 1)) [9] := LF.fI
  have wa : WH (sI h 9 4 (gI h 9 4 + 1)) := w.fI
  have la : LI (sI h 9 4 (gI h 9 4 + 1)) 11 (gQ G) := ls.2.1.fr fa (by simp)
  have fb0 : LF (sI h 9 4 (gI h 9 4 + 1)) (al (sI h 9 4 (gI h 9 4 + 1)) 8 0 (cnf 8)) [] := LF.fA wa.1
  have kt : kd (al (sI h 9 4 (gI h 9 4 + 1)) 8 0 (cnf 8)) (hz h + 4) = 8 := by rw [kd_al, hz_sI, if_pos rfl]
  have lb0 := la.fr fb0 (by simp)
  have n9 : (9 : Nat) ≠ hz h + 4 := fun z => by rw [← z, k9] at t9; exact absurd t9 (by decide)
  have fb : LF (sI h 9 4 (gI h 9 4 + 1)) (sI (sR (sR (al (sI h 9 4 (gI h 9 4 + 1)) 8 0 (cnf 8)) (hz h + 4) 0 (some d)) (hz h + 4) 1 (some q)) (hz h + 4) 2 (nI (m + 1))) [] := ((fb0.nR t9).nR t9).nI t9
  have wb : WH (sI (sR (sR (al (sI h 9 4 (gI h 9 4 + 1)) 8 0 (cnf 8)) (hz h + 4) 0 (some d)) (hz h + 4) 1 (some q)) (hz h + 4) 2 (nI (m + 1))) := (((wa.fA (by omega) (by decide)).fR (by rw [kt]; decide)).fR (by rw [kd_sR, kt]; decide)).fI
  have e94 : gI h 9 4 = nI m := s1.1.trans e25
  generalize hg : sI (sR (sR (al (sI h 9 4 (gI h 9 4 + 1)) 8 0 (cnf 8)) (hz h + 4) 0 (some d)) (hz h + 4) 1 (some q)) (hz h + 4) 2 (nI (m + 1)) = g at *
  have kg8 : kd g (hz h + 4) = 8 := by rw [← hg]; exact kt
  have gI2 : gI g (hz h + 4) 2 = nI (m + 1) := by rw [← hg, gI_sI, if_pos ⟨rfl, rfl⟩]
  have gI3 : gI g (hz h + 4) 3 = 0 := by rw [← hg, gI_sI, if_neg (by simp), gI_sR, gI_sR, gI_al, hz_sI, if_pos rfl]
  have gI4 : gI g (hz h + 4) 4 = 0 := by rw [← hg, gI_sI, if_neg (by simp), gI_sR, gI_sR, gI_al, hz_sI, if_pos rfl]
  have gR0 : gR g (hz h + 4) 0 = some d := by rw [← hg, gR_sI, gR_sR, if_neg (by simp), gR_sR, if_pos ⟨rfl, rfl⟩]
  have gR1 : gR g (hz h + 4) 1 = some q := by rw [← hg, gR_sI, gR_sR, if_pos ⟨rfl, rfl⟩]
  have zg : hz g = hz h + 1 := by rw [← hg]; rfl
  have sg : hs g = hs h + 5 := by rw [← hg]; rfl
  have nqg : NoQ h g := fun q' hq' => by rw [← hg] at hq'; exact noq_al (h := sI h 9 4 (gI h 9 4 + 1)) (c := 8) (n := 0) (s := cnf 8) (by decide) q' hq'
  have fag : LF h g [9] := fa.trW fb (by simp) (by simp)
  have m2g : LI g (q + 1) (gW G q) := m2.fr fag (by simp; omega)
  have bl := bd_live (C := ⟨w, ⟨s0, s1, s2, s3⟩, ls, lt, bd0⟩) k1 k2
  obtain ⟨hb, x1, L, f2, w2, z1, z2, kx⟩ := m2g.add (x := hz h + 4) wb (by have := bl (fun _ => false); omega) (by rw [kg8]; omega)
  have ff : LF h hb [9, q + 1] := fag.trW f2 (by simp) (by simp)
  have n1 : hz h + 4 ≠ q + 1 := fun z => by rw [z, m2.1] at t9; exact absurd t9 (by decide)
  have kpt : Kp g hb (hz h + 4) := f2.kp kg8 (by decide) (by decide) (by simpa using n1)
  have xk : ∀ K : List Nat, 9 ∉ K → 0 ∉ K → XK h [9, q + 1] K := fun K y1 y2 z hz' y => by
    simp at hz'
    rcases hz' with e | e <;> rw [e] at y
    · rw [k9] at y; exact y1 y
    · rw [m2.1] at y; exact y2 y
  have nq : NoQ h hb := fun q' hq' => nqg q' (kx.noq q' hq')
  have drb : DrR hb d e k n ct := dr.fr ff ((xk [5] (by decide) (by decide)).no dr.1 (by simp)) ((xk [101] (by decide) (by decide)).no dr.2.2.2.2.1.1 (by simp))
  have fv : Fr v (mset v 25 (nI (m + 1))) [25] [] := Fr.upd
  have qv : quL (mset v 25 (nI (m + 1))) = quL v := rfl
  have Lnew : LeR hb (gQ G) (quL v) (hz h + 4) (nI (m + 1), x.2.1, 0, 0, 0, e, k, nI n, ct) := by
    refine ⟨kpt.k kg8, by rw [kpt.2.2.1]; exact gI2, by rw [kpt.2.2.1]; exact gI4, by rw [kpt.2.2.1]; exact gI3, ⟨d, n, by rw [kpt.2.2.2.2]; exact gR0, rfl, drb⟩, q, by rw [kpt.2.2.2.2]; exact gR1, ff.kk kq (by decide), fun j' q' x' y1 y2 => ?_⟩
    constructor
    · intro z
      subst z
      have := Nodup.idx s2.2.2.1 y1 k1
      subst this
      rw [k2] at y2; cases y2; rfl
    · intro z
      have z : x'.2.1 = x.2.1 := z
      have := Nodup.idx nd (map_get (f := fun r : R_qu => r.2.1) y2) (by rw [z]; exact map_get (f := fun r : R_qu => r.2.1) k2)
      subst this
      rw [k1] at y1; cases y1; rfl
  have oldR : ∀ a r, LeR h (gQ G) (quL v) a r → LeR hb (gQ G) (quL v) a r := fun a r z => z.fr ff (xk _ (by decide) (by decide))
  have g9 : gI hb 9 = gI (sI h 9 4 (gI h 9 4 + 1)) 9 := by
    rw [(f2.kp (fag.kk k9 (by decide)) (by decide) (by decide) (by simp; omega)).2.2.1, ← hg, gI_sIn n9, gI_sR, gI_sR]
    exact gI_aln (by exact n9)
  have skg : SkF h hb := ((SkF.fI (by decide)).tr (SkF.of (s0.fr (SkF.fI (h := h) (a := 9) (k := 4) (x := gI h 9 4 + 1) (by decide))) fb (by simp))).tr (SkF.of ((s0.fr (SkF.fI (h := h) (a := 9) (k := 4) (x := gI h 9 4 + 1) (by decide))).fr (SkF.of (s0.fr (SkF.fI (h := h) (a := 9) (k := 4) (x := gI h 9 4 + 1) (by decide))) fb (by simp))) f2 (fun a ha z => by
    simp at z
    have := s0.kds ha
    rw [z, m2.1] at this
    omega))
  refine ⟨hb, fun F => ?_, ⟨w2, ⟨s0.fr skg, ?_, ?_, ?_⟩, ?_, ?_, ?_⟩, ⟨ff.kf (by simp [k9, m2.1]), by omega, by omega⟩, drb⟩
  · rw [rdI_e k9, wrI_e k9, rdR_e (by exact k9), show gR (sI h 9 4 (gI h 9 4 + 1)) 9 1 = some 11 from s0.r9 (by decide), nn_s, la.kgg, la.get hj, bd_s, k1, ckc_e (by exact kq), nn_s, rdR_e (by exact kq), show gR (sI h 9 4 (gI h 9 4 + 1)) q 1 = some (q + 1) from m1, nwO_e]
    have k9' : kd (al (sI h 9 4 (gI h 9 4 + 1)) 8 0 (cnf 8)) 9 = 9 := by rw [kd_al, if_neg (by exact n9)]; exact k9
    rw [rdR_e k9', show gR (al (sI h 9 4 (gI h 9 4 + 1)) 8 0 (cnf 8)) 9 1 = some 11 by rw [gR_al, if_neg (by exact n9)]; exact s0.r9 (by decide), nn_s, lb0.kgg, lb0.get hj, bd_s, k1, ckc_e (by exact fb0.kk (by exact kq) (by decide)), rdI_e k9', show gI (al (sI h 9 4 (gI h 9 4 + 1)) 8 0 (cnf 8)) 9 4 = nI (m + 1) by rw [gI_al, if_neg (by exact n9), gI_sI, if_pos ⟨rfl, rfl⟩, e94, nI_1]]
    unfold f_X7_init
    rw [wrR_e (by exact kt), wrR_e (by exact kt), wrI_e (by exact kt), bd_s, nn_s]
    show kg (sI (sR (sR (al (sI h 9 4 (gI h 9 4 + 1)) 8 0 (cnf 8)) (hz h + 4) 0 (some d)) (hz h + 4) 1 (some q)) (hz h + 4) 2 (nI (m + 1))) (q + 1) 0 (bd (f_Jx4a65c_add_9ea2d (q + 1) (some (hz h + 4)) (sI (sR (sR (al (sI h 9 4 (gI h 9 4 + 1)) 8 0 (cnf 8)) (hz h + 4) 0 (some d)) (hz h + 4) 1 (some q)) (hz h + 4) 2 (nI (m + 1)))) fun x_28 h_27 => F h_27) = F hb
    rw [hg, m2g.kgg, x1, bd_s]
  · refine ⟨?_, ?_, fun c h1 h2 => ?_⟩
    · rw [g9, gI_sI, if_pos ⟨rfl, rfl⟩, e94, nI_1, ms_s]
    · rw [g9, gI_sI, if_neg (by simp), ms_n (by decide)]; exact s1.2.1
    · rw [(ff.kp (s0.ch h1 h2).1 (by decide) (by decide) (by simp [chA]; omega)).2.2.1]
      exact s1.2.2 c h1 h2
  · exact s2.fr ff (xk _ (by decide) (by decide))
  · have := (s3.fr ff (xk _ (by decide) (by decide)) (fun c h1 h2 => by rw [(ff.kp (s0.ch h1 h2).1 (by decide) (by decide) (by simp [chA]; omega)).2.2.2.2])).fv fv (fun k _ _ => by simp)
    exact this
  · refine (ls.fr fag (by intro y hy z; simp at hy; rw [hy, k9] at z; simp at z) nqg).w (fag.kk kq (by decide)) f2 kx L (fun a ha => ?_)
    rcases List.mem_append.mp ha with y | y
    · exact ff.kk (m3 a y) (by decide)
    · simp at y; rw [y]; exact kpt.k kg8
  · obtain ⟨t1, t2, t3⟩ := lt
    refine ⟨?_, fun j' q' x' y1 y2 => ?_, fun c h1 h2 => ?_⟩
    · unfold Srt
      rw [List.pairwise_append]
      exact ⟨t1, by simp, fun a ha b hb' => by simp at hb'; rw [hb']; exact big a ha⟩
    · have y1 : (gQ G)[j']? = some q' := y1
      have y2 : (quL v)[j']? = some x' := y2
      show F2 _ (fu (gW G) q (gW G q ++ [hz h + 4]) q') _
      rw [List.filter_append]
      by_cases eq : q' = q
      · subst eq
        have := Nodup.idx s2.2.2.1 y1 k1
        subst this
        rw [k2] at y2
        cases y2
        rw [fu_s, show List.filter (qW x.2.1) [((nI (m + 1), x.2.1, 0, 0, 0, e, k, nI n, ct) : R_le)] = [(nI (m + 1), x.2.1, 0, 0, 0, e, k, nI n, ct)] by simp [qW]]
        exact ((t2 j' q' x k1 k2).imp (fun a b _ _ z => oldR a b z)).snoc Lnew
      · have ne : x.2.1 ≠ x'.2.1 := fun z => eq (by
          have := Nodup.idx nd (map_get (f := fun r : R_qu => r.2.1) y2) (by rw [← z]; exact map_get (f := fun r : R_qu => r.2.1) k2)
          subst this
          rw [k1] at y1; cases y1; rfl)
        rw [fu_n eq, show List.filter (qW x'.2.1) [((nI (m + 1), x.2.1, 0, 0, 0, e, k, nI n, ct) : R_le)] = [] by simp [qW, ne], List.append_nil]
        exact (t2 j' q' x' y1 y2).imp (fun a b _ _ z => oldR a b z)
    · obtain ⟨rs, u1, u2⟩ := t3 c h1 h2
      refine ⟨rs, u1.imp (fun a b _ _ z => oldR a b z), ?_⟩
      rw [List.filter_append, show List.filter (cH (nI c)) [((nI (m + 1), x.2.1, 0, 0, 0, e, k, nI n, ct) : R_le)] = [] by simp [cH, ne0c h1 h2], List.append_nil]
      exact u2
  · intro q' hq'
    have kq' := nq q' hq'
    have ce : (hl 1 ++ hl 2 ++ hl 3).countP (fun a => decide (gR hb a 1 = some q')) = (hl 1 ++ hl 2 ++ hl 3).countP (fun a => decide (gR h a 1 = some q')) := List.countP_congr (fun a ha => by
      have k8 := lt.k8a ha
      rw [(ff.kp k8 (by decide) (by decide) ((xk [8] (by decide) (by decide)).no k8 (by simp))).2.2.2.2])
    rw [ce]
    show (fu (gW G) q (gW G q ++ [hz h + 4]) q').length + _ ≤ 24
    by_cases eq : q' = q
    · subst eq
      rw [fu_s, List.length_append]
      have := bl (fun a => decide (gR h a 1 = some q'))
      simp only [List.length_singleton]
      omega
    · rw [fu_n eq]; exact bd0 q' kq'
/-- the letters that are new, one for each queue that is marked -/
def nws (e k ct : Int64) (sz : Int32) : Nat → List (R_qu × Bool) → List R_le
  | _, [] => []
  | m, (x, true) :: l => (nI (m + 1), x.2.1, 0, 0, 0, e, k, sz, ct) :: nws e k ct sz (m + 1) l
  | m, (_, false) :: l => nws e k ct sz m l
theorem nws_len {e k ct : Int64} {sz : Int32} : ∀ (l : List (R_qu × Bool)) (m : Nat), (nws e k ct sz m l).length = l.countP (fun p => p.2) := by
  intro l
  induction l with
  | nil => intro m; rfl
  | cons p l ih =>
    intro m
    obtain ⟨x, b⟩ := p
    cases b with
    | true => simp [nws, ih]
    | false => simp [nws, ih]
theorem bit_test {bs : List Bool} {i : Nat} {b : Bool} (h5 : bs.length ≤ 5) (e : bs[i]? = some b) : ((nI (bs5 bs) >>> (nI i &&& 31)) &&& 1) = bit b := by
  have hi : i < bs.length := (List.getElem?_eq_some_iff.mp e).1
  have l1 := bs5_lt bs
  have l2 : 2 ^ bs.length ≤ 2 ^ 5 := Nat.pow_le_pow_right (by decide) h5
  rw [bitAt (by omega) (by omega)]
  have := bs5_bit bs i
  rw [e, Option.getD_some, Nat.testBit_eq_decide_div_mod_eq] at this
  cases b with
  | true => simp at this; rw [this]; rfl
  | false => simp at this; rw [show bs5 bs / 2 ^ i % 2 = 0 by omega]; rfl
theorem pi_l {d n : Nat} {bs : List Bool} {e k ct : Int64} {Q : List R_qu} {qs : List Nat} (hQ : Q.length = qs.length) (hb : bs.length = qs.length) (h5 : qs.length ≤ 5) (nd : (Q.map (fun r => r.2.1)).Nodup) : ∀ (c i f m : Nat) (h : AH) (v : MV) (G : GH) (M : List R_le), i + c = qs.length → c < f → Cl h v G M hl → gQ G = qs → quL v = Q → DrR h d e k n ct → v.1 25 = nI m → m + c < 100000 → (∀ r ∈ M, r.1 < nI (m + 1)) → M.length + ((Q.zip bs).drop i).countP (fun p => p.2) ≤ 24 → ∃ h' G', f_X8_putInto_2 f 9 (nI (bs5 bs)) (some d) (nI i) h = some ((), h') ∧ Cl h' (mset v 25 (nI (m + ((Q.zip bs).drop i).countP (fun p => p.2)))) G' (M ++ nws e k ct (nI n) m ((Q.zip bs).drop i)) hl ∧ G'.1 = G.1 ∧ G'.2.2 = G.2.2 ∧ Tr h h' [0, 9] (2 * c) := by
  intro c
  induction c with
  | zero =>
    intro i f m h v G M hi hf C eG eQ dr e25 hm big hM
    obtain ⟨g, rfl⟩ : ∃ g, f = g + 1 := ⟨f - 1, by omega⟩
    have li := C.2.2.1.2.1
    rw [eG] at li
    have z : (Q.zip bs).drop i = [] := List.drop_eq_nil_of_le (by rw [List.length_zip]; omega)
    refine ⟨h, G, ?_, ?_, rfl, rfl, Tr.rf _ _⟩
    · rw [f_X8_putInto_2, szL (C.2.1.1.r9 (by decide)) C.2.1.1.k9 li, if_pos (nI_le (by omega) (by omega))]
    · rw [z]
      show Cl h (mset v 25 (nI m)) G (M ++ []) hl
      rw [List.append_nil, show mset v 25 (nI m) = v from by unfold mset; rw [upd_id e25]]
      exact C
  | succ c ih =>
    intro i f m h v G M hi hf C eG eQ dr e25 hm big hM
    obtain ⟨g, rfl⟩ : ∃ g, f = g + 1 := ⟨f - 1, by omega⟩
    have li := C.2.2.1.2.1
    rw [eG] at li
    have hlt : i < qs.length := by omega
    obtain ⟨q, eq⟩ : ∃ q, qs[i]? = some q := ⟨_, List.getElem?_eq_getElem hlt⟩
    obtain ⟨x, ex⟩ : ∃ x, Q[i]? = some x := ⟨_, List.getElem?_eq_getElem (by omega)⟩
    obtain ⟨b, eb⟩ : ∃ b, bs[i]? = some b := ⟨_, List.getElem?_eq_getElem (by omega)⟩
    have ez : (Q.zip bs)[i]? = some (x, b) := by rw [List.getElem?_zip_eq_some]; exact ⟨ex, eb⟩
    rw [drop_s ez] at hM ⊢
    have n2 : ¬ nI qs.length ≤ nI i := nI_ge (by omega) (by omega)
    cases b with
    | false =>
      rw [List.countP_cons] at hM ⊢
      obtain ⟨h', G', y1, y2, y3, y4, y5⟩ := ih (i + 1) g m h v G M (by omega) (by omega) C eG eQ dr e25 (by omega) big (by simpa using hM)
      refine ⟨h', G', ?_, ?_, y3, y4, y5.mono (by simp) (by omega)⟩
      · rw [f_X8_putInto_2, szL (C.2.1.1.r9 (by decide)) C.2.1.1.k9 li, if_neg n2, bit_test (by omega) eb, if_neg (by decide)]
        unfold f_X8_putInto_81
        rw [nI_1]
        exact y1
      · simpa [nws] using y2
    | true =>
      rw [List.countP_cons] at hM ⊢
      simp only [if_true] at hM ⊢
      obtain ⟨h1, z1, C1, T1, dr1⟩ := C.new1 (j := i) (by rw [eG]; exact eq) (by rw [eQ]; exact ex) dr (by rw [eQ]; exact nd) e25 (by omega) big (by omega)
      obtain ⟨h', G', y1, y2, y3, y4, y5⟩ := ih (i + 1) g (m + 1) h1 (mset v 25 (nI (m + 1))) _ _ (by omega) (by omega) C1 eG eQ dr1 ms_s (by omega) (fun r hr => by
        rcases List.mem_append.mp hr with u | u
        · exact i32_lt_trans (big r u) (nI_lt (by omega) (by omega))
        · simp at u; rw [u]; exact nI_lt (by omega) (by omega)) (by rw [List.length_append, List.length_singleton]; omega)
      refine ⟨h', G', ?_, ?_, y3, y4, (T1.tr (y5.mono (by simp) (Nat.le_refl _))).mono (by simp) (by omega)⟩
      · rw [f_X8_putInto_2, szL (C.2.1.1.r9 (by decide)) C.2.1.1.k9 li, if_neg n2, bit_test (by omega) eb, bit_t, if_pos rfl, z1]
        unfold f_X8_putInto_81
        rw [nI_1]
        exact y1
      · rw [List.append_assoc] at y2
        rw [show m + (List.countP (fun p => p.2) (List.drop (i + 1) (Q.zip bs)) + 1) = m + 1 + List.countP (fun p => p.2) (List.drop (i + 1) (Q.zip bs)) by omega]
        have ms2 : mset (mset v 25 (nI (m + 1))) 25 (nI (m + 1 + List.countP (fun p => p.2) (List.drop (i + 1) (Q.zip bs)))) = mset v 25 (nI (m + 1 + List.countP (fun p => p.2) (List.drop (i + 1) (Q.zip bs)))) := by
          unfold mset
          have : ∀ (f : Nat → Int32) (a b : Int32), upd (upd f 25 a) 25 b = upd f 25 b := fun f a b => by
            funext j; unfold upd; split <;> rfl
          rw [this]
        rw [ms2] at y2
        exact y2
end Nl

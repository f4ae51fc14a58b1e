/-! ===== leaveChannel beside endChannel; the line is shut ===== -/
def lvF : List Nat := [17, 0, 2, 4, 24, 54, 55, 56, 57, 61]
def lvR : List Nat := [35, 39, 40, 47]
def lvA : List Nat := [1, 3, 26, 27, 28, 29, 30, 31, 32, 33, 34, 58, 59, 60, 19, 20, 21, 22, 23, 35, 39, 40, 47]
def OthC (v v' : MV) (c : Nat) : Prop := ∀ j, j ≠ c → v'.2.1 35 j = v.2.1 35 j ∧ v'.2.1 39 j = v.2.1 39 j ∧ v'.2.1 40 j = v.2.1 40 j ∧ v'.2.1 47 j = v.2.1 47 j
def rst (v v' : MV) : MV := (v'.1, (fun k => if k ∈ lvR then v.2.1 k else v'.2.1 k), (fun k => if k ∈ lvR then v.2.2 k else v'.2.2 k))
section Lv
variable {h : AH} {v v' : MV} {G : GH} {M : List R_le} {c t : Nat}
theorem rst_1 {F A : List Nat} (f : Fr v v' F A) : Fr v (rst v v') F (A.filter (fun k => k ∉ lvR)) := by
  refine ⟨f.1, fun k hk => ?_⟩
  show (if k ∈ lvR then v.2.1 k else v'.2.1 k) = _ ∧ (if k ∈ lvR then v.2.2 k else v'.2.2 k) = _
  by_cases z : k ∈ lvR
  · rw [if_pos z, if_pos z]; exact ⟨rfl, rfl⟩
  · rw [if_neg z, if_neg z]
    exact f.2 k (fun y => hk (by simp [y, z]))
theorem rst_2 : Fr (rst v v') v' [] lvR := ⟨fun _ _ => rfl, fun k hk => by
  show _ = (if k ∈ lvR then v.2.1 k else v'.2.1 k) ∧ _ = (if k ∈ lvR then v.2.2 k else v'.2.2 k)
  rw [if_neg hk, if_neg hk]; exact ⟨rfl, rfl⟩⟩
theorem rst_r {k : Nat} (hk : k ∈ lvR) : (rst v v').2.1 k = v.2.1 k := if_pos hk
theorem hl_24 (C : Cl h v G M (gH G)) (h1 : 1 ≤ c) (h2 : c ≤ 3) : (gH G c).length ≤ M.length := by
  obtain ⟨rs, f, p⟩ := C.2.2.2.1.2.2 c h1 h2
  rw [f.1, p.length_eq]
  exact List.length_filter_le _ _
theorem lvC_ok {s : Int32} (C : Cl h v G (leL v) (gH G)) (h24 : cN v 24 ≤ 24) (h1 : 1 ≤ c) (h2 : c ≤ 3) (fv : Fr v v' lvF lvA) (eC : coL v' = (coL v).filter (fun r => !decide (r.2.1 = nI c))) (oth : OthC v v' c) (e35 : v'.2.1 35 c = s) (e39 : v'.2.1 39 c = 0) (e40 : v'.2.1 40 c = 0) (e47 : v'.2.1 47 c = 0) : ∃ h' G', f_X11_leaveChannel 4 (some (chA c)) s h = some ((), h') ∧ Cl h' v' G' ((leL v).flatMap (gAB (quL v) (nI c))) (gH G') ∧ Tr h h' [0, 2, 8] 24 := by
  have s0 := C.2.1.1
  have o := C.2.1.2.2.1
  obtain ⟨o1, o2, o3, o4, o5, o6⟩ := o
  have ls := C.2.2.1
  obtain ⟨ha, l', x1, L, Fc, s1, f1, w1, kx, z1, z2, sub⟩ := rcn_ok h1 h2 s0 C.1 ls.2.2.2.1 o6
  have fw : Fr v (rst v v') lvF [1, 3, 26, 27, 28, 29, 30, 31, 32, 33, 34, 58, 59, 60, 19, 20, 21, 22, 23] := rst_1 fv
  have cw : coL (rst v v') = (coL v).filter (fun r => !decide (r.2.1 = nI c)) := by
    rw [← eC]
    exact (coL_fr rst_2 (by decide) (by decide) (by decide) (by decide) (by decide) (by decide)).symm
  have qw : quL (rst v v') = quL v := quL_fr fw (by decide) (by decide) (by decide) (by decide)
  have C1 : Cl ha (rst v v') (sC G l') (leL v) (gH (sC G l')) := by
    refine C.ob f1 (by simp [ls.2.2.2.1.1]) w1 kx fw (by decide) (by decide) rfl rfl (ls.c f1 kx L) ?_
    obtain ⟨p1, p2, p3, p4, p5, p6⟩ := (C.2.1.2.2.1).fr f1 (XK.l ls.2.2.2.1.1 (by decide))
    unfold Ob
    rw [qw, cw, exL_fr fw (by decide) (by decide) (by decide), biL_fr fw (by decide) (by decide) (by decide) (by decide)]
    exact ⟨p1, p2, p3, p4, p5, Fc⟩
  obtain ⟨hb, G2, y1, C2, -, -, y4⟩ := ga_ok h1 h2 C1
  rw [qw] at C2
  obtain ⟨hc, u1, C3, u3⟩ := leave_ok (v' := v') (s := s) C2 h1 h2 rst_2 (by simp) (fun k hk => .inr hk) (fun j hj => by
    rw [rst_r (by decide), rst_r (by decide), rst_r (by decide), rst_r (by decide)]
    exact oth j hj) e35 e39 e40 e47
  have hlen : (gH (sC G l') c).length ≤ 24 := by
    have := hl_24 C h1 h2
    rw [leL_len] at this
    show (gH G c).length ≤ 24
    omega
  refine ⟨hc, sK G2 c [], ?_, C3, ?_⟩
  · have k4 := s0.1
    have r2 := s0.2.2.2.1
    unfold f_X11_leaveChannel
    rw [rdR_e k4, r2, nn_s, kg_e s0.k9, x1, bd_s, nn_s, kg_e (s1.ch h1 h2).1, y1, bd_s, kg_e (C2.2.1.1.ch h1 h2).1, u1, bd_s]
  · have T1 : Tr h ha [0, 2, 8] 0 := ⟨f1.kf (by simp [ls.2.2.2.1.1]), by omega, by omega⟩
    exact ((T1.tr (y4.mono (L := [0, 2, 8]) (by simp) hlen)).tr (u3.mono (by simp) (Nat.le_refl _))).mono (by simp) (by omega)
theorem VI.co {w : MV} (V : VI v t) (i : CoI v w) (sub : (coL w).Sublist (coL v)) : VI w t := by
  obtain ⟨⟨a1, a2, a3, a4, a5, a6, a7, a8, a9, a10, a11, a12⟩, ⟨n, b1, b2, b3, b4, b5, m, b6, b7, b8⟩, ⟨c1, c2, c3, c4, c5, c6, c7⟩, d, e0, e⟩ := V
  obtain ⟨f1, f2, f3⟩ := i
  have q : quL w = quL v := quL_fr f1 (by decide) (by decide) (by decide) (by decide)
  have x : exL w = exL v := exL_fr f1 (by decide) (by decide) (by decide)
  have l : leL w = leL v := leL_fr f1 (by decide) (by decide) (by decide) (by decide) (by decide) (by decide) (by decide) (by decide) (by decide) (by decide)
  refine ⟨⟨(a1.fr f1 (by decide)).1, (a2.fr f1 (by decide)).1, (a3.fr f1 (by decide)).1, f2, (a5.fr f1 (by decide)).1, ?_⟩, ⟨n, ?_, b2, ?_, ?_, ?_, m, ?_, b7, ?_⟩, ⟨f3, c2.fr f1 (by decide), c3.fr f1 (by decide), c4.fr f1 (by decide), c5.fr f1 (by decide), c6.fr f1 (by decide), c7.fr f1 (by decide)⟩, ?_, ?_, ?_⟩
  · rw [q, x]; exact ⟨a6, a7, a8, a9, a10, a11, (sub.map _).nodup a12⟩
  · rw [f1.1 9 (by decide)]; exact b1
  · rw [q]; exact b3
  · exact fun r hr => b4 r (sub.subset hr)
  · rw [l]; exact b5
  · rw [f1.1 25 (by decide)]; exact b6
  · rw [l]; exact b8
  · unfold ViM; rw [q, l]; exact d
  · rw [(f1.2 35 (by decide)).1]; exact e0
  · intro c h1 h2
    rw [(f1.2 35 (by decide)).1, (f1.2 36 (by decide)).1, (f1.2 38 (by decide)).1, (f1.2 39 (by decide)).1, (f1.2 40 (by decide)).1, (f1.2 47 (by decide)).1, l]
    obtain ⟨g1, g2, g3, g4, g5⟩ := e c h1 h2
    refine ⟨g1, g2, g3, g4, fun hs => ?_⟩
    obtain ⟨k1, k2, k3, k4, k5⟩ := g5 hs
    exact ⟨k1, k2, k3, fun r hr => k4 r (sub.subset hr), k5⟩
theorem VI.rows {w : MV} {s : Nat} (V : VI w t) (f1 : Fr w v' [] lvR) (h1 : 1 ≤ c) (oth : OthC w v' c) (e35 : v'.2.1 35 c = nI s) (hs : s ≤ 2) (e39 : v'.2.1 39 c = 0) (e40 : v'.2.1 40 c = 0) (e47 : v'.2.1 47 c = 0) (nc : ∀ r ∈ coL w, r.2.1 ≠ nI c) (nl : ∀ r ∈ leL w, r.2.2.1 ≠ nI c) : VI v' t := by
  obtain ⟨⟨a1, a2, a3, a4, a5, a6⟩, ⟨n, b1, b2, b3, b4, b5, m, b6, b7, b8⟩, ⟨c1, c2, c3, c4, c5, c6, c7⟩, d, e0, e⟩ := V
  have q : quL v' = quL w := quL_fr f1 (by decide) (by decide) (by decide) (by decide)
  have x : exL v' = exL w := exL_fr f1 (by decide) (by decide) (by decide)
  have l : leL v' = leL w := leL_fr f1 (by decide) (by decide) (by decide) (by decide) (by decide) (by decide) (by decide) (by decide) (by decide) (by decide)
  have co : coL v' = coL w := coL_fr f1 (by decide) (by decide) (by decide) (by decide) (by decide) (by decide)
  refine ⟨⟨(a1.fr f1 (by decide)).1, (a2.fr f1 (by decide)).1, (a3.fr f1 (by decide)).1, (a4.fr f1 (by decide)).1, (a5.fr f1 (by decide)).1, ?_⟩, ⟨n, ?_, b2, ?_, ?_, ?_, m, ?_, b7, ?_⟩, ⟨c1.fr f1 (by decide), c2.fr f1 (by decide), c3.fr f1 (by decide), ?_, c5.fr f1 (by decide), c6.fr f1 (by decide), c7.fr f1 (by decide)⟩, ?_, ?_, ?_⟩
  · rw [q, x, co]; exact a6
  · rw [f1.1 9 (by decide)]; exact b1
  · rw [q]; exact b3
  · rw [co]; exact b4
  · rw [l]; exact b5
  · rw [f1.1 25 (by decide)]; exact b6
  · rw [l]; exact b8
  · intro j
    by_cases z : j = c
    · rw [z, e39]; exact .inl rfl
    · rw [(oth j z).2.1]; exact c4 j
  · unfold ViM; rw [q, l]; exact d
  · rw [(oth 0 (by omega)).1]; exact e0
  · intro c' k1 k2
    rw [(f1.2 36 (by decide)).1, (f1.2 38 (by decide)).1, l, co]
    obtain ⟨g1, g2, g3, g4, g5⟩ := e c' k1 k2
    by_cases z : c' = c
    · subst z
      exact ⟨⟨s, hs, e35⟩, g2, g3, ⟨0, by omega, e47⟩, fun _ => ⟨e39, e47, e40, nc, nl⟩⟩
    · obtain ⟨o1, o2, o3, o4⟩ := oth c' z
      rw [o1, o2, o3, o4]
      exact ⟨g1, g2, g3, g4, g5⟩
/-- the reference's endChannel -/
theorem enM_ok {s : Nat} (V : VI v t) (h1 : 1 ≤ c) (h2 : c ≤ 3) (hs : s ≤ 2) : ∃ v', m_endChannel (nI c) (nI s) v = some ((), v') ∧ Fr v v' [17, 24] [26, 27, 28, 29, 30, 31, 32, 33, 34, 19, 20, 21, 22, 23, 35, 39, 40, 47] ∧ coL v' = (coL v).filter (fun r => !decide (r.2.1 = nI c)) ∧ leL v' = (leL v).flatMap (gAB (quL v) (nI c)) ∧ OthC v v' c ∧ v'.2.1 35 c = nI s ∧ v'.2.1 39 c = 0 ∧ v'.2.1 40 c = 0 ∧ v'.2.1 47 c = 0 ∧ VI v' t := by
  have V0 := V
  obtain ⟨⟨a1, a2, a3, a4, a5, a6⟩, -, ⟨c1, c2, c3, c4, c5, c6, c7⟩, -, -⟩ := V0
  have f0 : Fr v (mseA v 35 c (nI s)) [] [35] := Fr.updA
  obtain ⟨v2, x1, x2, x3⟩ := ec_ok (v := mseA v 35 c (nI s)) (nI c) a4 (c1.fr f0 (by decide))
  have f2 : Fr v v2 [17] [19, 20, 21, 22, 23, 35] := (f0.tr x3.1).mono (by simp) (by simp)
  have a82 := (a2.fr f2 (by decide)).1
  have a242 := (a5.fr f2 (by decide)).1
  have q2 : quL v2 = quL v := quL_fr f2 (by decide) (by decide) (by decide) (by decide)
  have l2 : leL v2 = leL v := leL_fr f2 (by decide) (by decide) (by decide) (by decide) (by decide) (by decide) (by decide) (by decide) (by decide) (by decide)
  have co2 : coL v2 = (coL v).filter (fun r => !decide (r.2.1 = nI c)) := by
    rw [x2, coL_fr f0 (by decide) (by decide) (by decide) (by decide) (by decide) (by decide)]
  obtain ⟨v3, y1, y2, y3⟩ := ab_ok (v := v2) (nI c) a82 a242 (c2.fr f2 (by decide))
  have f3 : Fr v v3 [17, 24] [26, 27, 28, 29, 30, 31, 32, 33, 34, 19, 20, 21, 22, 23, 35] := (f2.tr y3.1).mono (by decide) (by decide)
  have r35 : v3.2.1 35 = upd (v.2.1 35) c (nI s) := by
    rw [(y3.1.2 35 (by decide)).1, (x3.1.2 35 (by decide)).1]
    show rw1 v.2.1 35 (upd (v.2.1 35) c (nI s)) 35 = _
    exact rw1_s _ _ _
  have co3 : coL v3 = (coL v).filter (fun r => !decide (r.2.1 = nI c)) := by rw [coL_le y3, co2]
  rw [q2, l2] at y2
  have fin : ∀ v4, v4 = mseA (mseA (mseA v3 39 c 0) 47 c 0) 40 c 0 → Fr v3 v4 [] [39, 47, 40] ∧ v4.2.1 39 c = 0 ∧ v4.2.1 40 c = 0 ∧ v4.2.1 47 c = 0 ∧ ∀ j, j ≠ c → v4.2.1 39 j = v3.2.1 39 j ∧ v4.2.1 40 j = v3.2.1 40 j ∧ v4.2.1 47 j = v3.2.1 47 j := by
    intro v4 e4
    subst e4
    refine ⟨((Fr.updA.tr Fr.updA).tr Fr.updA).mono (by simp) (by simp), ?_, ?_, ?_, fun j hj => ⟨?_, ?_, ?_⟩⟩
    · rw [mA_k (by decide), mA_k (by decide), mA_s]
    · rw [mA_s]
    · rw [mA_k (by decide), mA_s]
    · rw [mA_k (by decide), mA_k (by decide), mA_n hj]
    · rw [mA_n hj, mA_k (by decide), mA_k (by decide)]
    · rw [mA_k (by decide), mA_n hj, mA_k (by decide)]
  obtain ⟨f4, e39, e40, e47, eo⟩ := fin _ rfl
  generalize hv4 : mseA (mseA (mseA v3 39 c 0) 47 c 0) 40 c 0 = v4 at *
  have fA : Fr v v4 [17, 24] [26, 27, 28, 29, 30, 31, 32, 33, 34, 19, 20, 21, 22, 23, 35, 39, 40, 47] := (f3.tr f4).mono (by decide) (by decide)
  have e35 : v4.2.1 35 = upd (v.2.1 35) c (nI s) := by rw [(f4.2 35 (by decide)).1, r35]
  have oth : OthC v v4 c := fun j hj => by
    obtain ⟨o1, o2, o3⟩ := eo j hj
    rw [e35, o1, o2, o3, (f3.2 39 (by decide)).1, (f3.2 40 (by decide)).1, (f3.2 47 (by decide)).1]
    exact ⟨pk_un hj, rfl, rfl, rfl⟩
  have l4 : leL v4 = (leL v).flatMap (gAB (quL v) (nI c)) := by
    rw [leL_fr f4 (by decide) (by decide) (by decide) (by decide) (by decide) (by decide) (by decide) (by decide) (by decide) (by decide), y2]
  have c4' : coL v4 = (coL v).filter (fun r => !decide (r.2.1 = nI c)) := by
    rw [coL_fr f4 (by decide) (by decide) (by decide) (by decide) (by decide) (by decide), co3]
  refine ⟨v4, ?_, fA, c4', l4, oth, by rw [e35]; exact pk_us, e39, e40, e47, ?_⟩
  · unfold m_endChannel
    rw [msI_e (show c < 4 by omega) (by decide), ltd, x1]
    unfold m_endChannel_39
    rw [y1, bdm_s, show (0 : Int32) = bit false from rfl, msZ_e (k := 39) (show c < 4 by omega) (by decide), msI_e (show c < 4 by omega) (by decide), msI_e (show c < 4 by omega) (by decide), ← hv4]
    rfl
  · have wA : VI (rst v v2) t := by
      have g : CoI v (rst v v2) := ⟨(rst_1 f2).mono (by simp) (by decide), by
        have := x3.2.1
        exact this, x3.2.2.fr (v := v2) (v' := rst v v2) (F := []) (A := lvR) ⟨fun _ _ => rfl, fun k hk => ⟨((rst_2 (v := v) (v' := v2)).2 k hk).1.symm, ((rst_2 (v := v) (v' := v2)).2 k hk).2.symm⟩⟩ (by decide)⟩
      refine V.co g ?_
      rw [← coL_fr (rst_2 (v := v) (v' := v2)) (by decide) (by decide) (by decide) (by decide) (by decide) (by decide), co2]
      exact List.filter_sublist
    have lA : leL (rst v v2) = leL v := by
      rw [← leL_fr (rst_2 (v := v) (v' := v2)) (by decide) (by decide) (by decide) (by decide) (by decide) (by decide) (by decide) (by decide) (by decide) (by decide), l2]
    have qA : quL (rst v v2) = quL v := by
      rw [← quL_fr (rst_2 (v := v) (v' := v2)) (by decide) (by decide) (by decide) (by decide), q2]
    have lB : leL (rst v v3) = (leL v).flatMap (gAB (quL v) (nI c)) := by
      rw [← leL_fr (rst_2 (v := v) (v' := v3)) (by decide) (by decide) (by decide) (by decide) (by decide) (by decide) (by decide) (by decide) (by decide) (by decide), y2]
    have cB : coL (rst v v3) = (coL v).filter (fun r => !decide (r.2.1 = nI c)) := by
      rw [← coL_fr (rst_2 (v := v) (v' := v3)) (by decide) (by decide) (by decide) (by decide) (by decide) (by decide), co3]
    have rAB : ReF (rst v v2) (rst v v3) := by
      refine ⟨⟨y3.1.1, fun k hk => ?_⟩, y3.2.1, y3.2.2.fr (v := v3) (v' := rst v v3) (F := []) (A := lvR) ⟨fun _ _ => rfl, fun k hk => ⟨((rst_2 (v := v) (v' := v3)).2 k hk).1.symm, ((rst_2 (v := v) (v' := v3)).2 k hk).2.symm⟩⟩ (by decide)⟩
      show (if k ∈ lvR then v.2.1 k else v3.2.1 k) = (if k ∈ lvR then v.2.1 k else v2.2.1 k) ∧ (if k ∈ lvR then v.2.2 k else v3.2.2 k) = (if k ∈ lvR then v.2.2 k else v2.2.2 k)
      obtain ⟨g1, g2⟩ := y3.1.2 k hk
      rw [g1, g2]
      exact ⟨rfl, rfl⟩
    have wB : VI (rst v v3) t := by
      refine wA.le rAB (fm_ok (g := gAB (quL v) (nI c)) (by rw [lB, lA]) (fun r r' hr => ?_))
      rw [qA]
      exact gAB_m hr
    have fB : Fr (rst v v3) v4 [] lvR := ((rst_2 (v := v) (v' := v3)).tr f4).mono (by decide) (by decide)
    refine wB.rows fB h1 (fun j hj => ?_) (by rw [e35]; exact pk_us) hs e39 e40 e47 ?_ ?_
    · rw [rst_r (by decide), rst_r (by decide), rst_r (by decide), rst_r (by decide)]
      exact oth j hj
    · rw [cB]
      intro r hr
      have := (List.mem_filter.mp hr).2
      simpa using this
    · rw [lB]
      intro r' hr' z
      obtain ⟨r, g1, g2⟩ := List.mem_flatMap.mp hr'
      unfold gAB at g2
      split at g2
      · rw [bk_0 g2] at z; exact ne0c h1 h2 z
      · rename_i y; simp at g2; rw [g2] at z; exact y z
end Lv

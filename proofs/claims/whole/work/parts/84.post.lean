/-! ===== a letter is posted ===== -/
def r47 (g w : MV) : MV := (w.1, (fun k => if k = 47 then g.2.1 47 else w.2.1 k), (fun k => if k = 47 then g.2.2 47 else w.2.2 k))
section Po
variable {h h' : AH} {g w w' : MV} {G : GH} {t c : Nat} {F A : List Nat}
theorem r47_w : Fr (r47 g w) w [] [47] := ⟨fun _ _ => rfl, fun k hk => by
  simp at hk
  show _ = (if k = 47 then _ else _) ∧ _ = (if k = 47 then _ else _)
  rw [if_neg hk, if_neg hk]; exact ⟨rfl, rfl⟩⟩
theorem r47_fr (K : Fr g w [] [47]) (f : Fr w w' F A) : Fr g (r47 g w') F A := ⟨fun k hk => (f.1 k hk).trans (K.1 k (by simp)), fun k hk => by
  show (if k = 47 then _ else _) = _ ∧ (if k = 47 then _ else _) = _
  by_cases z : k = 47
  · subst z; rw [if_pos rfl, if_pos rfl]; exact ⟨rfl, rfl⟩
  · rw [if_neg z, if_neg z]
    exact ⟨(f.2 k hk).1.trans (K.2 k (by simpa using z)).1, (f.2 k hk).2.trans (K.2 k (by simpa using z)).2⟩⟩
theorem r47_47 : (r47 g w).2.1 47 = g.2.1 47 := by
  show (if (47 : Nat) = 47 then g.2.1 47 else w.2.1 47) = g.2.1 47
  exact if_pos rfl
theorem r47_k (K : K47 c g w) (f : Fr w w' F A) (hA : 47 ∉ A) : K47 c (r47 g w') w' := ⟨r47_w, fun j hj => by
  rw [r47_47, (f.2 47 hA).1]
  exact K.2.1 j hj, by
  rw [(f.2 47 hA).1]
  exact K.2.2⟩
theorem Ci.sk {X : List Nat} (c : Ci h h' X) (s : Sk h) (hX : ∀ a ∈ skc, a ∉ X) : Sk h' := s.fr (SkF.of s c.lf hX)
theorem Al.ve (a : Al h g G t) (f : Fr g w [] [58, 59, 60]) (b : Bo w 60) : Al h w G t := by
  have C := a.1.vv f (by simp) (by decide)
  rw [← leL_fr f (by decide) (by decide) (by decide) (by decide) (by decide) (by decide) (by decide) (by decide) (by decide) (by decide)] at C
  exact (a.mk C (a.2.1.f3 ⟨f, b⟩) (KF.rf h []) (by decide) f (by decide) (by decide)).1
theorem zip_cnt {bs : List Bool} : ∀ {Q : List R_qu}, Q.length = bs.length → (Q.zip bs).countP (fun p => p.2) = bs.countP id := by
  induction bs with
  | nil => intro Q _; cases Q <;> rfl
  | cons b bs ih =>
    intro Q hQ
    cases Q with
    | nil => simp at hQ
    | cons x Q =>
      rw [List.zip_cons_cons, List.countP_cons, List.countP_cons, ih (by simpa using hQ)]
      rfl
theorem bs5_0 : ∀ bs : List Bool, bs5 bs = 0 ↔ bs.countP id = 0 := by
  intro bs
  induction bs with
  | nil => simp [bs5]
  | cons b bs ih =>
    cases b with
    | false =>
      have e1 : bs5 (false :: bs) = 2 * bs5 bs := by simp [bs5]
      have e2 : (false :: bs).countP id = bs.countP id := List.countP_cons_of_neg (by simp)
      rw [e1, e2, ← ih]
      omega
    | true => simp [bs5]
theorem ws_sum {v : MV} {M : List R_le} {hl : Nat → List Nat} (C : Cl h v G M hl) : ((gQ G).map (fun q => (gW G q).length)).sum = ((quL v).map (fun x => (M.filter (qW x.2.1)).length)).sum := by
  have hlen := C.2.1.2.2.1.2.1.1
  congr 1
  apply List.ext_getElem?
  intro i
  by_cases z : i < (gQ G).length
  · obtain ⟨q, eq⟩ : ∃ q, (gQ G)[i]? = some q := ⟨_, List.getElem?_eq_getElem z⟩
    obtain ⟨x, ex⟩ : ∃ x, (quL v)[i]? = some x := ⟨_, List.getElem?_eq_getElem (by omega)⟩
    rw [map_get (f := fun q => (gW G q).length) eq, map_get (f := fun x : R_qu => (M.filter (qW x.2.1)).length) ex, (C.2.2.2.1.2.1 i q x eq ex).1]
  · rw [List.getElem?_eq_none (by rw [List.length_map]; omega), List.getElem?_eq_none (by rw [List.length_map]; omega)]
theorem q5 (a : Al h g G t) : (gQ G).length ≤ 5 := by
  have := a.1.2.1.2.2.1.2.1.1
  rw [quL_len] at this
  have := a.2.1.1.2.1.2
  omega
theorem all_ok (a : Al h g G t) : f_X11_lettersInAll 4 h = some (nI (leL g).length, h) := by
  have s := a.1.2.1.1
  have ls := a.1.2.2.1
  have o := a.1.2.1.2.2.1
  have q5 := q5 a
  have hw : ∀ q ∈ gQ G, kd h q = 11 ∧ gR h q 1 = some (q + 1) ∧ LI h (q + 1) (gW G q) := fun q hq => by
    obtain ⟨r, -, z⟩ := o.2.1.ofL hq
    obtain ⟨-, m1, m2, -⟩ := ls.2.2.2.2.2 q z.1
    exact ⟨z.1, m1, m2⟩
  have S := sumL (gW G) s ls.2.1 hw (gQ G).length 0 FU 0 (by omega) (by unfold FU; omega)
  have l1 := (ls.2.2.2.2.1 1 (by decide) (by decide)).1
  have l2 := (ls.2.2.2.2.1 2 (by decide) (by decide)).1
  have l3 := (ls.2.2.2.2.1 3 (by decide) (by decide)).1
  have c1 := s.ch (c := 1) (by decide) (by decide)
  have c2 := s.ch (c := 2) (by decide) (by decide)
  have c3 := s.ch (c := 3) (by decide) (by decide)
  have e1 := hl_len a.1 (c := 1) (by decide) (by decide)
  have e2 := hl_len a.1 (c := 2) (by decide) (by decide)
  have e3 := hl_len a.1 (c := 3) (by decide) (by decide)
  have tot := sum_all (Q := quL g) a.2.1.1.2.2.2.2.2.2.2.2.2.1 (leL g) a.2.1.2.2.2.1
  have wsu := ws_sum a.1
  unfold f_X11_lettersInAll
  rw [ofE a]
  unfold f_X8_lettersThatWait
  rw [show (0 : Int32) = nI 0 from rfl] at S ⊢
  rw [S, bd_s, show FU = 9996 + 1 + 1 + 1 + 1 from rfl, List.drop_zero, nI_add]
  rw [f_X11_lettersInAll_10, if_neg (by decide), s.arr (i := 0) (by decide), nn_s, szL c1.2.1 c1.1 l1, ltd, nI_add]
  rw [f_X11_lettersInAll_10, if_neg (by decide), show (nI 0 + 1 : Int32) = nI 1 from rfl, s.arr (i := 1) (by decide), nn_s, szL c2.2.1 c2.1 l2, ltd, nI_add]
  rw [f_X11_lettersInAll_10, if_neg (by decide), show (nI 1 + 1 : Int32) = nI 2 from rfl, s.arr (i := 2) (by decide), nn_s, szL c3.2.1 c3.1 l3, ltd, nI_add]
  rw [f_X11_lettersInAll_10, if_pos (by decide)]
  congr 3
  omega
theorem rt_j {d n : Nat} {e k ct : Int64} (s : Sk h) (o : OR h w) (h1 : 1 ≤ c) (h2 : c ≤ 3) (dr : DrR h d e k n ct) (hl : (outL w).length + 41 ≤ 2400) : ∃ h' w', f_X11_sendReturned 4 (some (chA c)) (some d) h = some ((), h') ∧ (∀ {β : Type} (F : Unit → MV → Option β), (bdm (m_method (nI c) 60 50 w) fun _ v_1 => bdm (m_putShort 312 v_1) fun _ v_2 => bdm (m_putName e v_2) fun _ v_3 => bdm (m_putName k v_3) fun _ v_4 => bdm (m_finish v_4) fun _ v_5 => bdm (m_putLetter (nI c) (nI n) ct v_5) F) = F () w') ∧ OR h' w' ∧ (outL w').length ≤ (outL w).length + 41 ∧ Ci h h' [7, 8] ∧ Fr w w' [4, 61] [3] := by
  obtain ⟨d1, d2, d3, d4, d5, d6, d7, d8, d9, d10, d11⟩ := dr
  have nl : ∀ x : Int64, (nmO x).length ≤ 9 := nmO_le
  have nd78 : d ∉ [7, 8] := by
    intro z
    have := o.kk
    simp at z
    rcases z with e' | e' <;> subst e' <;> omega
  obtain ⟨ha, va, x1, x2, x3, x4, x5⟩ := beg_j o (c := nI c) (m := 15410) (a := 60) (b := 50) (nI_255 h2) (by decide) (by decide) (by omega)
  obtain ⟨hb, vb, y1, y2, y3, y4, y5⟩ := short_j x3 (t := 312) (by decide) (by simp; omega)
  obtain ⟨hc, vc, z1, z2, z3, z4, z5⟩ := name_j y3 (x := e) d10.pos (by simp [shO]; omega)
  obtain ⟨hd, vd, u1, u2, u3, u4, u5⟩ := name_j z3 (x := k) d11.pos (by have := nl e; simp [shO]; omega)
  obtain ⟨he, ve, q1, q2, q3, q4, q5, q6⟩ := fin_j u3 (by have := nl e; have := nl k; simp [shO]; omega)
  have c4 := (((x4.tr y4).tr z4).tr u4).tr q5
  have len : (outL ve).length + 15 ≤ 2400 := by rw [q4]; have := nl e; have := nl k; simp [shO]; omega
  obtain ⟨hf, vf, p1, p2, p3, p4, p5, p6⟩ := content_j q3 (d := d) (n := n) (c := nI c) (x := ct) (by rw [c4.k]; exact d1) (by rw [c4.I nd78]; exact d6) d9 (by rw [c4.2.2.2.2.1]; exact d8) (nI_255 h2) len
  have sa := x4.sk s (by decide)
  have sb := y4.sk sa (by decide)
  have sc := z4.sk sb (by decide)
  have sd := u4.sk sc (by decide)
  have se := q5.sk sd (by decide)
  have kb : kd hb d = 5 := by rw [y4.k, x4.k]; exact d1
  have jb : gJ hb d 0 = e := by rw [y4.2.2.2.2.1, x4.2.2.2.2.1]; exact d2
  have kc : kd hc d = 5 := by rw [z4.k]; exact kb
  have jc : gJ hc d 1 = k := by rw [z4.2.2.2.2.1, y4.2.2.2.2.1, x4.2.2.2.2.1]; exact d3
  refine ⟨hf, vf, ?_, fun F => ?_, p3, ?_, c4.tr p5, (q6.tr p6).mono (by decide) (by decide)⟩
  · unfold f_X11_sendReturned
    rw [rdR_e s.1, s.2.2.1, nn_s, rdI_e (s.ch h1 h2).1, (s.ch h1 h2).2.2.2, nn_s, kg_e o.kk.1, x1, bd_s, ouE' sa x3.k7, show (312 : Int32) = nI 312 from rfl, y1, bd_s, rdR_e sb.1, sb.2.2.1, nn_s, rdJ_e kb, jb, nn_s, kg_e y3.k7, z1, bd_s, rdR_e sc.1, sc.2.2.1, rdJ_e kc, jc, nn_s, kg_e z3.k7, u1, bd_s, ouE' sd u3.k7, q1, bd_s, teE' se q3.kk.1 h1 h2, p1, bd_s]
  · rw [x2, bdm_s, show (312 : Int32) = nI 312 from rfl, y2, bdm_s, z2, bdm_s, u2, bdm_s, q2, bdm_s, p2, bdm_s]
  · have := nl e; have := nl k
    rw [q4] at p4
    simp [shO] at p4
    omega
theorem Cl.to {v v' : MV} {M : List R_le} {hl : Nat → List Nat} {m : Nat} (C : Cl h (mset v 25 (nI m)) G M hl) (f : Fr v v' F A) (hF : ∀ k ∈ F, k ∈ okF ∨ k = 25) (hA : ∀ k ∈ A, k ∈ okA) (e : v'.1 25 = nI m) : Cl h v' G M hl := by
  refine C.vv (F := okF) (A := okA) ⟨fun k hk => ?_, fun k hk => f.2 k (fun z => hk (hA k z))⟩ (fun k hk => hk) (fun k hk => hk)
  by_cases z : k = 25
  · subst z; rw [e, ms_s]
  · rw [ms_n z]
    exact f.1 k (fun y => by
      rcases hF k y with q | q
      · exact hk q
      · exact z q)
theorem post_ok {d n : Nat} {e k ct : Int64} {b : Bool} (a : Al h g G t) (K : K47 c g w) (h1 : 1 ≤ c) (h2 : c ≤ 3) (dr : DrR h d e k n ct) (db : gI h d 2 = bit b) (st : g.2.1 35 c = 1) (hl : (outL g).length + 41 ≤ 2400) (ht : t < 65536) : (∃ g' w', f_X11_post 4 (some (chA c)) (some d) h = some (506, h) ∧ m_route (nI c) e k (bit b) (nI n) ct w = (bdm (m_soft (nI c) 506 w') fun _ v_1 => rz 0 (some (0, v_1))) ∧ Al h g' G t ∧ K47 c g' w' ∧ Gr h g h g' 0 0 ∧ Fr w w' [] [58, 59, 60] ∧ Fr g g' [] [58, 59, 60]) ∨ (∃ h' g' w' G', f_X11_post 4 (some (chA c)) (some d) h = some (0, h') ∧ m_route (nI c) e k (bit b) (nI n) ct w = some (1, w') ∧ Al h' g' G' (t + 5) ∧ K47 c g' w' ∧ Gr h g h' g' 10 41 ∧ Fr w w' [24, 25, 4, 61] (lrw ++ [58, 59, 60, 3]) ∧ Fr g g' [24, 25, 4, 61] (lrw ++ [58, 59, 60, 3]) ∧ gK G' = gK G ∧ g' = r47 g w') := by
  have V := a.2.1
  have o := a.1.2.1.2.2.1
  have s := a.1.2.1.1
  have ls := a.1.2.2.1
  have fK := K.1
  have kx : exL w = exL g := exL_fr fK (by decide) (by decide) (by decide)
  have kq : quL w = quL g := quL_fr fK (by decide) (by decide) (by decide) (by decide)
  have kb : biL w = biL g := biL_fr fK (by decide) (by decide) (by decide) (by decide)
  have kl : leL w = leL g := leL_fr fK (by decide) (by decide) (by decide) (by decide) (by decide) (by decide) (by decide) (by decide) (by decide) (by decide)
  have nk : NmO k := dr.2.2.2.2.2.2.2.2.2.2
  have nb : ∀ r ∈ biL g, NmO r.2.2 := fun r hr => by
    obtain ⟨x, -, z⟩ := o.2.2.2.2.1.ofR hr
    exact z.2.2.2.2.1
  have bx : ∀ r ∈ biL g, ∃ y ∈ exL g, y.1 = r.2.1 := fun r hr => by
    obtain ⟨x, -, z⟩ := o.2.2.2.2.1.ofR hr
    obtain ⟨i, e, y, -, y2, -, y4⟩ := z.2.2.2.2.2.2
    exact ⟨y, List.mem_of_getElem? y2, y4⟩
  have VW : VI w t := V.k47 (fK.mono (by simp) (by simp)) K.2.1 K.2.2 (.inl st) (V.2.2.1.2.2.2.2.2.1.fr fK (by decide))
  obtain ⟨w1, c1, f3⟩ := cntM_l (v0 := w) (e := e) (k := k) (c := nI c) (m := bit b) (sz := nI n) (ct := ct) VW.1.2.2.1 VW.1.2.1 VW.1.1 nk (by rw [kb]; exact nb) (by rw [kb, kx]; exact bx) VW.1.2.2.2.2.2.1 VW.1.2.2.2.2.2.2.1 (fun r hr => (VW.1.2.2.2.2.2.2.2.1 r hr).2) (cN w 8) 0 FU 0 w (by omega) (by have := VW.1.2.1.2; unfold FU; omega) (F3.rf VW.2.2.1.2.2.2.2.2.2)
  rw [List.drop_zero, Nat.zero_add, kx, kb, kq] at c1
  have rr : m_route (nI c) e k (bit b) (nI n) ct w = m_route_51 (nI c) e k (bit b) (nI n) ct (fiR 0 ((exL g).findIdx? (fun r => decide (r.1 = e)))) (nI ((rcL (exL g) (biL g) (quL g) e k).countP id)) w1 := by
    unfold m_route
    rw [exchangeOf_ok VW.1.1, bdm_s, kx]
    exact c1
  have q5' := q5 a
  have ql := o.2.1.1
  have rl : (rcL (exL g) (biL g) (quL g) e k).length = (gQ G).length := by rw [rcL_len, ql]
  have dk : DrK h d e k := ⟨dr.1, dr.2.1, dr.2.2.1, dr.2.2.2.1, dr.2.2.2.2.1, dr.2.2.2.2.2.2.2.2.2.1, nk⟩
  have pl : f_X8_placesReachedBy 9 (some d) h = some (nI (bs5 (rcL (exL g) (biL g) (quL g) e k)), h) := plC_l a.1.1.1 s ls.2.1 ls.2.2.1 o.2.2.2.2.1 o.1 o.2.1 o.2.2.1 V.1.2.2.2.2.2.2.2.2.1 V.1.2.2.2.2.2.2.1 q5' dk (gQ G).length 0 FU (by omega) (by unfold FU; omega)
  have bc := bc_ok (l := rcL (exL g) (biL g) (quL g) e k) (by omega)
  have zc := zip_cnt (Q := quL g) (bs := rcL (exL g) (biL g) (quL g) e k) (by rw [rl, ql])
  have b0 := bs5_0 (rcL (exL g) (biL g) (quL g) e k)
  generalize hbs : rcL (exL g) (biL g) (quL g) e k = bs at *
  have fw1 : Fr g w1 [] [47, 58, 59, 60] := (fK.tr f3.1).mono (by simp) (by simp)
  have l1 : leL w1 = leL g := leL_fr fw1 (by decide) (by decide) (by decide) (by decide) (by decide) (by decide) (by decide) (by decide) (by decide) (by decide)
  have c24 := V.1.2.2.2.2.1
  have e24 : w1.1 24 = nI (leL g).length := by rw [fw1.1 24 (by simp), c24.1, leL_len]
  have cls : f_X11_post 4 (some (chA c)) (some d) h = (if nI (bs.countP id + (leL g).length) ≤ 24 then (if nI (bs5 bs) = 0 then (if bit b = 0 then f_X11_post_44 4 (some d) (nI (bs5 bs)) h else bd (f_X11_sendReturned 4 (some (chA c)) (some d) h) fun _ h_15 => f_X11_post_44 4 (some d) (nI (bs5 bs)) h_15) else f_X11_post_44 4 (some d) (nI (bs5 bs)) h) else some (506, h)) := by
    unfold f_X11_post
    rw [ofE a, pl, bd_s, bc_e, bd_s, bc, kg_e s.1, all_ok a, bd_s, nI_add, nn_s, rdI_e dr.1, db, kg_e s.1]
  have l5 := bs5_lt bs
  have l52 : 2 ^ bs.length ≤ 2 ^ 5 := Nat.pow_le_pow_right (by decide) (by omega)
  have cle : bs.countP id ≤ bs.length := List.countP_le_length
  have mle : (leL g).length ≤ 24 := by rw [leL_len]; exact c24.2
  by_cases fit : bs.countP id + (leL g).length ≤ 24
  · right
    obtain ⟨-, -, -, -, -, -, m, m1, m2, m3⟩ := V.2.1
    have V1 : VI w1 t := VW.f3 f3
    obtain ⟨w2, p1, p2, p3, p4, p5⟩ := r76_l (E := exL g) (B := biL g) (Q := quL g) (e := e) (k := k) (ct := ct) (c := nI c) (mu := bit b) (sz := nI n) (nn := nI (bs.countP id)) nk nb bx (quL g).length 0 FU m t w1 (by omega) (by unfold FU; omega) (exL_fr fw1 (by decide) (by decide) (by decide)) (biL_fr fw1 (by decide) (by decide) (by decide) (by decide)) (quL_fr fw1 (by decide) (by decide) (by decide) (by decide)) V1 (by omega) ((fw1.1 25 (by simp)).trans m1) (by rw [hbs, List.drop_zero, zc, l1]; omega)
    rw [hbs, List.drop_zero] at p2 p5
    rw [zc] at p5
    rw [l1] at p2
    have p4 : VI w2 (t + 5) := p4.mono (by omega)
    have ref : m_route (nI c) e k (bit b) (nI n) ct w = m_route_226 (nI c) e k (bit b) (nI n) ct (nI (bs.countP id)) w2 := by
      rw [rr]
      unfold m_route_51
      rw [e24, nI_add, if_pos (show nI ((leL g).length + bs.countP id) ≤ 24 from nI_le (b := 24) (by omega) (by decide))]
      exact p1
    have fw2 : Fr w w2 [24, 25] (lrw ++ [58, 59, 60]) := (f3.1.tr p3).mono (by decide) (by decide)
    have fg2 : Fr g (r47 g w2) [24, 25] (lrw ++ [58, 59, 60]) := r47_fr fK fw2
    have lg2 : leL (r47 g w2) = leL w2 := (leL_fr (r47_w (g := g) (w := w2)) (by decide) (by decide) (by decide) (by decide) (by decide) (by decide) (by decide) (by decide) (by decide) (by decide)).symm
    have Vg2 : VI (r47 g w2) (t + 5) := p4.k47 (c := c) (Fr.mono (F := []) (A := [47]) ⟨fun _ _ => rfl, fun k hk => ⟨((r47_w (g := g) (w := w2)).2 k hk).1.symm, ((r47_w (g := g) (w := w2)).2 k hk).2.symm⟩⟩ (by simp) (by simp)) (fun j hj => by rw [r47_47, (fw2.2 47 (by decide)).1]; exact (K.2.1 j hj).symm) (by rw [r47_47]; exact (V.2.2.2.2.2 c h1 h2).2.2.2.1) (.inl (by rw [(fw2.2 35 (by decide)).1, (fK.2 35 (by decide)).1]; exact st)) ((p4.2.2.1.2.2.2.2.2.1).fr (v := w2) (v' := r47 g w2) (F := []) (A := [47]) ⟨fun _ _ => rfl, fun k hk => ⟨((r47_w (g := g) (w := w2)).2 k hk).1.symm, ((r47_w (g := g) (w := w2)).2 k hk).2.symm⟩⟩ (by decide))
    have big : ∀ r ∈ leL g, r.1 < nI (m + 1) := fun r hr => by
      obtain ⟨j, j1, j2⟩ := m3 r hr
      rw [j2]; exact nI_lt (by omega) (by omega)
    have nd := V.1.2.2.2.2.2.2.2.2.2.1
    rw [cls, if_pos (show nI (bs.countP id + (leL g).length) ≤ 24 from nI_le (b := 24) fit (by decide)), ref]
    have direct : ∀ X, X = f_X11_post_44 4 (some d) (nI (bs5 bs)) h → (m_route_226 (nI c) e k (bit b) (nI n) ct (nI (bs.countP id)) w2 = some (1, w2)) → ∃ h' g' w' G', X = some (0, h') ∧ m_route_226 (nI c) e k (bit b) (nI n) ct (nI (bs.countP id)) w2 = some (1, w') ∧ Al h' g' G' (t + 5) ∧ K47 c g' w' ∧ Gr h g h' g' 10 41 ∧ Fr w w' [24, 25, 4, 61] (lrw ++ [58, 59, 60, 3]) ∧ Fr g g' [24, 25, 4, 61] (lrw ++ [58, 59, 60, 3]) ∧ gK G' = gK G ∧ g' = r47 g w' := by
      intro X hX e226
      obtain ⟨hb, Gb, y1, y2, y3, y4, y5⟩ := pi_l (d := d) (n := n) (bs := bs) (e := e) (k := k) (ct := ct) (Q := quL g) (qs := gQ G) ql.symm rl q5' nd (gQ G).length 0 FU m h g G (leL g) (by omega) (by unfold FU; omega) a.1 rfl rfl dr m1 (by omega) big (by rw [List.drop_zero, zc]; omega)
      rw [List.drop_zero, zc] at y2
      have eH : gH Gb = gH G := by unfold gH; rw [y4]
      have C2 := y2.to fg2 (by decide) (by decide) p5
      rw [← p2, ← lg2, ← eH] at C2
      obtain ⟨A, i2, i3, i4, i5⟩ := a.mk C2 Vg2 y5.1 (by decide) fg2 (by decide) (by decide)
      refine ⟨hb, r47 g w2, w2, Gb, ?_, e226, A, r47_k K fw2 (by decide), (y5.gr i2 (Nat.le_of_eq (KP_fr fg2 (by decide))) i3 i4 i5).mono (by omega) (by omega), fw2.mono (by decide) (by decide), fg2.mono (by decide) (by decide), by unfold gK; rw [y4], rfl⟩
      rw [hX]
      unfold f_X11_post_44
      rw [ofE a]
      unfold f_X8_putInto
      rw [show (0 : Int32) = nI 0 from rfl, y1, bd_s]
    by_cases z0 : bs.countP id = 0
    · have z5 := b0.mpr z0
      rw [if_pos (by rw [z5]; rfl)]
      cases b with
      | false =>
        rw [bit_f, if_pos rfl]
        rw [bit_f] at direct
        refine direct _ rfl ?_
        unfold m_route_226
        rw [if_pos (by rw [z0]; rfl), if_pos rfl, rz_1]
      | true =>
        rw [bit_t, if_neg (by decide)]
        have nz0 : nws e k ct (nI n) m ((quL g).zip bs) = [] := List.eq_nil_of_length_eq_zero (by rw [nws_len, zc]; exact z0)
        rw [nz0, List.append_nil] at p2
        rw [z0, Nat.add_zero] at p5
        have mid : mset g 25 (nI m) = g := by unfold mset; rw [upd_id m1]
        have CA : Cl h (r47 g w2) G (leL (r47 g w2)) (gH G) := by
          rw [lg2, p2]
          refine Cl.to (v := g) (m := m) ?_ fg2 (by decide) (by decide) p5
          rw [mid]; exact a.1
        obtain ⟨A, i2, i3, i4, i5⟩ := a.mk CA Vg2 (KF.rf h []) (by decide) fg2 (by decide) (by decide)
        have ow2 : OR h w2 := a.2.2.2.1.fr (LF.rf h []) (((fK.tr fw2).mono (G := [24, 25]) (B := [47] ++ (lrw ++ [58, 59, 60])) (by simp) (by simp))) (by simp) (by simp) (by decide) (by decide)
        have eo2 : outL w2 = outL g := outL_fr ((fK.tr fw2).mono (G := [24, 25]) (B := [47] ++ (lrw ++ [58, 59, 60])) (by simp) (by simp)) (by decide) (by decide)
        obtain ⟨hb, w3, u1, u2, u3, u4, u5, u6⟩ := rt_j s ow2 h1 h2 dr (by rw [eo2]; exact hl)
        have fB : Fr (r47 g w2) (r47 g w3) [4, 61] [3] := ⟨u6.1, fun k hk => by
          show (if k = 47 then _ else _) = (if k = 47 then _ else _) ∧ (if k = 47 then _ else _) = (if k = 47 then _ else _)
          rw [(u6.2 k hk).1, (u6.2 k hk).2]; exact ⟨rfl, rfl⟩⟩
        have oB : OR hb (r47 g w3) := u3.fr (LF.rf hb []) (F := []) (A := [47]) ⟨fun _ _ => rfl, fun k hk => ⟨((r47_w (g := g) (w := w3)).2 k hk).1.symm, ((r47_w (g := g) (w := w3)).2 k hk).2.symm⟩⟩ (by simp) (by simp) (by simp) (by simp)
        have B := A.ou oB u5 fB
        have gA := (Tr.rf h []).gr i2 (Nat.le_of_eq (KP_fr fg2 (by decide))) i3 i4 i5
        have eoB : outL (r47 g w3) = outL w3 := (outL_fr (r47_w (g := g) (w := w3)) (by simp) (by simp)).symm
        have gB := ou_gr (o := 41) u5 fB (by rw [eoB, i3, ← eo2]; exact u4)
        have drb : DrR hb d e k n ct := by
          have kk := a.2.2.2.1.kk
          refine dr.fr u5.lf ?_ ?_
          · intro z; have := dr.1; simp at z; rcases z with y | y <;> rw [y] at this <;> omega
          · intro z
            have := dr.2.2.2.2.1.1
            rcases List.mem_cons.mp z with y | y
            · rw [y] at this; omega
            · rw [List.mem_singleton.mp y] at this; omega
        have qB : quL (r47 g w3) = quL g := quL_fr ((fg2.tr fB).mono (G := [24, 25, 4, 61]) (B := (lrw ++ [58, 59, 60]) ++ [3]) (by simp) (by simp)) (by decide) (by decide) (by decide) (by decide)
        have lB : leL (r47 g w3) = leL g := by
          rw [leL_fr fB (by decide) (by decide) (by decide) (by decide) (by decide) (by decide) (by decide) (by decide) (by decide) (by decide), lg2, p2]
        have e25B : (r47 g w3).1 25 = nI m := (u6.1 25 (by decide)).trans p5
        obtain ⟨hd, Gd, y1, y2, y3, y4, y5⟩ := pi_l (d := d) (n := n) (bs := bs) (e := e) (k := k) (ct := ct) (Q := quL g) (qs := gQ G) ql.symm rl q5' nd (gQ G).length 0 FU m hb (r47 g w3) G (leL (r47 g w3)) (by omega) (by unfold FU; omega) B.1 rfl qB drb e25B (by omega) (by rw [lB]; exact big) (by rw [List.drop_zero, zc, lB]; omega)
        rw [List.drop_zero, zc, z0, Nat.add_zero, nz0, List.append_nil, show mset (r47 g w3) 25 (nI m) = r47 g w3 from by unfold mset; rw [upd_id e25B]] at y2
        have eH : gH Gd = gH G := by unfold gH; rw [y4]
        rw [← eH] at y2
        obtain ⟨D, j2, j3, j4, j5⟩ := B.mk y2 B.2.1 y5.1 (by decide) (Fr.rf _) (by simp) (by simp)
        refine ⟨hd, r47 g w3, w3, Gd, ?_, ?_, D, r47_k K (fw2.tr u6) (by decide), (((gA.tr gB).tr (y5.gr j2 (Nat.le_refl _) j3 j4 j5))).mono (by omega) (by omega), (fw2.tr u6).mono (by decide) (by decide), (fg2.tr fB).mono (by decide) (by decide), by unfold gK; rw [y4], rfl⟩
        · rw [u1, bd_s]
          unfold f_X11_post_44
          rw [ofE B]
          unfold f_X8_putInto
          rw [show (0 : Int32) = nI 0 from rfl, y1, bd_s]
        · unfold m_route_226
          rw [if_pos (by rw [z0]; rfl), if_neg (by decide), u2, rz_1]
    · have z5 : ¬ bs5 bs = 0 := fun y => z0 (b0.mp y)
      rw [if_neg (show ¬ nI (bs5 bs) = (0 : Int32) from fun y => z5 ((nI_eq (b := 0) (by omega) (by omega)).mp y))]
      refine direct _ rfl ?_
      unfold m_route_226
      rw [if_neg (show ¬ nI (bs.countP id) = (0 : Int32) from fun y => z0 ((nI_eq (b := 0) (by omega) (by omega)).mp y)), rz_1]
  · left
    have fg1 : Fr g (r47 g w1) [] [58, 59, 60] := r47_fr fK f3.1
    have A : Al h (r47 g w1) G t := a.ve fg1 (f3.2.fr (v := w1) (v' := r47 g w1) (F := []) (A := [47]) ⟨fun _ _ => rfl, fun k hk => ⟨((r47_w (g := g) (w := w1)).2 k hk).1.symm, ((r47_w (g := g) (w := w1)).2 k hk).2.symm⟩⟩ (by decide))
    refine ⟨r47 g w1, w1, ?_, ?_, A, r47_k K f3.1 (by decide), (Tr.rf h []).gr (IK.rf h) (Nat.le_of_eq (KP_fr fg1 (by decide))) (outL_fr fg1 (by decide) (by decide)) (fg1.1 2 (by simp)) (fg1.1 0 (by simp)), f3.1, fg1⟩
    · rw [cls, if_neg (show ¬ nI (bs.countP id + (leL g).length) ≤ 24 from nI_ge (b := bs.countP id + (leL g).length) (a := 24) (by omega) (by omega))]
    · rw [rr]
      unfold m_route_51
      rw [e24, nI_add, if_neg (show ¬ nI ((leL g).length + bs.countP id) ≤ 24 from nI_ge (b := (leL g).length + bs.countP id) (a := 24) (by omega) (by omega))]
end Po

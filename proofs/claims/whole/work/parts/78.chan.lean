/-! ===== what a handler does: the class's answer beside the reference's ===== -/
def Gr (h : AH) (v : MV) (h' : AH) (v' : MV) (n o : Nat) : Prop := IK h h' ∧ hz h' + 24 * KP v' ≤ hz h + 24 * KP v + n ∧ hs h' + 2400 * KP v' ≤ hs h + 2400 * KP v + 100 * n ∧ (outL v').length ≤ (outL v).length + o ∧ v'.1 2 = v.1 2 ∧ v'.1 0 = v.1 0
theorem Gr.tr {h h1 h2 : AH} {v v1 v2 : MV} {n m o p : Nat} (a : Gr h v h1 v1 n o) (b : Gr h1 v1 h2 v2 m p) : Gr h v h2 v2 (n + m) (o + p) := by
  obtain ⟨a1, a2, a3, a4, a5, a6⟩ := a
  obtain ⟨b1, b2, b3, b4, b5, b6⟩ := b
  exact ⟨a1.tr b1, by omega, by omega, by omega, b5.trans a5, b6.trans a6⟩
theorem Gr.mono {h h1 : AH} {v v1 : MV} {n m o p : Nat} (a : Gr h v h1 v1 n o) (hn : n ≤ m) (ho : o ≤ p) : Gr h v h1 v1 m p := by
  obtain ⟨a1, a2, a3, a4, a5, a6⟩ := a
  exact ⟨a1, by omega, by omega, by omega, a5, a6⟩
theorem Gr.rf (h : AH) (v : MV) : Gr h v h v 0 0 := ⟨IK.rf h, by omega, by omega, by omega, rfl, rfl⟩
theorem Rd.gr {h h' : AH} {v v' : MV} (r : Rd h v h' v') : Gr h v h' v' 0 0 := by
  refine ⟨r.ik, ?_, ?_, ?_, r.2.1.1 2 (by decide), r.2.1.1 0 (by decide)⟩
  · rw [r.1.1, KP_fr r.2.1 (by decide)]; omega
  · rw [r.1.2.1, KP_fr r.2.1 (by decide)]; omega
  · rw [outL_fr r.2.1 (by decide) (by decide)]; omega
theorem ou_gr {h h' : AH} {v v' : MV} {o : Nat} (c : Ci h h' [7, 8]) (f : Fr v v' [4, 61] [3]) (ho : (outL v').length ≤ (outL v).length + o) : Gr h v h' v' 0 o := by
  refine ⟨c.ik (by decide) (by decide), ?_, ?_, ho, f.1 2 (by decide), f.1 0 (by decide)⟩
  · rw [c.1, KP_fr f (by decide)]; omega
  · rw [c.2.1, KP_fr f (by decide)]; omega
theorem Tr.gr {h h' : AH} {v v' : MV} {K : List Nat} {n : Nat} (T : Tr h h' K n) (i : IK h h') (k : KP v' ≤ KP v) (eo : outL v' = outL v) (e2 : v'.1 2 = v.1 2) (e0 : v'.1 0 = v.1 0) : Gr h v h' v' n 0 := by
  obtain ⟨-, t2, t3⟩ := T
  exact ⟨i, by omega, by omega, by rw [eo]; omega, e2, e0⟩
/-- the reference's state may lack what the class still keeps for channel c -/
def K47 (c : Nat) (v w : MV) : Prop := Fr v w [] [47] ∧ (∀ j, j ≠ c → w.2.1 47 j = v.2.1 47 j) ∧ ∃ k, k ≤ 12 ∧ w.2.1 47 c = nI k
def HC (t : Nat) (h : AH) (v : MV) (c : Nat) (F : Option (Int32 × AH)) (m : Option (Unit × MV)) : Prop := ∃ e h' v' G', F = some (nI e, h') ∧ Al h' v' G' (t + 100) ∧ Gr h v h' v' 40 (if e = 0 then 500 else 492) ∧ ((e = 0 ∧ m = some ((), v')) ∨ (e ∈ [403, 404, 406, 506, 530] ∧ ∃ w, K47 c v' w ∧ (v'.2.1 35 c = 1 ∨ w = v') ∧ m = m_soft (nI c) (nI e) w) ∨ (e ∈ [501, 503, 505] ∧ m = m_hard (nI e) v'))
theorem bdm_id {X : Option (Unit × MV)} : (bdm X fun _ v => some ((), v)) = X := by
  cases X with
  | none => rfl
  | some p => rfl
section Hc
variable {t : Nat} {h h1 : AH} {v v1 : MV} {c : Nat} {G : GH} {F : Option (Int32 × AH)} {m : Option (Unit × MV)}
theorem HC.rd (r : Rd h v h1 v1) (H : HC t h1 v1 c F m) : HC t h v c F m := by
  obtain ⟨e, h', v', G', x1, x2, x3, x4⟩ := H
  exact ⟨e, h', v', G', x1, x2, (r.gr.tr x3).mono (by omega) (by omega), x4⟩
theorem K47.rf (a : Al h v G t) (h1 : 1 ≤ c) (h2 : c ≤ 3) : K47 c v v := ⟨(Fr.rf v).mono (by simp) (by simp), fun _ _ => rfl, (a.2.1.2.2.2.2.2 c h1 h2).2.2.2.1⟩
theorem HC.soft {e : Nat} (a : Al h v G t) (h1 : 1 ≤ c) (h2 : c ≤ 3) (he : e ∈ [403, 404, 406, 506, 530]) : HC t h v c (some (nI e, h)) (m_soft (nI c) (nI e) v) := ⟨e, h, v, G, rfl, a.mono (by omega), (Gr.rf h v).mono (by omega) (by split <;> omega), .inr (.inl ⟨he, v, K47.rf a h1 h2, .inr rfl, rfl⟩)⟩
theorem HC.hard {e : Nat} (a : Al h v G t) (he : e ∈ [501, 503, 505]) : HC t h v c (some (nI e, h)) (m_hard (nI e) v) := ⟨e, h, v, G, rfl, a.mono (by omega), (Gr.rf h v).mono (by omega) (by split <;> omega), .inr (.inr ⟨he, rfl⟩)⟩
theorem nI_255 {c : Nat} (h2 : c ≤ 3) : nI c &&& 255 = nI c := by
  have : c = 0 ∨ c = 1 ∨ c = 2 ∨ c = 3 := by omega
  rcases this with e | e | e | e <;> subst e <;> decide
theorem HC.say {h0 : AH} {v0 : MV} {n o : Nat} {a b x : Int32} (g : Gr h0 v0 h v n o) (hn : n ≤ 40) (ho : o ≤ 494) (A : Al h v G (t + 100)) (h2 : c ≤ 3) (hm : x >>> ((8 : Int32) &&& 31) = a &&& 255) (hm2 : x &&& 255 = b &&& 255) (hl : (outL v0).length < 500) : HC t h0 v0 c (bd (f_X9_tell 7 (nI c) x h) fun _ h' => some (0, h')) (bdm (m_say (nI c) a b v) fun _ v' => some ((), v')) := by
  have := g.2.2.2.1
  obtain ⟨h', v', x1, x2, x3, x4, x5, x6⟩ := say_j A.2.2.2.1 (nI_255 h2) hm hm2 (by omega)
  exact ⟨0, h', v', G, by rw [x1, bd_s]; rfl, A.ou x3 x5 x6, (g.tr (ou_gr (o := 6) x5 x6 (by omega))).mono (by omega) (by split <;> omega), .inl ⟨rfl, by rw [x2, bdm_s]⟩⟩
/-! reading the object's own fields -/
theorem inE (a : Al h v G t) {β : Type} {X : Nat → Option β} : (rdR h 4 12 0 fun r => nn r fun a => kg h a 7 (X a)) = X 5 := by
  rw [rdR_e a.1.2.1.1.1, a.1.2.1.1.2.1, nn_s, kg_e a.2.2.2.2.1]
theorem ofE (a : Al h v G t) {β : Type} {X : Nat → Option β} : (rdR h 4 12 2 fun r => nn r fun a => kg h a 9 (X a)) = X 9 := by
  rw [rdR_e a.1.2.1.1.1, a.1.2.1.1.2.2.2.1, nn_s, kg_e a.1.2.1.1.k9]
theorem ouE (a : Al h v G t) {β : Type} {X : Nat → Option β} : (rdR h 4 12 1 fun r => nn r fun a => kg h a 10 (X a)) = X 7 := by
  rw [rdR_e a.1.2.1.1.1, a.1.2.1.1.2.2.1, nn_s, kg_e a.2.2.2.1.kk.1]
theorem ouE' (s : Sk h) (k7 : kd h 7 = 10) {β : Type} {X : Nat → Option β} : (rdR h 4 12 1 fun r => nn r fun a => kg h a 10 (X a)) = X 7 := by
  rw [rdR_e s.1, s.2.2.1, nn_s, kg_e k7]
theorem teE (a : Al h v G t) (h1 : 1 ≤ c) (h2 : c ≤ 3) {β : Type} {X : Int32 → Nat → Option β} : (rdR h 4 12 1 fun r => rdI h (chA c) 2 0 fun x => nn r fun a => kg h a 10 (X x a)) = X (nI c) 7 := by
  rw [rdR_e a.1.2.1.1.1, a.1.2.1.1.2.2.1, rdI_e (a.1.2.1.1.ch h1 h2).1, nn_s, kg_e a.2.2.2.1.kk.1, (a.1.2.1.1.ch h1 h2).2.2.2]
theorem teE' (s : Sk h) (k7 : kd h 7 = 10) (h1 : 1 ≤ c) (h2 : c ≤ 3) {β : Type} {X : Int32 → Nat → Option β} : (rdR h 4 12 1 fun r => rdI h (chA c) 2 0 fun x => nn r fun a => kg h a 10 (X x a)) = X (nI c) 7 := by
  rw [rdR_e s.1, s.2.2.1, rdI_e (s.ch h1 h2).1, nn_s, kg_e k7, (s.ch h1 h2).2.2.2]
theorem teN (a : Al h v G t) (h1 : 1 ≤ c) (h2 : c ≤ 3) {β : Type} {X : Int32 → Nat → Option β} : (rdR h 4 12 1 fun r => nn (some (chA c)) fun b => rdI h b 2 0 fun x => nn r fun a => kg h a 10 (X x a)) = X (nI c) 7 := teE a h1 h2
theorem nI_byte {b : Nat} (h : b < 256) : nI b &&& 255 = nI b := by rw [pk_andN (by omega) 8 (by decide), Nat.mod_eq_of_lt (by omega)]
/-- the state a handler begins with -/
def Pre (t : Nat) (h : AH) (v : MV) (c : Nat) (G : GH) (w : Bool) : Prop := Al h v G t ∧ IRR h v w ∧ v.1 54 = nI c ∧ 1 ≤ c ∧ c ≤ 3 ∧ (outL v).length < 500 ∧ t + 100 < 65536
theorem Pre.rd {w w' : Bool} (p : Pre t h v c G w) (r : Rd h v h1 v1) (i : IRR h1 v1 w') : Pre t h1 v1 c G w' := ⟨p.1.rd r, i, by rw [r.2.1.1 54 (by decide)]; exact p.2.2.1, p.2.2.2.1, p.2.2.2.2.1, by rw [outL_fr r.2.1 (by decide) (by decide)]; exact p.2.2.2.2.2.1, p.2.2.2.2.2.2⟩
/-- after reading: the payload is just read, or the line is shut -/
theorem just_hc {w : Bool} {X : AH → Option (Int32 × AH)} {Y : MV → Option (Unit × MV)} (p : Pre t h v c G w) (H : w = false → HC t h v c (X h) (Y v)) : HC t h v c (bd (f_X6_isJustRead 5 h) fun x h' => if x = 0 then some (501, h') else X h') (bdm (m_isJust v) fun x v' => if x = 0 then some ((), v') else Y v') := by
  obtain ⟨g, x1, x2, x3⟩ := just_ok p.2.1
  cases g with
  | true =>
    obtain ⟨y1, y2⟩ := x2 rfl
    have := H y1
    rw [x1, bd_s, y2, bdm_s, bit_t, if_neg (by decide), if_neg (by decide)]
    exact this
  | false =>
    rw [x1, bd_s, x3 rfl, bit_f, if_pos rfl]
    have e : (bdm (bdm (m_hard 501 v) fun _ v_1 => rz 0 (some ((0 : Int32), v_1))) fun x v' => if x = 0 then some ((), v') else Y v') = m_hard 501 v := by
      cases hx : m_hard 501 v with
      | none => rfl
      | some q => rfl
    rw [e]
    exact HC.hard p.1 (e := 501) (by decide)
end Hc
/-! channel numbers -/
section Cn
variable {h : AH} {v v' : MV} {c t t' : Nat} {G : GH} {M : List R_le} {hl : Nat → List Nat}
theorem Cl.chan {k row : Nat} {x : Int32} (C : Cl h v G M hl) (h1 : 1 ≤ c) (h2 : c ≤ 3) (hk : (k = 3 ∧ row = 35) ∨ (k = 4 ∧ row = 36) ∨ (k = 5 ∧ row = 37) ∨ (k = 6 ∧ row = 39) ∨ (k = 7 ∧ row = 38)) : Cl (sI h (chA c) k x) (mseA v row c x) G M hl := by
  have k2 := (C.2.1.1.ch h1 h2).1
  have f : LF h (sI h (chA c) k x) [chA c] := LF.fI
  have fv : Fr v (mseA v row c x) [] [row] := Fr.updA
  have r5 : 35 ≤ row ∧ row ≤ 39 := by omega
  have xk : ∀ K : List Nat, 2 ∉ K → XK h [chA c] K := fun K z y hy q => by simp at hy; rw [hy, k2] at q; exact z q
  have nr : ∀ j, j < 35 ∨ 39 < j → j ∉ [row] := fun j hj z => by simp at z; omega
  refine C.up f (xk _ (by decide)) C.1.fI (fun q hq => hq) (SkF.fI (by omega)) ?_ (C.2.2.1.fr f (xk _ (by decide)) (fun q hq => hq)) ((C.2.1.2.2.2.fr f (xk _ (by decide)) (fun c h1 h2 => rfl)).fv fv (fun j j1 j2 => nr j (by omega))) (quL_fr fv (by simp) (nr _ (by omega)) (nr _ (by omega)) (nr _ (by omega))) (exL_fr fv (by simp) (nr _ (by omega)) (nr _ (by omega))) (biL_fr fv (by simp) (nr _ (by omega)) (nr _ (by omega)) (nr _ (by omega))) (coL_fr fv (by simp) (nr _ (by omega)) (nr _ (by omega)) (nr _ (by omega)) (nr _ (by omega)) (nr _ (by omega))) rfl rfl
  obtain ⟨s1, s2, s3⟩ := C.2.1.2.1
  have n9 : (9 : Nat) ≠ chA c := by unfold chA; omega
  refine ⟨by rw [gI_sIn n9]; exact s1, by rw [gI_sIn n9]; exact s2, fun c' k1 k3 => ?_⟩
  have s := s3 c' k1 k3
  by_cases e : c' = c
  · subst e
    rcases hk with ⟨e1, e2⟩ | ⟨e1, e2⟩ | ⟨e1, e2⟩ | ⟨e1, e2⟩ | ⟨e1, e2⟩ <;> subst e1 <;> subst e2 <;> simp [gI_sI, mseA, rw1, upd, s]
  · have nc : chA c' ≠ chA c := fun z => e (chA_inj.mp z)
    rw [gI_sIn nc]
    rcases hk with ⟨e1, e2⟩ | ⟨e1, e2⟩ | ⟨e1, e2⟩ | ⟨e1, e2⟩ | ⟨e1, e2⟩ <;> subst e1 <;> subst e2 <;> simp [mseA, rw1, upd, s, e]
theorem VI.ch (V : VI v t) (ht : t ≤ t') (f1 : Fr v v' [] [35, 36, 37, 38, 39]) (h1 : 1 ≤ c) (oth : ∀ j, j ≠ c → v'.2.1 35 j = v.2.1 35 j ∧ v'.2.1 36 j = v.2.1 36 j ∧ v'.2.1 37 j = v.2.1 37 j ∧ v'.2.1 38 j = v.2.1 38 j ∧ v'.2.1 39 j = v.2.1 39 j) (e35 : v'.2.1 35 c = 1) (e36 : ∃ l, l ≤ 255 ∧ v'.2.1 36 c = nI l) (e37 : v'.2.1 37 c = 0 ∨ v'.2.1 37 c = 1) (e38 : ∃ n, n ≤ t' ∧ v'.2.1 38 c = nI n) (e39 : v'.2.1 39 c = 0 ∨ v'.2.1 39 c = 1) : VI v' t' := by
  obtain ⟨⟨a1, a2, a3, a4, a5, a6⟩, ⟨n, b1, b2, b3, b4, b5, m, b6, b7, b8⟩, ⟨c1, c2, c3, c4, c5, c6, c7⟩, d, e0, e⟩ := V
  have q : quL v' = quL v := quL_fr f1 (by decide) (by decide) (by decide) (by decide)
  have x : exL v' = exL v := exL_fr f1 (by decide) (by decide) (by decide)
  have l : leL v' = leL v := leL_fr f1 (by decide) (by decide) (by decide) (by decide) (by decide) (by decide) (by decide) (by decide) (by decide) (by decide)
  have co : coL v' = coL v := coL_fr f1 (by decide) (by decide) (by decide) (by decide) (by decide) (by decide)
  refine ⟨⟨(a1.fr f1 (by decide)).1, (a2.fr f1 (by decide)).1, (a3.fr f1 (by decide)).1, (a4.fr f1 (by decide)).1, (a5.fr f1 (by decide)).1, ?_⟩, ⟨n, ?_, by omega, ?_, ?_, ?_, m, ?_, by omega, ?_⟩, ⟨c1.fr f1 (by decide), c2.fr f1 (by decide), ?_, ?_, c5.fr f1 (by decide), c6.fr f1 (by decide), c7.fr f1 (by decide)⟩, ?_, ?_, ?_⟩
  · rw [q, x, co]; exact a6
  · rw [f1.1 9 (by decide)]; exact b1
  · rw [q]; exact b3
  · rw [co]; exact b4
  · rw [l]; exact b5
  · rw [f1.1 25 (by decide)]; exact b6
  · rw [l]; exact b8
  · intro j
    by_cases z : j = c
    · rw [z]; exact e37
    · rw [(oth j z).2.2.1]; exact c3 j
  · intro j
    by_cases z : j = c
    · rw [z]; exact e39
    · rw [(oth j z).2.2.2.2]; exact c4 j
  · unfold ViM; rw [q, l]; exact d
  · rw [(oth 0 (by omega)).1]; exact e0
  · intro c' k1 k2
    rw [l, co, (f1.2 40 (by decide)).1, (f1.2 47 (by decide)).1]
    obtain ⟨g1, g2, ⟨g, g3, g3'⟩, g4, g5⟩ := e c' k1 k2
    by_cases z : c' = c
    · subst z
      exact ⟨⟨1, by omega, e35⟩, e36, e38, g4, fun y => absurd e35 y⟩
    · obtain ⟨o1, o2, o3, o4, o5⟩ := oth c' z
      rw [o1, o2, o4, o5]
      exact ⟨g1, g2, ⟨g, by omega, g3'⟩, g4, g5⟩
end Cn

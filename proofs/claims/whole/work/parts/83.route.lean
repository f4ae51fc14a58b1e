/-! ===== the reference's new letters ===== -/
theorem mJ_1 {v : MV} {k i : Nat} {x : Int64} : (mseJ v k i x).1 = v.1 := rfl
def nv (v : MV) (i L m : Nat) (e k ct : Int64) (sz : Int32) : MV := mset (mseJ (mseA (mseJ (mseJ (mseA (mseA (mseA (mseA (mseA (mset v 25 (nI (m + 1))) 26 L (nI (m + 1))) 27 L (v.2.1 11 i)) 28 L 0) 29 L 0) 30 L (bit false)) 31 L e) 32 L k) 33 L sz) 34 L ct) 24 (nI (L + 1))
section Rt
variable {v v' : MV} {t : Nat}
theorem put1 {i L m : Nat} {e k ct : Int64} {sz : Int32} (e24 : v.1 24 = nI L) (hL : L < 24) (e25 : v.1 25 = nI m) (hi : i < 5) {β : Type} (F : MV → Option β) : (mwI v 25 ((v.1 25) + 1) fun v_3 => msI v_3 26 (v_3.1 24) (v_3.1 25) fun v_4 => mrI v_4 11 (nI i) fun x_5 => msI v_4 27 (v_4.1 24) x_5 fun v_6 => msI v_6 28 (v_6.1 24) 0 fun v_7 => msI v_7 29 (v_7.1 24) 0 fun v_8 => msZ v_8 30 (v_8.1 24) 0 fun v_9 => msJ v_9 31 (v_9.1 24) e fun v_10 => msJ v_10 32 (v_10.1 24) k fun v_11 => msI v_11 33 (v_11.1 24) sz fun v_12 => msJ v_12 34 (v_12.1 24) ct fun v_13 => mwI v_13 24 ((v_13.1 24) + 1) fun v_14 => F v_14) = F (nv v i L m e k ct sz) := by
  have a24 : (mset v 25 (nI (m + 1))).1 24 = nI L := by rw [ms_n (by decide)]; exact e24
  have a25 : (mset v 25 (nI (m + 1))).1 25 = nI (m + 1) := ms_s
  rw [mwI_e, e25, nI_1, a24, a25, msI_e (show L < 24 from hL) (by decide), mrI_e (show i < 5 from hi) (by decide)]
  simp only [mA_1, mJ_1, a24]
  rw [msI_e (show L < 24 from hL) (by decide)]
  simp only [mA_1, mJ_1, a24]
  rw [msI_e (show L < 24 from hL) (by decide)]
  simp only [mA_1, mJ_1, a24]
  rw [msI_e (show L < 24 from hL) (by decide)]
  simp only [mA_1, mJ_1, a24]
  rw [show (0 : Int32) = bit false from rfl, msZ_e (k := 30) (show L < 24 from hL) (by decide)]
  simp only [mA_1, mJ_1, a24]
  rw [msJ_e (show L < 24 from hL) (by decide)]
  simp only [mA_1, mJ_1, a24]
  rw [msJ_e (show L < 24 from hL) (by decide)]
  simp only [mA_1, mJ_1, a24]
  rw [msI_e (show L < 24 from hL) (by decide)]
  simp only [mA_1, mJ_1, a24]
  rw [msJ_e (show L < 24 from hL) (by decide)]
  simp only [mA_1, mJ_1, a24]
  rw [mwI_e, nI_1]
  rfl
theorem nv_fr {i L m : Nat} {e k ct : Int64} {sz : Int32} : Fr v (nv v i L m e k ct sz) [24, 25] lrw := by
  unfold nv
  exact ((((((((((Fr.upd.tr Fr.updA).tr Fr.updA).tr Fr.updA).tr Fr.updA).tr Fr.updA).tr Fr.updJ).tr Fr.updJ).tr Fr.updA).tr Fr.updJ).tr Fr.upd).mono (by decide) (by decide)
theorem nv_24 {i L m : Nat} {e k ct : Int64} {sz : Int32} : (nv v i L m e k ct sz).1 24 = nI (L + 1) := ms_s
theorem nv_25 {i L m : Nat} {e k ct : Int64} {sz : Int32} : (nv v i L m e k ct sz).1 25 = nI (m + 1) := by
  unfold nv
  rw [ms_n (by decide)]
  show (mset v 25 (nI (m + 1))).1 25 = _
  exact ms_s
theorem nv_le {i L m : Nat} {e k ct : Int64} {sz : Int32} (e24 : v.1 24 = nI L) (hL : L < 24) : leL (nv v i L m e k ct sz) = leL v ++ [(nI (m + 1), v.2.1 11 i, 0, 0, 0, e, k, sz, ct)] := by
  have c1 : cN (nv v i L m e k ct sz) 24 = L + 1 := by unfold cN; rw [nv_24]; exact nI_clamp (by omega)
  have c2 : cN v 24 = L := by unfold cN; rw [e24]; exact nI_clamp (by omega)
  show lst (cN (nv v i L m e k ct sz) 24) (leAt (nv v i L m e k ct sz)) = lst (cN v 24) (leAt v) ++ _
  rw [c1, c2, lst_succ]
  congr 1
  · exact lst_congr (fun j hj => by
      have : j ≠ L := by omega
      simp [leAt, nv, mset, mseA, mseJ, rw1, upd, vp_updL, this])
  · simp [leAt, nv, mset, mseA, mseJ, rw1, upd, vp_updL, bit]
theorem VI.f3 (V : VI v t) (f : F3 v v') : VI v' t := by
  obtain ⟨⟨a1, a2, a3, a4, a5, a6⟩, ⟨n, b1, b2, b3, b4, b5, m, b6, b7, b8⟩, ⟨c1, c2, c3, c4, c5, c6, c7⟩, d, e0, e⟩ := V
  obtain ⟨f1, f2⟩ := f
  have q : quL v' = quL v := quL_fr f1 (by decide) (by decide) (by decide) (by decide)
  have x : exL v' = exL v := exL_fr f1 (by decide) (by decide) (by decide)
  have l : leL v' = leL v := leL_fr f1 (by decide) (by decide) (by decide) (by decide) (by decide) (by decide) (by decide) (by decide) (by decide) (by decide)
  have co : coL v' = coL v := coL_fr f1 (by decide) (by decide) (by decide) (by decide) (by decide) (by decide)
  refine ⟨⟨(a1.fr f1 (by decide)).1, (a2.fr f1 (by decide)).1, (a3.fr f1 (by decide)).1, (a4.fr f1 (by decide)).1, (a5.fr f1 (by decide)).1, ?_⟩, ⟨n, ?_, b2, ?_, ?_, ?_, m, ?_, b7, ?_⟩, ⟨c1.fr f1 (by decide), c2.fr f1 (by decide), c3.fr f1 (by decide), c4.fr f1 (by decide), c5.fr f1 (by decide), c6.fr f1 (by decide), f2⟩, ?_, ?_, ?_⟩
  · rw [q, x, co]; exact a6
  · rw [f1.1 9 (by decide)]; exact b1
  · rw [q]; exact b3
  · rw [co]; exact b4
  · rw [l]; exact b5
  · rw [f1.1 25 (by decide)]; exact b6
  · rw [l]; exact b8
  · unfold ViM; rw [q, l]; exact d
  · rw [(f1.2 35 (by decide)).1]; exact e0
  · intro c' k1 k2
    rw [l, co, (f1.2 35 (by decide)).1, (f1.2 36 (by decide)).1, (f1.2 38 (by decide)).1, (f1.2 39 (by decide)).1, (f1.2 40 (by decide)).1, (f1.2 47 (by decide)).1]
    exact e c' k1 k2
theorem VI.new {m : Nat} {r : R_le} (V : VI v t) (f1 : Fr v v' [24, 25] lrw) (l : leL v' = leL v ++ [r]) (c24 : CV v' 24 24) (b30 : Bo v' 30) (e25 : v.1 25 = nI m) (e25' : v'.1 25 = nI (m + 1)) (ht : t < 100000) (r1 : r.1 = nI (m + 1)) (r2 : ∃ x ∈ quL v, x.2.1 = r.2.1) (r3 : r.2.2.1 = 0) : VI v' (t + 1) := by
  obtain ⟨⟨a1, a2, a3, a4, a5, a6⟩, ⟨n, b1, b2, b3, b4, b5, m', b6, b7, b8⟩, ⟨c1, c2, c3, c4, c5, c6, c7⟩, d, e0, e⟩ := V
  have em : nI (m + 1) = nI (m' + 1) := by rw [← nI_1, ← nI_1, ← e25, b6]
  rw [em] at e25' r1
  have q : quL v' = quL v := quL_fr f1 (by decide) (by decide) (by decide) (by decide)
  have x : exL v' = exL v := exL_fr f1 (by decide) (by decide) (by decide)
  have co : coL v' = coL v := coL_fr f1 (by decide) (by decide) (by decide) (by decide) (by decide) (by decide)
  refine ⟨⟨(a1.fr f1 (by decide)).1, (a2.fr f1 (by decide)).1, (a3.fr f1 (by decide)).1, (a4.fr f1 (by decide)).1, c24, ?_⟩, ⟨n, ?_, by omega, ?_, ?_, ?_, m' + 1, e25', by omega, ?_⟩, ⟨c1.fr f1 (by decide), b30, c3.fr f1 (by decide), c4.fr f1 (by decide), c5.fr f1 (by decide), c6.fr f1 (by decide), c7.fr f1 (by decide)⟩, ?_, ?_, ?_⟩
  · rw [q, x, co]; exact a6
  · rw [f1.1 9 (by decide)]; exact b1
  · rw [q]; exact b3
  · rw [co]; exact b4
  · rw [l]
    intro y hy
    rcases List.mem_append.mp hy with z | z
    · exact b5 y z
    · simp at z; rw [z]
      obtain ⟨x, hx, ex⟩ := r2
      obtain ⟨k, -, k2, k3⟩ := b3 x hx
      exact ⟨k, k2, by rw [← ex]; exact k3⟩
  · rw [l]
    intro y hy
    rcases List.mem_append.mp hy with z | z
    · obtain ⟨k, k1, k2⟩ := b8 y z
      exact ⟨k, by omega, k2⟩
    · simp at z; rw [z]; exact ⟨m' + 1, by omega, r1⟩
  · unfold ViM
    rw [q, l]
    intro y hy
    rcases List.mem_append.mp hy with z | z
    · exact d y z
    · simp at z; rw [z]; exact ⟨⟨0, by omega, r3⟩, fun _ => r2⟩
  · rw [(f1.2 35 (by decide)).1]; exact e0
  · intro c' k1 k2
    rw [l, co, (f1.2 35 (by decide)).1, (f1.2 36 (by decide)).1, (f1.2 38 (by decide)).1, (f1.2 39 (by decide)).1, (f1.2 40 (by decide)).1, (f1.2 47 (by decide)).1]
    obtain ⟨g1, g2, ⟨g, g3, g3'⟩, g4, g5⟩ := e c' k1 k2
    refine ⟨g1, g2, ⟨g, by omega, g3'⟩, g4, fun hs => ?_⟩
    obtain ⟨q1, q2, q3, q4, q5⟩ := g5 hs
    refine ⟨q1, q2, q3, q4, fun y hy => ?_⟩
    rcases List.mem_append.mp hy with z | z
    · exact q5 y z
    · simp at z; rw [z, r3]; exact ne0c k1 k2
theorem r76_l {E : List R_ex} {B : List R_bi} {Q : List R_qu} {e k ct : Int64} {c mu sz nn : Int32} (nk : NmO k) (nb : ∀ r ∈ B, NmO r.2.2) (bx : ∀ r ∈ B, ∃ y ∈ E, y.1 = r.2.1) : ∀ (d i f m t : Nat) (v : MV), i + d = Q.length → d < f → exL v = E → biL v = B → quL v = Q → VI v t → t + d < 100000 → v.1 25 = nI m → (leL v).length + ((Q.zip (rcL E B Q e k)).drop i).countP (fun p => p.2) ≤ 24 → ∃ v', m_route_76 f c e k mu sz ct (fiR 0 (E.findIdx? (fun r => decide (r.1 = e)))) nn (nI i) v = m_route_226 c e k mu sz ct nn v' ∧ leL v' = leL v ++ nws e k ct sz m ((Q.zip (rcL E B Q e k)).drop i) ∧ Fr v v' [24, 25] (lrw ++ [58, 59, 60]) ∧ VI v' (t + d) ∧ v'.1 25 = nI (m + ((Q.zip (rcL E B Q e k)).drop i).countP (fun p => p.2)) := by
  intro d
  induction d with
  | zero =>
    intro i f m t v hi hf eE eB eQ V ht e25 hM
    obtain ⟨g, rfl⟩ : ∃ g, f = g + 1 := ⟨f - 1, by omega⟩
    have h8 := V.1.2.1
    have h82 := h8.2
    have c8 : cN v 8 = Q.length := by rw [← eQ, quL_len]
    have z : (Q.zip (rcL E B Q e k)).drop i = [] := List.drop_eq_nil_of_le (by rw [List.length_zip, rcL_len]; omega)
    refine ⟨v, ?_, ?_, (Fr.rf v).mono (by simp) (by simp), V, ?_⟩
    · rw [m_route_76, h8.1, if_pos (nI_le (by omega) (by omega))]
    · rw [z]; simp [nws]
    · rw [z]; simpa using e25
  | succ d ih =>
    intro i f m t v hi hf eE eB eQ V ht e25 hM
    obtain ⟨g, rfl⟩ : ∃ g, f = g + 1 := ⟨f - 1, by omega⟩
    have h8 := V.1.2.1
    have h82 := h8.2
    have c8 : cN v 8 = Q.length := by rw [← eQ, quL_len]
    obtain ⟨x, ex⟩ : ∃ x, Q[i]? = some x := ⟨_, List.getElem?_eq_getElem (by omega)⟩
    have eb : (rcL E B Q e k)[i]? = some (rch E B x.1 e k) := by unfold rcL; exact map_get (f := fun x : R_qu => rch E B x.1 e k) ex
    have ez : (Q.zip (rcL E B Q e k))[i]? = some (x, rch E B x.1 e k) := by rw [List.getElem?_zip_eq_some]; exact ⟨ex, eb⟩
    obtain ⟨v1, y1, y2⟩ := reM_ok (v0 := v) (v := v) (iq := i) (x := x) (e := e) (k := k) V.1.2.2.1 h8 V.1.1 nk (by rw [eB]; exact nb) (by rw [eB, eE]; exact bx) V.1.2.2.2.2.2.1 V.1.2.2.2.2.2.2.1 (fun r hr => (V.1.2.2.2.2.2.2.2.1 r hr).2) (by rw [eQ]; exact ex) (F3.rf V.2.2.1.2.2.2.2.2.2)
    rw [eE, eB] at y1
    have V1 := V.f3 y2
    have q1 : quL v1 = Q := (quL_fr y2.1 (by decide) (by decide) (by decide) (by decide)).trans eQ
    have x1 : exL v1 = E := (exL_fr y2.1 (by decide) (by decide) (by decide)).trans eE
    have b1 : biL v1 = B := (biL_fr y2.1 (by decide) (by decide) (by decide) (by decide)).trans eB
    have l1 : leL v1 = leL v := leL_fr y2.1 (by decide) (by decide) (by decide) (by decide) (by decide) (by decide) (by decide) (by decide) (by decide) (by decide)
    have e25' : v1.1 25 = nI m := (y2.1.1 25 (by decide)).trans e25
    rw [drop_s ez] at hM ⊢
    rw [m_route_76, h8.1, if_neg (nI_ge (by omega) (by omega)), y1, bdm_s]
    cases hr : rch E B x.1 e k with
    | false =>
      rw [hr, List.countP_cons] at hM
      rw [List.countP_cons]
      obtain ⟨v', z1, z2, z3, z4, z5⟩ := ih (i + 1) g m t v1 (by omega) (by omega) x1 b1 q1 V1 (by omega) e25' (by rw [l1]; simpa using hM)
      refine ⟨v', ?_, ?_, (y2.1.tr z3).mono (by decide) (by decide), z4.mono (by omega), by simpa using z5⟩
      · rw [bit_f, if_pos rfl]
        unfold m_route_220
        rw [nI_1]
        exact z1
      · rw [z2, l1]; rfl
    | true =>
      rw [hr, List.countP_cons] at hM
      rw [List.countP_cons]
      simp only [if_true] at hM ⊢
      have c24 := V1.1.2.2.2.2.1
      have ll := leL_len v1
      rw [l1] at ll
      have hL : cN v1 24 < 24 := by omega
      have e11 : v1.2.1 11 i = x.2.1 := by
        obtain ⟨-, ey⟩ := qu_k (v := v1) (k := i) (r := x) (by rw [q1]; exact ex)
        rw [ey]
      have fn : Fr v1 (nv v1 i (cN v1 24) m e k ct sz) [24, 25] lrw := nv_fr
      have cv : CV (nv v1 i (cN v1 24) m e k ct sz) 24 24 := (CV.of nv_24 (by omega) (by decide)).1
      have b30 : Bo (nv v1 i (cN v1 24) m e k ct sz) 30 := by
        intro j
        have b := V1.2.2.1.2.1 j
        by_cases c : j = cN v1 24
        · simp [nv, mset, mseA, mseJ, rw1, upd, vp_updL, bit, c]
        · simpa [nv, mset, mseA, mseJ, rw1, upd, vp_updL, bit, c] using b
      have ln := nv_le (v := v1) (i := i) (m := m) (e := e) (k := k) (ct := ct) (sz := sz) c24.1 hL
      rw [e11, l1] at ln
      have V2 : VI (nv v1 i (cN v1 24) m e k ct sz) (t + 1) := V1.new fn (by rw [ln, l1]) cv b30 e25' nv_25 (by omega) rfl ⟨x, by rw [q1]; exact List.mem_of_getElem? ex, rfl⟩ rfl
      obtain ⟨v', z1, z2, z3, z4, z5⟩ := ih (i + 1) g (m + 1) (t + 1) (nv v1 i (cN v1 24) m e k ct sz) (by omega) (by omega) ((exL_fr fn (by decide) (by decide) (by decide)).trans x1) ((biL_fr fn (by decide) (by decide) (by decide) (by decide)).trans b1) ((quL_fr fn (by decide) (by decide) (by decide) (by decide)).trans q1) V2 (by omega) nv_25 (by rw [ln, List.length_append, List.length_singleton]; omega)
      refine ⟨v', ?_, ?_, ((y2.1.tr fn).tr z3).mono (by decide) (by decide), z4.mono (by omega), ?_⟩
      · rw [bit_t, if_neg (by decide), put1 c24.1 hL e25' (by omega)]
        unfold m_route_220
        rw [nI_1]
        exact z1
      · rw [z2, ln, List.append_assoc]; rfl
      · rw [z5]; congr 1; omega
end Rt

/-! ===== all letters of a channel come back; some are settled ===== -/
def gAB (Q : List R_qu) (c : Int32) (r : R_le) : List R_le := if r.2.2.1 = c then bk Q r else [r]
/-- whether a deed (n, u) means a letter delivered as t -/
def cov (n u t : Int32) : Bool := if u = 0 then decide (t = n) else decide (n = 0) || !decide (n < t)
def gSE (Q : List R_qu) (c n u : Int32) (b : Bool) (r : R_le) : List R_le := if r.2.2.1 = c ∧ cov n u r.2.2.2.1 = true then (if b then bk Q r else []) else [r]
theorem bk_0 {Q : List R_qu} {r r' : R_le} (h : r' ∈ bk Q r) : r'.2.2.1 = 0 := by
  unfold bk at h
  split at h
  · simp at h; rw [h]
  · simp at h
theorem fm_id {g : R_le → List R_le} : ∀ {M : List R_le}, (∀ r ∈ M, g r = [r]) → M.flatMap g = M := by
  intro M
  induction M with
  | nil => intro _; rfl
  | cons r M ih => intro h; rw [List.flatMap_cons, h r (by simp), ih (fun y hy => h y (by simp [hy]))]; rfl
theorem fm_upd {g : R_le → List R_le} {A B o : List R_le} {r : R_le} (h : g r = o) (h2 : ∀ x ∈ o, g x = [x]) : (A ++ o ++ B).flatMap g = (A ++ r :: B).flatMap g := by
  rw [List.flatMap_append, List.flatMap_append, List.flatMap_append, List.flatMap_cons, h, fm_id h2, List.append_assoc]
theorem ne0c {c : Nat} (h1 : 1 ≤ c) (h2 : c ≤ 3) : (0 : Int32) ≠ nI c := fun z => by
  have := (nI_eq (a := 0) (b := c) (by omega) (by omega)).mp z
  omega
section Ga
variable {v : MV} {c : Nat}
theorem gAB_bk {Q : List R_qu} {r x : R_le} (h1 : 1 ≤ c) (h2 : c ≤ 3) (hx : x ∈ bk Q r) : gAB Q (nI c) x = [x] := by
  unfold gAB
  rw [if_neg (by rw [bk_0 hx]; exact ne0c h1 h2)]
theorem gSE_bk {Q : List R_qu} {n u : Int32} {b : Bool} {r x : R_le} (h1 : 1 ≤ c) (h2 : c ≤ 3) (hx : x ∈ bk Q r) : gSE Q (nI c) n u b x = [x] := by
  unfold gSE
  rw [if_neg (by rw [bk_0 hx]; exact fun z => ne0c h1 h2 z.1)]
theorem ga_l (h1 : 1 ≤ c) (h2 : c ≤ 3) (L : List Nat) : ∀ (d i f : Nat) (h : AH) (G : GH) (M : List R_le) (hl : Nat → List Nat), i + d = L.length → d < f → Cl h v G M hl → gH G c = L → hl c = L.drop i → ∃ h' G', f_X1_giveAllBack_2 f (chA c) (nI i) h = f_X1_giveAllBack_53 (chA c) h' ∧ Cl h' v G' (M.flatMap (gAB (quL v) (nI c))) (fu hl c []) ∧ G'.2.2 = G.2.2 ∧ Tr h h' [0, 8] d := by
  intro d
  induction d with
  | zero =>
    intro i f h G M hl hi hf C eG eh
    obtain ⟨q, rfl⟩ : ∃ q, f = q + 1 := ⟨f - 1, by omega⟩
    have li := (C.2.2.1.2.2.2.2.1 c h1 h2).1
    obtain ⟨k2, r1, -, -⟩ := C.2.1.1.ch h1 h2
    have hlen := li.len
    rw [eG] at li hlen
    have hl0 : hl c = [] := by rw [eh]; exact List.drop_eq_nil_of_le (by omega)
    refine ⟨h, G, ?_, ?_, rfl, Tr.rf _ _⟩
    · rw [f_X1_giveAllBack_2, szL r1 k2 li, if_pos (nI_le (by omega) (by omega))]
    · rw [← hl0, fu_id, fm_id]
      · exact C
      · intro r hr
        unfold gAB
        rw [if_neg]
        intro z
        obtain ⟨rs, f2, p⟩ := C.2.2.2.1.2.2 c h1 h2
        rw [hl0] at f2
        have : rs = [] := List.eq_nil_of_length_eq_zero f2.1.symm
        rw [this] at p
        have : r ∈ M.filter (cH (nI c)) := List.mem_filter.mpr ⟨hr, by simp [cH, z]⟩
        rw [← p.mem_iff] at this
        simp at this
  | succ d ih =>
    intro i f h G M hl hi hf C eG eh
    obtain ⟨q, rfl⟩ : ∃ q, f = q + 1 := ⟨f - 1, by omega⟩
    have li := (C.2.2.1.2.2.2.2.1 c h1 h2).1
    obtain ⟨k2, r1, -, -⟩ := C.2.1.1.ch h1 h2
    have hlen := li.len
    rw [eG] at li hlen
    have hlt : i < L.length := by omega
    obtain ⟨a, ea⟩ : ∃ a, L[i]? = some a := ⟨_, List.getElem?_eq_getElem hlt⟩
    have e0 : (hl c)[0]? = some a := by rw [eh, List.getElem?_drop]; exact ea
    obtain ⟨A, r, B, eM, ha, hc⟩ := C.2.2.2.1.find h1 h2 e0
    subst eM
    obtain ⟨hq, h', l', y1, y2, y3, y4, y5, y6⟩ := C.back h1 h2 e0 ha hc
    have ee : (hl c).eraseIdx 0 = L.drop (i + 1) := by
      rw [eh, List.drop_eq_getElem_cons hlt]; rfl
    obtain ⟨h'', G'', x1, x2, x3, x4⟩ := ih (i + 1) q h' (sW G hq l') _ _ (by omega) (by omega) y4 eG (by rw [fu_s]; exact ee)
    refine ⟨h'', G'', ?_, ?_, x3, (y5.tr x4).mono (by simp) (by omega)⟩
    · rw [f_X1_giveAllBack_2, szL r1 k2 li, if_neg (nI_ge (by omega) (by omega)), gtL r1 k2 li hlt, ea, ckc_e ha.1, nn_s, rdR_e ha.1, gtL r1 k2 li hlt, ea, ckc_e ha.1, y1, nn_s, kg_e y2, y3, bd_s, nI_1]
      exact x1
    · rw [fu_fu, fm_upd (r := r) (by unfold gAB; rw [if_pos hc]) (fun x hx => gAB_bk h1 h2 hx)] at x2
      exact x2
theorem ga_ok {h : AH} {G : GH} {M : List R_le} (h1 : 1 ≤ c) (h2 : c ≤ 3) (C : Cl h v G M (gH G)) : ∃ h' G', f_X1_giveAllBack (chA c) h = some ((), h') ∧ Cl h' v G' (M.flatMap (gAB (quL v) (nI c))) (gH G') ∧ gH G' = fu (gH G) c [] ∧ gK G' = gK G ∧ Tr h h' [0, 8] (gH G c).length := by
  have hlen := (C.2.2.1.2.2.2.2.1 c h1 h2).1.len
  obtain ⟨h', G', x1, x2, x3, x4⟩ := ga_l h1 h2 (gH G c) (gH G c).length 0 FU h G M (gH G) (by omega) (by unfold FU; omega) C rfl rfl
  obtain ⟨k2, r1, -, -⟩ := x2.2.1.1.ch h1 h2
  have li := (x2.2.2.1.2.2.2.2.1 c h1 h2).1
  obtain ⟨h'', e, L, f, w, z1, z2, kx⟩ := li.clr x2.1
  have eH : gH (sH G' c []) = fu (gH G) c [] := by
    show fu G'.2.2.1 c [] = _
    rw [x3]; rfl
  refine ⟨h'', sH G' c [], ?_, ?_, eH, ?_, ?_⟩
  · unfold f_X1_giveAllBack
    rw [show (0 : Int32) = nI 0 from rfl, x1]
    unfold f_X1_giveAllBack_53
    rw [rdR_e k2, r1, nn_s, li.kgg, e, bd_s]
  · rw [eH]
    exact x2.held h1 h2 f w kx L
  · show G'.2.2.2 = _
    rw [x3]; rfl
  · refine (x4.tr (⟨f.kf (by simp [li.1]), by omega, by omega⟩ : Tr h' h'' [0, 8] 0)).mono (by simp) (by omega)
theorem cv_ok {h : AH} {dd a : Nat} (kd' : kd h dd = 4) (ka : kd h a = 8) : f_X3_covers dd (some a) h = some (bit (cov (gI h dd 1) (gI h dd 2) (gI h a 4)), h) := by
  unfold f_X3_covers f_X3_coversAll
  rw [kg_e kd', rdI_e kd']
  by_cases u : gI h dd 2 = 0
  · rw [if_pos u, rz_0, bd_s, if_pos rfl, rdI_e kd', if_pos u, nn_s, rdI_e ka, rdI_e kd']
    unfold cov
    rw [if_pos u]
    by_cases t : gI h a 4 = gI h dd 1
    · rw [if_pos t, rz_1]; simp [t, bit]
    · rw [if_neg t, rz_0]; simp [t, bit]
  · rw [if_neg u, rdI_e kd']
    unfold cov
    rw [if_neg u]
    by_cases n : gI h dd 1 = 0
    · rw [if_pos n, rz_1, bd_s, if_neg (by decide), rz_1]; simp [n, bit]
    · rw [if_neg n, rz_0, bd_s, if_pos rfl, rdI_e kd', if_neg u, nn_s, rdI_e ka, rdI_e kd']
      by_cases t : gI h dd 1 < gI h a 4
      · rw [if_pos t, rz_0]; simp [n, t, bit]
      · rw [if_neg t, rz_1]; simp [n, t, bit]
theorem nI_p1 (k : Nat) : nI (k + 1) - 1 = nI k := by rw [nI_s1 (by omega)]; rfl
theorem st_l (h1 : 1 ≤ c) (h2 : c ≤ 3) (dd : Nat) (n u : Int32) (b : Bool) : ∀ (k f : Nat) (h : AH) (G : GH) (M : List R_le), k ≤ (gH G c).length → k < f → Cl h v G M (gH G) → (∀ j a, k ≤ j → (gH G c)[j]? = some a → cov n u (gI h a 4) = false) → kd h dd = 4 → gI h dd 1 = n → gI h dd 2 = u → gI h dd 3 = bit b → ∃ h' G', f_X1_settle_12 f (chA c) (some dd) (nI k - 1) h = some ((), h') ∧ Cl h' v G' (M.flatMap (gSE (quL v) (nI c) n u b)) (gH G') ∧ gK G' = gK G ∧ Tr h h' [0, 8] k := by
  intro k
  induction k with
  | zero =>
    intro f h G M hk hf C H kd' e1 e2 e3
    obtain ⟨q, rfl⟩ : ∃ q, f = q + 1 := ⟨f - 1, by omega⟩
    refine ⟨h, G, ?_, ?_, rfl, Tr.rf _ _⟩
    · rw [f_X1_settle_12, if_pos (by decide)]
    · rw [fm_id]
      · exact C
      · intro r hr
        unfold gSE
        rw [if_neg]
        rintro ⟨z1, z2⟩
        obtain ⟨rs, f2, p⟩ := C.2.2.2.1.2.2 c h1 h2
        have m : r ∈ M.filter (cH (nI c)) := List.mem_filter.mpr ⟨hr, by simp [cH, z1]⟩
        obtain ⟨a, ha, la⟩ := f2.ofR (p.mem_iff.mpr m)
        obtain ⟨j, hj, ej⟩ := List.mem_iff_getElem.mp ha
        have := H j a (Nat.zero_le _) (by rw [List.getElem?_eq_getElem hj, ej])
        rw [la.2.2.1, z2] at this
        exact absurd this (by decide)
  | succ k ih =>
    intro f h G M hk hf C H kd' e1 e2 e3
    obtain ⟨q, rfl⟩ : ∃ q, f = q + 1 := ⟨f - 1, by omega⟩
    have li := (C.2.2.1.2.2.2.2.1 c h1 h2).1
    obtain ⟨k2, r1, -, -⟩ := C.2.1.1.ch h1 h2
    have hlen := li.len
    have hlt : k < (gH G c).length := by omega
    obtain ⟨a, ea⟩ : ∃ a, (gH G c)[k]? = some a := ⟨_, List.getElem?_eq_getElem hlt⟩
    obtain ⟨A, r, B, eM, ha, hc⟩ := C.2.2.2.1.find h1 h2 ea
    have un : ∀ X : Option (Unit × AH), (if cov n u (gI h a 4) = false then f_X1_settle_12 q (chA c) (some dd) (nI k - 1) h else rdR h (chA c) 2 1 fun r_10 =>
        nn r_10 fun a_11 =>
        kg h a_11 0 (bd (f_Jx4a65c_remove_915e3 a_11 (nI k) h) fun r_14 h_13 =>
        rdI h_13 dd 4 3 fun x_15 =>
        (if x_15 = 0 then
          f_X1_settle_64 (fun a0 r1 x2 h => f_X1_settle_12 q a0 r1 x2 h) (chA c) (some dd) (nI k) h_13
        else
          nn (some a) fun a_16 =>
          rdR h_13 a_16 8 1 fun r_17 =>
          nn r_17 fun a_18 =>
          kg h_13 a_18 11 (bd (f_X10_takeBack a_18 (some a_16) h_13) fun _ h_20 =>
          f_X1_settle_64 (fun a0 r1 x2 h => f_X1_settle_12 q a0 r1 x2 h) (chA c) (some dd) (nI k) h_20)))) = X → f_X1_settle_12 (q + 1) (chA c) (some dd) (nI (k + 1) - 1) h = X := by
      intro X hX
      rw [f_X1_settle_12, nI_p1, if_neg (nI_pos (by omega)), gtL r1 k2 li hlt, ea, ckc_e ha.1, nn_s, kg_e kd', cv_ok kd' ha.1, bd_s, e1, e2]
      cases hb : cov n u (gI h a 4) with
      | false =>
        rw [hb, if_pos rfl] at hX
        rw [bit_f, if_pos rfl]
        unfold f_X1_settle_64
        rw [sub1]
        exact hX
      | true =>
        rw [hb, if_neg (by decide)] at hX
        rw [bit_t, if_neg (by decide)]
        exact hX
    cases hb : cov n u (gI h a 4) with
    | false =>
      obtain ⟨h', G', y1, y2, y3, y4⟩ := ih q h G M (by omega) (by omega) C (fun j x hj hx => by
        by_cases e : j = k
        · subst e; rw [ea] at hx; cases hx; exact hb
        · exact H j x (by omega) hx) kd' e1 e2 e3
      exact ⟨h', G', un _ (by rw [if_pos hb]; exact y1), y2, y3, y4.mono (by simp) (by omega)⟩
    | true =>
      obtain ⟨h', er, L, f1, w1, z1, z2, kx⟩ := li.rem C.1 hlt
      have C1 := C.held h1 h2 f1 w1 kx L
      obtain ⟨A, r, B, eM, ha1, hc⟩ := C1.2.2.2.1.find h1 h2 ea
      subst eM
      have kp8 : ∀ x, kd h x = 8 → Kp h h' x := fun x hx => f1.kp hx (by decide) (by decide) (by intro z; simp at z; rw [z, li.1] at hx; exact absurd hx (by decide))
      have kpd : Kp h h' dd := f1.kp kd' (by decide) (by decide) (by intro z; simp at z; rw [z, li.1] at kd'; exact absurd kd' (by decide))
      have T1 : Tr h h' [0, 8] 0 := ⟨f1.kf (by simp [li.1]), by omega, by omega⟩
      have hcov : cov n u r.2.2.2.1 = true := by
        rw [← ha1.2.2.1, (kp8 a ha.1).2.2.1]; exact hb
      have H1 : ∀ j x, k ≤ j → ((gH G c).eraseIdx k)[j]? = some x → kd h x = 8 ∧ cov n u (gI h x 4) = false := fun j x hj hx => by
        rw [List.getElem?_eraseIdx, if_neg (by omega)] at hx
        exact ⟨C.2.2.2.1.k8 h1 h2 (List.mem_of_getElem? hx), H (j + 1) x (by omega) hx⟩
      have hb' : ¬ cov n u (gI h a 4) = false := by rw [hb]; decide
      cases b with
      | false =>
        have C2 := C1.gone h1 h2 ea ha1 hc
        obtain ⟨h'', G', y1, y2, y3, y4⟩ := ih q h' (sH G c ((gH G c).eraseIdx k)) _ (by show k ≤ (fu G.2.2.1 c _ c).length; rw [fu_s, List.length_eraseIdx, if_pos hlt]; omega) (by omega) C2 (fun j x hj hx => by
          rw [show gH (sH G c ((gH G c).eraseIdx k)) c = (gH G c).eraseIdx k from fu_s _ _ _] at hx
          obtain ⟨q1, q2⟩ := H1 j x hj hx
          rw [(kp8 x q1).2.2.1]; exact q2) (kpd.k kd') (by rw [kpd.2.2.1]; exact e1) (by rw [kpd.2.2.1]; exact e2) (by rw [kpd.2.2.1]; exact e3)
        refine ⟨h'', G', un _ ?_, ?_, y3, (T1.tr y4).mono (by simp) (by omega)⟩
        · rw [if_neg hb', rdR_e k2, r1, nn_s, li.kgg, er, bd_s, rdI_e (kpd.k kd'), kpd.2.2.1, e3, bit_f, if_pos rfl]
          unfold f_X1_settle_64
          rw [sub1]
          exact y1
        · rw [fm_upd (r := r) (by unfold gSE; rw [if_pos ⟨hc, hcov⟩]; rfl) (by simp)] at y2
          exact y2
      | true =>
        obtain ⟨hq, h2', l', x1, x2, x3, C2, x5, x6⟩ := C1.back h1 h2 ea ha1 hc
        have kpd2 : Kp h' h2' dd := x5.1.kp (kpd.k kd') (by decide) (by decide) (by decide)
        obtain ⟨h'', G', y1, y2, y3, y4⟩ := ih q h2' (sW (sH G c ((gH G c).eraseIdx k)) hq l') _ (by show k ≤ (fu G.2.2.1 c _ c).length; rw [fu_s, List.length_eraseIdx, if_pos hlt]; omega) (by omega) C2 (fun j x hj hx => by
          rw [show gH (sW (sH G c ((gH G c).eraseIdx k)) hq l') c = (gH G c).eraseIdx k from fu_s _ _ _] at hx
          obtain ⟨q1, q2⟩ := H1 j x hj hx
          rw [(x6 x ((kp8 x q1).k q1)).1, (kp8 x q1).2.2.1]; exact q2) (kpd2.k (kpd.k kd')) (by rw [kpd2.2.2.1, kpd.2.2.1]; exact e1) (by rw [kpd2.2.2.1, kpd.2.2.1]; exact e2) (by rw [kpd2.2.2.1, kpd.2.2.1]; exact e3)
        refine ⟨h'', G', un _ ?_, ?_, y3, ((T1.tr x5).tr y4).mono (by simp) (by omega)⟩
        · rw [if_neg hb', rdR_e k2, r1, nn_s, li.kgg, er, bd_s, rdI_e (kpd.k kd'), kpd.2.2.1, e3, bit_t, if_neg (by decide), nn_s, rdR_e ha1.1, x1, nn_s, kg_e x2, x3, bd_s]
          unfold f_X1_settle_64
          rw [sub1]
          exact y1
        · rw [fm_upd (r := r) (by unfold gSE; rw [if_pos ⟨hc, hcov⟩]; rfl) (fun x hx => gSE_bk h1 h2 hx)] at y2
          exact y2
theorem st_ok {h : AH} {G : GH} {M : List R_le} (h1 : 1 ≤ c) (h2 : c ≤ 3) {dd : Nat} {b : Bool} (C : Cl h v G M (gH G)) (kd' : kd h dd = 4) (e3 : gI h dd 3 = bit b) : ∃ h' G', f_X1_settle (chA c) (some dd) h = some ((), h') ∧ Cl h' v G' (M.flatMap (gSE (quL v) (nI c) (gI h dd 1) (gI h dd 2) b)) (gH G') ∧ gK G' = gK G ∧ Tr h h' [0, 8] (gH G c).length := by
  have li := (C.2.2.1.2.2.2.2.1 c h1 h2).1
  obtain ⟨k2, r1, -, -⟩ := C.2.1.1.ch h1 h2
  have hlen := li.len
  obtain ⟨h', G', x1, x2, x3, x4⟩ := st_l h1 h2 dd (gI h dd 1) (gI h dd 2) b (gH G c).length FU h G M (Nat.le_refl _) (by unfold FU; omega) C (fun j a hj ha => by rw [List.getElem?_eq_none hj] at ha; cases ha) kd' rfl rfl e3
  refine ⟨h', G', ?_, x2, x3, x4⟩
  unfold f_X1_settle
  rw [szL r1 k2 li, ltd]
  exact x1
end Ga

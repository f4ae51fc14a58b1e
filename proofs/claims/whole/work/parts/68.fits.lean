/-! ===== cutting a name into words: the class's way, the reference's way ===== -/
def byD (x : Int64) : Nat → List Nat
  | 0 => []
  | k + 1 => bN x k :: byD x k
theorem byD_8 (x : Int64) : byD x 8 = by8 x := rfl
theorem byD_len (x : Int64) : ∀ k, (byD x k).length = k := by
  intro k
  induction k with
  | zero => rfl
  | succ k ih => simp [byD, ih]
theorem byD_drop (x : Int64) : ∀ d k, (byD x (k + d)).drop d = byD x k := by
  intro d
  induction d with
  | zero => intro k; rfl
  | succ d ih => intro k; exact ih k
theorem byD_nm {l : List Nat} (h8 : l.length ≤ 8) (hn : NmL l) : byD (lN (pkN l)) l.length = l := by
  have h := byD_drop (lN (pkN l)) (8 - l.length) l.length
  rw [show l.length + (8 - l.length) = 8 by omega, byD_8, by8_eq h8 hn] at h
  rw [← h]
  exact List.drop_left' (by simp)
theorem and255 (y : Int64) {n : Nat} (h : y.toBitVec.toNat % 256 = n) : y &&& 255 = lN n := by
  apply Int64.toBitVec_inj.mp
  apply BitVec.eq_of_toNat_eq
  have hn : n < 256 := by rw [← h]; exact Nat.mod_lt _ (by decide)
  rw [Int64.toBitVec_and, BitVec.toNat_and, lN_tn (by omega), ← h]
  show _ &&& 255 = _
  exact Nat.and_two_pow_sub_one_eq_mod _ 8
theorem byLU (x : Int64) {k : Nat} (hk : k < 8) : ((x.toUInt64 >>> ((8 * nI k).toInt64.toUInt64 &&& Int64.toUInt64 63)).toInt64) &&& 255 = lN (bN x k) := by
  apply and255
  unfold bN
  congr 1
  show (x.toBitVec >>> (((8 * nI k).toInt64.toUInt64 &&& Int64.toUInt64 63).toBitVec % 64)).toNat = _
  rw [BitVec.ushiftRight_eq', BitVec.toNat_ushiftRight, sh_u k hk, Nat.shiftRight_eq_div_pow]
theorem byLS (x : Int64) {k : Nat} (hk : k < 8) : (x >>> ((8 * nI k).toInt64 &&& 63)) &&& 255 = lN (bN x k) := by
  apply and255
  show (x.toBitVec.sshiftRight (((((8 * nI k).toInt64 &&& 63) : Int64).toBitVec.smod 64).toNat)).toNat % 256 = _
  rw [sh_s k hk]
  exact sshr8 _ (by omega)
theorem dot_e {n : Nat} (hn : n < 256) : lg_cmp (lN n) 46 = 0 ↔ n = 46 := by
  rw [cmp_eq, show (46 : Int64) = lN 46 by decide, pk_lEQ (by omega) (by decide)]
theorem shor_G {a b : Nat} (hb : b < 256) : (lN a <<< ((8 : Int32).toInt64 &&& 63)) ||| lN b = lN (a * 256 + b) := by
  apply Int64.toBitVec_inj.mp
  apply BitVec.eq_of_toNat_eq
  have e : (lN a <<< ((8 : Int32).toInt64 &&& 63)).toBitVec.toNat = (a % 2 ^ 56) * 256 := by
    have : (lN a <<< ((8 : Int32).toInt64 &&& 63)).toBitVec = (lN a).toBitVec <<< 8 := rfl
    rw [this, BitVec.toNat_shiftLeft, Nat.shiftLeft_eq]
    have e1 : (lN a).toBitVec.toNat = a % 2 ^ 64 := rfl
    rw [e1]
    omega
  have e2 : (lN (a * 256 + b)).toBitVec.toNat = (a * 256 + b) % 2 ^ 64 := rfl
  rw [Int64.toBitVec_or, BitVec.toNat_or, e, lN_tn (by omega), e2, or_8 hb]
  omega
/-- the class counts the dots -/
theorem wcnt_l (x : Int64) (h : AH) : ∀ (k f n : Nat), k ≤ 8 → k < f → f_X0_wordsOf_5 f x (nI n) (nI k - 1) h = f_X0_wordsOf_40 x (nI (n + (byD x k).countP (fun b => decide (b = 46)))) h := by
  intro k
  induction k with
  | zero =>
    intro f n _ hf
    obtain ⟨g, rfl⟩ : ∃ g, f = g + 1 := ⟨f - 1, by omega⟩
    rw [f_X0_wordsOf_5, if_pos neg1_lt]
    rfl
  | succ k ih =>
    intro f n hk hf
    obtain ⟨g, rfl⟩ : ∃ g, f = g + 1 := ⟨f - 1, by omega⟩
    rw [f_X0_wordsOf_5, nI_pred, if_neg (nI_pos (by omega)), byLU x (by omega)]
    unfold byD
    rw [List.countP_cons]
    have e : ∀ s0 : Nat, f_X0_wordsOf_32 (fun x0 x2 x3 h => f_X0_wordsOf_5 g x0 x2 x3 h) x (nI k) (nI s0) (nI n) h = f_X0_wordsOf_40 x (nI (n + s0 + (byD x k).countP (fun b => decide (b = 46)))) h := by
      intro s0
      unfold f_X0_wordsOf_32
      rw [ltd, nI_add, sub1]
      exact ih g (n + s0) (by omega) (by omega)
    by_cases c : bN x k = 46
    · rw [if_pos ((dot_e (bN_lt x k)).mpr c), if_pos (decide_eq_true c), show (1 : Int32) = nI 1 by decide, e 1]
      congr 2
      omega
    · rw [if_neg (fun z => c ((dot_e (bN_lt x k)).mp z)), if_neg (by simp [c]), show (0 : Int32) = nI 0 by decide, e 0]
      congr 2
/-- and fills the words -/
def WI (h : AH) (a cnt : Nat) (s : List Nat × Nat) : Prop := kd h a = 101 ∧ ln h a = cnt ∧ (∀ i n, (s.1 ++ [s.2])[i]? = some n → gJ h a i = lN n) ∧ ∀ i, s.1.length < i → gJ h a i = 0
theorem wfil_l (x : Int64) (a cnt : Nat) (hc : cnt ≤ 9) : ∀ (k f : Nat) (s : List Nat × Nat) (h : AH), k ≤ 8 → k < f → WI h a cnt s → s.1.length + (byD x k).countP (fun b => decide (b = 46)) + 1 = cnt → ∃ g, f_X0_wordsOf_51 f x (nI cnt) (some a) (nI s.1.length) (nI k - 1) h = some (some a, wJ h a g) ∧ WI (wJ h a g) a cnt ((byD x k).foldl wst s) := by
  intro k
  induction k with
  | zero =>
    intro f s h _ hf w _
    obtain ⟨q, rfl⟩ : ∃ q, f = q + 1 := ⟨f - 1, by omega⟩
    have e : wJ h a (gJ h a) = h := by
      have : rw1 (gJ h) a (gJ h a) = gJ h := by
        funext b
        unfold rw1
        split
        · rename_i z; rw [z]
        · rfl
      unfold wJ
      rw [this]
      rfl
    refine ⟨gJ h a, ?_, by rw [e]; exact w⟩
    rw [f_X0_wordsOf_51, if_pos neg1_lt, e]
  | succ k ih =>
    intro f s h hk hf w hd
    obtain ⟨q, rfl⟩ : ∃ q, f = q + 1 := ⟨f - 1, by omega⟩
    unfold byD at hd
    rw [List.countP_cons] at hd
    obtain ⟨w1, w2, w3, w4⟩ := w
    have bl := bN_lt x k
    have hst : (byD x (k + 1)).foldl wst s = (byD x k).foldl wst (wst s (bN x k)) := rfl
    rw [f_X0_wordsOf_51, nI_pred, if_neg (nI_pos (by omega)), byLU x (by omega), ltd, hst]
    by_cases c : bN x k = 46
    · rw [if_pos (decide_eq_true c)] at hd
      have es : wst s (bN x k) = (s.1 ++ [s.2], 0) := by unfold wst; rw [if_pos c]
      have wn : WI h a cnt (s.1 ++ [s.2], 0) := by
        refine ⟨w1, w2, fun i n hi => ?_, fun i hi => w4 i (by simp at hi; omega)⟩
        by_cases ci : i < (s.1 ++ [s.2]).length
        · rw [List.getElem?_append_left ci] at hi
          exact w3 i n hi
        · have ci' : (s.1 ++ [s.2]).length ≤ i := by omega
          rw [List.getElem?_append_right ci'] at hi
          simp only at hi
          cases hj : i - (s.1 ++ [s.2]).length with
          | zero =>
            rw [hj] at hi
            simp at hi
            rw [← hi, w4 i (by simp at ci; omega)]
            decide
          | succ m => rw [hj] at hi; simp at hi
      obtain ⟨g, g1, g2⟩ := ih q (s.1 ++ [s.2], 0) h (by omega) (by omega) wn (by simp; omega)
      refine ⟨g, ?_, by rw [es]; exact g2⟩
      rw [if_pos ((dot_e bl).mpr c)]
      unfold f_X0_wordsOf_104
      rw [nI_1, sub1]
      have : s.1.length + 1 = (s.1 ++ [s.2]).length := by simp
      rw [this]
      exact g1
    · rw [if_neg (by simp [c])] at hd
      have es : wst s (bN x k) = (s.1, s.2 * 256 + bN x k) := by unfold wst; rw [if_neg c]
      have hp : s.1.length < cnt := by omega
      have cur : gJ h a s.1.length = lN s.2 := w3 s.1.length s.2 (by rw [List.getElem?_append_right (Nat.le_refl _), Nat.sub_self]; rfl)
      have wn : WI (sJ h a s.1.length (lN (s.2 * 256 + bN x k))) a cnt (s.1, s.2 * 256 + bN x k) := by
        refine ⟨w1, w2, fun i n hi => ?_, fun i hi => ?_⟩
        · rw [gJ_sJ]
          by_cases ci : i = s.1.length
          · subst ci
            rw [List.getElem?_append_right (Nat.le_refl _), Nat.sub_self] at hi
            simp at hi
            rw [if_pos ⟨rfl, rfl⟩, hi]
          · rw [if_neg (fun z => ci z.2)]
            have ci2 : i < s.1.length := by
              by_cases z : i < s.1.length
              · exact z
              · rw [List.getElem?_eq_none (by simp; omega)] at hi; simp at hi
            rw [List.getElem?_append_left ci2] at hi
            exact w3 i n (by rw [List.getElem?_append_left ci2]; exact hi)
        · have hi' : s.1.length < i := hi
          rw [gJ_sJ, if_neg (fun z => by have := z.2; omega)]
          exact w4 i hi'
      obtain ⟨g, g1, g2⟩ := ih q (s.1, s.2 * 256 + bN x k) _ (by omega) (by omega) wn (by simp; omega)
      have ww : wJ (sJ h a s.1.length (lN (s.2 * 256 + bN x k))) a g = wJ h a g := by
        have : rw1 (gJ (sJ h a s.1.length (lN (s.2 * 256 + bN x k)))) a g = rw1 (gJ h) a g := by
          funext b
          unfold rw1
          split
          · rfl
          · rename_i z; exact gJ_sJn z
        show (hz h, hs h, kd h, ln h, gI h, rw1 (gJ (sJ h a s.1.length (lN (s.2 * 256 + bN x k)))) a g, gR h) = _
        rw [this]
        rfl
      refine ⟨g, ?_, by rw [es, ← ww]; exact g2⟩
      rw [if_neg (fun z => c ((dot_e bl).mp z)), if_neg (nI_ge hp (by omega)), nn_s, arJ_e w1 (by rw [w2]; exact inb_nI hp (by omega)), nI_clamp (by omega), cur, asJ_e w1 (by rw [w2]; exact inb_nI hp (by omega)), nI_clamp (by omega), shor_G bl]
      unfold f_X0_wordsOf_104
      rw [sub1, ← ww]
      exact g1
theorem wdN_len (x : Int64) : (wdN x).length = 1 + (byD x 8).countP (fun b => decide (b = 46)) := by
  have : ∀ (l : List Nat) (s : List Nat × Nat), (l.foldl wst s).1.length = s.1.length + l.countP (fun b => decide (b = 46)) := by
    intro l
    induction l with
    | nil => intro s; rfl
    | cons b l ih =>
      intro s
      show (l.foldl wst (wst s b)).1.length = _
      rw [ih, List.countP_cons]
      unfold wst
      by_cases c : b = 46
      · rw [if_pos c, if_pos (decide_eq_true c)]; simp; omega
      · rw [if_neg c, if_neg (by simp [c])]; rfl
  unfold wdN
  rw [byD_8]
  simp only [List.length_append, List.length_singleton, this, List.length_nil]
  omega
/-- the words' array is made at the top -/
theorem words_ok {h : AH} (w : WH h) (x : Int64) : ∃ h', f_X0_wordsOf x h = some (some (hz h + 4), h') ∧ WdR h' (hz h + 4) x ∧ LF h h' [] ∧ WH h' ∧ hz h' = hz h + 1 ∧ hs h' ≤ hs h + 9 ∧ (∀ b, b ≠ hz h + 4 → kd h' b = kd h b) := by
  have c8 : (byD x 8).countP (fun b => decide (b = 46)) ≤ 8 := by
    have := List.countP_le_length (p := fun b => decide (b = 46)) (l := byD x 8)
    rw [byD_len] at this
    exact this
  generalize hC : (byD x 8).countP (fun b => decide (b = 46)) = C at *
  have wa : WI (al h 101 (1 + C) (1 + C)) (hz h + 4) (1 + C) ([], 0) := by
    refine ⟨by rw [kd_al, if_pos rfl], by rw [ln_al, if_pos rfl], fun i n hi => ?_, fun i _ => by rw [gJ_al, if_pos rfl]⟩
    rw [gJ_al, if_pos rfl]
    cases i with
    | zero => simp at hi; rw [← hi]; decide
    | succ i => simp at hi
  obtain ⟨g, g1, g2⟩ := wfil_l x (hz h + 4) (1 + C) (by omega) 8 FU ([], 0) _ (by omega) (by decide) wa (by rw [hC]; simp; omega)
  refine ⟨wJ (al h 101 (1 + C) (1 + C)) (hz h + 4) g, ?_, ?_, ?_, ?_, rfl, by show hs h + (1 + C) ≤ _; omega, fun b hb => by show kd (al h 101 (1 + C) (1 + C)) b = _; rw [kd_al, if_neg hb]⟩
  · unfold f_X0_wordsOf
    have := wcnt_l x h 8 FU 1 (by omega) (by decide)
    rw [hC] at this
    have e7 : nI 8 - 1 = 7 := by decide
    rw [e7] at this g1
    rw [show (1 : Int32) = nI 1 by decide, this]
    unfold f_X0_wordsOf_40
    rw [nwA_e (by omega)]
    exact g1
  · obtain ⟨v1, v2, v3, -⟩ := g2
    refine ⟨v1, by rw [v2, wdN_len, hC], ?_⟩
    rw [byD_8] at v3
    exact v3
  · have f1 : LF h (al h 101 (1 + C) (1 + C)) [] := LF.fA w.1
    have t := w.1.top
    refine ⟨f1.1, f1.2.1, fun b k hb k3 => ?_, f1.2.2.2⟩
    have ne : b ≠ hz h + 4 := fun z => k (by rw [z]; exact t)
    obtain ⟨q1, q2, q3⟩ := f1.2.2.1 b k hb k3
    exact ⟨q1, (rw1_n (gJ (al h 101 (1 + C) (1 + C))) g ne).trans q2, q3⟩
  · exact w.fA (c := 101) (n := 1 + C) (s := 1 + C) (by omega) (by decide)
/-! ===== the reference's way ===== -/
theorem nl_r : ∀ (r : List Nat) (k : Nat), r.length ≤ k → (∀ b ∈ r, 0 < b ∧ b < 256) → nl k (pkR r) = r.length := by
  intro r
  induction r with
  | nil => intro k _ _; cases k <;> rfl
  | cons b r ih =>
    intro k hk hb
    have b1 := hb b (by simp)
    cases k with
    | zero => simp at hk
    | succ k =>
      show nl (k + 1) (pkR r * 256 + b) = _
      rw [nl, if_neg (by omega), show (pkR r * 256 + b) / 256 = pkR r by omega, ih k (by simpa using hk) (fun c hc => hb c (by simp [hc]))]
      rfl
theorem nlen_nm {l : List Nat} (h8 : l.length ≤ 8) (hn : NmL l) : nlen (lN (pkN l)) = l.length := by
  unfold nlen
  rw [lN_clamp (pkN_63 h8 hn)]
  have := nl_r l.reverse 8 (by simpa using h8) (fun b hb => by have := hn b (List.mem_reverse.mp hb); omega)
  rw [← pkN_rev, List.reverse_reverse, List.length_reverse] at this
  exact this
def mseJ (v : MV) (k i : Nat) (x : Int64) : MV := (v.1, v.2.1, rw1 v.2.2 k (vp_updL (v.2.2 k) i x))
theorem msJ_e {β : Type} {v : MV} {k i : Nat} {x : Int64} {F : MV → Option β} (h : i < alen k) (hk : alen k < 2 ^ 31) : msJ v k (nI i) x F = F (mseJ v k i x) := by
  unfold msJ
  rw [if_pos (inb_nI h hk), nI_clamp (by omega)]
  rfl
theorem mrJ_e {β : Type} {v : MV} {k i : Nat} {F : Int64 → Option β} (h : i < alen k) (hk : alen k < 2 ^ 31) : mrJ v k (nI i) F = F (v.2.2 k i) := by
  unfold mrJ
  rw [if_pos (inb_nI h hk), nI_clamp (by omega)]
theorem mJ_s {v : MV} {k i : Nat} {x : Int64} : (mseJ v k i x).2.2 k i = x := by
  show rw1 v.2.2 k _ k i = x
  rw [rw1_s, pk_uLs]
theorem mJ_n {v : MV} {k i j : Nat} {x : Int64} (h : j ≠ i) : (mseJ v k i x).2.2 k j = v.2.2 k j := by
  show rw1 v.2.2 k _ k j = _
  rw [rw1_s, pk_uLn h]
theorem mJ_k {v : MV} {k i j : Nat} {x : Int64} (h : j ≠ k) : (mseJ v k i x).2.2 j = v.2.2 j := rw1_n _ _ h
theorem Fr.updJ {v : MV} {k i : Nat} {x : Int64} : Fr v (mseJ v k i x) [] [k] := ⟨fun _ _ => rfl, fun j hj => ⟨rfl, mJ_k (by simpa using hj)⟩⟩
/-- the words so far -/
def WM (v : MV) (k : Nat) (s : List (List Nat) × List Nat) : Prop := ∀ i w, (s.1 ++ [s.2])[i]? = some w → v.2.2 k i = lN (pk1 w)
theorem split_l (x : Int64) (r2 : Nat) (hr : alen r2 = 10) : ∀ (k f : Nat) (s : List (List Nat) × List Nat) (v : MV), k ≤ 8 → k < f → WM v r2 s → s.1.length + k ≤ 8 → ∃ v', m_split_14 f x r2 (nI s.1.length) (nI k - 1) v = some (nI (((byD x k).foldl wsp s).1.length + 1), v') ∧ WM v' r2 ((byD x k).foldl wsp s) ∧ Fr v v' [] [r2] := by
  intro k
  induction k with
  | zero =>
    intro f s v _ hf w _
    obtain ⟨q, rfl⟩ : ∃ q, f = q + 1 := ⟨f - 1, by omega⟩
    refine ⟨v, ?_, w, (Fr.rf v).mono (by simp) (by simp)⟩
    rw [m_split_14, if_pos neg1_lt, nI_1]
    rfl
  | succ k ih =>
    intro f s v hk hf w hs
    obtain ⟨q, rfl⟩ : ∃ q, f = q + 1 := ⟨f - 1, by omega⟩
    have bl := bN_lt x k
    have hst : (byD x (k + 1)).foldl wsp s = (byD x k).foldl wsp (wsp s (bN x k)) := rfl
    rw [m_split_14, nI_pred, if_neg (nI_pos (by omega)), byLS x (by omega), ltd, hst]
    by_cases c : bN x k = 46
    · have es : wsp s (bN x k) = (s.1 ++ [s.2], []) := by unfold wsp; rw [if_pos c]
      have wn : WM (mseJ v r2 (s.1.length + 1) 1) r2 (s.1 ++ [s.2], []) := by
        intro i z hi
        by_cases ci : i = s.1.length + 1
        · subst ci
          rw [List.getElem?_append_right (by simp)] at hi
          simp at hi
          rw [mJ_s, hi]
          decide
        · have ci2 : i < (s.1 ++ [s.2]).length := by
            by_cases q : i < (s.1 ++ [s.2]).length
            · exact q
            · rw [List.getElem?_eq_none (by simp at q ⊢; omega)] at hi; simp at hi
          have hi' : (s.1 ++ [s.2] ++ [[]])[i]? = some z := hi
          rw [List.getElem?_append_left ci2] at hi'
          rw [mJ_n ci]
          exact w i z hi'
      obtain ⟨v', a1, a2, a3⟩ := ih q (s.1 ++ [s.2], []) _ (by omega) (by omega) wn (by simp; omega)
      refine ⟨v', ?_, by rw [es]; exact a2, (Fr.updJ.tr a3).mono (by simp) (by simp)⟩
      rw [if_pos ((dot_e bl).mpr c), nI_1, msJ_e (by rw [hr]; omega) (by rw [hr]; decide), es]
      unfold m_split_63
      rw [sub1]
      have : s.1.length + 1 = (s.1 ++ [s.2]).length := by simp
      rw [this] at a1 ⊢
      exact a1
    · have es : wsp s (bN x k) = (s.1, s.2 ++ [bN x k]) := by unfold wsp; rw [if_neg c]
      have cur : v.2.2 r2 s.1.length = lN (pk1 s.2) := w s.1.length s.2 (by rw [List.getElem?_append_right (Nat.le_refl _), Nat.sub_self]; rfl)
      have wn : WM (mseJ v r2 s.1.length (lN (pk1 s.2 * 256 + bN x k))) r2 (s.1, s.2 ++ [bN x k]) := by
        intro i z hi
        by_cases ci : i = s.1.length
        · subst ci
          rw [List.getElem?_append_right (Nat.le_refl _), Nat.sub_self] at hi
          simp at hi
          rw [mJ_s, ← hi, pk1_snoc]
        · have ci2 : i < s.1.length := by
            by_cases q : i < s.1.length
            · exact q
            · rw [List.getElem?_eq_none (by simp; omega)] at hi; simp at hi
          rw [List.getElem?_append_left ci2] at hi
          rw [mJ_n ci]
          exact w i z (by rw [List.getElem?_append_left ci2]; exact hi)
      obtain ⟨v', a1, a2, a3⟩ := ih q (s.1, s.2 ++ [bN x k]) _ (by omega) (by omega) wn (by simp; omega)
      refine ⟨v', ?_, by rw [es]; exact a2, (Fr.updJ.tr a3).mono (by simp) (by simp)⟩
      rw [if_neg (fun z => c ((dot_e bl).mp z)), mrJ_e (by rw [hr]; omega) (by rw [hr]; decide), cur, msJ_e (by rw [hr]; omega) (by rw [hr]; decide), shor_G bl, es]
      unfold m_split_63
      rw [sub1]
      exact a1
theorem split_ok {l : List Nat} (h8 : l.length ≤ 8) (hn : NmL l) (r2 : Nat) (hr : alen r2 = 10) (v : MV) : ∃ v', m_split (lN (pkN l)) r2 v = some (nI (wdB l).length, v') ∧ (∀ i w, (wdB l)[i]? = some w → v'.2.2 r2 i = lN (pk1 w)) ∧ Fr v v' [] [r2] := by
  have hx : ¬ lN (pkN l) < 0 := NmO.pos ⟨l, h8, hn, rfl⟩
  have w0 : WM (mseJ v r2 0 1) r2 ([], []) := by
    intro i w hi
    cases i with
    | zero => simp at hi; rw [mJ_s, hi]; decide
    | succ i => simp at hi
  obtain ⟨v', a1, a2, a3⟩ := split_l (lN (pkN l)) r2 hr l.length FU ([], []) _ h8 (by unfold FU; omega) w0 (by simp; omega)
  rw [byD_nm h8 hn] at a1 a2
  refine ⟨v', ?_, a2, (Fr.updJ.tr a3).mono (by simp) (by simp)⟩
  unfold m_split
  rw [show (0 : Int32) = nI 0 by decide, msJ_e (by rw [hr]; decide) (by rw [hr]; decide), length_ok hx, bdm_s, ltd, nlen_nm h8 hn]
  have e : (wdB l).length = (l.foldl wsp ([], [])).1.length + 1 := by unfold wdB; simp
  rw [e]
  exact a1
/-- the table of the reference: row j, place i -/
def TB (v : MV) (P K : List (List Nat)) (j i : Nat) : Prop := v.2.1 60 (11 * j + i) = bit (mt (P.drop j) (K.drop i))
def FW (v : MV) (P K : List (List Nat)) : Prop := P.length ≤ 9 ∧ K.length ≤ 9 ∧ (∀ w ∈ P, WdL w) ∧ (∀ w ∈ K, WdL w) ∧ (∀ i w, K[i]? = some w → v.2.2 58 i = lN (pk1 w)) ∧ ∀ i w, P[i]? = some w → v.2.2 59 i = lN (pk1 w)
theorem FW.fr {v v' : MV} {P K : List (List Nat)} {F A : List Nat} (w : FW v P K) (f : Fr v v' F A) (h8 : 58 ∉ A) (h9 : 59 ∉ A) : FW v' P K := by
  obtain ⟨w1, w2, w3, w4, w5, w6⟩ := w
  refine ⟨w1, w2, w3, w4, ?_, ?_⟩
  · rw [(f.2 58 h8).2]; exact w5
  · rw [(f.2 59 h9).2]; exact w6
theorem mt_nilR (w : List Nat) (ps : List (List Nat)) : mt (w :: ps) [] = (decide (w = [35]) && mt ps []) := by rw [mt]
theorem w1_35 {w : List Nat} (h : WdL w) : lg_cmp (lN (pk1 w)) 291 = 0 ↔ w = [35] := by
  rw [cmp_eq, show (291 : Int64) = lN (pk1 [35]) by decide]
  exact pk1W h ⟨by simp, by simp⟩
theorem w1_42 {w : List Nat} (h : WdL w) : lg_cmp (lN (pk1 w)) 298 = 0 ↔ w = [42] := by
  rw [cmp_eq, show (298 : Int64) = lN (pk1 [42]) by decide]
  exact pk1W h ⟨by simp, by simp⟩
theorem ix11 (j i : Nat) : (11 : Int32) * nI j + nI i = nI (11 * j + i) := by
  rw [show (11 : Int32) = nI 11 by decide, pk_mul, nI_add]
theorem fitsAt_ok {v : MV} {P K : List (List Nat)} {j i : Nat} (w : FW v P K) (hj : j < P.length) (hi : i ≤ K.length) (t1 : ∀ i', i' ≤ K.length → TB v P K (j + 1) i') (t2 : ∀ i', i < i' → i' ≤ K.length → TB v P K j i') : m_fitsAt (nI i) (nI j) (nI K.length) v = some (bit (mt (P.drop j) (K.drop i)), v) := by
  obtain ⟨w1, w2, w3, w4, w5, w6⟩ := w
  have hd : P.drop j = P[j]'hj :: P.drop (j + 1) := List.drop_eq_getElem_cons hj
  have pw := w6 j _ (List.getElem?_eq_getElem hj)
  have ww := w3 _ (List.getElem_mem hj)
  rw [hd]
  generalize hw : P[j]'hj = q at *
  unfold m_fitsAt
  rw [mrJ_e (show j < alen 59 from by show j < 10; omega) (by decide), pw, nI_1, ix11, ix11, nI_1]
  have a60 : alen 60 = 110 := rfl
  have r1 := t1 i hi
  unfold TB at r1
  by_cases c : q = [35]
  · rw [if_pos ((w1_35 ww).mpr c), mrI_e (by rw [a60]; omega) (by decide), r1]
    by_cases e : i < K.length
    · have hk : K.drop i = K[i]'e :: K.drop (i + 1) := List.drop_eq_getElem_cons e
      have r2 := t2 (i + 1) (by omega) (by omega)
      unfold TB at r2
      rw [hd, ← Nat.add_assoc] at r2
      rw [if_neg (nI_ge e (by omega)), mrI_e (by rw [a60]; omega) (by decide), r2, hk, mt, if_pos c]
      cases mt (P.drop (j + 1)) (K[i]'e :: K.drop (i + 1)) with
      | true => rw [if_neg (by decide)]; rfl
      | false =>
        rw [if_pos bit_f, Bool.false_or]
        cases mt (q :: P.drop (j + 1)) (K.drop (i + 1)) with
        | true => rw [if_neg (by decide)]; rfl
        | false => rw [if_pos bit_f]; rfl
    · have hk : K.drop i = [] := List.drop_eq_nil_of_le (by omega)
      rw [if_pos (nI_le (by omega) (by omega)), hk, mt_nilR, decide_eq_true c, Bool.true_and]
      cases mt (P.drop (j + 1)) [] with
      | true => rw [if_neg (by decide)]; rfl
      | false => rw [if_pos bit_f]; rfl
  · rw [if_neg (fun z => c ((w1_35 ww).mp z))]
    by_cases e : i < K.length
    · have hk : K.drop i = K[i]'e :: K.drop (i + 1) := List.drop_eq_getElem_cons e
      have kw := w5 i _ (List.getElem?_eq_getElem e)
      have wk := w4 _ (List.getElem_mem e)
      have r2 := t1 (i + 1) (by omega)
      unfold TB at r2
      have g86 : m_fitsAt_86 (nI i) (nI j) v = some (bit (mt (P.drop (j + 1)) (K.drop (i + 1))), v) := by
        unfold m_fitsAt_86
        rw [nI_1, ix11, nI_1, Nat.add_assoc, mrI_e (by rw [a60]; omega) (by decide), r2]
        cases mt (P.drop (j + 1)) (K.drop (i + 1)) with
        | true => rw [if_neg (by decide)]; rfl
        | false => rw [if_pos bit_f]; rfl
      rw [if_neg (nI_ge e (by omega)), hk, mt, if_neg c]
      by_cases c2 : q = [42]
      · rw [if_pos ((w1_42 ww).mpr c2), g86, decide_eq_true c2, Bool.true_or, Bool.true_and]
      · rw [if_neg (fun z => c2 ((w1_42 ww).mp z)), mrJ_e (show i < alen 58 from by show i < 10; omega) (by decide), kw]
        by_cases c3 : q = K[i]'e
        · rw [if_pos (cmp_eq.mpr (by rw [c3])), g86, decide_eq_true c3, Bool.or_true, Bool.true_and]
        · rw [if_neg (fun z => c3 ((pk1W ww wk).mp (cmp_eq.mp z))), decide_eq_false c2, decide_eq_false c3]
          rfl
    · have hk : K.drop i = [] := List.drop_eq_nil_of_le (by omega)
      rw [if_pos (nI_le (by omega) (by omega)), hk, mt_nilR, decide_eq_false c]
      rfl
theorem TB.set {v : MV} {P K : List (List Nat)} {j i j' i' : Nat} {x : Int32} (t : TB v P K j' i') (h : ¬ (j' = j ∧ i' = i)) (hi : i ≤ 9) (hi' : i' ≤ 9) : TB (mseA v 60 (11 * j + i) x) P K j' i' := by
  unfold TB
  rw [mA_n (by omega)]
  exact t
theorem Bo.setA {v : MV} {k i : Nat} {b : Bool} (h : Bo v k) : Bo (mseA v k i (bit b)) k := fun j => by
  by_cases c : j = i
  · rw [c, mA_s]; cases b <;> simp [bit]
  · rw [mA_n c]; exact h j
theorem msZ_e {β : Type} {v : MV} {k i : Nat} {b : Bool} {F : MV → Option β} (h : i < alen k) (hk : alen k < 2 ^ 31) : msZ v k (nI i) (bit b) F = F (mseA v k i (bit b)) := by
  unfold msZ
  rw [if_pos ⟨inb_nI h hk, by cases b <;> simp [bit]⟩, nI_clamp (by omega)]
  rfl
theorem row_l {P K : List (List Nat)} {j : Nat} (hj : j ≤ P.length) (k24 : Int32 → Int32 → Int32 → MV → Option (Int32 × MV)) : ∀ (i f : Nat) (v : MV), i ≤ K.length + 1 → i < f → FW v P K → Bo v 60 → (∀ j' i', j < j' → j' ≤ P.length → i' ≤ K.length → TB v P K j' i') → (∀ i', i ≤ i' → i' ≤ K.length → TB v P K j i') → ∃ v', m_fits_33 k24 f (nI K.length) (nI P.length) (nI j) (nI i - 1) v = k24 (nI K.length) (nI P.length) (nI j - 1) v' ∧ FW v' P K ∧ Bo v' 60 ∧ Fr v v' [] [60] ∧ ∀ j' i', j ≤ j' → j' ≤ P.length → i' ≤ K.length → TB v' P K j' i' := by
  intro i
  induction i with
  | zero =>
    intro f v _ hf w b t1 t2
    obtain ⟨g, rfl⟩ : ∃ g, f = g + 1 := ⟨f - 1, by omega⟩
    refine ⟨v, ?_, w, b, (Fr.rf v).mono (by simp) (by simp), fun j' i' h1 h2 h3 => ?_⟩
    · rw [m_fits_33, if_pos neg1_lt]
      unfold m_fits_89
      rw [sub1]
    · by_cases e : j' = j
      · rw [e]; exact t2 i' (Nat.zero_le _) h3
      · exact t1 j' i' (by omega) h2 h3
  | succ i ih =>
    intro f v hi hf w b t1 t2
    obtain ⟨g, rfl⟩ : ∃ g, f = g + 1 := ⟨f - 1, by omega⟩
    have w' := w
    obtain ⟨w1, w2, -⟩ := w'
    have a60 : alen 60 = 110 := rfl
    have val : ∀ q : Bool, q = mt (P.drop j) (K.drop i) → ∃ v', m_fits_82 k24 (fun x5 x6 x7 x8 v => m_fits_33 k24 g x5 x6 x7 x8 v) (nI K.length) (nI P.length) (nI j) (nI i) (bit q) (nI (11 * j + i)) v = k24 (nI K.length) (nI P.length) (nI j - 1) v' ∧ FW v' P K ∧ Bo v' 60 ∧ Fr v v' [] [60] ∧ ∀ j' i', j ≤ j' → j' ≤ P.length → i' ≤ K.length → TB v' P K j' i' := by
      intro q hq
      have f0 : Fr v (mseA v 60 (11 * j + i) (bit q)) [] [60] := Fr.updA
      obtain ⟨v', a1, a2, a3, a4, a5⟩ := ih g (mseA v 60 (11 * j + i) (bit q)) (by omega) (by omega) (w.fr f0 (by decide) (by decide)) b.setA (fun j' i' h1 h2 h3 => (t1 j' i' h1 h2 h3).set (by omega) (by omega) (by omega)) (fun i' h1 h2 => by
        by_cases e : i' = i
        · subst e
          unfold TB
          rw [mA_s, hq]
        · exact (t2 i' (by omega) h2).set (by omega) (by omega) (by omega))
      refine ⟨v', ?_, a2, a3, (f0.tr a4).mono (by simp) (by simp), a5⟩
      unfold m_fits_82
      rw [msZ_e (by rw [a60]; omega) (by decide), sub1]
      exact a1
    rw [m_fits_33, nI_pred, if_neg (nI_pos (by omega)), ix11]
    by_cases c : j = P.length
    · have hd : P.drop j = [] := List.drop_eq_nil_of_le (by omega)
      have e : nI j = nI P.length := by rw [c]
      rw [if_pos e]
      by_cases c2 : i = K.length
      · rw [if_pos (by rw [c2])]
        exact val true (by rw [hd, mt, List.drop_eq_nil_of_le (by omega)]; rfl)
      · rw [if_neg (fun z => c2 ((nI_eq (by omega) (by omega)).mp z))]
        refine val false ?_
        rw [hd, mt]
        cases q : K.drop i with
        | nil =>
          have := congrArg List.length q
          rw [List.length_drop] at this
          simp at this
          omega
        | cons a b => rfl
    · rw [if_neg (fun z => c ((nI_eq (by omega) (by omega)).mp z)), fitsAt_ok w (by omega) (by omega) (fun i' h => t1 (j + 1) i' (by omega) (by omega) h) (fun i' h1 h2 => t2 i' (by omega) h2), bdm_s]
      exact val _ rfl
theorem tab_l {P K : List (List Nat)} : ∀ (j f : Nat) (v : MV), j ≤ P.length + 1 → j < f → FW v P K → Bo v 60 → (∀ j' i', j ≤ j' → j' ≤ P.length → i' ≤ K.length → TB v P K j' i') → ∃ v', m_fits_24 f (nI K.length) (nI P.length) (nI j - 1) v = some (bit (mt P K), v') ∧ Bo v' 60 ∧ Fr v v' [] [60] := by
  intro j
  induction j with
  | zero =>
    intro f v _ hf w b t
    obtain ⟨g, rfl⟩ : ∃ g, f = g + 1 := ⟨f - 1, by omega⟩
    refine ⟨v, ?_, b, (Fr.rf v).mono (by simp) (by simp)⟩
    have t0 := t 0 0 (Nat.le_refl _) (Nat.zero_le _) (Nat.zero_le _)
    unfold TB at t0
    rw [m_fits_24, if_pos neg1_lt]
    unfold m_fits_95
    rw [show (0 : Int32) = nI 0 by decide, mrI_e (by decide) (by decide), show v.2.1 60 0 = bit (mt P K) from t0, rz_b]
  | succ j ih =>
    intro f v hj hf w b t
    obtain ⟨g, rfl⟩ : ∃ g, f = g + 1 := ⟨f - 1, by omega⟩
    have w' := w
    obtain ⟨w1, w2, -⟩ := w'
    obtain ⟨v', a1, a2, a3, a4, a5⟩ := row_l (P := P) (K := K) (j := j) (by omega) (fun x5 x6 x7 v => m_fits_24 g x5 x6 x7 v) (K.length + 1) FU v (Nat.le_refl _) (by unfold FU; omega) w b (fun j' i' h1 h2 h3 => t j' i' (by omega) h2 h3) (fun i' h1 h2 => by omega)
    obtain ⟨v2, b1, b2, b3⟩ := ih g v' (by omega) (by omega) a2 a3 a5
    refine ⟨v2, ?_, b2, (a4.tr b3).mono (by simp) (by simp)⟩
    rw [m_fits_24, nI_pred, if_neg (nI_pos (by omega))]
    rw [nI_pred] at a1
    rw [a1]
    exact b1
theorem fitM_ok {lk lp : List Nat} (h1 : lk.length ≤ 8) (n1 : NmL lk) (h2 : lp.length ≤ 8) (n2 : NmL lp) {v : MV} (b : Bo v 60) : ∃ v', m_fits (lN (pkN lk)) (lN (pkN lp)) v = some (bit (mt (wdB lp) (wdB lk)), v') ∧ Bo v' 60 ∧ Fr v v' [] [58, 59, 60] := by
  obtain ⟨v1, a1, a2, a3⟩ := split_ok h1 n1 58 rfl v
  obtain ⟨v2, b1, b2, b3⟩ := split_ok h2 n2 59 rfl v1
  have w : FW v2 (wdB lp) (wdB lk) := ⟨(wdB_len h2).1, (wdB_len h1).1, wdB_ok h2 n2, wdB_ok h1 n1, by rw [(b3.2 58 (by decide)).2]; exact a2, b2⟩
  have l9 := (wdB_len h2).1
  obtain ⟨v3, c1, c2, c3⟩ := tab_l ((wdB lp).length + 1) FU v2 (Nat.le_refl _) (by unfold FU; omega) w ((b.fr a3 (by decide)).fr b3 (by decide)) (fun j' i' h _ _ => by omega)
  refine ⟨v3, ?_, c2, ((a3.tr b3).tr c3).mono (by simp) (by simp)⟩
  unfold m_fits
  rw [a1, bdm_s, b1, bdm_s]
  rw [nI_pred] at c1
  exact c1

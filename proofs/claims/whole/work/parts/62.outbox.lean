/-! ===== the outbox: a ring that holds a list ===== -/
def OC (h : AH) (s : Nat) (l : List Int32) : Prop := kd h 7 = 10 ∧ gR h 7 1 = some 8 ∧ kd h 8 = 100 ∧ ln h 8 = 2400 ∧ l.length ≤ 2400 ∧ gI h 7 0 = nI l.length ∧ s < 2400 ∧ gI h 7 2 = nI s ∧ ∀ i, i < l.length → l[i]? = some (gI h 8 ((s + i) % 2400))
theorem nz_s {β : Type} {X : Option β} : nz 2400 X = X := if_neg (by decide)
theorem rem_e {a : Nat} (h : a < 100000) : nI a - nI a / 2400 * 2400 = nI (a % 2400) := pk_rem (d := 2400) (by omega) (by decide) (by decide)
theorem mod_ne {s i n : Nat} (hi : i < n) (hn : n < 2400) (hs : s < 2400) : (s + i) % 2400 ≠ (s + n) % 2400 := by omega
theorem OC.fr {h h' : AH} {s : Nat} {l : List Int32} {X : List Nat} (o : OC h s l) (f : LF h h' X) (h7 : 7 ∉ X) (h8 : 8 ∉ X) : OC h' s l := by
  obtain ⟨o1, o2, o3, o4, o5, o6, o7, o8, o9⟩ := o
  obtain ⟨a1, a2, a3⟩ := f.2.2.1 7 (by rw [o1]; decide) h7 (by rw [o1]; decide)
  obtain ⟨b1, b2, b3⟩ := f.2.2.1 8 (by rw [o3]; decide) h8 (by rw [o3]; decide)
  refine ⟨f.kk o1 (by decide), by rw [a3]; exact o2, f.kk o3 (by decide), by rw [(f.2.1 8 (by rw [o3]; decide)).2]; exact o4, o5, by rw [a1]; exact o6, o7, by rw [a1]; exact o8, by rw [b1]; exact o9⟩
/-- one byte -/
theorem put_c {h : AH} {s : Nat} {l : List Int32} (o : OC h s l) (x : Int32) (hl : l.length < 2400) : ∃ h', f_X9_put 7 x h = some ((), h') ∧ OC h' s (l ++ [x]) ∧ Ci h h' [7, 8] ∧ gI h' 7 3 = gI h 7 3 ∧ gI h' 7 4 = gI h 7 4 := by
  obtain ⟨o1, o2, o3, o4, o5, o6, o7, o8, o9⟩ := o
  refine ⟨sI (sI h 8 ((s + l.length) % 2400) x) 7 0 (nI (l.length + 1)), ?_, ⟨o1, o2, o3, o4, by simp; omega, by rw [gI_sI, if_pos ⟨rfl, rfl⟩, List.length_append]; rfl, o7, ?_, fun i hi => ?_⟩, (Ci.fI (by simp)).tr (Ci.fI (by simp)), ?_, ?_⟩
  · unfold f_X9_put
    rw [rdI_e o1, o6, if_neg (show ¬ (2400 : Int32) ≤ nI l.length from nI_ge (b := 2400) hl (by omega)), rdR_e o1, o2, rdI_e o1, o8, rdI_e o1, o6, nz_s, nn_s, nI_add, rem_e (by omega), asI_e o3 (by rw [o4]; exact inb_nI (Nat.mod_lt _ (by decide)) (by decide)), nI_clamp (Nat.lt_trans (Nat.mod_lt _ (by decide)) (by decide)), rdI_e (by exact o1), gI_sIn (by decide), o6, wrI_e (by exact o1), nI_1]
  · rw [gI_sI, if_neg (by simp), gI_sIn (by decide)]; exact o8
  · rw [gI_sIn (by decide), gI_sI]
    rw [List.length_append] at hi
    by_cases c : i = l.length
    · subst c
      rw [if_pos ⟨rfl, rfl⟩, List.getElem?_append_right (Nat.le_refl _), Nat.sub_self]
      rfl
    · have hi2 : i < l.length := by simp at hi; omega
      rw [if_neg (fun z => mod_ne hi2 hl o7 z.2), List.getElem?_append_left hi2]
      exact o9 i hi2
  · rw [gI_sI, if_neg (by simp), gI_sIn (by decide)]
  · rw [gI_sI, if_neg (by simp), gI_sIn (by decide)]
theorem OC.k7 {h : AH} {s : Nat} {l : List Int32} (o : OC h s l) : kd h 7 = 10 := o.1
/-- where a frame's length goes -/
def OM (h : AH) (s p : Nat) : Prop := gI h 7 3 = nI ((s + p + 2) % 2400) ∧ gI h 7 4 = nI (p + 3)
theorem OM.put {h h' : AH} {s p : Nat} (m : OM h s p) (e3 : gI h' 7 3 = gI h 7 3) (e4 : gI h' 7 4 = gI h 7 4) : OM h' s p := ⟨e3.trans m.1, e4.trans m.2⟩
theorem OC.setF {h : AH} {s k : Nat} {l : List Int32} {x : Int32} (o : OC h s l) (hk : k ≠ 0) (hk2 : k ≠ 2) : OC (sI h 7 k x) s l := by
  obtain ⟨o1, o2, o3, o4, o5, o6, o7, o8, o9⟩ := o
  refine ⟨o1, o2, o3, o4, o5, by rw [gI_sI, if_neg (fun z => hk z.2.symm)]; exact o6, o7, by rw [gI_sI, if_neg (fun z => hk2 z.2.symm)]; exact o8, ?_⟩
  rw [gI_sIn (by decide)]
  exact o9
theorem begin_c {h : AH} {s : Nat} {l : List Int32} (o : OC h s l) (c m : Int32) (hl : l.length + 5 ≤ 2400) : ∃ h', f_X9_begin 7 c m h = some ((), h') ∧ OC h' s (l ++ [1, c, 0, m >>> ((8 : Int32) &&& 31), m &&& 255]) ∧ Ci h h' [7, 8] ∧ OM h' s l.length := by
  obtain ⟨h1, e1, o1, c1, -, -⟩ := put_c o 1 (by omega)
  obtain ⟨h2, e2, o2, c2, -, -⟩ := put_c o1 c (by simp; omega)
  have o2' : OC (sI h2 7 3 (nI ((s + l.length + 2) % 2400))) s (l ++ [1] ++ [c]) := o2.setF (by decide) (by decide)
  obtain ⟨h3, e3, o3, c3, f3, -⟩ := put_c o2' 0 (by simp; omega)
  have o3' : OC (sI h3 7 4 (nI (l.length + 3))) s (l ++ [1] ++ [c] ++ [0]) := o3.setF (by decide) (by decide)
  obtain ⟨h4, e4, o4, c4, f4, g4⟩ := put_c o3' (m >>> ((8 : Int32) &&& 31)) (by simp; omega)
  obtain ⟨h5, e5, o5, c5, f5, g5⟩ := put_c o4 (m &&& 255) (by simp; omega)
  refine ⟨h5, ?_, by simpa using o5, ((((c1.tr c2).tr (Ci.fI (by simp))).tr c3).tr (Ci.fI (by simp))).tr (c4.tr c5), ?_, ?_⟩
  · have s7 : gI h2 7 2 = nI s := o2.2.2.2.2.2.2.2.1
    have n7 : gI h2 7 0 = nI (l.length + 2) := by rw [o2.2.2.2.2.2.1]; congr 1; simp
    have n3 : gI h3 7 0 = nI (l.length + 3) := by rw [o3.2.2.2.2.2.1]; congr 1; simp
    unfold f_X9_begin
    rw [kg_e o.1, e1, bd_s, kg_e o1.1, e2, bd_s, rdI_e o2.1, s7, rdI_e o2.1, n7, nz_s, nI_add, rem_e (by have := o2.2.2.2.2.2.2.1; omega), wrI_e o2.1, ← Nat.add_assoc, kg_e (by exact o2.1), e3, bd_s, rdI_e o3.1, n3, wrI_e o3.1, kg_e (by exact o3.1), e4, bd_s, kg_e o4.1, e5, bd_s]
  · rw [f5, f4, gI_sI, if_neg (by simp), f3, gI_sI, if_pos ⟨rfl, rfl⟩]
  · rw [g5, g4, gI_sI, if_pos ⟨rfl, rfl⟩]
theorem end_c {h : AH} {s p : Nat} {pre ps : List Int32} {z : Int32} (o : OC h s (pre ++ z :: ps)) (m : OM h s p) (hp : pre.length = p + 2) (hl : (pre ++ z :: ps).length < 2400) : ∃ h', f_X9_end 7 h = some ((), h') ∧ OC h' s (pre ++ nI ps.length :: ps ++ [206]) ∧ Ci h h' [7, 8] := by
  have hs := o.2.2.2.2.2.2.1
  have hn : (pre ++ z :: ps).length = p + 3 + ps.length := by simp; omega
  have o' : OC (sI h 8 ((s + p + 2) % 2400) (nI ps.length)) s (pre ++ nI ps.length :: ps) := by
    obtain ⟨o1, o2, o3, o4, o5, o6, o7, o8, o9⟩ := o
    refine ⟨o1, o2, o3, o4, by simp at o5 ⊢; omega, by rw [gI_sIn (by decide), o6]; simp, o7, by rw [gI_sIn (by decide)]; exact o8, fun i hi => ?_⟩
    have hi2 : i < (pre ++ z :: ps).length := by simp at hi ⊢; exact hi
    have hi3 : i < p + 3 + ps.length := by omega
    rw [gI_sI]
    by_cases c : i = p + 2
    · subst c
      rw [if_pos ⟨rfl, by rw [Nat.add_assoc]⟩, List.getElem?_append_right (by omega), hp, Nat.sub_self]
      rfl
    · rw [if_neg (fun y => c (by have := y.2; omega))]
      have := o9 i hi2
      rw [← this]
      by_cases c2 : i < pre.length
      · rw [List.getElem?_append_left c2, List.getElem?_append_left c2]
      · rw [List.getElem?_append_right (by omega), List.getElem?_append_right (by omega)]
        obtain ⟨q, hq⟩ : ∃ q, i - pre.length = q + 1 := ⟨i - pre.length - 1, by omega⟩
        rw [hq, List.getElem?_cons_succ, List.getElem?_cons_succ]
  obtain ⟨h', e, oo, cc, -, -⟩ := put_c o' 206 (by simp at hl ⊢; omega)
  refine ⟨h', ?_, oo, (Ci.fI (by simp)).tr cc⟩
  unfold f_X9_end
  rw [rdR_e o.1, o.2.1, rdI_e o.1, m.1, rdI_e o.1, o.2.2.2.2.2.1, hn, rdI_e o.1, m.2, nn_s, pk_sub (by omega), show p + 3 + ps.length - (p + 3) = ps.length by omega, asI_e o.2.2.1 (by rw [o.2.2.2.1]; exact inb_nI (Nat.mod_lt _ (by decide)) (by decide)), nI_clamp (Nat.lt_trans (Nat.mod_lt _ (by decide)) (by decide)), kg_e (by exact o.1), e, bd_s]
/-- a frame that is begun, and what it holds so far -/
def OF (h : AH) (s : Nat) (l ps : List Int32) (c : Int32) : Prop := OC h s (l ++ 1 :: c :: 0 :: ps) ∧ OM h s l.length
theorem OF.put {h : AH} {s : Nat} {l ps : List Int32} {c : Int32} (o : OF h s l ps c) (x : Int32) (hl : l.length + ps.length + 4 ≤ 2400) : ∃ h', f_X9_put 7 x h = some ((), h') ∧ OF h' s l (ps ++ [x]) c ∧ Ci h h' [7, 8] := by
  obtain ⟨h', e, o', c', f3, f4⟩ := put_c o.1 x (by simp; omega)
  exact ⟨h', e, ⟨by simpa using o', o.2.put f3 f4⟩, c'⟩
theorem OF.beg {h : AH} {s : Nat} {l : List Int32} (o : OC h s l) (c m : Int32) (hl : l.length + 5 ≤ 2400) : ∃ h', f_X9_begin 7 c m h = some ((), h') ∧ OF h' s l [m >>> ((8 : Int32) &&& 31), m &&& 255] c ∧ Ci h h' [7, 8] := by
  obtain ⟨h', e, o', c', m'⟩ := begin_c o c m hl
  exact ⟨h', e, ⟨o', m'⟩, c'⟩
theorem OF.fin {h : AH} {s : Nat} {l ps : List Int32} {c : Int32} (o : OF h s l ps c) (hl : l.length + ps.length + 4 ≤ 2400) : ∃ h', f_X9_end 7 h = some ((), h') ∧ OC h' s (l ++ 1 :: c :: nI ps.length :: ps ++ [206]) ∧ Ci h h' [7, 8] := by
  have o1 : OC h s ((l ++ [1, c]) ++ 0 :: ps) := by simpa using o.1
  obtain ⟨h', e, o', c'⟩ := end_c o1 o.2 (by simp) (by simp; omega)
  exact ⟨h', e, by simpa using o', c'⟩
theorem tell_c {h : AH} {s : Nat} {l : List Int32} (o : OC h s l) (c m : Int32) (hl : l.length + 6 ≤ 2400) : ∃ h', f_X9_tell 7 c m h = some ((), h') ∧ OC h' s (l ++ [1, c, 2, m >>> ((8 : Int32) &&& 31), m &&& 255, 206]) ∧ Ci h h' [7, 8] := by
  obtain ⟨h1, e1, o1, c1⟩ := OF.beg o c m (by omega)
  obtain ⟨h2, e2, o2, c2⟩ := o1.fin (by simp; omega)
  refine ⟨h2, ?_, by simpa [nI2] using o2, c1.tr c2⟩
  unfold f_X9_tell
  rw [kg_e o.1, e1, bd_s, kg_e o1.1.1, e2, bd_s]
theorem OF.k7 {h : AH} {s : Nat} {l ps : List Int32} {c : Int32} (o : OF h s l ps c) : kd h 7 = 10 := o.1.1
theorem OF.short {h : AH} {s : Nat} {l ps : List Int32} {c : Int32} (o : OF h s l ps c) (x : Int32) (hl : l.length + ps.length + 5 ≤ 2400) : ∃ h', f_X9_putShort 7 x h = some ((), h') ∧ OF h' s l (ps ++ [x >>> ((8 : Int32) &&& 31), x &&& 255]) c ∧ Ci h h' [7, 8] := by
  obtain ⟨h1, e1, o1, c1⟩ := o.put (x >>> ((8 : Int32) &&& 31)) (by omega)
  obtain ⟨h2, e2, o2, c2⟩ := o1.put (x &&& 255) (by simp; omega)
  refine ⟨h2, ?_, by simpa using o2, c1.tr c2⟩
  unfold f_X9_putShort
  rw [kg_e o.k7, e1, bd_s, kg_e o1.k7, e2, bd_s]
theorem mistake_c {h : AH} {s : Nat} {l : List Int32} (o : OC h s l) (c m x : Int32) (hl : l.length + 8 ≤ 2400) : ∃ h', f_X9_tellMistake 7 c m x h = some ((), h') ∧ OC h' s (l ++ [1, c, 4, m >>> ((8 : Int32) &&& 31), m &&& 255, x >>> ((8 : Int32) &&& 31), x &&& 255, 206]) ∧ Ci h h' [7, 8] := by
  obtain ⟨h1, e1, o1, c1⟩ := OF.beg o c m (by omega)
  obtain ⟨h2, e2, o2, c2⟩ := o1.short x (by simp; omega)
  obtain ⟨h3, e3, o3, c3⟩ := o2.fin (by simp; omega)
  refine ⟨h3, ?_, by simpa [show nI 4 = 4 by decide] using o3, (c1.tr c2).tr c3⟩
  unfold f_X9_tellMistake
  rw [kg_e o.1, e1, bd_s, kg_e o1.k7, e2, bd_s, kg_e o2.k7, e3, bd_s]
/-- names -/
theorem OF.name_l (x : Int64) : ∀ (k f : Nat) (h : AH) (s : Nat) (l ps : List Int32) (c : Int32), k ≤ 8 → k < f → OF h s l ps c → l.length + ps.length + k + 3 ≤ 2400 → ∃ h', f_X9_putName_41 f 7 x (nI k - 1) h = some ((), h') ∧ OF h' s l (ps ++ nbs x k) c ∧ Ci h h' [7, 8] := by
  intro k
  induction k with
  | zero =>
    intro f h s l ps c _ hf o _
    obtain ⟨g, rfl⟩ : ∃ g, f = g + 1 := ⟨f - 1, by omega⟩
    refine ⟨h, ?_, by simpa [nbs] using o, Ci.rf _ _⟩
    rw [f_X9_putName_41, if_pos neg1_lt]
  | succ k ih =>
    intro f h s l ps c hk hf o hl
    obtain ⟨g, rfl⟩ : ∃ g, f = g + 1 := ⟨f - 1, by omega⟩
    obtain ⟨h1, e1, o1, c1⟩ := o.put (byA x k) (by omega)
    obtain ⟨h2, e2, o2, c2⟩ := ih g h1 s l (ps ++ [byA x k]) c (by omega) (by omega) o1 (by simp; omega)
    refine ⟨h2, ?_, by simpa [nbs] using o2, c1.tr c2⟩
    rw [f_X9_putName_41, nI_pred, if_neg (nI_pos (by omega)), kg_e o.k7, byU_eq x (by omega), ← byA_eq x (by omega), e1, bd_s, sub1]
    exact e2
theorem lN_shr {a : Nat} (h : a < 2 ^ 63) : ((lN a).toUInt64 >>> ((8 : Int32).toInt64.toUInt64 &&& Int64.toUInt64 63)).toInt64 = lN (a / 256) := by
  apply Int64.toBitVec_inj.mp
  apply BitVec.eq_of_toNat_eq
  show ((lN a).toBitVec >>> (((8 : Int32).toInt64.toUInt64 &&& Int64.toUInt64 63).toBitVec % 64)).toNat = _
  rw [BitVec.ushiftRight_eq', BitVec.toNat_ushiftRight, lN_tn (by omega), lN_tn (by omega), Nat.shiftRight_eq_div_pow]
  rfl
theorem OF.nameC_l (x : Int64) (h : AH) : ∀ (k j n f : Nat), j + k = 8 → n < 2 ^ 63 → k < f → f_X9_putName_5 f 7 x (nI j) (lN n) h = f_X9_putName_31 7 x (nI (j + nl k n)) h := by
  intro k
  induction k with
  | zero =>
    intro j n f hj _ hf
    obtain ⟨g, rfl⟩ : ∃ g, f = g + 1 := ⟨f - 1, by omega⟩
    rw [f_X9_putName_5, if_pos (show (8 : Int32) ≤ nI j from nI_le (a := 8) (by omega) (by omega))]
    rfl
  | succ k ih =>
    intro j n f hj hn hf
    obtain ⟨g, rfl⟩ : ∃ g, f = g + 1 := ⟨f - 1, by omega⟩
    rw [f_X9_putName_5, if_neg (show ¬ (8 : Int32) ≤ nI j from nI_ge (b := 8) (by omega) (by omega)), nl]
    have e : (lg_cmp (lN n) 0 = 0) ↔ n = 0 := by
      rw [cmp_eq, show (0 : Int64) = lN 0 by decide, pk_lEQ hn (by decide)]
    by_cases c : n = 0
    · rw [if_pos (e.mpr c), if_pos c]; rfl
    · rw [if_neg (fun z => c (e.mp z)), if_neg c, ltd, lN_shr hn, nI_1, ih (j + 1) (n / 256) g (by omega) (by omega) (by omega)]
      congr 2
      omega
theorem OF.name {h : AH} {s : Nat} {l ps : List Int32} {c : Int32} (o : OF h s l ps c) {x : Int64} (hx : ¬ x < 0) (hl : l.length + ps.length + 12 ≤ 2400) : ∃ h', f_X9_putName 7 x h = some ((), h') ∧ OF h' s l (ps ++ nmO x) c ∧ Ci h h' [7, 8] := by
  have h8 := nlen_le x
  obtain ⟨h1, e1, o1, c1⟩ := o.put (nI (nlen x)) (by omega)
  obtain ⟨h2, e2, o2, c2⟩ := OF.name_l x (nlen x) FU h1 s l _ c h8 (by unfold FU; omega) o1 (by simp; omega)
  have ek : nI (nlen x) &&& 255 = nI (nlen x) := by
    rw [pk_andN (by omega) 8 (by decide), Nat.mod_eq_of_lt (by omega)]
  refine ⟨h2, ?_, by unfold nmO; rw [ek]; simpa using o2, c1.tr c2⟩
  unfold f_X9_putName
  obtain ⟨n, hn, ex⟩ := pk_lOf hx
  have z := OF.nameC_l x h 8 0 n FU (by omega) hn (by decide)
  rw [← ex, nI_0] at z
  rw [z]
  unfold f_X9_putName_31
  have : 0 + nl 8 n = nlen x := by unfold nlen; rw [ex, lN_clamp hn, Nat.zero_add]
  rw [this, kg_e o.k7, e1, bd_s, ltd]
  exact e2
/-- a letter's head and body -/
theorem body_l (d : Nat) (x : Int64) : ∀ (k f : Nat) (h : AH) (s : Nat) (l : List Int32), k ≤ 8 → k < f → OC h s l → kd h d = 5 → gJ h d 5 = x → l.length + k + 1 ≤ 2400 → ∃ h', f_X9_putContent_62 f 7 (some d) (nI k - 1) h = some ((), h') ∧ OC h' s (l ++ nbs x k ++ [206]) ∧ Ci h h' [7, 8] := by
  intro k
  induction k with
  | zero =>
    intro f h s l _ hf o _ _ hl
    obtain ⟨g, rfl⟩ : ∃ g, f = g + 1 := ⟨f - 1, by omega⟩
    obtain ⟨h1, e1, o1, c1, -, -⟩ := put_c o 206 (by omega)
    refine ⟨h1, ?_, by simpa [nbs] using o1, c1⟩
    rw [f_X9_putContent_62, if_pos neg1_lt]
    unfold f_X9_putContent_90
    rw [kg_e o.1, e1, bd_s]
  | succ k ih =>
    intro f h s l hk hf o hd hx hl
    obtain ⟨g, rfl⟩ : ∃ g, f = g + 1 := ⟨f - 1, by omega⟩
    obtain ⟨h1, e1, o1, c1, -, -⟩ := put_c o (byA x k) (by omega)
    obtain ⟨h2, e2, o2, c2⟩ := ih g h1 s (l ++ [byA x k]) (by omega) (by omega) o1 (by rw [c1.k]; exact hd) (by rw [c1.2.2.2.2.1]; exact hx) (by simp; omega)
    refine ⟨h2, ?_, by simpa [nbs] using o2, c1.tr c2⟩
    rw [f_X9_putContent_62, nI_pred, if_neg (nI_pos (by omega)), nn_s, rdJ_e hd, hx, kg_e o.1, byU_eq x (by omega), ← byA_eq x (by omega), e1, bd_s, sub1]
    exact e2
theorem content_c {h : AH} {s d n : Nat} {l : List Int32} {c : Int32} {x : Int64} (o : OC h s l) (hd : kd h d = 5) (hn : gI h d 4 = nI n) (hn6 : n ≤ 6) (hx : gJ h d 5 = x) (hc : c &&& 255 = c) (hl : l.length + 15 ≤ 2400) : ∃ h', f_X9_putContent 7 c (some d) h = some ((), h') ∧ OC h' s (l ++ letO c n x) ∧ Ci h h' [7, 8] := by
  have d78 : d ∉ [7, 8] := by
    intro z
    simp only [List.mem_cons, List.not_mem_nil, or_false] at z
    rcases z with z | z
    · rw [z, o.1] at hd; exact absurd hd (by decide)
    · rw [z, o.2.2.1] at hd; exact absurd hd (by decide)
  obtain ⟨h1, e1, o1, c1, -, -⟩ := put_c o 2 (by omega)
  obtain ⟨h2, e2, o2, c2, -, -⟩ := put_c o1 c (by simp; omega)
  obtain ⟨h3, e3, o3, c3, -, -⟩ := put_c o2 1 (by simp; omega)
  obtain ⟨h4, e4, o4, c4, -, -⟩ := put_c o3 (nI n) (by simp; omega)
  obtain ⟨h5, e5, o5, c5, -, -⟩ := put_c o4 206 (by simp; omega)
  have C3 := (c1.tr c2).tr c3
  have C5 := (C3.tr c4).tr c5
  have n3 : gI h3 d 4 = nI n := by rw [C3.I d78]; exact hn
  have n5 : gI h5 d 4 = nI n := by rw [C5.I d78]; exact hn
  have k3 : kd h3 d = 5 := by rw [C3.k]; exact hd
  have k5 : kd h5 d = 5 := by rw [C5.k]; exact hd
  have nk : nI n &&& 255 = nI n := by rw [pk_andN (by omega) 8 (by decide), Nat.mod_eq_of_lt (by omega)]
  have pre : f_X9_putContent 7 c (some d) h = (if nI n ≤ 0 then some ((), h5) else
    kg h5 7 10 (bd (f_X9_put 7 3 h5) fun _ h_15 =>
    kg h_15 7 10 (bd (f_X9_put 7 c h_15) fun _ h_17 =>
    rdI h_17 d 5 4 fun x_18 =>
    kg h_17 7 10 (bd (f_X9_put 7 x_18 h_17) fun _ h_20 =>
    rdI h_20 d 5 4 fun x_21 =>
    lt (x_21 - 1) fun x_22 =>
    f_X9_putContent_62 FU 7 (some d) x_22 h_20)))) := by
    unfold f_X9_putContent
    rw [kg_e o.1, e1, bd_s, kg_e o1.1, e2, bd_s, kg_e o2.1, e3, bd_s, nn_s, rdI_e k3, n3, kg_e o3.1, e4, bd_s, kg_e o4.1, e5, bd_s, rdI_e k5, n5]
  rw [pre]
  by_cases h0 : n = 0
  · subst h0
    refine ⟨h5, by rw [if_pos (by rw [nI_0]; decide)], ?_, C5⟩
    unfold letO
    rw [hc, nk, if_pos rfl]
    simpa using o5
  · rw [if_neg (nI_nle (by omega) (by omega)), kg_e o5.1]
    obtain ⟨h6, e6, o6, c6, -, -⟩ := put_c o5 3 (by simp; omega)
    obtain ⟨h7, e7, o7, c7, -, -⟩ := put_c o6 c (by simp; omega)
    obtain ⟨h8, e8, o8, c8, -, -⟩ := put_c o7 (nI n) (by simp; omega)
    have C7 := (C5.tr c6).tr c7
    have C8 := C7.tr c8
    have k7 : kd h7 d = 5 := by rw [C7.k]; exact hd
    have k8 : kd h8 d = 5 := by rw [C8.k]; exact hd
    obtain ⟨h9, e9, o9, c9⟩ := body_l d x n FU h8 s _ (by omega) (by unfold FU; omega) o8 k8 (by rw [C8.2.2.2.2.1]; exact hx) (by simp; omega)
    refine ⟨h9, ?_, ?_, C8.tr c9⟩
    · rw [e6, bd_s, kg_e o6.1, e7, bd_s, rdI_e k7, C7.I d78, hn, kg_e o7.1, e8, bd_s, rdI_e k8, C8.I d78, hn, ltd]
      exact e9
    · unfold letO
      rw [hc, nk, if_neg h0]
      simpa using o9
/-- a letter's numbers and names -/
def ltO (t : Nat) (b : Bool) (x y : Int64) : List Int32 := shO (nI t) ++ [bit b] ++ nmO x ++ nmO y
theorem sh_k {t : Nat} (h : t < 65536) : [nI t >>> ((8 : Int32) &&& 31), nI t &&& 255] = shO (nI t) := by
  unfold shO
  rw [pk_shrN (by omega) _ 8 (by decide), pk_andN (n := t / 2 ^ 8) (by omega) 8 (by decide), Nat.mod_eq_of_lt (by omega)]
theorem bit_k (b : Bool) : bit b &&& 255 = bit b := by cases b <;> decide
theorem OF.letter {h : AH} {s a d t : Nat} {l ps : List Int32} {c : Int32} {b : Bool} {x y : Int64} (o : OF h s l ps c) (ka : kd h a = 8) (kd' : kd h d = 5) (h4 : gI h a 4 = nI t) (ht : t < 65536) (h3 : gI h a 3 = bit b) (h0 : gR h a 0 = some d) (hx : gJ h d 0 = x) (hy : gJ h d 1 = y) (px : ¬ x < 0) (py : ¬ y < 0) (hl : l.length + ps.length + 25 ≤ 2400) : ∃ h', f_X9_putLetter 7 (some a) h = some ((), h') ∧ OF h' s l (ps ++ ltO t b x y) c ∧ Ci h h' [7, 8] := by
  have a78 : a ∉ [7, 8] := by
    intro z
    simp only [List.mem_cons, List.not_mem_nil, or_false] at z
    rcases z with z | z
    · rw [z, o.1.1] at ka; exact absurd ka (by decide)
    · rw [z, o.1.2.2.1] at ka; exact absurd ka (by decide)
  obtain ⟨h1, e1, o1, c1⟩ := o.short (nI t) (by omega)
  rw [sh_k ht] at o1
  have ls : (shO (nI t)).length = 2 := rfl
  obtain ⟨h2, e2, o2, c2⟩ := o1.put (bit b) (by simp [ls]; omega)
  have C2 := c1.tr c2
  obtain ⟨h3', e3, o3, c3⟩ := o2.name px (by simp [ls]; omega)
  have C3 := C2.tr c3
  have := nmO_le x
  obtain ⟨h4', e4, o4, c4⟩ := o3.name py (by simp [ls]; omega)
  refine ⟨h4', ?_, by unfold ltO; simpa using o4, C3.tr c4⟩
  have r21 : f_X9_putLetter_21 7 (some a) (bit b) (some 7) h1 = some ((), h4') := by
    unfold f_X9_putLetter_21
    rw [nn_s, kg_e o1.k7, e2, bd_s, nn_s, rdR_e (by rw [C2.k]; exact ka), C2.R, h0, nn_s, rdJ_e (by rw [C2.k]; exact kd'), C2.2.2.2.2.1, hx, kg_e o2.k7, e3, bd_s, rdR_e (by rw [C3.k]; exact ka), C3.R, h0, nn_s, rdJ_e (by rw [C3.k]; exact kd'), C3.2.2.2.2.1, hy, kg_e o3.k7, e4, bd_s]
  unfold f_X9_putLetter
  rw [nn_s, rdI_e ka, h4, kg_e o.k7, e1, bd_s, rdI_e (by rw [c1.k]; exact ka), c1.I a78, h3]
  cases b with
  | false => rw [if_pos bit_f]; exact r21
  | true => rw [if_neg (by decide)]; exact r21
/-! ===== both outboxes ===== -/
def OR (h : AH) (v : MV) : Prop := OV v ∧ ∃ s, OC h s (outL v)
theorem outL_fr {v v' : MV} {F A : List Nat} (f : Fr v v' F A) (h4 : 4 ∉ F) (h3 : 3 ∉ A) : outL v' = outL v := by
  unfold outL
  rw [f.1 4 h4, (f.2 3 h3).1]
theorem OR.fr {h h' : AH} {v v' : MV} {X F A : List Nat} (o : OR h v) (c : LF h h' X) (f : Fr v v' F A) (h7 : 7 ∉ X) (h8 : 8 ∉ X) (h4 : 4 ∉ F) (h3 : 3 ∉ A) : OR h' v' := by
  obtain ⟨o1, s, o2⟩ := o
  refine ⟨?_, s, ?_⟩
  · unfold OV at *
    rw [outL_fr f h4 h3, f.1 4 h4]
    exact o1
  · rw [outL_fr f h4 h3]
    exact o2.fr c h7 h8
theorem Ou.fr {v v' : MV} {bs : List Int32} (o : Ou v bs v') : Fr v v' [4, 61] [3] := ⟨fun k hk => o.2.2.1 k (fun z => hk (by rw [z]; simp)) (fun z => hk (by rw [z]; simp)), fun k hk => ⟨o.2.2.2.1 k (fun z => hk (by rw [z]; simp)), by rw [o.2.2.2.2]⟩⟩
/-- a frame that both have begun: v0 the reference before it -/
def OJ (h : AH) (v0 v : MV) (ps : List Int32) (c : Int32) : Prop := ∃ s v1, OF h s (outL v0) ps c ∧ Ou v0 [1, c &&& 255, 0] v1 ∧ v1.1 61 = nI ((outL v0).length + 2) ∧ Op v1 ps v ∧ c &&& 255 = c
theorem OJ.k7 {h : AH} {v0 v : MV} {ps : List Int32} {c : Int32} (o : OJ h v0 v ps c) : kd h 7 = 10 := by
  obtain ⟨s, v1, o1, -⟩ := o
  exact o1.k7
theorem OJ.len {h : AH} {v0 v : MV} {ps : List Int32} {c : Int32} (o : OJ h v0 v ps c) : (outL v).length = (outL v0).length + 3 + ps.length := by
  obtain ⟨s, v1, -, o2, -, o4, -⟩ := o
  have l1 := o2.len
  have l2 := o4.1.len
  simp at l1
  omega
theorem beg_j {h : AH} {v : MV} (o : OR h v) {c a b m : Int32} (hc : c &&& 255 = c) (hm : m >>> ((8 : Int32) &&& 31) = a &&& 255) (hm2 : m &&& 255 = b &&& 255) (hl : (outL v).length + 5 ≤ 2400) : ∃ h' v', f_X9_begin 7 c m h = some ((), h') ∧ m_method c a b v = some ((), v') ∧ OJ h' v v' [a &&& 255, b &&& 255] c ∧ Ci h h' [7, 8] ∧ Fr v v' [4, 61] [3] := by
  obtain ⟨o1, s, o2⟩ := o
  obtain ⟨h', e1, p1, c1⟩ := OF.beg o2 c m hl
  obtain ⟨v1, v', e2, q1, q2, q3⟩ := method_ok c a b o1 (by omega)
  rw [hm, hm2] at p1
  exact ⟨h', v', e1, e2, ⟨s, v1, p1, q1, q2, q3, hc⟩, c1, ((q1.tr q3.1).fr)⟩
theorem put_j {h : AH} {v0 v : MV} {ps : List Int32} {c : Int32} (o : OJ h v0 v ps c) {x : Int32} (hx : x &&& 255 = x) (hl : (outL v0).length + ps.length + 4 ≤ 2400) : ∃ h' v', f_X9_put 7 x h = some ((), h') ∧ m_put x v = some ((), v') ∧ OJ h' v0 v' (ps ++ [x]) c ∧ Ci h h' [7, 8] ∧ Fr v v' [4, 61] [3] := by
  have ln' := o.len
  obtain ⟨s, v1, o1, o2, o3, o4, o5⟩ := o
  obtain ⟨h', e1, p1, c1⟩ := o1.put x hl
  obtain ⟨v', e2, q⟩ := put_op x o4.1.2.1 (by omega)
  have q' := q
  rw [hx] at q
  exact ⟨h', v', e1, e2, ⟨s, v1, p1, o2, o3, o4.tr q, o5⟩, c1, q'.1.fr⟩
theorem short_j {h : AH} {v0 v : MV} {ps : List Int32} {c : Int32} (o : OJ h v0 v ps c) {t : Nat} (ht : t < 65536) (hl : (outL v0).length + ps.length + 5 ≤ 2400) : ∃ h' v', f_X9_putShort 7 (nI t) h = some ((), h') ∧ m_putShort (nI t) v = some ((), v') ∧ OJ h' v0 v' (ps ++ shO (nI t)) c ∧ Ci h h' [7, 8] ∧ Fr v v' [4, 61] [3] := by
  have ln' := o.len
  obtain ⟨s, v1, o1, o2, o3, o4, o5⟩ := o
  obtain ⟨h', e1, p1, c1⟩ := o1.short (nI t) hl
  rw [sh_k ht] at p1
  obtain ⟨v', e2, q⟩ := putShort_op (nI t) o4.1.2.1 (by omega)
  exact ⟨h', v', e1, e2, ⟨s, v1, p1, o2, o3, o4.tr q, o5⟩, c1, q.1.fr⟩
theorem name_j {h : AH} {v0 v : MV} {ps : List Int32} {c : Int32} (o : OJ h v0 v ps c) {x : Int64} (hx : ¬ x < 0) (hl : (outL v0).length + ps.length + 12 ≤ 2400) : ∃ h' v', f_X9_putName 7 x h = some ((), h') ∧ m_putName x v = some ((), v') ∧ OJ h' v0 v' (ps ++ nmO x) c ∧ Ci h h' [7, 8] ∧ Fr v v' [4, 61] [3] := by
  have ln' := o.len
  obtain ⟨s, v1, o1, o2, o3, o4, o5⟩ := o
  obtain ⟨h', e1, p1, c1⟩ := o1.name hx hl
  obtain ⟨v', e2, q⟩ := putName_op hx o4.1.2.1 (by omega)
  exact ⟨h', v', e1, e2, ⟨s, v1, p1, o2, o3, o4.tr q, o5⟩, c1, q.1.fr⟩
theorem fin_j {h : AH} {v0 v : MV} {ps : List Int32} {c : Int32} (o : OJ h v0 v ps c) (hl : (outL v0).length + ps.length + 4 ≤ 2400) : ∃ h' v', f_X9_end 7 h = some ((), h') ∧ m_finish v = some ((), v') ∧ OR h' v' ∧ (outL v').length = (outL v0).length + ps.length + 4 ∧ Ci h h' [7, 8] ∧ Fr v0 v' [4, 61] [3] := by
  obtain ⟨s, v1, o1, o2, o3, o4, o5⟩ := o
  obtain ⟨h', e1, p1, c1⟩ := o1.fin hl
  obtain ⟨v', e2, q⟩ := frame_ok (k := 1) o2 o3 o4 (by omega)
  rw [o5, k1] at q
  refine ⟨h', v', e1, e2, ⟨q.2.1, s, ?_⟩, ?_, c1, q.fr⟩
  · rw [q.1]
    simpa using p1
  · rw [q.len]
    simp
    omega
theorem say_j {h : AH} {v : MV} (o : OR h v) {c a b m : Int32} (hc : c &&& 255 = c) (hm : m >>> ((8 : Int32) &&& 31) = a &&& 255) (hm2 : m &&& 255 = b &&& 255) (hl : (outL v).length + 6 ≤ 2400) : ∃ h' v', f_X9_tell 7 c m h = some ((), h') ∧ m_say c a b v = some ((), v') ∧ OR h' v' ∧ (outL v').length = (outL v).length + 6 ∧ Ci h h' [7, 8] ∧ Fr v v' [4, 61] [3] := by
  obtain ⟨h1, v1, e1, e2, j1, c1, f1⟩ := beg_j o hc hm hm2 (by omega)
  obtain ⟨h2, v2, e3, e4, j2, l2, c2, f2⟩ := fin_j j1 (by simp; omega)
  refine ⟨h2, v2, ?_, ?_, j2, by simpa using l2, c1.tr c2, f2⟩
  · unfold f_X9_tell
    rw [kg_e o.2.choose_spec.1, e1, bd_s, kg_e j1.k7, e3, bd_s]
  · unfold m_say
    rw [e2, bdm_s, e4, bdm_s]
theorem content_j {h : AH} {v : MV} (o : OR h v) {d n : Nat} {c : Int32} {x : Int64} (hd : kd h d = 5) (hn : gI h d 4 = nI n) (hn6 : n ≤ 6) (hx : gJ h d 5 = x) (hc : c &&& 255 = c) (hl : (outL v).length + 15 ≤ 2400) : ∃ h' v', f_X9_putContent 7 c (some d) h = some ((), h') ∧ m_putLetter c (nI n) x v = some ((), v') ∧ OR h' v' ∧ (outL v').length ≤ (outL v).length + 15 ∧ Ci h h' [7, 8] ∧ Fr v v' [4, 61] [3] := by
  obtain ⟨o1, s, o2⟩ := o
  obtain ⟨h', e1, p1, c1⟩ := content_c o2 hd hn hn6 hx hc hl
  obtain ⟨v', e2, q⟩ := putLetter_ok c x hn6 o1 (by omega)
  refine ⟨h', v', e1, e2, ⟨q.2.1, s, by rw [q.1]; exact p1⟩, ?_, c1, q.fr⟩
  rw [q.len]
  have := letO_le c x hn6
  omega
/-- a byte is received -/
theorem recv_l (N : Nat) (hN : N < 2400) (x : Int32) : ∀ (d i f : Nat) (v : MV), i + d = N → d < f → v.1 4 = nI N → ∃ v', m_receive_28 f x (nI i) v = some (x, v') ∧ (∀ j, j < N → v'.2.1 3 j = if i ≤ j then v.2.1 3 (j + 1) else v.2.1 3 j) ∧ Fr v v' [] [3] := by
  intro d
  induction d with
  | zero =>
    intro i f v hi hf c
    obtain ⟨g, rfl⟩ : ∃ g, f = g + 1 := ⟨f - 1, by omega⟩
    refine ⟨v, ?_, fun j hj => ?_, (Fr.rf v).mono (by simp) (by simp)⟩
    · rw [m_receive_28, c, if_pos (nI_le (by omega) (by omega))]
    · rw [if_neg (by omega)]
  | succ d ih =>
    intro i f v hi hf c
    obtain ⟨g, rfl⟩ : ∃ g, f = g + 1 := ⟨f - 1, by omega⟩
    obtain ⟨v', a1, a2, a3⟩ := ih (i + 1) g (mseA v 3 i (v.2.1 3 (i + 1))) (by omega) (by omega) c
    refine ⟨v', ?_, fun j hj => ?_, (Fr.updA.tr a3).mono (by simp) (by simp)⟩
    · rw [m_receive_28, c, if_neg (nI_ge (by omega) (by omega)), nI_1, mrI_e (show i + 1 < alen 3 from by show i + 1 < 8192; omega) (by decide), msI_e (show i < alen 3 from by show i < 8192; omega) (by decide)]
      exact a1
    · rw [a2 j hj]
      by_cases c1 : j = i
      · subst c1
        rw [if_neg (by omega), if_pos (by omega), mA_s]
      · by_cases c2 : i ≤ j
        · rw [if_pos (by omega), if_pos c2, mA_n (by omega)]
        · rw [if_neg (by omega), if_neg c2, mA_n c1]
theorem recv_ok {h : AH} {v : MV} (o : OR h v) : ∃ x h' v', f_X9_take 7 h = some (x, h') ∧ m_receive v = some (x, v') ∧ OR h' v' ∧ (outL v').length ≤ (outL v).length ∧ Ci h h' [7] ∧ Fr v v' [4] [3] := by
  obtain ⟨ov, s, o1, o2, o3, o4, o5, o6, o7, o8, o9⟩ := o
  have hN : (v.1 4).toNatClampNeg = (outL v).length := ov.n (by omega)
  generalize hL : outL v = L at *
  unfold OV at ov
  rw [hL] at ov
  unfold f_X9_take m_receive
  rw [rdI_e o1, o6, ov]
  cases L with
  | nil =>
    refine ⟨-1, h, v, if_pos nI_0, if_pos nI_0, ⟨by unfold OV; rw [hL]; exact ov, s, ?_⟩, by rw [hL]; exact Nat.le_refl _, Ci.rf _ _, (Fr.rf v).mono (by simp) (by simp)⟩
    rw [hL]
    exact ⟨o1, o2, o3, o4, o5, o6, o7, o8, o9⟩
  | cons x l =>
    have hl : (x :: l).length = l.length + 1 := rfl
    have hlt : l.length < 2400 := by rw [hl] at o5; omega
    have h0 : some x = some (gI h 8 ((s + 0) % 2400)) := o9 0 (by simp)
    have h0' : gI h 8 s = x := by
      rw [Nat.add_zero, Nat.mod_eq_of_lt o7] at h0
      exact (Option.some.inj h0).symm
    have hv : ∀ i, i < l.length + 1 → (x :: l)[i]? = some (v.2.1 3 i) := fun i hi => by
      rw [← hL]
      unfold outL
      rw [hN]
      exact lst_get _ (by rw [hl]; exact hi)
    have v0 : v.2.1 3 0 = x := (Option.some.inj (hv 0 (by omega))).symm
    obtain ⟨v', a1, a2, a3⟩ := recv_l l.length hlt x l.length 0 FU (mset v 4 (nI l.length)) (by omega) (by unfold FU; omega) ms_s
    have e4 : v'.1 4 = nI l.length := by rw [a3.1 4 (by decide), ms_s]
    have eo : outL v' = l := by
      unfold outL
      rw [e4, nI_clamp (by omega)]
      apply List.ext_getElem?
      intro j
      by_cases hj : j < l.length
      · rw [lst_get _ hj, a2 j hj, if_pos (Nat.zero_le _), ms_2]
        have := hv (j + 1) (by omega)
        rw [List.getElem?_cons_succ] at this
        exact this.symm
      · rw [List.getElem?_eq_none (by rw [lst_len]; omega), List.getElem?_eq_none (by omega)]
    refine ⟨x, sI (sI h 7 2 (nI ((s + 1) % 2400))) 7 0 (nI l.length), v', ?_, ?_, ⟨by unfold OV; rw [eo]; exact e4, (s + 1) % 2400, ?_⟩, by rw [eo, hl]; omega, (Ci.fI (by simp)).tr (Ci.fI (by simp)), (Fr.upd.tr a3).mono (by simp) (by simp)⟩
    · rw [if_neg (nI_ne0 (by omega) (by omega)), rdR_e o1, o2, rdI_e o1, o8, nn_s, arI_e o3 (by rw [o4]; exact inb_nI o7 (by omega)), nI_clamp (by omega), h0', rdI_e o1, o8, nz_s, nI_1, rem_e (by omega), wrI_e o1, rdI_e (by exact o1), gI_sI, if_neg (by simp), o6, wrI_e (by exact o1), hl, nI_pred]
    · rw [if_neg (nI_ne0 (by omega) (by omega)), show (0 : Int32) = nI 0 by decide, mrI_e (show 0 < alen 3 by decide) (by decide), v0, mwI_e, hl, nI_pred]
      exact a1
    · rw [eo]
      refine ⟨o1, o2, o3, o4, by omega, by rw [gI_sI, if_pos ⟨rfl, rfl⟩], Nat.mod_lt _ (by decide), by rw [gI_sI, if_neg (by simp), gI_sI, if_pos ⟨rfl, rfl⟩], fun i hi => ?_⟩
      rw [gI_sIn (by decide), gI_sIn (by decide)]
      have := o9 (i + 1) (by omega)
      rw [List.getElem?_cons_succ] at this
      rw [this]
      congr 2
      omega

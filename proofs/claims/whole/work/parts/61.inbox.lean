/-! ===== the inbox beside the reference's bytes ===== -/
/-- only whole numbers in the cells of X differ -/
def Ci (h h' : AH) (X : List Nat) : Prop := hz h' = hz h ∧ hs h' = hs h ∧ kd h' = kd h ∧ ln h' = ln h ∧ gJ h' = gJ h ∧ gR h' = gR h ∧ ∀ b, b ∉ X → gI h' b = gI h b
section CiS
variable {h h1 h2 : AH} {X Y : List Nat}
theorem Ci.rf (h : AH) (X : List Nat) : Ci h h X := ⟨rfl, rfl, rfl, rfl, rfl, rfl, fun _ _ => rfl⟩
theorem Ci.tr (f : Ci h h1 X) (g : Ci h1 h2 X) : Ci h h2 X := ⟨g.1.trans f.1, g.2.1.trans f.2.1, g.2.2.1.trans f.2.2.1, g.2.2.2.1.trans f.2.2.2.1, g.2.2.2.2.1.trans f.2.2.2.2.1, g.2.2.2.2.2.1.trans f.2.2.2.2.2.1, fun b hb => (g.2.2.2.2.2.2 b hb).trans (f.2.2.2.2.2.2 b hb)⟩
theorem Ci.mono (f : Ci h h1 X) (s : ∀ b ∈ X, b ∈ Y) : Ci h h1 Y := ⟨f.1, f.2.1, f.2.2.1, f.2.2.2.1, f.2.2.2.2.1, f.2.2.2.2.2.1, fun b hb => f.2.2.2.2.2.2 b (fun z => hb (s b z))⟩
theorem Ci.fI {a k : Nat} {x : Int32} (ha : a ∈ X) : Ci h (sI h a k x) X := ⟨rfl, rfl, rfl, rfl, rfl, rfl, fun _ hb => gI_sIn (fun z => hb (by rw [z]; exact ha))⟩
theorem Ci.lf (f : Ci h h1 X) : LF h h1 X := ⟨Nat.le_of_eq f.1.symm, fun b _ => ⟨by rw [f.2.2.1], by rw [f.2.2.2.1]⟩, fun b _ hb _ => ⟨f.2.2.2.2.2.2 b hb, by rw [f.2.2.2.2.1], by rw [f.2.2.2.2.2.1]⟩, fun _ _ _ d _ _ => by rw [f.2.2.2.2.2.1]⟩
theorem Ci.wh (f : Ci h h1 X) (w : WH h) : WH h1 := by
  unfold WH Wf Own at *
  rw [f.1, f.2.2.1, f.2.2.2.2.2.1]
  exact w
theorem Ci.k (f : Ci h h1 X) : kd h1 = kd h := f.2.2.1
theorem Ci.l (f : Ci h h1 X) : ln h1 = ln h := f.2.2.2.1
theorem Ci.R (f : Ci h h1 X) : gR h1 = gR h := f.2.2.2.2.2.1
theorem Ci.I (f : Ci h h1 X) {b : Nat} (hb : b ∉ X) : gI h1 b = gI h b := f.2.2.2.2.2.2 b hb
end CiS
def IR (h : AH) (v : MV) : Prop := kd h 5 = 7 ∧ gR h 5 1 = some 6 ∧ kd h 6 = 100 ∧ ln h 6 = 300 ∧ CV v 2 300 ∧ gI h 5 0 = v.1 2 ∧ ∀ i, i < cN v 2 → gI h 6 i = v.2.1 1 i ∧ ∃ b, b < 256 ∧ v.2.1 1 i = nI b
def RR (h : AH) (v : MV) (t e : Nat) (w : Bool) : Prop := gI h 5 3 = nI t ∧ v.1 55 = nI t ∧ gI h 5 4 = nI e ∧ v.1 56 = nI e ∧ gI h 5 5 = bit w ∧ v.1 57 = bit w ∧ t ≤ e ∧ e < cN v 2
def IRR (h : AH) (v : MV) (w : Bool) : Prop := IR h v ∧ ∃ t e, RR h v t e w
def Rd (h : AH) (v : MV) (h' : AH) (v' : MV) : Prop := Ci h h' [5] ∧ Fr v v' [55, 57] [] ∧ gI h' 5 2 = gI h 5 2 ∧ gI h' 5 0 = gI h 5 0
theorem Rd.rf (h : AH) (v : MV) : Rd h v h v := ⟨Ci.rf _ _, (Fr.rf v).mono (by simp) (by simp), rfl, rfl⟩
theorem Rd.tr {h h1 h2 : AH} {v v1 v2 : MV} (f : Rd h v h1 v1) (g : Rd h1 v1 h2 v2) : Rd h v h2 v2 := ⟨f.1.tr g.1, (f.2.1.tr g.2.1).mono (by simp) (by simp), g.2.2.1.trans f.2.2.1, g.2.2.2.trans f.2.2.2⟩
theorem bit_eq0 {w : Bool} : bit w = 0 ↔ w = false := by cases w <;> simp [bit]
def mset (v : MV) (k : Nat) (x : Int32) : MV := (upd v.1 k x, v.2.1, v.2.2)
theorem ms_s {v : MV} {k : Nat} {x : Int32} : (mset v k x).1 k = x := pk_us
theorem ms_n {v : MV} {k j : Nat} {x : Int32} (h : j ≠ k) : (mset v k x).1 j = v.1 j := pk_un h
theorem ms_2 {v : MV} {k : Nat} {x : Int32} : (mset v k x).2 = v.2 := rfl
theorem mwI_e {β : Type} {v : MV} {k : Nat} {x : Int32} {F : MV → Option β} : mwI v k x F = F (mset v k x) := rfl
theorem mwZ_e {β : Type} {v : MV} {k : Nat} {x : Int32} {F : MV → Option β} (h : x = 0 ∨ x = 1) : mwZ v k x F = F (mset v k x) := if_pos h
theorem Fr.upd {v : MV} {k : Nat} {x : Int32} : Fr v (mset v k x) [k] [] := ⟨fun j hj => pk_un (by simpa using hj), fun _ _ => ⟨rfl, rfl⟩⟩
theorem cN_fr {v v' : MV} {F A : List Nat} {k : Nat} (f : Fr v v' F A) (hk : k ∉ F) : cN v' k = cN v k := by unfold cN; rw [f.1 k hk]
theorem IR.fr {h h' : AH} {v v' : MV} {F A X : List Nat} (i : IR h v) (c : LF h h' X) (f : Fr v v' F A) (h6 : 6 ∉ X) (hF : 2 ∉ F) (hA : 1 ∉ A) (h5 : gI h' 5 0 = gI h 5 0) (h51 : gR h' 5 1 = gR h 5 1) : IR h' v' := by
  obtain ⟨i1, i2, i3, i4, i5, i6, i7⟩ := i
  have e := cN_fr f hF
  have r6 := c.2.2.1 6 (by rw [i3]; decide) h6 (by rw [i3]; decide)
  refine ⟨c.kk i1 (by decide), by rw [h51]; exact i2, c.kk i3 (by decide), by rw [(c.2.1 6 (by rw [i3]; decide)).2]; exact i4, (i5.fr f hF).1, by rw [h5, f.1 2 hF]; exact i6, fun j hj => ?_⟩
  rw [e] at hj
  rw [r6.1, (f.2 1 hA).1]
  exact i7 j hj
theorem IR.rd {h h' : AH} {v v' : MV} (i : IR h v) (r : Rd h v h' v') (h5 : gI h' 5 0 = gI h 5 0) : IR h' v' := i.fr r.1.lf r.2.1 (by decide) (by decide) (by decide) h5 (by rw [r.1.R])
theorem byte_ok {h : AH} {v : MV} {w : Bool} (R : IRR h v w) : ∃ b h' v' w', f_X6_readByte 5 h = some (nI b, h') ∧ m_next v = some (nI b, v') ∧ b < 256 ∧ IRR h' v' w' ∧ Rd h v h' v' ∧ (w' = false → w = false) ∧ (w = false → w' = true → b = 0) := by
  obtain ⟨i, t, e, r1, r2, r3, r4, r5, r6, r7, r8⟩ := R
  have i' := i
  obtain ⟨i1, i2, i3, i4, i5, i6, i7⟩ := i'
  have hc := i5.2
  unfold f_X6_readByte m_next
  rw [rdI_e i1, rdI_e i1, r1, r2, r3, r4]
  by_cases c : t < e
  · obtain ⟨q1, b, hb, q2⟩ := i7 t (by omega)
    have rd : Rd h v (sI h 5 3 (nI (t + 1))) (mset v 55 (nI (t + 1))) := ⟨Ci.fI (by simp), Fr.upd.mono (by simp) (by simp), by rw [gI_sI, if_neg (by simp)], by rw [gI_sI, if_neg (by simp)]⟩
    refine ⟨b, sI h 5 3 (nI (t + 1)), (mset v 55 (nI (t + 1))), w, ?_, ?_, hb, ⟨i.rd rd (by rw [gI_sI, if_neg (by simp)]), t + 1, e, by rw [gI_sI, if_pos ⟨rfl, rfl⟩], ms_s, by rw [gI_sI, if_neg (by simp)]; exact r3, by rw [ms_n (by decide)]; exact r4, by rw [gI_sI, if_neg (by simp)]; exact r5, by rw [ms_n (by decide)]; exact r6, by omega, by rw [cN_fr rd.2.1 (by decide)]; exact r8⟩, rd, fun z => z, fun z y => by rw [z] at y; simp at y⟩
    · rw [if_pos (nI_lt c (by omega)), rdI_e i1, wrI_e i1, r1, nI_1, rdR_e (by exact i1), rdI_e (by exact i1), gR_sI, i2, nn_s, gI_sI, if_pos ⟨rfl, rfl⟩, nI_pred, arI_e (by exact i3) (by rw [ln_sI, i4]; exact inb_nI (by omega) (by omega)), nI_clamp (by omega), gI_sIn (by decide), q1, q2]
    · rw [if_pos (nI_lt c (by omega))]
      unfold mrI
      rw [mwI_e, nI_1, ms_s, nI_pred, if_pos (inb_nI (show t < alen 1 from by show t < 320; omega) (by decide)), nI_clamp (by omega), ms_2, q2]
  · have rd : Rd h v (sI h 5 5 1) (mset v 57 1) := ⟨Ci.fI (by simp), Fr.upd.mono (by simp) (by simp), by rw [gI_sI, if_neg (by simp)], by rw [gI_sI, if_neg (by simp)]⟩
    refine ⟨0, sI h 5 5 1, (mset v 57 1), true, ?_, ?_, by omega, ⟨i.rd rd (by rw [gI_sI, if_neg (by simp)]), t, e, by rw [gI_sI, if_neg (by simp)]; exact r1, by rw [ms_n (by decide)]; exact r2, by rw [gI_sI, if_neg (by simp)]; exact r3, by rw [ms_n (by decide)]; exact r4, by rw [gI_sI, if_pos ⟨rfl, rfl⟩]; rfl, ms_s, r7, by rw [cN_fr rd.2.1 (by decide)]; exact r8⟩, rd, fun z => by simp at z, fun _ _ => rfl⟩
    · rw [if_neg (nI_nlt (by omega) (by omega)), wrZ_e i1 (.inr rfl)]
      rfl
    · rw [if_neg (nI_nlt (by omega) (by omega))]
      rw [mwZ_e (.inr rfl)]
      rfl
theorem IRR.k5 {h : AH} {v : MV} {w : Bool} (R : IRR h v w) : kd h 5 = 7 := R.1.1
theorem flag_ok {h : AH} {v : MV} {w : Bool} (R : IRR h v w) : ∃ b h' v' w', f_X6_readFlag 5 h = some (bit b, h') ∧ m_nextTruth v = some (bit b, v') ∧ IRR h' v' w' ∧ Rd h v h' v' ∧ (w' = false → w = false) := by
  obtain ⟨b, h', v', w', e1, e2, hb, R', rd, k, -⟩ := byte_ok R
  unfold f_X6_readFlag m_nextTruth
  rw [kg_e R.k5, e1, e2, bd_s, bdm_s]
  by_cases c : b = 0
  · subst c
    exact ⟨false, h', v', w', rfl, rfl, R', rd, k⟩
  · rw [if_neg (nI_ne0 (by omega) (by omega)), if_neg (nI_ne0 (by omega) (by omega))]
    exact ⟨true, h', v', w', rfl, rfl, R', rd, k⟩
theorem or_8 {a b : Nat} (hb : b < 256) : a * 256 ||| b = a * 256 + b := by
  have := Nat.two_pow_add_eq_or_of_lt (i := 8) (b := b) (by omega) a
  rw [show (2 : Nat) ^ 8 = 256 by decide] at this
  rw [Nat.mul_comm]
  exact this.symm
theorem shor_I {a b : Nat} (ha : a < 256) (hb : b < 256) : (nI a <<< ((8 : Int32) &&& 31)) ||| nI b = nI (a * 256 + b) := by
  rw [pk_shlN _ 8 (by decide) (by omega), show (2 : Nat) ^ 8 = 256 by decide, ← or_8 hb]
  apply Int32.toBitVec_inj.mp
  apply BitVec.eq_of_toNat_eq
  rw [Int32.toBitVec_or, BitVec.toNat_or, pk_tn (by omega), pk_tn (by omega), pk_tn]
  rw [or_8 hb]
  omega
theorem short_ok {h : AH} {v : MV} {w : Bool} (R : IRR h v w) : ∃ n h' v' w', f_X6_readShort 5 h = some (nI n, h') ∧ m_nextShort v = some (nI n, v') ∧ n < 65536 ∧ IRR h' v' w' ∧ Rd h v h' v' ∧ (w' = false → w = false) := by
  obtain ⟨a, h1, v1, w1, e1, e2, ha, R1, rd1, k1, -⟩ := byte_ok R
  obtain ⟨b, h2, v2, w2, e3, e4, hb, R2, rd2, k2, -⟩ := byte_ok R1
  refine ⟨a * 256 + b, h2, v2, w2, ?_, ?_, by omega, R2, rd1.tr rd2, fun z => k1 (k2 z)⟩
  · unfold f_X6_readShort
    rw [kg_e R.k5, e1, bd_s, kg_e R1.k5, e3, bd_s, shor_I ha hb]
  · unfold m_nextShort
    rw [e2, bdm_s, e4, bdm_s, shor_I ha hb]
/-- names: at most eight bytes, each 33 to 126 -/
def pkN (l : List Nat) : Nat := l.foldl (fun a b => a * 256 + b) 0
theorem pkN_snoc (l : List Nat) (b : Nat) : pkN (l ++ [b]) = pkN l * 256 + b := by simp [pkN]
def NmL (l : List Nat) : Prop := ∀ b ∈ l, 33 ≤ b ∧ b ≤ 126
theorem pkN_lt : ∀ (k : Nat) (l : List Nat), l.length = k → NmL l → pkN l * 2 < 256 ^ k ∨ k = 0 := by
  intro k
  induction k with
  | zero => intro l _ _; exact .inr rfl
  | succ k ih =>
    intro l hl hn
    refine .inl ?_
    rcases List.eq_nil_or_concat l with e | ⟨m, b, e⟩
    · rw [e] at hl; simp at hl
    · rw [List.concat_eq_append] at e
      subst e
      rw [pkN_snoc, Nat.pow_succ]
      have hm : m.length = k := by simp at hl; exact hl
      have hb := hn b (by simp)
      rcases ih m hm (fun x hx => hn x (by simp [hx])) with z | z
      · omega
      · subst z
        have : m = [] := List.length_eq_zero_iff.mp hm
        subst this
        simp [pkN]
        omega
theorem pkN_63 {l : List Nat} (h : l.length ≤ 8) (hn : NmL l) : pkN l < 2 ^ 63 := by
  rcases pkN_lt l.length l rfl hn with z | z
  · have : 256 ^ l.length ≤ 256 ^ 8 := Nat.pow_le_pow_right (by decide) h
    have e : (256 : Nat) ^ 8 = 2 ^ 64 := by decide
    omega
  · have : l = [] := List.length_eq_zero_iff.mp z
    subst this
    decide
theorem pkN_55 {l : List Nat} (h : l.length < 8) (hn : NmL l) : pkN l < 2 ^ 55 := by
  rcases pkN_lt l.length l rfl hn with z | z
  · have : 256 ^ l.length ≤ 256 ^ 7 := Nat.pow_le_pow_right (by decide) (by omega)
    have e : (256 : Nat) ^ 7 = 2 ^ 56 := by decide
    omega
  · have : l = [] := List.length_eq_zero_iff.mp z
    subst this
    decide
theorem lN_tn {n : Nat} (h : n < 2 ^ 64) : (lN n).toBitVec.toNat = n := Nat.mod_eq_of_lt h
theorem shor_L {a b : Nat} (ha : a < 2 ^ 55) (hb : b < 256) : (lN a <<< ((8 : Int32).toInt64 &&& 63)) ||| (nI b).toInt64 = lN (a * 256 + b) := by
  rw [nI_l (by omega), ← or_8 hb]
  apply Int64.toBitVec_inj.mp
  apply BitVec.eq_of_toNat_eq
  have e : (lN a <<< ((8 : Int32).toInt64 &&& 63)).toBitVec.toNat = a * 256 := by
    have : (lN a <<< ((8 : Int32).toInt64 &&& 63)).toBitVec = (lN a).toBitVec <<< 8 := rfl
    rw [this, BitVec.toNat_shiftLeft, lN_tn (by omega), Nat.shiftLeft_eq]
    exact Nat.mod_eq_of_lt (by omega)
  rw [Int64.toBitVec_or, BitVec.toNat_or, e, lN_tn (by omega), lN_tn]
  rw [or_8 hb]
  omega
def NmO (x : Int64) : Prop := ∃ l : List Nat, l.length ≤ 8 ∧ NmL l ∧ x = lN (pkN l)
theorem NmO.pos {x : Int64} (h : NmO x) : ¬ x < 0 := by
  obtain ⟨l, h1, h2, rfl⟩ := h
  have : (0 : Int64) = lN 0 := by decide
  rw [this, pk_lLT (pkN_63 h1 h2) (by decide)]
  omega
theorem IRR.v57 {h : AH} {v : MV} {w : Bool} (R : IRR h v w) : v.1 57 = bit w := by
  obtain ⟨-, t, e, -, -, -, -, -, r6, -⟩ := R
  exact r6
theorem IRR.h5 {h : AH} {v : MV} {w : Bool} (R : IRR h v w) : gI h 5 5 = bit w := by
  obtain ⟨-, t, e, -, -, -, -, r5, -⟩ := R
  exact r5
/-- the mark of a mistake is set on both sides -/
theorem IRR.setW {h : AH} {v : MV} {w w' : Bool} (R : IRR h v w) : IRR (sI h 5 5 (bit w')) (mset v 57 (bit w')) w' ∧ Rd h v (sI h 5 5 (bit w')) (mset v 57 (bit w')) := by
  obtain ⟨i, t, e, r1, r2, r3, r4, r5, r6, r7, r8⟩ := R
  have rd : Rd h v (sI h 5 5 (bit w')) (mset v 57 (bit w')) := ⟨Ci.fI (by simp), Fr.upd.mono (by simp) (by simp), by rw [gI_sI, if_neg (by simp)], by rw [gI_sI, if_neg (by simp)]⟩
  exact ⟨⟨i.rd rd (by rw [gI_sI, if_neg (by simp)]), t, e, by rw [gI_sI, if_neg (by simp)]; exact r1, by rw [ms_n (by decide)]; exact r2, by rw [gI_sI, if_neg (by simp)]; exact r3, by rw [ms_n (by decide)]; exact r4, by rw [gI_sI, if_pos ⟨rfl, rfl⟩], ms_s, r7, by rw [cN_fr rd.2.1 (by decide)]; exact r8⟩, rd⟩
theorem upd_id {f : Nat → Int32} {k : Nat} {x : Int32} (h : f k = x) : upd f k x = f := by
  funext j
  unfold upd
  split
  · rename_i z; rw [z, h]
  · rfl
theorem mwZ_id {β : Type} {v : MV} {k : Nat} {b : Bool} {F : MV → Option β} (h : v.1 k = bit b) : mwZ v k (bit b) F = F v := by
  unfold mwZ
  rw [if_pos (by cases b <;> simp [bit]), upd_id h]
theorem mwZ_b {β : Type} {v : MV} {k : Nat} {b : Bool} {F : MV → Option β} : mwZ v k (bit b) F = F (mset v k (bit b)) := mwZ_e (by cases b <;> simp [bit])
theorem name_l (n : Nat) (hn : n ≤ 8) : ∀ (d i f : Nat) (x : Int64) (h : AH) (v : MV) (w : Bool), i + d = n → d < f → IRR h v w → (w = false → ∃ l : List Nat, l.length = i ∧ NmL l ∧ x = lN (pkN l)) → ∃ y h' v' w', f_X6_readName_21 f 5 (nI n) x (nI i) h = some (y, h') ∧ m_nextName_32 f (nI n) x (nI i) v = some (y, v') ∧ IRR h' v' w' ∧ Rd h v h' v' ∧ (w' = false → w = false ∧ NmO y) := by
  intro d
  induction d with
  | zero =>
    intro i f x h v w hi hf R hx
    obtain ⟨g, rfl⟩ : ∃ g, f = g + 1 := ⟨f - 1, by omega⟩
    refine ⟨x, h, v, w, ?_, ?_, R, Rd.rf _ _, fun z => ⟨z, ?_⟩⟩
    · rw [f_X6_readName_21, if_pos (nI_le (by omega) (by omega))]; rfl
    · rw [m_nextName_32, if_pos (nI_le (by omega) (by omega))]; rfl
    · obtain ⟨l, h1, h2, h3⟩ := hx z
      exact ⟨l, by omega, h2, h3⟩
  | succ d ih =>
    intro i f x h v w hi hf R hx
    obtain ⟨g, rfl⟩ : ∃ g, f = g + 1 := ⟨f - 1, by omega⟩
    rw [f_X6_readName_21, if_neg (nI_ge (by omega) (by omega)), rdI_e R.k5, R.h5, m_nextName_32, if_neg (nI_ge (by omega) (by omega)), R.v57]
    cases w with
    | true => exact ⟨x, h, v, true, rfl, rfl, R, Rd.rf _ _, fun z => by simp at z⟩
    | false =>
      obtain ⟨b, h1, v1, w1, e1, e2, hb, R1, rd1, k1, k0⟩ := byte_ok R
      obtain ⟨l, l1, l2, l3⟩ := hx rfl
      rw [if_pos bit_f, if_pos bit_f, kg_e R.k5, e1, bd_s, e2, bdm_s, R1.v57]
      have step : ∀ (w2 : Bool), (w2 = false → 33 ≤ b ∧ b ≤ 126) → ∃ y h' v' w', f_X6_readName_59 (fun a0 x1 x2 x4 h => f_X6_readName_21 g a0 x1 x2 x4 h) 5 (nI n) x (nI i) (nI b) (sI h1 5 5 (bit w2)) = some (y, h') ∧ m_nextName_78 (fun x1 x2 x4 v => m_nextName_32 g x1 x2 x4 v) (nI n) x (nI i) (nI b) (bit w2) v1 = some (y, v') ∧ IRR h' v' w' ∧ Rd h v h' v' ∧ (w' = false → false = false ∧ NmO y) := by
        intro w2 hw2
        obtain ⟨R2, rd2⟩ := R1.setW (w' := w2)
        obtain ⟨y, h', v', w', a1, a2, a3, a4, a5⟩ := ih (i + 1) g ((x <<< ((8 : Int32).toInt64 &&& 63)) ||| (nI b).toInt64) _ _ w2 (by omega) (by omega) R2 (fun z => by
          obtain ⟨b1, b2⟩ := hw2 z
          refine ⟨l ++ [b], by simp [l1], fun q hq => ?_, ?_⟩
          · rcases List.mem_append.mp hq with hq | hq
            · exact l2 q hq
            · rw [List.mem_singleton.mp hq]; exact ⟨b1, b2⟩
          · rw [pkN_snoc, l3, shor_L (pkN_55 (by omega) l2) hb])
        refine ⟨y, h', v', w', ?_, ?_, a3, (rd1.tr rd2).tr a4, fun z => ⟨rfl, (a5 z).2⟩⟩
        · unfold f_X6_readName_59
          rw [ltd, nI_1]
          exact a1
        · unfold m_nextName_78
          rw [mwZ_b, ltd, nI_1]
          exact a2
      have bad := step true (fun z => by simp at z)
      have good : 33 ≤ b ∧ b ≤ 126 → w1 = false → ∃ y h' v' w', f_X6_readName_59 (fun a0 x1 x2 x4 h => f_X6_readName_21 g a0 x1 x2 x4 h) 5 (nI n) x (nI i) (nI b) h1 = some (y, h') ∧ m_nextName_78 (fun x1 x2 x4 v => m_nextName_32 g x1 x2 x4 v) (nI n) x (nI i) (nI b) 0 v1 = some (y, v') ∧ IRR h' v' w' ∧ Rd h v h' v' ∧ (w' = false → false = false ∧ NmO y) := by
        intro hb2 hw
        have q := step false (fun _ => hb2)
        have e : sI h1 5 5 (bit false) = h1 := by
          unfold sI
          rw [upd_id (by rw [R1.h5, hw])]
          unfold wI
          have : rw1 (gI h1) 5 (gI h1 5) = gI h1 := by
            funext z
            unfold rw1
            split
            · rename_i y; rw [y]
            · rfl
          rw [this]
          rfl
        rw [e] at q
        exact q
      have e54 : ∀ z, f_X6_readName_54 (fun a0 x1 x2 x4 h => f_X6_readName_21 g a0 x1 x2 x4 h) 5 (nI n) x (nI i) z h1 = f_X6_readName_59 (fun a0 x1 x2 x4 h => f_X6_readName_21 g a0 x1 x2 x4 h) 5 (nI n) x (nI i) z (sI h1 5 5 (bit true)) := fun z => by
        unfold f_X6_readName_54
        rw [wrZ_e R1.k5 (.inr rfl)]
        rfl
      have l33 : (33 : Int32) = nI 33 := by decide
      have l126 : (126 : Int32) = nI 126 := by decide
      rw [e54, l33, l126]
      by_cases c1 : b < 33
      · rw [if_pos (nI_lt c1 (by omega))]
        cases w1 with
        | true => exact bad
        | false => rw [if_pos bit_f, if_pos (nI_lt c1 (by omega))]; exact bad
      · rw [if_neg (nI_nlt (by omega) (by omega))]
        by_cases c2 : b ≤ 126
        · rw [if_pos (nI_le c2 (by omega))]
          cases w1 with
          | true => exact absurd (k0 rfl rfl) (by omega)
          | false => rw [if_pos bit_f, if_neg (nI_nlt (by omega) (by omega)), if_pos (nI_le c2 (by omega))]; exact good ⟨by omega, c2⟩ rfl
        · rw [if_neg (nI_ge (by omega) (by omega))]
          cases w1 with
          | true => exact bad
          | false => rw [if_pos bit_f, if_neg (nI_nlt (by omega) (by omega)), if_neg (nI_ge (by omega) (by omega))]; exact bad
theorem name_ok {h : AH} {v : MV} {w : Bool} (R : IRR h v w) : ∃ y h' v' w', f_X6_readName 5 h = some (y, h') ∧ m_nextName v = some (y, v') ∧ IRR h' v' w' ∧ Rd h v h' v' ∧ (w' = false → w = false ∧ NmO y) := by
  obtain ⟨b, h1, v1, w1, e1, e2, hb, R1, rd1, k1, k0⟩ := byte_ok R
  unfold f_X6_readName m_nextName
  rw [kg_e R.k5, e1, bd_s, e2, bdm_s, R1.v57]
  have l8 : (8 : Int32) = nI 8 := by decide
  have h0 : (0 : Int32) = nI 0 := by decide
  -- a mistake: the loop ends at once
  have bad : ∀ (h2 : AH) (v2 : MV) (w2 : Bool), w2 = true → IRR h2 v2 w2 → Rd h v h2 v2 → ∃ y h' v' w', f_X6_readName_16 5 (nI b) h2 = some (y, h') ∧ m_nextName_32 FU (nI b) 0 0 v2 = some (y, v') ∧ IRR h' v' w' ∧ Rd h v h' v' ∧ (w' = false → w = false ∧ NmO y) := by
    intro h2 v2 w2 hw R2 rd2
    subst hw
    refine ⟨0, h2, v2, true, ?_, ?_, R2, rd2, fun z => by simp at z⟩
    · unfold f_X6_readName_16
      rw [show FU = 9999 + 1 from rfl, f_X6_readName_21]
      split
      · rfl
      · rw [rdI_e R2.k5, R2.h5]; rfl
    · rw [show FU = 9999 + 1 from rfl, m_nextName_32]
      split
      · rfl
      · rw [R2.v57]; rfl
  by_cases c : b ≤ 8
  · rw [l8, if_pos (nI_le c (by omega)), if_pos (nI_le c (by omega))]
    cases w1 with
    | true =>
      have := bad h1 v1 true rfl R1 rd1
      unfold m_nextName_24
      rw [show (1 : Int32) = bit true from rfl, if_neg (by decide), mwZ_id R1.v57]
      exact this
    | false =>
      obtain ⟨y, h', v', w', a1, a2, a3, a4, a5⟩ := name_l b c b 0 FU 0 h1 v1 false (by omega) (by unfold FU; omega) R1 (fun _ => ⟨[], rfl, fun _ hx => by simp at hx, by decide⟩)
      refine ⟨y, h', v', w', a1, ?_, a3, rd1.tr a4, fun z => ⟨k1 (a5 z).1, (a5 z).2⟩⟩
      unfold m_nextName_24
      rw [if_pos bit_f, show (0 : Int32) = bit false from rfl, mwZ_id R1.v57]
      exact a2
  · rw [l8, if_neg (nI_ge (by omega) (by omega)), if_neg (nI_ge (by omega) (by omega)), wrZ_e R1.k5 (.inr rfl)]
    obtain ⟨R2, rd2⟩ := R1.setW (w' := true)
    have := bad _ _ true rfl R2 (rd1.tr rd2)
    have e : ∀ s0 : Int32, s0 = 1 → m_nextName_24 (nI b) s0 v1 = m_nextName_32 FU (nI b) 0 0 (mset v1 57 (bit true)) := fun s0 z => by
      subst z
      unfold m_nextName_24
      rw [show (1 : Int32) = bit true from rfl, mwZ_b]
    split
    · rw [e 1 rfl]; exact this
    · rw [e 1 rfl]; exact this
/-- whether what was read is the whole payload, and right -/
theorem just_ok {h : AH} {v : MV} {w : Bool} (R : IRR h v w) : ∃ g : Bool, f_X6_isJustRead 5 h = some (bit g, h) ∧ (g = true → w = false ∧ m_isJust v = some (1, v)) ∧ (g = false → m_isJust v = bdm (m_hard 501 v) (fun _ v_1 => rz 0 (some (0, v_1)))) := by
  obtain ⟨i, t, e, r1, r2, r3, r4, r5, r6, r7, r8⟩ := R
  have hc := i.2.2.2.2.1.2
  unfold f_X6_isJustRead m_isJust m_isJust_18
  rw [rdI_e i.1, rdI_e i.1, rdI_e i.1, r1, r2, r3, r4, r5, r6]
  cases w with
  | true => exact ⟨false, rfl, fun z => by simp at z, fun _ => rfl⟩
  | false =>
    rw [if_pos bit_f, if_pos bit_f]
    by_cases c : t = e
    · subst c
      rw [if_pos rfl, if_pos rfl]
      exact ⟨true, rfl, fun _ => ⟨rfl, rfl⟩, fun z => by simp at z⟩
    · have : ¬ nI t = nI e := fun z => c ((nI_eq (by omega) (by omega)).mp z)
      rw [if_neg this, if_neg this]
      exact ⟨false, rfl, fun z => by simp at z, fun _ => rfl⟩
/-! ===== bytes that come in, and that go ===== -/
theorem Ci.byte {h : AH} {i : Nat} {x : Int32} : Ci h (sI h 6 i x) [5, 6] := Ci.fI (by simp)
def mseA (v : MV) (k i : Nat) (x : Int32) : MV := (v.1, rw1 v.2.1 k (upd (v.2.1 k) i x), v.2.2)
theorem msI_e {β : Type} {v : MV} {k i : Nat} {x : Int32} {F : MV → Option β} (h : i < alen k) (hk : alen k < 2 ^ 31) : msI v k (nI i) x F = F (mseA v k i x) := by
  unfold msI
  rw [if_pos (inb_nI h hk), nI_clamp (by omega)]
  rfl
theorem mrI_e {β : Type} {v : MV} {k i : Nat} {F : Int32 → Option β} (h : i < alen k) (hk : alen k < 2 ^ 31) : mrI v k (nI i) F = F (v.2.1 k i) := by
  unfold mrI
  rw [if_pos (inb_nI h hk), nI_clamp (by omega)]
theorem mA_1 {v : MV} {k i : Nat} {x : Int32} : (mseA v k i x).1 = v.1 := rfl
theorem mA_22 {v : MV} {k i : Nat} {x : Int32} : (mseA v k i x).2.2 = v.2.2 := rfl
theorem mA_s {v : MV} {k i : Nat} {x : Int32} : (mseA v k i x).2.1 k i = x := by
  show rw1 v.2.1 k _ k i = x
  rw [rw1_s, pk_us]
theorem mA_n {v : MV} {k i j : Nat} {x : Int32} (h : j ≠ i) : (mseA v k i x).2.1 k j = v.2.1 k j := by
  show rw1 v.2.1 k _ k j = _
  rw [rw1_s, pk_un h]
theorem mA_k {v : MV} {k i j : Nat} {x : Int32} (h : j ≠ k) : (mseA v k i x).2.1 j = v.2.1 j := rw1_n _ _ h
theorem Fr.updA {v : MV} {k i : Nat} {x : Int32} : Fr v (mseA v k i x) [] [k] := ⟨fun _ _ => rfl, fun j hj => ⟨mA_k (by simpa using hj), rfl⟩⟩
def bN (x : Int64) (k : Nat) : Nat := x.toBitVec.toNat / 2 ^ (8 * k) % 256
theorem bN_lt (x : Int64) (k : Nat) : bN x k < 256 := Nat.mod_lt _ (by decide)
theorem sh_s : ∀ k, k < 8 → ((((8 * nI k).toInt64 &&& 63) : Int64).toBitVec.smod 64).toNat = 8 * k := by decide
theorem sh_u : ∀ k, k < 8 → (((8 * nI k).toInt64.toUInt64 &&& Int64.toUInt64 63).toBitVec % 64).toNat = 8 * k := by decide
theorem m256 (a : Nat) : a % 2 ^ 32 % 2 ^ 8 = a % 256 := Nat.mod_mod_of_dvd a (by decide)
theorem toI32 (y : Int64) : y.toInt32.toBitVec.toNat % 2 ^ 8 = y.toBitVec.toNat % 256 := by
  have : y.toInt32.toBitVec = y.toBitVec.signExtend 32 := rfl
  rw [this, BitVec.signExtend_eq_setWidth_of_le _ (by decide), BitVec.toNat_setWidth]
  exact m256 _
theorem byU_eq (x : Int64) {k : Nat} (hk : k < 8) : (((x.toUInt64 >>> ((8 * nI k).toInt64.toUInt64 &&& Int64.toUInt64 63)).toInt64).toInt32) &&& 255 = nI (bN x k) := by
  rw [pk_and _ 8 (by decide), toI32]
  congr 1
  unfold bN
  congr 1
  show (x.toBitVec >>> (((8 * nI k).toInt64.toUInt64 &&& Int64.toUInt64 63).toBitVec % 64)).toNat = _
  rw [BitVec.ushiftRight_eq', BitVec.toNat_ushiftRight, sh_u k hk, Nat.shiftRight_eq_div_pow]
theorem sshr8 (x : BitVec 64) {n : Nat} (hn : n + 8 ≤ 64) : (x.sshiftRight n).toNat % 256 = x.toNat / 2 ^ n % 256 := by
  have e : (x.sshiftRight n).setWidth 8 = (x.ushiftRight n).setWidth 8 := by
    apply BitVec.eq_of_getLsbD_eq
    intro i hi
    rw [BitVec.getLsbD_setWidth, BitVec.getLsbD_setWidth, BitVec.getLsbD_sshiftRight]
    have : (x.ushiftRight n).getLsbD i = x.getLsbD (n + i) := BitVec.getLsbD_ushiftRight ..
    rw [this]
    simp only [show n + i < 64 by omega, if_true, show ¬ 64 ≤ i by omega, decide_false, Bool.not_false, Bool.true_and]
  have e2 := congrArg BitVec.toNat e
  rw [BitVec.toNat_setWidth, BitVec.toNat_setWidth] at e2
  have e3 : (x.ushiftRight n).toNat = x.toNat / 2 ^ n := by
    have : (x.ushiftRight n).toNat = x.toNat >>> n := BitVec.toNat_ushiftRight ..
    rw [this, Nat.shiftRight_eq_div_pow]
  rw [e3] at e2
  exact e2
theorem byA_eq (x : Int64) {k : Nat} (hk : k < 8) : byA x k = nI (bN x k) := by
  unfold byA
  rw [pk_and _ 8 (by decide), toI32]
  congr 1
  show (x.toBitVec.sshiftRight (((((8 * nI k).toInt64 &&& 63) : Int64).toBitVec.smod 64).toNat)).toNat % 256 = _
  rw [sh_s k hk]
  exact sshr8 _ (by omega)
theorem byS_eq (x : Int64) {k : Nat} (hk : k < 8) : ((x >>> ((8 * nI k).toInt64 &&& 63)) &&& 255).toInt32 = nI (bN x k) := by
  apply Int32.toBitVec_inj.mp
  apply BitVec.eq_of_toNat_eq
  have hb := bN_lt x k
  have e : ((x >>> ((8 * nI k).toInt64 &&& 63)) &&& 255).toInt32.toBitVec = (((x >>> ((8 * nI k).toInt64 &&& 63)) &&& 255).toBitVec).signExtend 32 := rfl
  rw [e, BitVec.signExtend_eq_setWidth_of_le _ (by decide), BitVec.toNat_setWidth, Int64.toBitVec_and, BitVec.toNat_and, pk_tn (by omega)]
  have e2 : (x >>> ((8 * nI k).toInt64 &&& 63)).toBitVec.toNat &&& (255 : Int64).toBitVec.toNat = (x >>> ((8 * nI k).toInt64 &&& 63)).toBitVec.toNat % 256 := by
    show _ &&& 255 = _
    exact Nat.and_two_pow_sub_one_eq_mod _ 8
  have e3 : (x >>> ((8 * nI k).toInt64 &&& 63)).toBitVec.toNat % 256 = bN x k := by
    show (x.toBitVec.sshiftRight (((((8 * nI k).toInt64 &&& 63) : Int64).toBitVec.smod 64).toNat)).toNat % 256 = _
    rw [sh_s k hk]
    exact sshr8 _ (by omega)
  rw [e2, e3]
  exact Nat.mod_eq_of_lt (by omega)
/-- sending: byte after byte -/
theorem send_l (x : Int64) : ∀ (k f : Nat) (h : AH) (v : MV), k ≤ 8 → k < f → IR h v → cN v 2 + k ≤ 300 → ∃ h' v', f_X6_add_5 f 5 x (nI k - 1) h = some ((), h') ∧ m_send_38 f x (nI k - 1) v = some (v'.1 2, v') ∧ IR h' v' ∧ Ci h h' [5, 6] ∧ Fr v v' [2] [1] := by
  intro k
  induction k with
  | zero =>
    intro f h v _ hf R _
    obtain ⟨g, rfl⟩ : ∃ g, f = g + 1 := ⟨f - 1, by omega⟩
    refine ⟨h, v, ?_, ?_, R, Ci.rf _ _, (Fr.rf v).mono (by simp) (by simp)⟩
    · rw [f_X6_add_5, if_pos neg1_lt]
    · rw [m_send_38, if_pos neg1_lt]; rfl
  | succ k ih =>
    intro f h v hk hf R hn
    obtain ⟨g, rfl⟩ : ∃ g, f = g + 1 := ⟨f - 1, by omega⟩
    have R0 := R
    obtain ⟨i1, i2, i3, i4, i5, i6, i7⟩ := R
    have hc := i5.2
    have c1 : v.1 2 = nI (cN v 2) := i5.1
    generalize hN : cN v 2 = N at *
    have hb := bN_lt x k
    have R1 : IR (sI (sI h 6 N (nI (bN x k))) 5 0 (nI (N + 1))) (mset (mseA v 1 N (nI (bN x k))) 2 (nI (N + 1))) := by
      have e2 : cN (mset (mseA v 1 N (nI (bN x k))) 2 (nI (N + 1))) 2 = N + 1 := by
        unfold cN
        rw [ms_s, nI_clamp (by omega)]
      refine ⟨i1, i2, i3, i4, ⟨by rw [e2]; exact ms_s, by rw [e2]; omega⟩, by rw [gI_sI, if_pos ⟨rfl, rfl⟩, ms_s], fun j hj => ?_⟩
      rw [e2] at hj
      rw [gI_sIn (by decide), gI_sI, ms_2]
      by_cases c : j = N
      · subst c
        rw [if_pos ⟨rfl, rfl⟩, mA_s]
        exact ⟨rfl, _, hb, rfl⟩
      · rw [if_neg (fun z => c z.2), mA_n c]
        exact i7 j (by omega)
    have f1 : Fr v (mset (mseA v 1 N (nI (bN x k))) 2 (nI (N + 1))) [2] [1] := (Fr.updA.tr Fr.upd).mono (by simp) (by simp)
    have c2 : cN (mset (mseA v 1 N (nI (bN x k))) 2 (nI (N + 1))) 2 = N + 1 := by
      unfold cN
      rw [ms_s, nI_clamp (by omega)]
    obtain ⟨h', v', a1, a2, a3, a4, a5⟩ := ih g _ _ (by omega) (by omega) R1 (by rw [c2]; omega)
    refine ⟨h', v', ?_, ?_, a3, (Ci.byte.tr (Ci.fI (by simp))).tr a4, (f1.tr a5).mono (by simp) (by simp)⟩
    · rw [f_X6_add_5, nI_pred, if_neg (nI_pos (by omega)), rdI_e i1, rdR_e i1, i2, nn_s, aln_e i3 (by omega) (by omega), i4, i6, c1, if_neg (nI_ge (by omega) (by omega)), rdR_e i1, i2, rdI_e i1, i6, c1, nn_s, asI_e i3 (by rw [i4]; exact inb_nI (by omega) (by omega)), nI_clamp (by omega), byU_eq x (by omega), rdI_e (by exact i1), gI_sIn (by decide), i6, c1, wrI_e (by exact i1), nI_1, sub1]
      exact a1
    · rw [m_send_38, nI_pred, if_neg (nI_pos (by omega)), c1, msI_e (show N < alen 1 from by show N < 320; omega) (by decide), byS_eq x (by omega), mwI_e, mA_1, c1, nI_1, sub1]
      exact a2
theorem gI_wI {h : AH} {a : Nat} {g : Nat → Int32} : gI (wI h a g) a = g := rw1_s _ _ _
theorem gI_wIn {h : AH} {a b : Nat} {g : Nat → Int32} (e : b ≠ a) : gI (wI h a g) b = gI h b := rw1_n _ _ e
theorem cpI_e {β : Type} {h : AH} {a b sp dp n : Nat} {F : AH → Option β} (k : kd h a = 100) (k2 : kd h b = 100) (h1 : sp + n ≤ ln h a) (h2 : dp + n ≤ ln h b) (l1 : ln h a ≤ 10000) (l2 : ln h b ≤ 10000) : cpI h a (nI sp) b (nI dp) (nI n) F = F (wI h b (va_cpy (gI h a) (gI h b) sp dp n)) := by
  unfold cpI
  rw [nI_clamp (by omega), nI_clamp (by omega), nI_clamp (by omega), if_pos]
  exact ⟨k, k2, nI_pos' (by omega), nI_pos' (by omega), nI_pos' (by omega), h1, h2⟩
/-- what was handled goes -/
theorem drop_l (n N : Nat) (hN : N + n ≤ 300) : ∀ (d i f : Nat) (v : MV), i + d = N → d < f → v.1 2 = nI N → ∃ v', m_drop_12 f (nI n) (nI i) v = some ((), v') ∧ (∀ j, j < N → v'.2.1 1 j = if i ≤ j then v.2.1 1 (j + n) else v.2.1 1 j) ∧ Fr v v' [] [1] := by
  intro d
  induction d with
  | zero =>
    intro i f v hi hf c
    obtain ⟨g, rfl⟩ : ∃ g, f = g + 1 := ⟨f - 1, by omega⟩
    refine ⟨v, ?_, fun j hj => ?_, (Fr.rf v).mono (by simp) (by simp)⟩
    · rw [m_drop_12, c, if_pos (nI_le (by omega) (by omega))]
    · rw [if_neg (by omega)]
  | succ d ih =>
    intro i f v hi hf c
    obtain ⟨g, rfl⟩ : ∃ g, f = g + 1 := ⟨f - 1, by omega⟩
    obtain ⟨v', a1, a2, a3⟩ := ih (i + 1) g (mseA v 1 i (v.2.1 1 (i + n))) (by omega) (by omega) c
    refine ⟨v', ?_, fun j hj => ?_, (Fr.updA.tr a3).mono (by simp) (by simp)⟩
    · rw [m_drop_12, c, if_neg (nI_ge (by omega) (by omega)), nI_add, mrI_e (show i + n < alen 1 from by show i + n < 320; omega) (by decide), msI_e (show i < alen 1 from by show i < 320; omega) (by decide), nI_1]
      exact a1
    · rw [a2 j hj]
      by_cases c1 : j = i
      · subst c1
        rw [if_neg (by omega), if_pos (by omega), mA_s]
      · by_cases c2 : i ≤ j
        · rw [if_pos (by omega), if_pos c2, mA_n (by omega)]
        · rw [if_neg (by omega), if_neg c2, mA_n c1]
theorem drop_ok {h : AH} {v : MV} {n : Nat} (R : IR h v) (hn : n ≤ cN v 2) (h2 : gI h 5 2 = nI n) : ∃ h' v', f_X6_dropHandled 5 h = some ((), h') ∧ m_drop (nI n) v = some ((), v') ∧ IR h' v' ∧ Ci h h' [5, 6] ∧ Fr v v' [2] [1] := by
  obtain ⟨i1, i2, i3, i4, i5, i6, i7⟩ := R
  have hc := i5.2
  have c1 : v.1 2 = nI (cN v 2) := i5.1
  generalize hN : cN v 2 = N at *
  obtain ⟨v', a1, a2, a3⟩ := drop_l n (N - n) (by omega) (N - n) 0 FU (mset v 2 (nI (N - n))) (by omega) (by unfold FU; omega) ms_s
  have e2 : cN v' 2 = N - n := by
    unfold cN
    rw [a3.1 2 (by decide), ms_s, nI_clamp (by omega)]
  refine ⟨sI (wI h 6 (va_cpy (gI h 6) (gI h 6) n 0 (N - n))) 5 0 (nI (N - n)), v', ?_, ?_, ⟨i1, i2, i3, i4, ⟨by rw [e2, a3.1 2 (by decide)]; exact ms_s, by rw [e2]; omega⟩, by rw [gI_sI, if_pos ⟨rfl, rfl⟩, a3.1 2 (by decide), ms_s], fun j hj => ?_⟩, ⟨rfl, rfl, rfl, rfl, rfl, rfl, fun b hb => ?_⟩, (Fr.upd.tr a3).mono (by simp) (by simp)⟩
  · unfold f_X6_dropHandled
    rw [rdI_e i1, rdI_e i1, h2, i6, c1, if_neg (nI_nlt hn (by omega)), rdR_e i1, i2, rdI_e i1, rdR_e i1, i2, rdI_e i1, rdI_e i1, nn_s, nn_s, h2, i6, c1, pk_sub hn]
    rw [← nI_0, cpI_e i3 i3 (by omega) (by omega) (by omega) (by omega)]
    rw [rdI_e (by exact i1), rdI_e (by exact i1), wrI_e (by exact i1)]
    have z : gI (wI h 6 (va_cpy (gI h 6) (gI h 6) n 0 (N - n))) 5 = gI h 5 := gI_wIn (by decide)
    rw [z, i6, c1, h2, pk_sub hn]
  · unfold m_drop
    rw [mwI_e, c1, pk_sub hn]
    exact a1
  · rw [e2] at hj
    have z : gI (sI (wI h 6 (va_cpy (gI h 6) (gI h 6) n 0 (N - n))) 5 0 (nI (N - n))) 6 j = gI h 6 (n + j) := by
      rw [gI_sIn (by decide)]
      rw [gI_wI, pk_cpy_in (by omega) (by omega), Nat.sub_zero]
    rw [z, a2 j hj, if_pos (Nat.zero_le _), ms_2, Nat.add_comm n j]
    exact i7 (j + n) (by omega)
  · simp only [List.mem_cons, List.not_mem_nil, or_false, not_or] at hb
    rw [gI_sIn hb.1]
    exact rw1_n _ _ hb.2
/-- looking for a frame: nothing yet, wrong, or a whole one of p bytes -/
def LK (h : AH) (v : MV) (x : Option (Int32 × AH)) (y : Option (Int32 × MV)) : Prop := (x = some (0, h) ∧ y = some (0, v)) ∨ (∃ h', x = some (2, h') ∧ y = some (-1, v) ∧ Ci h h' [5] ∧ gI h' 5 0 = gI h 5 0) ∨ ∃ h' p, x = some (1, h') ∧ y = some (nI (p + 4), v) ∧ p ≤ 40 ∧ p + 4 ≤ cN v 2 ∧ (∃ k, v.2.1 1 0 = nI k ∧ 1 ≤ k ∧ k ≤ 3) ∧ (∃ c, v.2.1 1 1 = nI c ∧ c ≤ 3) ∧ Ci h h' [5] ∧ gI h' 5 0 = gI h 5 0 ∧ gI h' 5 2 = nI (p + 4) ∧ gI h' 5 3 = nI 3 ∧ gI h' 5 4 = nI (p + 3) ∧ gI h' 5 5 = bit false
theorem nl3 : (3 : Int32) = nI 3 := by decide
theorem nl2 : (2 : Int32) = nI 2 := by decide
theorem nl1 : (1 : Int32) = nI 1 := by decide
theorem nl0 : (0 : Int32) = nI 0 := by decide
theorem nl4 : (4 : Int32) = nI 4 := by decide
theorem nl40 : (40 : Int32) = nI 40 := by decide
theorem nl206 : (206 : Int32) = nI 206 := by decide
theorem lk66 {h : AH} {v : MV} (R : IR h v) (H0 : 0 < cN v 2 → ∃ k, v.2.1 1 0 = nI k ∧ 1 ≤ k ∧ k ≤ 3) (H1 : 1 < cN v 2 → ∃ c, v.2.1 1 1 = nI c ∧ c ≤ 3) (H2 : 2 < cN v 2 → ∃ p, v.2.1 1 2 = nI p ∧ p ≤ 40) : LK h v (f_X6_lookForFrame_66 5 h) (m_frameLength_66 v) := by
  obtain ⟨i1, i2, i3, i4, i5, i6, i7⟩ := R
  have hc := i5.2
  have c1 : v.1 2 = nI (cN v 2) := i5.1
  unfold LK
  generalize hN : cN v 2 = N at *
  unfold f_X6_lookForFrame_66 m_frameLength_66
  rw [rdI_e i1, i6, c1]
  by_cases c : N < 3
  · rw [nl3, if_pos (nI_lt c (by omega)), if_pos (nI_lt c (by omega))]
    exact .inl ⟨rfl, rfl⟩
  · obtain ⟨p, hp, hp2⟩ := H2 (by omega)
    obtain ⟨z2, -⟩ := i7 2 (by omega)
    have g62 : gI h 6 2 = nI p := z2.trans hp
    have cl2 : (nI 2).toNatClampNeg = 2 := by decide
    have in2 : inb (nI 2) (ln h 6) = true := by rw [i4]; decide
    rw [nl3, if_neg (nI_nlt (by omega) (by omega)), if_neg (nI_nlt (by omega) (by omega)), rdI_e i1, rdR_e i1, i2, nn_s, nl2, arI_e i3 in2, cl2, g62, i6, c1, nI_add, mrI_e (show 2 < alen 1 by decide) (by decide), mrI_e (show 2 < alen 1 by decide) (by decide), hp, nl4, nI_add]
    by_cases c2 : 3 + p < N
    · rw [if_pos (nI_lt c2 (by omega)), if_pos (nI_le (by omega) (by omega)), wrI_e i1, rdR_e (by exact i1), gR_sI, i2, nn_s, arI_e (by exact i3) (by exact in2), cl2, gI_sIn (by decide), g62, nI_add, wrI_e (by exact i1), rdI_e (by exact i1), gI_sI, if_pos ⟨rfl, rfl⟩, wrI_e (by exact i1), nI_1, wrZ_e (by exact i1) (.inl rfl), rdR_e (by exact i1), gR_sI, gR_sI, gR_sI, gR_sI, i2, rdI_e (by exact i1), nn_s]
      obtain ⟨q, b, hb, hq⟩ := i7 (3 + p) (by omega)
      have ge : gI (sI (sI (sI (sI h 5 3 (nI 3)) 5 4 (nI (3 + p))) 5 2 (nI (3 + p + 1))) 5 5 0) 5 4 = nI (3 + p) := by
        rw [gI_sI, if_neg (by simp), gI_sI, if_neg (by simp), gI_sI, if_pos ⟨rfl, rfl⟩]
      have g6 : gI (sI (sI (sI (sI h 5 3 (nI 3)) 5 4 (nI (3 + p))) 5 2 (nI (3 + p + 1))) 5 5 0) 6 = gI h 6 := by
        rw [gI_sIn (by decide), gI_sIn (by decide), gI_sIn (by decide), gI_sIn (by decide)]
      rw [ge, arI_e (by exact i3) (by show inb _ (ln h 6) = true; rw [i4]; exact inb_nI (by omega) (by omega)), nI_clamp (by omega), g6, q, nI_add, show p + 3 = 3 + p from Nat.add_comm _ _, mrI_e (show 3 + p < alen 1 from by show 3 + p < 320; omega) (by decide)]
      have cc : Ci h (sI (sI (sI (sI h 5 3 (nI 3)) 5 4 (nI (3 + p))) 5 2 (nI (3 + p + 1))) 5 5 0) [5] := (((Ci.fI (by simp)).tr (Ci.fI (by simp))).tr (Ci.fI (by simp))).tr (Ci.fI (by simp))
      have g0 : gI (sI (sI (sI (sI h 5 3 (nI 3)) 5 4 (nI (3 + p))) 5 2 (nI (3 + p + 1))) 5 5 0) 5 0 = gI h 5 0 := by
        rw [gI_sI, if_neg (by simp), gI_sI, if_neg (by simp), gI_sI, if_neg (by simp), gI_sI, if_neg (by simp)]
      by_cases c3 : v.2.1 1 (3 + p) = 206
      · rw [c3, if_pos rfl, if_pos rfl, mrI_e (show 2 < alen 1 by decide) (by decide), hp, nI_add]
        refine .inr (.inr ⟨_, p, rfl, rfl, hp2, by omega, H0 (by omega), H1 (by omega), cc, g0.trans (i6.trans c1), ?_, ?_, ?_, ?_⟩)
        · rw [gI_sI, if_neg (by simp), gI_sI, if_pos ⟨rfl, rfl⟩]; congr 1; omega
        · rw [gI_sI, if_neg (by simp), gI_sI, if_neg (by simp), gI_sI, if_neg (by simp), gI_sI, if_pos ⟨rfl, rfl⟩]
        · rw [ge]; congr 1; omega
        · rw [gI_sI, if_pos ⟨rfl, rfl⟩]; rfl
      · rw [if_neg c3, if_neg c3]
        exact .inr (.inl ⟨_, rfl, rfl, cc, g0.trans (i6.trans c1)⟩)
    · rw [if_neg (nI_nlt (by omega) (by omega)), if_neg (nI_ge (by omega) (by omega))]
      exact .inl ⟨rfl, rfl⟩
theorem lk45 {h : AH} {v : MV} (R : IR h v) (H0 : 0 < cN v 2 → ∃ k, v.2.1 1 0 = nI k ∧ 1 ≤ k ∧ k ≤ 3) (H1 : 1 < cN v 2 → ∃ c, v.2.1 1 1 = nI c ∧ c ≤ 3) : LK h v (f_X6_lookForFrame_45 5 h) (m_frameLength_45 v) := by
  have R0 := R
  obtain ⟨i1, i2, i3, i4, i5, i6, i7⟩ := R
  have hc := i5.2
  have c1 : v.1 2 = nI (cN v 2) := i5.1
  unfold f_X6_lookForFrame_45 m_frameLength_45
  rw [rdI_e i1, i6, c1]
  by_cases c : cN v 2 ≤ 2
  · rw [nl2, if_pos (nI_le c (by omega)), if_pos (nI_le c (by omega))]
    exact lk66 R0 H0 H1 (fun z => by omega)
  · obtain ⟨z, b, hb, hp⟩ := i7 2 (by omega)
    rw [nl2, if_neg (nI_ge (by omega) (by omega)), if_neg (nI_ge (by omega) (by omega)), rdR_e i1, i2, nn_s, arI_e i3 (by rw [i4]; decide), show (nI 2).toNatClampNeg = 2 by decide, z, mrI_e (show 2 < alen 1 by decide) (by decide), hp, nl40]
    by_cases c2 : b ≤ 40
    · rw [if_pos (nI_le c2 (by omega)), if_pos (nI_le c2 (by omega))]
      exact lk66 R0 H0 H1 (fun _ => ⟨b, hp, c2⟩)
    · rw [if_neg (nI_ge (by omega) (by omega)), if_neg (nI_ge (by omega) (by omega))]
      exact .inr (.inl ⟨h, rfl, rfl, Ci.rf _ _, rfl⟩)
theorem lk27 {h : AH} {v : MV} (R : IR h v) (H0 : 0 < cN v 2 → ∃ k, v.2.1 1 0 = nI k ∧ 1 ≤ k ∧ k ≤ 3) : LK h v (f_X6_lookForFrame_27 5 h) (m_frameLength_27 v) := by
  have R0 := R
  obtain ⟨i1, i2, i3, i4, i5, i6, i7⟩ := R
  have hc := i5.2
  have c1 : v.1 2 = nI (cN v 2) := i5.1
  unfold f_X6_lookForFrame_27 m_frameLength_27
  rw [rdI_e i1, i6, c1]
  by_cases c : cN v 2 ≤ 1
  · rw [nl1, if_pos (nI_le c (by omega)), if_pos (nI_le c (by omega))]
    exact lk45 R0 H0 (fun z => by omega)
  · obtain ⟨z, b, hb, hp⟩ := i7 1 (by omega)
    rw [nl1, if_neg (nI_ge (by omega) (by omega)), if_neg (nI_ge (by omega) (by omega)), rdR_e i1, i2, nn_s, arI_e i3 (by rw [i4]; decide), show (nI 1).toNatClampNeg = 1 by decide, z, mrI_e (show 1 < alen 1 by decide) (by decide), hp, nl3]
    by_cases c2 : b ≤ 3
    · rw [if_neg (nI_nlt c2 (by omega)), if_neg (nI_nlt c2 (by omega))]
      exact lk45 R0 H0 (fun _ => ⟨b, hp, c2⟩)
    · rw [if_pos (nI_lt (by omega) (by omega)), if_pos (nI_lt (by omega) (by omega))]
      exact .inr (.inl ⟨h, rfl, rfl, Ci.rf _ _, rfl⟩)
theorem look_ok {h : AH} {v : MV} (R : IR h v) : LK h v (f_X6_lookForFrame 5 h) (m_frameLength v) := by
  have R0 := R
  obtain ⟨i1, i2, i3, i4, i5, i6, i7⟩ := R
  have hc := i5.2
  have c1 : v.1 2 = nI (cN v 2) := i5.1
  unfold f_X6_lookForFrame m_frameLength
  rw [rdI_e i1, i6, c1]
  by_cases c : cN v 2 ≤ 0
  · rw [nl0, if_pos (nI_le c (by omega)), if_pos (nI_le c (by omega))]
    exact lk27 R0 (fun z => by omega)
  · obtain ⟨z, b, hb, hp⟩ := i7 0 (by omega)
    rw [nl0, if_neg (nI_ge (by omega) (by omega)), if_neg (nI_ge (by omega) (by omega)), rdR_e i1, i2, nn_s, arI_e i3 (by rw [i4]; decide), show (nI 0).toNatClampNeg = 0 by decide, z, rdR_e i1, i2, nn_s, arI_e i3 (by rw [i4]; decide), show (nI 0).toNatClampNeg = 0 by decide, z, mrI_e (show 0 < alen 1 by decide) (by decide), mrI_e (show 0 < alen 1 by decide) (by decide), hp, nl3, nl1]
    by_cases c2 : b < 1
    · rw [if_pos (nI_lt c2 (by omega)), if_pos (nI_lt c2 (by omega))]
      exact .inr (.inl ⟨h, rfl, rfl, Ci.rf _ _, rfl⟩)
    · have d1 : ¬ nI b < nI 1 := nI_nlt (by omega) (by omega)
      rw [if_neg d1, if_neg d1]
      by_cases c3 : b ≤ 3
      · have d3 : ¬ nI 3 < nI b := nI_nlt c3 (by omega)
        rw [if_neg d3, if_neg d3]
        exact lk27 R0 (fun _ => ⟨b, hp, by omega, c3⟩)
      · have d3 : nI 3 < nI b := nI_lt (by omega) (by omega)
        rw [if_pos d3, if_pos d3]
        exact .inr (.inl ⟨h, rfl, rfl, Ci.rf _ _, rfl⟩)
/-- the greeting: nothing yet, wrong, or whole -/
theorem greetB : ∀ i, i < 8 → (((4705506589711272193 : Int64) >>> ((56 - (8 * nI i)).toInt64 &&& 63)) &&& 255) = (greet8 i).toInt64 := by decide
theorem i64_inj {a b : Int32} : a.toInt64 = b.toInt64 ↔ a = b := ⟨fun h => by
    have := congrArg Int64.toInt h
    rw [Int32.toInt_toInt64, Int32.toInt_toInt64] at this
    exact Int32.toInt_inj.mp this, fun h => by rw [h]⟩
theorem greet_l {h : AH} {v : MV} (R : IR h v) : ∀ (d i f : Nat), i + d = 8 → d < f → i ≤ cN v 2 → (f_X6_lookForGreeting_2 f 5 (nI i) h = some (0, h) ∧ m_greet_2 f (nI i) v = some (0, v)) ∨ (f_X6_lookForGreeting_2 f 5 (nI i) h = some (2, h) ∧ m_greet_2 f (nI i) v = m_greet_44 v) ∨ (f_X6_lookForGreeting_2 f 5 (nI i) h = some (1, sI h 5 2 8) ∧ m_greet_2 f (nI i) v = m_greet_59 v ∧ 8 ≤ cN v 2) := by
  obtain ⟨i1, i2, i3, i4, i5, i6, i7⟩ := R
  have hc := i5.2
  have c1 : v.1 2 = nI (cN v 2) := i5.1
  generalize hN : cN v 2 = N at *
  have l8 : (8 : Int32) = nI 8 := by decide
  intro d
  induction d with
  | zero =>
    intro i f hi hf hiN
    obtain ⟨g, rfl⟩ : ∃ g, f = g + 1 := ⟨f - 1, by omega⟩
    obtain rfl : i = 8 := by omega
    refine .inr (.inr ⟨?_, ?_, hiN⟩)
    · rw [f_X6_lookForGreeting_2, rdI_e i1, i6, c1, l8, if_pos (show nI 8 ≤ nI 8 from Int32.le_refl _)]
      unfold f_X6_lookForGreeting_40
      rw [rdI_e i1, i6, c1, l8, if_pos (nI_le hiN (by omega)), wrI_e i1]
      split <;> rfl
    · rw [m_greet_2, l8, if_pos (Int32.le_refl _)]
  | succ d ih =>
    intro i f hi hf hiN
    obtain ⟨g, rfl⟩ : ∃ g, f = g + 1 := ⟨f - 1, by omega⟩
    rw [f_X6_lookForGreeting_2, rdI_e i1, i6, c1, m_greet_2, c1, if_neg (show ¬ (8 : Int32) ≤ nI i from nI_ge (b := 8) (by omega) (by omega)), if_neg (show ¬ (8 : Int32) ≤ nI i from nI_ge (b := 8) (by omega) (by omega))]
    by_cases c : N ≤ i
    · rw [if_pos (nI_le c (by omega)), if_neg (nI_nlt c (by omega))]
      refine .inl ⟨?_, rfl⟩
      unfold f_X6_lookForGreeting_40
      rw [rdI_e i1, i6, c1, l8, if_neg (nI_ge (by omega) (by omega))]
    · rw [if_neg (nI_ge (by omega) (by omega)), if_pos (nI_lt (by omega) (by omega)), rdR_e i1, i2, nn_s, arI_e i3 (by rw [i4]; exact inb_nI (by omega) (by omega)), nI_clamp (by omega), (i7 i (by omega)).1, mrI_e (show i < alen 1 from by show i < 320; omega) (by decide)]
      unfold arG
      rw [if_pos (inb_nI (show i < 8 by omega) (by decide)), nI_clamp (by omega), greetB i (by omega)]
      simp only [cmp_eq, i64_inj]
      by_cases c2 : v.2.1 1 i = greet8 i
      · rw [if_pos c2, if_pos c2, nI_1]
        exact ih (i + 1) g (by omega) (by omega) (by omega)
      · rw [if_neg c2, if_neg c2]
        exact .inr (.inl ⟨rfl, rfl⟩)
theorem greet_ok {h : AH} {v : MV} (R : IR h v) : (f_X6_lookForGreeting 5 h = some (0, h) ∧ m_greet v = some (0, v)) ∨ (f_X6_lookForGreeting 5 h = some (2, h) ∧ m_greet v = m_greet_44 v) ∨ (f_X6_lookForGreeting 5 h = some (1, sI h 5 2 8) ∧ m_greet v = m_greet_59 v ∧ 8 ≤ cN v 2) := greet_l R 8 0 FU (by omega) (by unfold FU; omega) (Nat.zero_le _)

/-! ===== the reference's output: what the sending functions append ===== -/
def lst {α : Type} (n : Nat) (f : Nat → α) : List α := (List.range n).map f
theorem lst_len {α : Type} (n : Nat) (f : Nat → α) : (lst n f).length = n := by simp [lst]
theorem lst_get {α : Type} {n i : Nat} (f : Nat → α) (h : i < n) : (lst n f)[i]? = some (f i) := by simp [lst, List.getElem?_map, List.getElem?_range h]
theorem lst_succ {α : Type} (n : Nat) (f : Nat → α) : lst (n + 1) f = lst n f ++ [f n] := by simp [lst, List.range_succ]
theorem lst_congr {α : Type} {n : Nat} {f g : Nat → α} (h : ∀ i, i < n → f i = g i) : lst n f = lst n g := by
  unfold lst
  exact List.map_congr_left (fun i hi => h i (List.mem_range.mp hi))
theorem lst_0 {α : Type} (f : Nat → α) : lst 0 f = [] := rfl
theorem lst_set {α : Type} {n p : Nat} {f g : Nat → α} {x : α} (hp : p < n) (h1 : g p = x) (h2 : ∀ i, i < n → i ≠ p → g i = f i) : lst n g = (lst n f).set p x := by
  apply List.ext_getElem?
  intro j
  by_cases hj : j < n
  · rw [lst_get g hj]
    by_cases e : j = p
    · subst e
      rw [List.getElem?_set_self (by rw [lst_len]; exact hj), h1]
    · rw [List.getElem?_set_ne (Ne.symm e), lst_get f hj, h2 j hj e]
  · rw [List.getElem?_eq_none (by rw [lst_len]; omega), List.getElem?_eq_none (by rw [List.length_set, lst_len]; omega)]
theorem inb_nI {n N : Nat} (h : n < N) (hN : N < 2 ^ 31) : inb (nI n) N = true := by
  simp only [inb, Bool.and_eq_true, decide_eq_true_eq]
  rw [nI_clamp (by omega)]
  exact ⟨nI_pos' (by omega), h⟩
def outL (v : MV) : List Int32 := lst (v.1 4).toNatClampNeg (v.2.1 3)
def OV (v : MV) : Prop := v.1 4 = nI (outL v).length
def Ou (v : MV) (bs : List Int32) (v' : MV) : Prop := outL v' = outL v ++ bs ∧ OV v' ∧ (∀ k, k ≠ 4 → k ≠ 61 → v'.1 k = v.1 k) ∧ (∀ k, k ≠ 3 → v'.2.1 k = v.2.1 k) ∧ v'.2.2 = v.2.2
def Op (v : MV) (bs : List Int32) (v' : MV) : Prop := Ou v bs v' ∧ v'.1 61 = v.1 61
theorem Ou.tr {a b c : MV} {x y : List Int32} (h : Ou a x b) (k : Ou b y c) : Ou a (x ++ y) c :=
  ⟨by rw [k.1, h.1, List.append_assoc], k.2.1, fun i h1 h2 => (k.2.2.1 i h1 h2).trans (h.2.2.1 i h1 h2), fun i h1 => (k.2.2.2.1 i h1).trans (h.2.2.2.1 i h1), k.2.2.2.2.trans h.2.2.2.2⟩
theorem Op.tr {a b c : MV} {x y : List Int32} (h : Op a x b) (k : Op b y c) : Op a (x ++ y) c := ⟨h.1.tr k.1, k.2.trans h.2⟩
theorem Ou.nil {v : MV} (h : OV v) : Ou v [] v := ⟨by simp, h, fun _ _ _ => rfl, fun _ _ => rfl, rfl⟩
theorem Op.nil {v : MV} (h : OV v) : Op v [] v := ⟨Ou.nil h, rfl⟩
theorem Ou.len {v v' : MV} {bs : List Int32} (h : Ou v bs v') : (outL v').length = (outL v).length + bs.length := by rw [h.1, List.length_append]
theorem OV.n {v : MV} (h : OV v) (hb : (outL v).length < 2 ^ 31) : (v.1 4).toNatClampNeg = (outL v).length := by rw [h]; exact nI_clamp hb
theorem bdm_s {α β : Type} {x : α} {v : MV} {F : α → MV → Option β} : bdm (some (x, v)) F = F x v := rfl
theorem put_op {v : MV} (x : Int32) (h : OV v) (hb : (outL v).length + 1 ≤ 8192) : ∃ v', m_put x v = some ((), v') ∧ Op v [x &&& 255] v' := by
  have hn := h.n (by omega)
  have hl : outL v = lst (outL v).length (v.2.1 3) := by
    conv => lhs; unfold outL
    rw [hn]
  generalize hN : (outL v).length = n at *
  have e4 : v.1 4 = nI n := by rw [← hN]; exact h
  refine ⟨(upd v.1 4 (nI (n + 1)), rw1 v.2.1 3 (upd (v.2.1 3) n (x &&& 255)), v.2.2), ?_, ⟨⟨?_, ?_, ?_, ?_, rfl⟩, ?_⟩⟩
  · unfold m_put msI mwI
    rw [e4, if_pos (inb_nI (show n < alen 3 from by show n < 8192; omega) (by decide)), nI_clamp (by omega)]
    simp only [e4, nI_1]
  · rw [hl]
    unfold outL
    have e : (upd v.1 4 (nI (n + 1)) 4).toNatClampNeg = n + 1 := by rw [pk_us, nI_clamp (by omega)]
    simp only [e, rw1_s]
    rw [lst_succ]
    congr 1
    · exact lst_congr (fun i hi => by rw [pk_un (by omega)])
    · rw [pk_us]
  · unfold OV outL
    have e : (upd v.1 4 (nI (n + 1)) 4).toNatClampNeg = n + 1 := by rw [pk_us, nI_clamp (by omega)]
    simp only [e, lst_len]
    exact pk_us
  · intro k h1 _
    exact pk_un h1
  · intro k h1
    exact rw1_n _ _ h1
  · show upd v.1 4 (nI (n + 1)) 61 = v.1 61
    exact pk_un (by decide)
/-- beginning a frame -/
theorem begin_ok {v : MV} (k c : Int32) (h : OV v) (hb : (outL v).length + 3 ≤ 8192) : ∃ v', m_begin k c v = some ((), v') ∧ Ou v [k &&& 255, c &&& 255, 0] v' ∧ v'.1 61 = nI ((outL v).length + 2) := by
  obtain ⟨v1, e1, o1⟩ := put_op k h (by omega)
  have l1 := o1.1.len
  obtain ⟨v2, e2, o2⟩ := put_op c o1.1.2.1 (by simp at l1; omega)
  have l2 := o2.1.len
  simp at l1 l2
  have hw : Ou v2 [] (upd v2.1 61 (v2.1 4), v2.2.1, v2.2.2) := by
    have e : outL (upd v2.1 61 (v2.1 4), v2.2.1, v2.2.2) = outL v2 := by
      unfold outL
      simp only [show upd v2.1 61 (v2.1 4) 4 = v2.1 4 from pk_un (by decide)]
    refine ⟨by rw [e]; simp, ?_, fun k h1 h2 => pk_un h2, fun _ _ => rfl, rfl⟩
    unfold OV
    rw [e]
    show upd v2.1 61 (v2.1 4) 4 = _
    rw [pk_un (by decide)]
    exact o2.1.2.1
  obtain ⟨v3, e3, o3⟩ := put_op 0 hw.2.1 (by rw [hw.len]; simp; omega)
  refine ⟨v3, ?_, ?_, ?_⟩
  · unfold m_begin
    rw [e1, bdm_s, e2, bdm_s]
    unfold mwI
    dsimp only
    rw [e3, bdm_s]
  · have := ((o1.1.tr o2.1).tr hw).tr o3.1
    simpa using this
  · rw [o3.2]
    show upd v2.1 61 (v2.1 4) 61 = _
    rw [pk_us, o2.1.2.1, l2, l1]
/-- ending it: the length is put where the frame began -/
theorem finish_ok {v : MV} (pre ps : List Int32) (z : Int32) (ho : outL v = pre ++ z :: ps) (h61 : v.1 61 = nI pre.length) (h : OV v) (hb : (outL v).length + 1 ≤ 8192) : ∃ v', m_finish v = some ((), v') ∧ outL v' = pre ++ nI ps.length :: ps ++ [206] ∧ OV v' ∧ (∀ k, k ≠ 4 → k ≠ 61 → v'.1 k = v.1 k) ∧ (∀ k, k ≠ 3 → v'.2.1 k = v.2.1 k) ∧ v'.2.2 = v.2.2 := by
  have hlen : (outL v).length = pre.length + 1 + ps.length := by rw [ho]; simp; omega
  have hn := h.n (by omega)
  have e4 : v.1 4 = nI (pre.length + 1 + ps.length) := by rw [← hlen]; exact h
  have hx : v.1 4 - v.1 61 - 1 = nI ps.length := by
    rw [e4, h61, pk_sub (by omega), show pre.length + 1 + ps.length - pre.length = ps.length + 1 by omega]
    exact nI_pred _
  obtain ⟨w, hw⟩ : ∃ w : MV, w = (v.1, rw1 v.2.1 3 (upd (v.2.1 3) pre.length (nI ps.length)), v.2.2) := ⟨_, rfl⟩
  have hwo : outL w = pre ++ nI ps.length :: ps := by
    rw [hw]
    unfold outL
    simp only [rw1_s]
    rw [hn]
    rw [lst_set (f := v.2.1 3) (p := pre.length) (x := nI ps.length) (by omega) pk_us (fun i _ hi => pk_un hi)]
    have : lst (outL v).length (v.2.1 3) = outL v := by
      conv => rhs; unfold outL
      rw [hn]
    rw [this, ho, List.set_append_right _ _ (Nat.le_refl _), Nat.sub_self]
    rfl
  have hwv : OV w := by
    unfold OV
    rw [hwo, hw]
    show v.1 4 = _
    rw [e4]
    congr 1
    simp
    omega
  obtain ⟨v', e', o'⟩ := put_op 206 hwv (by rw [hwo]; simp; omega)
  refine ⟨v', ?_, ?_, o'.1.2.1, ?_, ?_, ?_⟩
  · unfold m_finish msI
    rw [hx, h61, if_pos (inb_nI (show pre.length < alen 3 from by show pre.length < 8192; omega) (by decide)), nI_clamp (by omega), ← hw]
    dsimp only
    rw [e', bdm_s]
  · rw [o'.1.1, hwo]
    rfl
  · intro k h1 h2
    rw [o'.1.2.2.1 k h1 h2, hw]
  · intro k h1
    rw [o'.1.2.2.2.1 k h1, hw]
    exact rw1_n _ _ h1
  · rw [o'.1.2.2.2.2, hw]
/-- a whole frame: begun, filled, ended -/
theorem frame_ok {v v1 v2 : MV} {k c : Int32} {ps : List Int32} (o1 : Ou v [k &&& 255, c &&& 255, 0] v1) (h61 : v1.1 61 = nI ((outL v).length + 2)) (o2 : Op v1 ps v2) (hb : (outL v).length + ps.length + 4 ≤ 8192) : ∃ v', m_finish v2 = some ((), v') ∧ Ou v ((k &&& 255) :: (c &&& 255) :: nI ps.length :: ps ++ [206]) v' := by
  have ho : outL v2 = (outL v ++ [k &&& 255, c &&& 255]) ++ 0 :: ps := by rw [o2.1.1, o1.1]; simp
  obtain ⟨v', e, q1, q2, q3, q4, q5⟩ := finish_ok (outL v ++ [k &&& 255, c &&& 255]) ps 0 ho (by rw [o2.2, h61]; congr 1; simp) o2.1.2.1 (by rw [ho]; simp; omega)
  refine ⟨v', e, by rw [q1]; simp, q2, fun i h1 h2 => ?_, fun i h1 => ?_, ?_⟩
  · rw [q3 i h1 h2, o2.1.2.2.1 i h1 h2, o1.2.2.1 i h1 h2]
  · rw [q4 i h1, o2.1.2.2.2.1 i h1, o1.2.2.2.1 i h1]
  · rw [q5, o2.1.2.2.2.2, o1.2.2.2.2]

theorem method_ok {v : MV} (c a b : Int32) (h : OV v) (hb : (outL v).length + 5 ≤ 8192) : ∃ v1 v', m_method c a b v = some ((), v') ∧ Ou v [1, c &&& 255, 0] v1 ∧ v1.1 61 = nI ((outL v).length + 2) ∧ Op v1 [a &&& 255, b &&& 255] v' := by
  obtain ⟨v1, e1, o1, h61⟩ := begin_ok 1 c h (by omega)
  have l1 := o1.len
  simp at l1
  obtain ⟨v2, e2, o2⟩ := put_op a o1.2.1 (by omega)
  have l2 := o2.1.len
  simp at l2
  obtain ⟨v3, e3, o3⟩ := put_op b o2.1.2.1 (by omega)
  refine ⟨v1, v3, ?_, o1, h61, o2.tr o3⟩
  unfold m_method
  rw [e1, bdm_s, e2, bdm_s, e3, bdm_s]
theorem k1 : (1 : Int32) &&& 255 = 1 := by decide
theorem k2 : (2 : Int32) &&& 255 = 2 := by decide
theorem k3 : (3 : Int32) &&& 255 = 3 := by decide
theorem k206 : (206 : Int32) &&& 255 = 206 := by decide
theorem nI1 : nI 1 = 1 := by decide
theorem nI2 : nI 2 = 2 := by decide
theorem say_ok {v : MV} (c a b : Int32) (h : OV v) (hb : (outL v).length + 6 ≤ 8192) : ∃ v', m_say c a b v = some ((), v') ∧ Ou v [1, c &&& 255, 2, a &&& 255, b &&& 255, 206] v' := by
  obtain ⟨v1, v2, e1, o1, h61, o2⟩ := method_ok c a b h (by omega)
  obtain ⟨v', e', o'⟩ := frame_ok (k := 1) o1 h61 o2 (by simp; omega)
  refine ⟨v', ?_, by simpa [k1, nI2] using o'⟩
  unfold m_say
  rw [e1, bdm_s, e', bdm_s]
def shO (x : Int32) : List Int32 := [(x >>> ((8 : Int32) &&& 31)) &&& 255, x &&& 255]
theorem putShort_op {v : MV} (x : Int32) (h : OV v) (hb : (outL v).length + 2 ≤ 8192) : ∃ v', m_putShort x v = some ((), v') ∧ Op v (shO x) v' := by
  obtain ⟨v1, e1, o1⟩ := put_op (x >>> ((8 : Int32) &&& 31)) h (by omega)
  have l1 := o1.1.len
  simp at l1
  obtain ⟨v2, e2, o2⟩ := put_op x o1.1.2.1 (by omega)
  refine ⟨v2, ?_, o1.tr o2⟩
  unfold m_putShort
  rw [e1, bdm_s, e2, bdm_s]
/-! names and contents, byte by byte -/
theorem lN_sar {a d : Nat} {D : Int64} (hD : (D.toBitVec.smod 64).toNat = d) (h : a < 2 ^ 63) : lN a >>> D = lN (a / 2 ^ d) := by
  have hd : a / 2 ^ d ≤ a := Nat.div_le_self _ _
  apply Int64.toInt_inj.mp
  have e : (lN a >>> D).toInt = (lN a).toInt >>> d := by
    rw [← hD]
    exact BitVec.toInt_sshiftRight ..
  rw [e, Int.shiftRight_eq_div_pow, pk_lT (by omega), pk_lT (by omega)]
  rfl
def nl : Nat → Nat → Nat
  | 0, _ => 0
  | k + 1, n => if n = 0 then 0 else nl k (n / 256) + 1
theorem nl_le : ∀ k n, nl k n ≤ k := by
  intro k
  induction k with
  | zero => intro n; exact Nat.le_refl _
  | succ k ih =>
    intro n
    have := ih (n / 256)
    unfold nl
    split <;> omega
def nlen (x : Int64) : Nat := nl 8 x.toNatClampNeg
theorem nlen_le (x : Int64) : nlen x ≤ 8 := nl_le 8 _
theorem lN_clamp {n : Nat} (h : n < 2 ^ 63) : (lN n).toNatClampNeg = n := by
  show (lN n).toInt.toNat = n
  rw [pk_lT h]
  rfl
theorem cmp0 {n : Nat} (h : n < 2 ^ 63) : lg_cmp (lN n) 0 ≤ 0 ↔ n = 0 := by
  have e0 : (0 : Int64) = lN 0 := by decide
  unfold lg_cmp
  rw [e0]
  by_cases hn : n = 0
  · subst hn
    simp
  · rw [if_pos ((pk_lLT (by omega) h).mpr (by omega))]
    simp [hn]
theorem length_loop {v : MV} : ∀ (k n : Nat) (c : Int32) (f : Nat), n < 256 ^ k → n < 2 ^ 63 → k < f → m_length_4 f c (lN n) v = some (c + nI (nl k n), v) := by
  intro k
  induction k with
  | zero =>
    intro n c f hn _ hf
    obtain ⟨g, rfl⟩ : ∃ g, f = g + 1 := ⟨f - 1, by omega⟩
    have : n = 0 := by simpa using hn
    subst this
    rw [m_length_4, if_pos ((cmp0 (by omega)).mpr rfl)]
    simp [nl, nI_0]
  | succ k ih =>
    intro n c f hn h63 hf
    obtain ⟨g, rfl⟩ : ∃ g, f = g + 1 := ⟨f - 1, by omega⟩
    rw [m_length_4]
    by_cases h0 : n = 0
    · subst h0
      rw [if_pos ((cmp0 (by omega)).mpr rfl)]
      simp [nl, nI_0]
    · rw [if_neg (fun z => h0 ((cmp0 h63).mp z)), ltd, lN_sar (d := 8) (by decide) h63]
      have hd : n / 2 ^ 8 < 256 ^ k := by
        rw [show (2 : Nat) ^ 8 = 256 by decide]
        exact Nat.div_lt_of_lt_mul (by rw [Nat.pow_succ] at hn; rw [Nat.mul_comm]; exact hn)
      rw [ih (n / 2 ^ 8) (c + 1) g hd (Nat.lt_of_le_of_lt (Nat.div_le_self _ _) h63) (by omega)]
      congr 2
      rw [nl, if_neg h0, ← nI_1, show (2 : Nat) ^ 8 = 256 by decide, Int32.add_assoc, Int32.add_comm 1]
theorem length_ok {v : MV} {x : Int64} (hx : ¬ x < 0) : m_length x v = some (nI (nlen x), v) := by
  obtain ⟨n, hn, rfl⟩ := pk_lOf hx
  unfold m_length nlen
  rw [length_loop 8 n 0 FU (by have : (256 : Nat) ^ 8 = 2 ^ 64 := by decide
                               omega) hn (by decide), lN_clamp hn]
  simp
def byA (x : Int64) (k : Nat) : Int32 := (x >>> ((8 * nI k).toInt64 &&& 63)).toInt32 &&& 255
def nbs (x : Int64) : Nat → List Int32
  | 0 => []
  | k + 1 => byA x k :: nbs x k
theorem nbs_len (x : Int64) : ∀ k, (nbs x k).length = k := by
  intro k
  induction k with
  | zero => rfl
  | succ k ih => simp [nbs, ih]
theorem sub1 (a : Int32) : a + (-1) = a - 1 := (Int32.sub_eq_add_neg a 1).symm
theorem neg1_lt : nI 0 - 1 < 0 := by decide
theorem putName_loop : ∀ (k f : Nat) (x : Int64) (v : MV), k ≤ 8 → k < f → OV v → (outL v).length + k ≤ 8192 → ∃ v', m_putName_15 f x (nI k - 1) v = some ((), v') ∧ Op v (nbs x k) v' := by
  intro k
  induction k with
  | zero =>
    intro f x v _ hf h _
    obtain ⟨g, rfl⟩ : ∃ g, f = g + 1 := ⟨f - 1, by omega⟩
    refine ⟨v, ?_, Op.nil h⟩
    rw [m_putName_15, if_pos neg1_lt]
  | succ k ih =>
    intro f x v hk hf h hb
    obtain ⟨g, rfl⟩ : ∃ g, f = g + 1 := ⟨f - 1, by omega⟩
    rw [m_putName_15, nI_pred, if_neg (nI_pos (by omega))]
    obtain ⟨v1, e1, o1⟩ := put_op ((x >>> ((8 * nI k).toInt64 &&& 63)).toInt32) h (by omega)
    have l1 := o1.1.len
    simp at l1
    obtain ⟨v2, e2, o2⟩ := ih g x v1 (by omega) (by omega) o1.1.2.1 (by omega)
    refine ⟨v2, ?_, o1.tr o2⟩
    rw [e1, bdm_s, sub1]
    exact e2
def nmO (x : Int64) : List Int32 := (nI (nlen x) &&& 255) :: nbs x (nlen x)
theorem nmO_len (x : Int64) : (nmO x).length = nlen x + 1 := by simp [nmO, nbs_len]
theorem nmO_le (x : Int64) : (nmO x).length ≤ 9 := by rw [nmO_len]; have := nlen_le x; omega
theorem putName_op {v : MV} {x : Int64} (hx : ¬ x < 0) (h : OV v) (hb : (outL v).length + 9 ≤ 8192) : ∃ v', m_putName x v = some ((), v') ∧ Op v (nmO x) v' := by
  have hl := nlen_le x
  obtain ⟨v1, e1, o1⟩ := put_op (nI (nlen x)) h (by omega)
  have l1 := o1.1.len
  simp at l1
  obtain ⟨v2, e2, o2⟩ := putName_loop (nlen x) FU x v1 hl (by unfold FU; omega) o1.1.2.1 (by omega)
  refine ⟨v2, ?_, o1.tr o2⟩
  unfold m_putName
  rw [length_ok hx, bdm_s, e1, bdm_s, ltd]
  exact e2
theorem putLetter_loop : ∀ (k f : Nat) (x : Int64) (v : MV), k ≤ 8 → k < f → OV v → (outL v).length + k ≤ 8192 → ∃ v', m_putLetter_30 f x (nI k - 1) v = m_putLetter_53 v' ∧ Op v (nbs x k) v' := by
  intro k
  induction k with
  | zero =>
    intro f x v _ hf h _
    obtain ⟨g, rfl⟩ : ∃ g, f = g + 1 := ⟨f - 1, by omega⟩
    refine ⟨v, ?_, Op.nil h⟩
    rw [m_putLetter_30, if_pos neg1_lt]
  | succ k ih =>
    intro f x v hk hf h hb
    obtain ⟨g, rfl⟩ : ∃ g, f = g + 1 := ⟨f - 1, by omega⟩
    rw [m_putLetter_30, nI_pred, if_neg (nI_pos (by omega))]
    obtain ⟨v1, e1, o1⟩ := put_op ((x >>> ((8 * nI k).toInt64 &&& 63)).toInt32) h (by omega)
    have l1 := o1.1.len
    simp at l1
    obtain ⟨v2, e2, o2⟩ := ih g x v1 (by omega) (by omega) o1.1.2.1 (by omega)
    refine ⟨v2, ?_, o1.tr o2⟩
    rw [e1, bdm_s, sub1]
    exact e2
/-- a head, and a body where there are bytes -/
def letO (c : Int32) (n : Nat) (x : Int64) : List Int32 := [2, c &&& 255, 1, nI n &&& 255, 206] ++ (if n = 0 then [] else [3, c &&& 255, nI n] ++ nbs x n ++ [206])
theorem letO_le (c : Int32) {n : Nat} (x : Int64) (hn : n ≤ 6) : (letO c n x).length ≤ 15 := by
  unfold letO
  split <;> simp [nbs_len] <;> omega
theorem putLetter_ok {v : MV} (c : Int32) {n : Nat} (x : Int64) (hn : n ≤ 6) (h : OV v) (hb : (outL v).length + 15 ≤ 8192) : ∃ v', m_putLetter c (nI n) x v = some ((), v') ∧ Ou v (letO c n x) v' := by
  obtain ⟨v1, e1, o1, h61⟩ := begin_ok 2 c h (by omega)
  have l1 := o1.len
  simp at l1
  obtain ⟨v2, e2, o2⟩ := put_op (nI n) o1.2.1 (by omega)
  obtain ⟨v3, e3, o3⟩ := frame_ok o1 h61 o2 (by simp; omega)
  have l3 := o3.len
  simp at l3
  unfold m_putLetter
  rw [e1, bdm_s, e2, bdm_s, e3, bdm_s]
  by_cases h0 : n = 0
  · subst h0
    refine ⟨v3, by rw [if_pos (by rw [nI_0]; decide)], ?_⟩
    simpa [letO, k2, nI1] using o3
  · rw [if_neg (nI_nle (by omega) (by omega))]
    obtain ⟨v4, e4, o4, h614⟩ := begin_ok 3 c o3.2.1 (by omega)
    have l4 := o4.len
    simp at l4
    obtain ⟨v5, e5, o5⟩ := putLetter_loop n FU x v4 (by omega) (by unfold FU; omega) o4.2.1 (by omega)
    obtain ⟨v6, e6, o6⟩ := frame_ok o4 h614 o5 (by rw [nbs_len]; omega)
    refine ⟨v6, ?_, ?_⟩
    · rw [e4, bdm_s, ltd, e5]
      unfold m_putLetter_53
      rw [e6, bdm_s]
    · have := o3.tr o6
      rw [nbs_len] at this
      simpa [letO, h0, k2, k3, nI1] using this

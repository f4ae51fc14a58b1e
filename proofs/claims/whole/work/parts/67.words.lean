/-! ===== names as bytes, and their words ===== -/
def pkR : List Nat → Nat
  | [] => 0
  | b :: r => pkR r * 256 + b
theorem pkN_foldl : ∀ (l : List Nat) (a : Nat), l.foldl (fun a b => a * 256 + b) a = a * 256 ^ l.length + pkN l := by
  intro l
  induction l with
  | nil => intro a; simp [pkN]
  | cons b l ih =>
    intro a
    have e1 : (b :: l).foldl (fun a b => a * 256 + b) a = l.foldl (fun a b => a * 256 + b) (a * 256 + b) := rfl
    have e2 : pkN (b :: l) = l.foldl (fun a b => a * 256 + b) (0 * 256 + b) := rfl
    rw [e1, e2, ih, ih, List.length_cons, Nat.pow_succ, Nat.add_mul, Nat.zero_mul, Nat.zero_add, Nat.mul_assoc, Nat.mul_comm 256, Nat.add_assoc]
theorem pkN_rev : ∀ r : List Nat, pkN r.reverse = pkR r := by
  intro r
  induction r with
  | nil => rfl
  | cons b r ih => rw [List.reverse_cons, pkN_snoc, ih]; rfl
theorem pkR_dig : ∀ (r : List Nat) (k : Nat), (∀ b ∈ r, b < 256) → pkR r / 256 ^ k % 256 = r[k]?.getD 0 := by
  intro r
  induction r with
  | nil => intro k _; simp [pkR]
  | cons b r ih =>
    intro k hb
    have b1 := hb b (by simp)
    cases k with
    | zero => simp [pkR]; omega
    | succ k =>
      have : (pkR r * 256 + b) / 256 ^ (k + 1) = pkR r / 256 ^ k := by
        rw [Nat.pow_succ, Nat.mul_comm (256 ^ k) 256, ← Nat.div_div_eq_div_mul]
        congr 1
        omega
      show (pkR r * 256 + b) / 256 ^ (k + 1) % 256 = _
      rw [this, ih k (fun b hb' => hb b (by simp [hb']))]
      simp
/-- the bytes of a name, from the right -/
theorem bN_nm {l : List Nat} (h8 : l.length ≤ 8) (hn : NmL l) (k : Nat) : bN (lN (pkN l)) k = l.reverse[k]?.getD 0 := by
  have h63 := pkN_63 h8 hn
  unfold bN
  rw [lN_tn (by omega), Nat.pow_mul, show (2 : Nat) ^ 8 = 256 by decide]
  have := pkR_dig l.reverse k (fun b hb => by have := hn b (List.mem_reverse.mp hb); omega)
  rw [← pkN_rev, List.reverse_reverse] at this
  exact this
theorem by8_eq {l : List Nat} (h8 : l.length ≤ 8) (hn : NmL l) : by8 (lN (pkN l)) = List.replicate (8 - l.length) 0 ++ l := by
  apply List.ext_getElem?
  intro i
  have len : (by8 (lN (pkN l))).length = 8 := rfl
  by_cases hi : i < 8
  · have e : (by8 (lN (pkN l)))[i]? = some (bN (lN (pkN l)) (7 - i)) := by
      match i, hi with
      | 0, _ => rfl
      | 1, _ => rfl
      | 2, _ => rfl
      | 3, _ => rfl
      | 4, _ => rfl
      | 5, _ => rfl
      | 6, _ => rfl
      | 7, _ => rfl
      | n + 8, h => omega
    rw [e, bN_nm h8 hn]
    by_cases c : i < 8 - l.length
    · rw [List.getElem?_append_left (by simp; omega), List.getElem?_replicate, if_pos c, List.getElem?_eq_none (by simp; omega)]
      rfl
    · rw [List.getElem?_append_right (by simp; omega), List.length_replicate, List.getElem?_reverse (by omega)]
      have : l.length - 1 - (7 - i) = i - (8 - l.length) := by omega
      rw [this, List.getElem?_eq_getElem (by omega)]
      rfl
  · rw [List.getElem?_eq_none (by omega), List.getElem?_eq_none (by simp; omega)]
/-- a name's words, as bytes -/
def wsp (s : List (List Nat) × List Nat) (b : Nat) : List (List Nat) × List Nat := if b = 46 then (s.1 ++ [s.2], []) else (s.1, s.2 ++ [b])
def wdB (l : List Nat) : List (List Nat) := let s := l.foldl wsp ([], []); s.1 ++ [s.2]
theorem wst_wsp : ∀ (l : List Nat) (s : List (List Nat) × List Nat), l.foldl wst (s.1.map pkN, pkN s.2) = ((l.foldl wsp s).1.map pkN, pkN (l.foldl wsp s).2) := by
  intro l
  induction l with
  | nil => intro s; rfl
  | cons b l ih =>
    intro s
    have e : wst (s.1.map pkN, pkN s.2) b = ((wsp s b).1.map pkN, pkN (wsp s b).2) := by
      unfold wst wsp
      by_cases c : b = 46
      · rw [if_pos c, if_pos c]
        simp [pkN]
      · rw [if_neg c, if_neg c]
        rw [pkN_snoc]
    show l.foldl wst (wst (s.1.map pkN, pkN s.2) b) = _
    rw [e, ih]
    rfl
theorem wst_zero : ∀ n : Nat, (List.replicate n 0).foldl wst ([], 0) = ([], 0) := by
  intro n
  induction n with
  | zero => rfl
  | succ n ih =>
    rw [List.replicate_succ]
    show (List.replicate n 0).foldl wst (wst ([], 0) 0) = _
    exact ih
theorem wdN_eq {l : List Nat} (h8 : l.length ≤ 8) (hn : NmL l) : wdN (lN (pkN l)) = (wdB l).map pkN := by
  unfold wdN wdB
  rw [by8_eq h8 hn, List.foldl_append, wst_zero]
  have := wst_wsp l ([], [])
  simp only [List.map_nil] at this
  rw [show pkN [] = 0 from rfl] at this
  simp only [this, List.map_append, List.map_cons, List.map_nil]
/-- each word's bytes are of the name, without dots -/
def WdL (w : List Nat) : Prop := w.length ≤ 8 ∧ ∀ b ∈ w, 33 ≤ b ∧ b ≤ 126 ∧ b ≠ 46
theorem wsp_ok : ∀ (l : List Nat) (s : List (List Nat) × List Nat) (n : Nat), NmL l → n + l.length ≤ 8 → (∀ w ∈ s.1, WdL w) → s.2.length ≤ n → (∀ b ∈ s.2, 33 ≤ b ∧ b ≤ 126 ∧ b ≠ 46) → (∀ w ∈ (l.foldl wsp s).1, WdL w) ∧ WdL (l.foldl wsp s).2 := by
  intro l
  induction l with
  | nil => intro s n _ hn h1 h2 h3; exact ⟨h1, by show s.2.length ≤ 8; simp at hn; omega, h3⟩
  | cons b l ih =>
    intro s n hl hn h1 h2 h3
    have hb := hl b (by simp)
    show (∀ w ∈ (l.foldl wsp (wsp s b)).1, WdL w) ∧ WdL (l.foldl wsp (wsp s b)).2
    simp only [List.length_cons] at hn
    refine ih (wsp s b) (n + 1) (fun x hx => hl x (by simp [hx])) (by omega) (fun w hw => ?_) ?_ ?_
    · unfold wsp at hw
      by_cases c : b = 46
      · rw [if_pos c] at hw
        rcases List.mem_append.mp hw with hw | hw
        · exact h1 w hw
        · rw [List.mem_singleton.mp hw]; exact ⟨by omega, h3⟩
      · rw [if_neg c] at hw; exact h1 w hw
    · unfold wsp
      by_cases c : b = 46
      · rw [if_pos c]; simp
      · rw [if_neg c]; simp; omega
    · intro x hx
      unfold wsp at hx
      by_cases c : b = 46
      · rw [if_pos c] at hx; simp at hx
      · rw [if_neg c] at hx
        rcases List.mem_append.mp hx with hx | hx
        · exact h3 x hx
        · rw [List.mem_singleton.mp hx]; exact ⟨hb.1, hb.2, c⟩
theorem wdB_ok {l : List Nat} (h8 : l.length ≤ 8) (hn : NmL l) : ∀ w ∈ wdB l, WdL w := by
  have := wsp_ok l ([], []) 0 hn (by omega) (fun w hw => by simp at hw) (by simp) (fun b hb => by simp at hb)
  intro w hw
  rcases List.mem_append.mp hw with hw | hw
  · exact this.1 w hw
  · rw [List.mem_singleton.mp hw]; exact this.2
theorem wsp_len : ∀ (l : List Nat) (s : List (List Nat) × List Nat), (l.foldl wsp s).1.length = s.1.length + l.countP (fun b => decide (b = 46)) := by
  intro l
  induction l with
  | nil => intro s; rfl
  | cons b l ih =>
    intro s
    show (l.foldl wsp (wsp s b)).1.length = _
    rw [ih, List.countP_cons]
    unfold wsp
    by_cases c : b = 46
    · rw [if_pos c, if_pos (decide_eq_true c)]; simp; omega
    · rw [if_neg c, if_neg (by simp [c])]; rfl
theorem wdB_len {l : List Nat} (h8 : l.length ≤ 8) : (wdB l).length ≤ 9 ∧ 0 < (wdB l).length := by
  unfold wdB
  have := wsp_len l ([], [])
  have := List.countP_le_length (p := fun b => decide (b = 46)) (l := l)
  simp at *
  omega
/-- two ways to write a word as a number tell the same words apart -/
theorem pkN_inj : ∀ (n : Nat) (a b : List Nat), a.length + b.length = n → (∀ x ∈ a, 0 < x ∧ x < 256) → (∀ x ∈ b, 0 < x ∧ x < 256) → pkR a = pkR b → a = b := by
  intro n
  induction n using Nat.strongRecOn with
  | ind n ih =>
    intro a b hn ha hb e
    cases a with
    | nil =>
      cases b with
      | nil => rfl
      | cons y b =>
        have := hb y (by simp)
        simp only [pkR] at e
        omega
    | cons x a =>
      have hx := ha x (by simp)
      cases b with
      | nil => simp only [pkR] at e; omega
      | cons y b =>
        have hy := hb y (by simp)
        simp only [pkR] at e
        have e1 : x = y := by omega
        have e2 : pkR a = pkR b := by omega
        have := ih (a.length + b.length) (by simp at hn; omega) a b rfl (fun z hz => ha z (by simp [hz])) (fun z hz => hb z (by simp [hz])) e2
        rw [e1, this]
theorem WdL.by {w : List Nat} (h : WdL w) : ∀ x ∈ w.reverse, 0 < x ∧ x < 256 := fun x hx => by
  have := h.2 x (List.mem_reverse.mp hx)
  omega
theorem WdL.nm {w : List Nat} (h : WdL w) : NmL w := fun x hx => ⟨(h.2 x hx).1, (h.2 x hx).2.1⟩
theorem pkW {a b : List Nat} (ha : WdL a) (hb : WdL b) : lN (pkN a) = lN (pkN b) ↔ a = b := by
  rw [pk_lEQ (pkN_63 ha.1 ha.nm) (pkN_63 hb.1 hb.nm)]
  refine ⟨fun e => ?_, fun e => by rw [e]⟩
  have e2 : pkR a.reverse = pkR b.reverse := by rw [← pkN_rev, ← pkN_rev, List.reverse_reverse, List.reverse_reverse]; exact e
  exact List.reverse_inj.mp (pkN_inj _ _ _ rfl ha.by hb.by e2)
/-- with a one before the first byte -/
def pk1 (w : List Nat) : Nat := 256 ^ w.length + pkN w
theorem pk1_snoc (w : List Nat) (b : Nat) : pk1 (w ++ [b]) = pk1 w * 256 + b := by
  unfold pk1
  rw [pkN_snoc, List.length_append, List.length_singleton, Nat.pow_succ]
  omega
theorem pk1_64 {w : List Nat} (h : WdL w) : pk1 w % 2 ^ 64 = if w.length = 8 then pkN w else pk1 w := by
  have h63 := pkN_63 h.1 h.nm
  unfold pk1
  by_cases c : w.length = 8
  · rw [if_pos c, c, show (256 : Nat) ^ 8 = 2 ^ 64 by decide]
    omega
  · rw [if_neg c]
    have h55 := pkN_55 (by have := h.1; omega) h.nm
    have : 256 ^ w.length ≤ 256 ^ 7 := Nat.pow_le_pow_right (by decide) (by have := h.1; omega)
    have e : (256 : Nat) ^ 7 = 2 ^ 56 := by decide
    exact Nat.mod_eq_of_lt (by omega)
/-- which words are long can be told from the number -/
theorem pkN_lo : ∀ (w : List Nat) , w ≠ [] → (∀ x ∈ w, 33 ≤ x ∧ x < 128) → 33 * 256 ^ (w.length - 1) ≤ pkR w.reverse := by
  intro w hw hb
  cases w with
  | nil => exact absurd rfl hw
  | cons x w =>
    rw [← pkN_rev, List.reverse_reverse]
    have hx := hb x (by simp)
    have : pkN (x :: w) = w.foldl (fun a b => a * 256 + b) (0 * 256 + x) := rfl
    rw [this, pkN_foldl, Nat.zero_mul, Nat.zero_add, List.length_cons, Nat.add_sub_cancel]
    exact Nat.le_trans (Nat.mul_le_mul_right _ hx.1) (Nat.le_add_right _ _)
theorem pk1W {a b : List Nat} (ha : WdL a) (hb : WdL b) : lN (pk1 a) = lN (pk1 b) ↔ a = b := by
  refine ⟨fun e => ?_, fun e => by rw [e]⟩
  have e2 : pk1 a % 2 ^ 64 = pk1 b % 2 ^ 64 := congrArg (fun z : Int64 => z.toBitVec.toNat) e
  rw [pk1_64 ha, pk1_64 hb] at e2
  have small : ∀ {w : List Nat}, WdL w → w.length ≠ 8 → 256 ^ w.length ≤ pk1 w ∧ pk1 w < 2 * 256 ^ w.length ∧ pk1 w < 2 ^ 57 := by
    intro w h c
    unfold pk1
    have : pkN w < 256 ^ w.length := by
      rcases pkN_lt w.length w rfl h.nm with z | z
      · omega
      · have : w = [] := List.length_eq_zero_iff.mp z
        subst this
        decide
    have h7 : 256 ^ w.length ≤ 256 ^ 7 := Nat.pow_le_pow_right (by decide) (by have := h.1; omega)
    have e : (256 : Nat) ^ 7 = 2 ^ 56 := by decide
    omega
  have big : ∀ {w : List Nat}, WdL w → w.length = 8 → 2 ^ 57 ≤ pkN w := by
    intro w h c
    have := pkN_lo w (fun z => by rw [z] at c; simp at c) (fun x hx => by have := h.2 x hx; omega)
    rw [← pkN_rev, List.reverse_reverse, c] at this
    have e : (256 : Nat) ^ (8 - 1) = 2 ^ 56 := by decide
    omega
  by_cases ca : a.length = 8
  · by_cases cb : b.length = 8
    · rw [if_pos ca, if_pos cb] at e2
      exact (pkW ha hb).mp (by rw [e2])
    · rw [if_pos ca, if_neg cb] at e2
      have := big ha ca
      have := small hb cb
      omega
  · by_cases cb : b.length = 8
    · rw [if_neg ca, if_pos cb] at e2
      have := big hb cb
      have := small ha ca
      omega
    · rw [if_neg ca, if_neg cb] at e2
      obtain ⟨a1, a2, -⟩ := small ha ca
      obtain ⟨b1, b2, -⟩ := small hb cb
      have el : a.length = b.length := by
        rcases Nat.lt_trichotomy a.length b.length with z | z | z
        · have : 256 ^ (a.length + 1) ≤ 256 ^ b.length := Nat.pow_le_pow_right (by decide) z
          rw [Nat.pow_succ] at this
          omega
        · exact z
        · have : 256 ^ (b.length + 1) ≤ 256 ^ a.length := Nat.pow_le_pow_right (by decide) z
          rw [Nat.pow_succ] at this
          omega
      unfold pk1 at e2
      rw [el] at e2
      exact (pkW ha hb).mp (by congr 1; omega)
/-- does a pattern fit a key -/
def mt : List (List Nat) → List (List Nat) → Bool
  | [], ks => ks.isEmpty
  | w :: ps, [] => decide (w = [35]) && mt ps []
  | w :: ps, k :: ks => if w = [35] then mt ps (k :: ks) || mt (w :: ps) ks else (decide (w = [42]) || decide (w = k)) && mt ps ks
theorem mt_any (ps : List (List Nat)) : ∀ ks : List (List Nat), mt ([35] :: ps) ks = true ↔ ∃ n, n ≤ ks.length ∧ mt ps (ks.drop n) = true := by
  intro ks
  induction ks with
  | nil =>
    rw [mt]
    refine ⟨fun h => ⟨0, Nat.le_refl _, by simpa using h⟩, fun ⟨n, hn, h⟩ => ?_⟩
    have : n = 0 := by simpa using hn
    subst this
    simpa using h
  | cons k ks ih =>
    rw [mt, if_pos rfl, Bool.or_eq_true, ih]
    refine ⟨fun h => ?_, fun ⟨n, hn, h⟩ => ?_⟩
    · rcases h with h | ⟨n, hn, h⟩
      · exact ⟨0, Nat.zero_le _, h⟩
      · exact ⟨n + 1, by simp; exact hn, h⟩
    · cases n with
      | zero => exact .inl h
      | succ n => exact .inr ⟨n, by simpa using hn, h⟩
theorem mt_one {w : List Nat} {ps : List (List Nat)} (hw : w ≠ [35]) : ∀ ks : List (List Nat), mt (w :: ps) ks = true ↔ ∃ k, ks[0]? = some k ∧ (w = [42] ∨ w = k) ∧ mt ps (ks.drop 1) = true := by
  intro ks
  cases ks with
  | nil => rw [mt]; simp [hw]
  | cons k ks => rw [mt, if_neg hw]; simp [Bool.and_eq_true, Bool.or_eq_true]
/-! ===== bits ===== -/
theorem sh31 : ∀ n, n < 12 → ((nI n &&& 31).toBitVec.smod 32).toNat = n := by decide
theorem bitAt {a n : Nat} (ha : a < 2 ^ 31) (hn : n < 12) : (nI a >>> (nI n &&& 31)) &&& 1 = nI (a / 2 ^ n % 2) := by
  rw [pk_shrN ha _ n (sh31 n hn), pk_andN (Nat.lt_of_le_of_lt (Nat.div_le_self _ _) (by omega)) 1 (by decide)]
theorem bitPut {b n : Nat} (hb : b ≤ 1) (hn : n < 12) : nI b <<< (nI n &&& 31) = nI (b * 2 ^ n) := by
  rw [pk_shlN _ n (sh31 n hn)]
  have : 2 ^ n ≤ 2 ^ 11 := Nat.pow_le_pow_right (by decide) (by omega)
  have h2 : b * 2 ^ n ≤ 1 * 2 ^ 11 := Nat.mul_le_mul hb this
  omega
theorem nI_or {a b : Nat} (ha : a < 2 ^ 31) (hb : b < 2 ^ 31) : nI a ||| nI b = nI (a ||| b) := by
  apply Int32.toBitVec_inj.mp
  apply BitVec.eq_of_toNat_eq
  rw [Int32.toBitVec_or, BitVec.toNat_or, pk_tn (by omega), pk_tn (by omega), pk_tn]
  exact Nat.lt_trans (Nat.or_lt_two_pow ha hb) (by omega)
theorem tb {a n : Nat} : a.testBit n = decide (a / 2 ^ n % 2 = 1) := Nat.testBit_eq_decide_div_mod_eq
theorem tb2 (a n : Nat) : a / 2 ^ n % 2 = if a.testBit n then 1 else 0 := by
  rw [tb]
  have := Nat.mod_two_eq_zero_or_one (a / 2 ^ n)
  rcases this with e | e <;> simp [e]
theorem tbP (b n j : Nat) (hb : b ≤ 1) : (b * 2 ^ n).testBit j = (decide (j = n) && decide (b = 1)) := by
  have : b = 0 ∨ b = 1 := by omega
  rcases this with e | e
  · subst e; simp
  · subst e
    rw [Nat.one_mul, Nat.testBit_two_pow]
    simp
    exact eq_comm
/-- the class's sets of bits: after a word w, from the set F -/
def SB (w : List Nat) (F : Nat) (K : List (List Nat)) (j : Nat) : Prop := if w = [35] then ∃ m, m ≤ j ∧ F.testBit m = true else ∃ i k, j = i + 1 ∧ K[i]? = some k ∧ (w = [42] ∨ w = k) ∧ F.testBit i = true
def SI (w : List Nat) (F : Nat) (K : List (List Nat)) (n N : Nat) : Prop := N < 2 ^ 10 ∧ ∀ j, (N.testBit j = true ↔ if j ≤ n then SB w F K j else w = [35] ∧ F.testBit j = true)
theorem SI.start {w : List Nat} {F : Nat} {K : List (List Nat)} (hF : F < 2 ^ 10) : SI w F K 0 (if w = [35] then F else 0) := by
  refine ⟨by split <;> omega, fun j => ?_⟩
  unfold SB
  by_cases c : w = [35]
  · simp only [if_pos c]
    by_cases c2 : j ≤ 0
    · have : j = 0 := by omega
      subst this
      simp
    · rw [if_neg c2]
      simp [c]
  · simp only [if_neg c]
    by_cases c2 : j ≤ 0
    · have : j = 0 := by omega
      subst this
      simp
    · simp [c, c2]
theorem SI.step {w k : List Nat} {F n N : Nat} {K : List (List Nat)} (s : SI w F K n N) (hk : K[n]? = some k) (hn : n < 9) : SI w F K (n + 1) (N ||| ((if w = [35] then N else if w = [42] ∨ w = k then F else 0) / 2 ^ n % 2) * 2 ^ (n + 1)) := by
  obtain ⟨s1, s2⟩ := s
  generalize hb : (if w = [35] then N else if w = [42] ∨ w = k then F else 0) / 2 ^ n % 2 = b
  have b1 : b ≤ 1 := by have := Nat.mod_lt ((if w = [35] then N else if w = [42] ∨ w = k then F else 0) / 2 ^ n) (show 0 < 2 by decide); omega
  refine ⟨Nat.or_lt_two_pow s1 ?_, fun j => ?_⟩
  · have : 2 ^ (n + 1) ≤ 2 ^ 9 := Nat.pow_le_pow_right (by decide) (by omega)
    have h2 : b * 2 ^ (n + 1) ≤ 1 * 2 ^ 9 := Nat.mul_le_mul b1 this
    omega
  · rw [Nat.testBit_or, tbP b (n + 1) j b1, Bool.or_eq_true, s2 j]
    by_cases c1 : j ≤ n
    · rw [if_pos c1, if_pos (by omega)]
      have : j ≠ n + 1 := by omega
      simp [this]
    · rw [if_neg c1]
      by_cases c2 : j = n + 1
      · subst c2
        rw [if_pos (Nat.le_refl _)]
        unfold SB
        simp only [decide_true, Bool.true_and, decide_eq_true_eq]
        rw [← hb, tb2]
        by_cases cw : w = [35]
        · simp only [if_pos cw]
          have sn := s2 n
          rw [if_pos (Nat.le_refl _)] at sn
          unfold SB at sn
          rw [if_pos cw] at sn
          refine ⟨fun z => ?_, fun z => ?_⟩
          · rcases z with z | z
            · exact ⟨n + 1, Nat.le_refl _, z.2⟩
            · by_cases t : N.testBit n = true
              · obtain ⟨m, m1, m2⟩ := sn.mp t
                exact ⟨m, by omega, m2⟩
              · rw [if_neg t] at z; omega
          · obtain ⟨m, m1, m2⟩ := z
            by_cases e : m = n + 1
            · subst e; exact .inl ⟨cw, m2⟩
            · right
              rw [if_pos (sn.mpr ⟨m, by omega, m2⟩)]
        · simp only [if_neg cw]
          refine ⟨fun z => ?_, fun z => ?_⟩
          · rcases z with z | z
            · exact absurd z.1 cw
            · by_cases cm : w = [42] ∨ w = k
              · rw [if_pos cm] at z
                by_cases t : F.testBit n = true
                · exact ⟨n, k, rfl, hk, cm, t⟩
                · rw [if_neg t] at z; omega
              · rw [if_neg cm] at z; simp at z
          · obtain ⟨i, k', e1, e2, e3, e4⟩ := z
            have : i = n := by omega
            subst this
            rw [hk] at e2
            cases e2
            right
            rw [if_pos e3, if_pos e4]
      · rw [if_neg (by omega)]
        simp [c2]
theorem wdR_at {h : AH} {w i : Nat} {x : Int64} {P : List (List Nat)} (r : WdR h w x) (e : wdN x = P.map pkN) (h9 : P.length ≤ 9) (hi : i < P.length) : inb (nI i) (ln h w) = true ∧ gJ h w i = lN (pkN (P[i]'hi)) := by
  obtain ⟨r1, r2, r3⟩ := r
  rw [e] at r2 r3
  refine ⟨?_, r3 i _ (by rw [List.getElem?_map, List.getElem?_eq_getElem hi]; rfl)⟩
  rw [r2, List.length_map]
  exact inb_nI hi (by omega)
theorem wd35 {w : List Nat} (h : WdL w) : lg_cmp (lN (pkN w)) 35 = 0 ↔ w = [35] := by
  rw [cmp_eq, show (35 : Int64) = lN (pkN [35]) by decide]
  exact pkW h ⟨by simp, by simp⟩
theorem wd42 {w : List Nat} (h : WdL w) : lg_cmp (lN (pkN w)) 42 = 0 ↔ w = [42] := by
  rw [cmp_eq, show (42 : Int64) = lN (pkN [42]) by decide]
  exact pkW h ⟨by simp, by simp⟩
/-- a binding and a draft, with their words -/
def FtR (h : AH) (a d : Nat) (P K : List (List Nat)) : Prop := kd h a = 1 ∧ gR h a 3 = some (a + 1) ∧ kd h d = 5 ∧ gR h d 3 = some (d + 1) ∧ (∃ x, WdR h (a + 1) x ∧ wdN x = P.map pkN) ∧ (∃ x, WdR h (d + 1) x ∧ wdN x = K.map pkN) ∧ P.length ≤ 9 ∧ K.length ≤ 9 ∧ (∀ w ∈ P, WdL w) ∧ ∀ w ∈ K, WdL w
theorem fitC_in {h : AH} {a d i F : Nat} {P K : List (List Nat)} (r : FtR h a d P K) (hi : i < P.length) (hF : F < 2 ^ 10) (k44 : Nat → Option Nat → Int32 → Int32 → AH → Option (Int32 × AH)) : ∀ (e n f N : Nat), n + e = K.length → e < f → SI (P[i]'hi) F K n N → ∃ N', SI (P[i]'hi) F K K.length N' ∧ f_X0_fits_76 k44 f a (some d) (nI F) (nI i) (nI N) (nI n) h = k44 a (some d) (nI N') (nI (i + 1)) h := by
  obtain ⟨r1, r2, r3, r4, ⟨xp, r5, r6⟩, ⟨xk, r7, r8⟩, r9, r10, r11, r12⟩ := r
  obtain ⟨bp, gp⟩ := wdR_at r5 r6 r9 hi
  have ww := r11 _ (List.getElem_mem hi)
  have lk : ln h (d + 1) = K.length := by rw [r7.2.1, r8, List.length_map]
  have ci : (nI i).toNatClampNeg = i := nI_clamp (by omega)
  generalize hw : P[i]'hi = w at *
  intro e
  induction e with
  | zero =>
    intro n f N hn hf s
    obtain ⟨g, rfl⟩ : ∃ g, f = g + 1 := ⟨f - 1, by omega⟩
    have : n = K.length := by omega
    subst this
    refine ⟨N, s, ?_⟩
    rw [f_X0_fits_76, nn_s, rdR_e r3, r4, nn_s, aln_e r7.1 (by omega) (by omega), lk, if_pos (Int32.le_refl _)]
    unfold f_X0_fits_176
    rw [nI_1]
  | succ e ih =>
    intro n f N hn hf s
    obtain ⟨g, rfl⟩ : ∃ g, f = g + 1 := ⟨f - 1, by omega⟩
    have hnK : n < K.length := by omega
    obtain ⟨bk, gk⟩ := wdR_at r7 r8 r10 hnK
    have kk := r12 _ (List.getElem_mem hnK)
    have hk : K[n]? = some K[n] := List.getElem?_eq_getElem hnK
    generalize hkk : K[n]'hnK = k at *
    have s' := s.step hk (by omega)
    obtain ⟨N', t1, t2⟩ := ih (n + 1) g _ (by omega) (by omega) s'
    refine ⟨N', t1, ?_⟩
    have cn : (nI n).toNatClampNeg = n := nI_clamp (by omega)
    have N10 := s.1
    rw [f_X0_fits_76, nn_s, rdR_e r3, r4, nn_s, aln_e r7.1 (by omega) (by omega), lk, if_neg (nI_ge hnK (by omega)), rdR_e r1, r2, nn_s, arJ_e r5.1 bp, ci, gp]
    have f151 : ∀ (S : Nat), S < 2 ^ 10 → S / 2 ^ n % 2 = (if w = [35] then N else if w = [42] ∨ w = k then F else 0) / 2 ^ n % 2 → f_X0_fits_151 k44 (fun a0 r1 x2 x3 x4 x5 h => f_X0_fits_76 k44 g a0 r1 x2 x3 x4 x5 h) a (some d) (nI F) (nI i) (nI N) (nI n) (nI S) h = k44 a (some d) (nI N') (nI (i + 1)) h := by
      intro S hS hb
      unfold f_X0_fits_151
      have b1 : S / 2 ^ n % 2 ≤ 1 := by have := Nat.mod_lt (S / 2 ^ n) (show 0 < 2 by decide); omega
      have h9 : 2 ^ (n + 1) ≤ 2 ^ 9 := Nat.pow_le_pow_right (by decide) (by omega)
      have h2 : S / 2 ^ n % 2 * 2 ^ (n + 1) ≤ 1 * 2 ^ 9 := Nat.mul_le_mul b1 h9
      rw [ltd, nI_1, bitAt (by omega) (by omega), bitPut b1 (by omega), nI_or (by omega) (by omega), hb]
      exact t2
    have f121 : ∀ (s0 : Int32) (b : Bool), s0 = bit b → (w ≠ [35] → (b = true ↔ (w = [42] ∨ w = k))) → f_X0_fits_121 k44 (fun a0 r1 x2 x3 x4 x5 h => f_X0_fits_76 k44 g a0 r1 x2 x3 x4 x5 h) a (some d) (nI F) (nI i) (nI N) (nI n) s0 h = k44 a (some d) (nI N') (nI (i + 1)) h := by
      intro s0 b hs0 hb
      unfold f_X0_fits_121
      rw [rdR_e r1, r2, nn_s, arJ_e r5.1 bp, ci, gp]
      by_cases c : w = [35]
      · rw [if_pos ((wd35 ww).mpr c)]
        exact f151 N N10 (by rw [if_pos c])
      · rw [if_neg (fun z => c ((wd35 ww).mp z)), hs0]
        cases b with
        | false =>
          rw [if_pos bit_f, show (0 : Int32) = nI 0 by decide]
          exact f151 0 (by decide) (by rw [if_neg c, if_neg (fun z => by have := (hb c).mpr z; simp at this)])
        | true =>
          rw [if_neg (by decide)]
          exact f151 F hF (by rw [if_neg c, if_pos ((hb c).mp rfl)])
    by_cases c1 : w = [42]
    · rw [if_pos ((wd42 ww).mpr c1)]
      exact f121 1 true rfl (fun _ => ⟨fun _ => .inl c1, fun _ => rfl⟩)
    · rw [if_neg (fun z => c1 ((wd42 ww).mp z)), rdR_e r1, r2, nn_s, arJ_e r5.1 bp, ci, gp, rdR_e r3, r4, nn_s, arJ_e r7.1 bk, cn, gk]
      by_cases c2 : w = k
      · rw [if_pos (cmp_eq.mpr (by rw [c2]))]
        exact f121 1 true rfl (fun _ => ⟨fun _ => .inr c2, fun _ => rfl⟩)
      · rw [if_neg (fun z => c2 ((pkW ww kk).mp (cmp_eq.mp z)))]
        exact f121 0 false rfl (fun _ => ⟨fun z => by simp at z, fun z => by rcases z with z | z; exact absurd z c1; exact absurd z c2⟩)
/-- a set of bits stands for the pattern's rest -/
def SO (P K : List (List Nat)) (i F : Nat) : Prop := F < 2 ^ 10 ∧ (mt P K = true ↔ ∃ j, j ≤ K.length ∧ F.testBit j = true ∧ mt (P.drop i) (K.drop j) = true)
theorem SO.step {P K : List (List Nat)} {i F N : Nat} (s : SO P K i F) (hi : i < P.length) (n : SI (P[i]'hi) F K K.length N) : SO P K (i + 1) N := by
  refine ⟨n.1, s.2.trans ?_⟩
  have hd : P.drop i = P[i]'hi :: P.drop (i + 1) := List.drop_eq_getElem_cons hi
  rw [hd]
  generalize P[i]'hi = w at *
  have nb : ∀ j, j ≤ K.length → (N.testBit j = true ↔ SB w F K j) := fun j hj => by
    have := n.2 j
    rw [if_pos hj] at this
    exact this
  by_cases c : w = [35]
  · subst c
    refine ⟨fun ⟨j, j1, j2, j3⟩ => ?_, fun ⟨j, j1, j2, j3⟩ => ?_⟩
    · obtain ⟨m, m1, m2⟩ := (mt_any _ _).mp j3
      rw [List.length_drop] at m1
      rw [List.drop_drop] at m2
      refine ⟨j + m, by omega, (nb _ (by omega)).mpr ?_, m2⟩
      unfold SB
      rw [if_pos rfl]
      exact ⟨j, by omega, j2⟩
    · have := (nb j j1).mp j2
      unfold SB at this
      rw [if_pos rfl] at this
      obtain ⟨m, m1, m2⟩ := this
      refine ⟨m, by omega, m2, (mt_any _ _).mpr ⟨j - m, by rw [List.length_drop]; omega, ?_⟩⟩
      rw [List.drop_drop, show m + (j - m) = j by omega]
      exact j3
  · refine ⟨fun ⟨j, j1, j2, j3⟩ => ?_, fun ⟨j, j1, j2, j3⟩ => ?_⟩
    · obtain ⟨k, k1, k2, k3⟩ := (mt_one c _).mp j3
      rw [List.getElem?_drop, Nat.add_zero] at k1
      rw [List.drop_drop] at k3
      have hj : j < K.length := by
        by_cases q : j < K.length
        · exact q
        · rw [List.getElem?_eq_none (by omega)] at k1; simp at k1
      refine ⟨j + 1, by omega, (nb _ (by omega)).mpr ?_, k3⟩
      unfold SB
      rw [if_neg c]
      exact ⟨j, k, rfl, k1, k2, j2⟩
    · have := (nb j j1).mp j2
      unfold SB at this
      rw [if_neg c] at this
      obtain ⟨m, k, m1, m2, m3, m4⟩ := this
      subst m1
      refine ⟨m, by omega, m4, (mt_one c _).mpr ⟨k, by rw [List.getElem?_drop, Nat.add_zero]; exact m2, m3, ?_⟩⟩
      rw [List.drop_drop]
      exact j3
theorem fitC_out {h : AH} {a d : Nat} {P K : List (List Nat)} (r : FtR h a d P K) : ∀ (e i f F : Nat), i + e = P.length → e < f → SO P K i F → f_X0_fits_44 f a (some d) (nI F) (nI i) h = some (bit (mt P K), h) := by
  have r0 := r
  obtain ⟨r1, r2, r3, r4, ⟨xp, r5, r6⟩, ⟨xk, r7, r8⟩, r9, r10, r11, r12⟩ := r
  have lk : ln h (d + 1) = K.length := by rw [r7.2.1, r8, List.length_map]
  have lp : ln h (a + 1) = P.length := by rw [r5.2.1, r6, List.length_map]
  intro e
  induction e with
  | zero =>
    intro i f F hi hf s
    obtain ⟨g, rfl⟩ : ∃ g, f = g + 1 := ⟨f - 1, by omega⟩
    have : i = P.length := by omega
    subst this
    rw [f_X0_fits_44, rdR_e r1, r2, nn_s, aln_e r5.1 (by omega) (by omega), lp, if_pos (Int32.le_refl _)]
    unfold f_X0_fits_185
    rw [nn_s, rdR_e r3, r4, nn_s, aln_e r7.1 (by omega) (by omega), lk, bitAt (by have := s.1; omega) (by omega), tb2]
    have q : F.testBit K.length = true ↔ mt P K = true := by
      rw [s.2]
      rw [List.drop_eq_nil_of_le (Nat.le_refl _)]
      refine ⟨fun z => ⟨K.length, Nat.le_refl _, z, by rw [List.drop_eq_nil_of_le (Nat.le_refl _), mt]; rfl⟩, fun ⟨j, j1, j2, j3⟩ => ?_⟩
      rw [mt, List.isEmpty_iff] at j3
      have := congrArg List.length j3
      rw [List.length_drop] at this
      simp at this
      have : j = K.length := by omega
      rw [← this]
      exact j2
    by_cases t : F.testBit K.length = true
    · rw [if_pos t, if_pos (by decide), q.mp t]
      rfl
    · have : mt P K = false := by
        rw [← Bool.not_eq_true]
        exact fun z => t (q.mpr z)
      rw [if_neg t, if_neg (by decide), this]
      rfl
  | succ e ih =>
    intro i f F hi hf s
    obtain ⟨g, rfl⟩ : ∃ g, f = g + 1 := ⟨f - 1, by omega⟩
    have hiP : i < P.length := by omega
    obtain ⟨bp, gp⟩ := wdR_at r5 r6 r9 hiP
    have ww := r11 _ (List.getElem_mem hiP)
    have ci : (nI i).toNatClampNeg = i := nI_clamp (by omega)
    obtain ⟨N', t1, t2⟩ := fitC_in r0 hiP s.1 (fun a0 r1 x2 x3 h => f_X0_fits_44 g a0 r1 x2 x3 h) K.length 0 FU (if P[i]'hiP = [35] then F else 0) (by omega) (by unfold FU; omega) (SI.start s.1)
    rw [nI_0] at t2
    rw [f_X0_fits_44, rdR_e r1, r2, nn_s, aln_e r5.1 (by omega) (by omega), lp, if_neg (nI_ge hiP (by omega)), rdR_e r1, r2, nn_s, arJ_e r5.1 bp, ci, gp]
    have fin := ih (i + 1) g N' (by omega) (by omega) (s.step hiP t1)
    by_cases c : P[i]'hiP = [35]
    · rw [if_pos c] at t2
      rw [if_pos ((wd35 ww).mpr c), t2]
      exact fin
    · rw [if_neg c, nI_0] at t2
      rw [if_neg (fun z => c ((wd35 ww).mp z)), t2]
      exact fin
theorem fitC_ok {h : AH} {a d : Nat} {P K : List (List Nat)} (r : FtR h a d P K) : f_X0_fits_44 FU a (some d) 1 0 h = some (bit (mt P K), h) := by
  have := fitC_out r P.length 0 FU 1 (by omega) (by have := r.2.2.2.2.2.2.1; unfold FU; omega) ⟨by decide, by
    rw [List.drop_zero]
    refine ⟨fun z => ⟨0, Nat.zero_le _, by decide, z⟩, fun ⟨j, j1, j2, j3⟩ => ?_⟩
    have : j = 0 := by
      rw [tb] at j2
      simp at j2
      by_cases q : j = 0
      · exact q
      · have : 2 ^ 1 ≤ 2 ^ j := Nat.pow_le_pow_right (by decide) (by omega)
        rw [Nat.div_eq_of_lt (by omega)] at j2
        simp at j2
    subst this
    exact j3⟩
  rw [nI_0] at this
  exact this

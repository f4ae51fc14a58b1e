/-! printed by wip/whole/gen/scan.py: the reference's loops that only look -/
theorem lst_drop {α : Type} {n i : Nat} (f : Nat → α) (h : i < n) : (lst n f).drop i = f i :: (lst n f).drop (i + 1) := by
  rw [List.drop_eq_getElem_cons (by rw [lst_len]; exact h)]
  congr 1
  have := lst_get f h
  rw [List.getElem?_eq_getElem (by rw [lst_len]; exact h)] at this
  exact Option.some.inj this
theorem cmp_eq {x y : Int64} : lg_cmp x y = 0 ↔ x = y := by
  unfold lg_cmp
  by_cases h1 : x > y
  · rw [if_pos h1]
    refine ⟨fun h => absurd h (by decide), fun h => ?_⟩
    subst h
    exact absurd h1 Int64.lt_irrefl
  · rw [if_neg h1]
    by_cases h2 : x = y
    · simp [h2]
    · rw [if_neg h2]
      exact ⟨fun h => absurd h (by decide), fun h => absurd h h2⟩
def fiR (i : Nat) (o : Option Nat) : Int32 := match o with
  | some j => nI (i + j)
  | none => -1
theorem fiR_0 (i : Nat) : fiR i (some 0) = nI i := rfl
theorem fiR_map (i : Nat) (o : Option Nat) : fiR i (o.map (· + 1)) = fiR (i + 1) o := by
  cases o with
  | none => rfl
  | some j => show nI (i + (j + 1)) = nI (i + 1 + j); congr 1; omega
def bit (b : Bool) : Int32 := if b then 1 else 0
theorem bit_t : bit true = 1 := rfl
theorem bit_f : bit false = 0 := rfl
theorem one_ne : ((1 : Int32) = 0) = False := by simp
theorem cadd1 (x : Int32) (n : Nat) : x + 1 + nI n = x + nI (n + 1) := by rw [← nI_1, Int32.add_assoc, Int32.add_comm 1]
theorem exchangeOf_l {v : MV} (h : CV v 5 6) (x1 : Int64) : ∀ (d i f : Nat), i + d = cN v 5 → d < f → m_exchangeOf_2 f x1 (nI i) v = some (fiR i (((exL v).drop i).findIdx? (fun r : R_ex => decide (r.1 = x1))), v) := by
  have hN := h.2
  intro d
  induction d with
  | zero =>
    intro i f hi hf
    obtain ⟨g, rfl⟩ : ∃ g, f = g + 1 := ⟨f - 1, by omega⟩
    have hd : (exL v).drop i = [] := List.drop_eq_nil_of_le (by rw [exL_len]; omega)
    rw [m_exchangeOf_2, if_pos (by rw [h.1]; exact nI_le (by omega) (by omega)), hd]
    simp [fiR]
  | succ d ih =>
    intro i f hi hf
    obtain ⟨g, rfl⟩ : ∃ g, f = g + 1 := ⟨f - 1, by omega⟩
    have b0 : inb (nI i) 6 = true := inb_nI (by omega) (by decide)
    have c0 : (nI i).toNatClampNeg = i := nI_clamp (by omega)
    have hd : (exL v).drop i = (v.2.2 6 i, v.2.1 7 i) :: (exL v).drop (i + 1) := lst_drop _ (by omega)
    rw [m_exchangeOf_2, if_neg (by rw [h.1]; exact nI_ge (by omega) (by omega)), hd]
    have ih1 := ih (i + 1) g (by omega) (by omega)
    simp only [mrI, mrJ, ltd, show alen 6 = 6 from rfl, b0, c0, if_true, cmp_eq, nI_1, ih1, List.findIdx?_cons]
    by_cases q0 : v.2.2 6 i = x1 <;> simp [q0, fiR_0, fiR_map]
theorem queueOf_l {v : MV} (h : CV v 8 5) (x1 : Int64) : ∀ (d i f : Nat), i + d = cN v 8 → d < f → m_queueOf_2 f x1 (nI i) v = some (fiR i (((quL v).drop i).findIdx? (fun r : R_qu => decide (r.1 = x1))), v) := by
  have hN := h.2
  intro d
  induction d with
  | zero =>
    intro i f hi hf
    obtain ⟨g, rfl⟩ : ∃ g, f = g + 1 := ⟨f - 1, by omega⟩
    have hd : (quL v).drop i = [] := List.drop_eq_nil_of_le (by rw [quL_len]; omega)
    rw [m_queueOf_2, if_pos (by rw [h.1]; exact nI_le (by omega) (by omega)), hd]
    simp [fiR]
  | succ d ih =>
    intro i f hi hf
    obtain ⟨g, rfl⟩ : ∃ g, f = g + 1 := ⟨f - 1, by omega⟩
    have b0 : inb (nI i) 5 = true := inb_nI (by omega) (by decide)
    have c0 : (nI i).toNatClampNeg = i := nI_clamp (by omega)
    have hd : (quL v).drop i = (v.2.2 10 i, v.2.1 11 i, v.2.1 12 i) :: (quL v).drop (i + 1) := lst_drop _ (by omega)
    rw [m_queueOf_2, if_neg (by rw [h.1]; exact nI_ge (by omega) (by omega)), hd]
    have ih1 := ih (i + 1) g (by omega) (by omega)
    simp only [mrI, mrJ, ltd, show alen 10 = 5 from rfl, b0, c0, if_true, cmp_eq, nI_1, ih1, List.findIdx?_cons]
    by_cases q0 : v.2.2 10 i = x1 <;> simp [q0, fiR_0, fiR_map]
theorem bindingOf_l {v : MV} (h : CV v 13 12) (x1 : Int64) (x3 : Int64) (x5 : Int64) : ∀ (d i f : Nat), i + d = cN v 13 → d < f → m_bindingOf_3 f x1 x3 x5 (nI i) v = some (fiR i (((biL v).drop i).findIdx? (fun r : R_bi => decide (r.1 = x1 ∧ r.2.1 = x3 ∧ r.2.2 = x5))), v) := by
  have hN := h.2
  intro d
  induction d with
  | zero =>
    intro i f hi hf
    obtain ⟨g, rfl⟩ : ∃ g, f = g + 1 := ⟨f - 1, by omega⟩
    have hd : (biL v).drop i = [] := List.drop_eq_nil_of_le (by rw [biL_len]; omega)
    rw [m_bindingOf_3, if_pos (by rw [h.1]; exact nI_le (by omega) (by omega)), hd]
    simp [fiR]
  | succ d ih =>
    intro i f hi hf
    obtain ⟨g, rfl⟩ : ∃ g, f = g + 1 := ⟨f - 1, by omega⟩
    have b0 : inb (nI i) 12 = true := inb_nI (by omega) (by decide)
    have c0 : (nI i).toNatClampNeg = i := nI_clamp (by omega)
    have hd : (biL v).drop i = (v.2.2 14 i, v.2.2 15 i, v.2.2 16 i) :: (biL v).drop (i + 1) := lst_drop _ (by omega)
    rw [m_bindingOf_3, if_neg (by rw [h.1]; exact nI_ge (by omega) (by omega)), hd]
    have ih1 := ih (i + 1) g (by omega) (by omega)
    simp only [mrI, mrJ, m_bindingOf_52, ltd, show alen 14 = 12 from rfl, show alen 15 = 12 from rfl, show alen 16 = 12 from rfl, b0, c0, if_true, cmp_eq, nI_1, ih1, List.findIdx?_cons]
    by_cases q0 : v.2.2 14 i = x1 <;> by_cases q1 : v.2.2 15 i = x3 <;> by_cases q2 : v.2.2 16 i = x5 <;> simp [q0, q1, q2, fiR_0, fiR_map]
theorem firstOf_l {v : MV} (h : CV v 24 24) (x1 : Int32) : ∀ (d i f : Nat), i + d = cN v 24 → d < f → m_firstOf_2 f x1 (nI i) v = some (fiR i (((leL v).drop i).findIdx? (fun r : R_le => decide (r.2.1 = x1 ∧ r.2.2.1 = 0))), v) := by
  have hN := h.2
  intro d
  induction d with
  | zero =>
    intro i f hi hf
    obtain ⟨g, rfl⟩ : ∃ g, f = g + 1 := ⟨f - 1, by omega⟩
    have hd : (leL v).drop i = [] := List.drop_eq_nil_of_le (by rw [leL_len]; omega)
    rw [m_firstOf_2, if_pos (by rw [h.1]; exact nI_le (by omega) (by omega)), hd]
    simp [fiR]
  | succ d ih =>
    intro i f hi hf
    obtain ⟨g, rfl⟩ : ∃ g, f = g + 1 := ⟨f - 1, by omega⟩
    have b0 : inb (nI i) 24 = true := inb_nI (by omega) (by decide)
    have c0 : (nI i).toNatClampNeg = i := nI_clamp (by omega)
    have hd : (leL v).drop i = (v.2.1 26 i, v.2.1 27 i, v.2.1 28 i, v.2.1 29 i, v.2.1 30 i, v.2.2 31 i, v.2.2 32 i, v.2.1 33 i, v.2.2 34 i) :: (leL v).drop (i + 1) := lst_drop _ (by omega)
    rw [m_firstOf_2, if_neg (by rw [h.1]; exact nI_ge (by omega) (by omega)), hd]
    have ih1 := ih (i + 1) g (by omega) (by omega)
    simp only [mrI, mrJ, m_firstOf_31, ltd, show alen 27 = 24 from rfl, show alen 28 = 24 from rfl, b0, c0, if_true, cmp_eq, nI_1, ih1, List.findIdx?_cons]
    by_cases q0 : v.2.1 27 i = x1 <;> by_cases q1 : v.2.1 28 i = 0 <;> simp [q0, q1, fiR_0, fiR_map]
theorem waiting_l {v : MV} (h : CV v 24 24) (x1 : Int32) : ∀ (d i f : Nat) (x : Int32), i + d = cN v 24 → d < f → m_waiting_4 f x1 x (nI i) v = some (x + nI (((leL v).drop i).countP (fun r : R_le => decide (r.2.1 = x1 ∧ r.2.2.1 = 0))), v) := by
  have hN := h.2
  intro d
  induction d with
  | zero =>
    intro i f x hi hf
    obtain ⟨g, rfl⟩ : ∃ g, f = g + 1 := ⟨f - 1, by omega⟩
    have hd : (leL v).drop i = [] := List.drop_eq_nil_of_le (by rw [leL_len]; omega)
    rw [m_waiting_4, if_pos (by rw [h.1]; exact nI_le (by omega) (by omega)), hd]
    simp [nI_0]
  | succ d ih =>
    intro i f x hi hf
    obtain ⟨g, rfl⟩ : ∃ g, f = g + 1 := ⟨f - 1, by omega⟩
    have b0 : inb (nI i) 24 = true := inb_nI (by omega) (by decide)
    have c0 : (nI i).toNatClampNeg = i := nI_clamp (by omega)
    have hd : (leL v).drop i = (v.2.1 26 i, v.2.1 27 i, v.2.1 28 i, v.2.1 29 i, v.2.1 30 i, v.2.2 31 i, v.2.2 32 i, v.2.1 33 i, v.2.2 34 i) :: (leL v).drop (i + 1) := lst_drop _ (by omega)
    rw [m_waiting_4, if_neg (by rw [h.1]; exact nI_ge (by omega) (by omega)), hd]
    have ih1 := ih (i + 1) g (x + 1) (by omega) (by omega)
    have ih0 := ih (i + 1) g x (by omega) (by omega)
    simp only [mrI, mrJ, m_waiting_37, ltd, show alen 27 = 24 from rfl, show alen 28 = 24 from rfl, b0, c0, if_true, cmp_eq, nI_1, Int32.add_zero, ih1, ih0, List.countP_cons]
    by_cases q0 : v.2.1 27 i = x1 <;> by_cases q1 : v.2.1 28 i = 0 <;> simp [q0, q1, cadd1]
theorem held_l {v : MV} (h : CV v 24 24) (x1 : Int32) : ∀ (d i f : Nat) (x : Int32), i + d = cN v 24 → d < f → m_held_4 f x1 x (nI i) v = some (x + nI (((leL v).drop i).countP (fun r : R_le => decide (r.2.2.1 = x1))), v) := by
  have hN := h.2
  intro d
  induction d with
  | zero =>
    intro i f x hi hf
    obtain ⟨g, rfl⟩ : ∃ g, f = g + 1 := ⟨f - 1, by omega⟩
    have hd : (leL v).drop i = [] := List.drop_eq_nil_of_le (by rw [leL_len]; omega)
    rw [m_held_4, if_pos (by rw [h.1]; exact nI_le (by omega) (by omega)), hd]
    simp [nI_0]
  | succ d ih =>
    intro i f x hi hf
    obtain ⟨g, rfl⟩ : ∃ g, f = g + 1 := ⟨f - 1, by omega⟩
    have b0 : inb (nI i) 24 = true := inb_nI (by omega) (by decide)
    have c0 : (nI i).toNatClampNeg = i := nI_clamp (by omega)
    have hd : (leL v).drop i = (v.2.1 26 i, v.2.1 27 i, v.2.1 28 i, v.2.1 29 i, v.2.1 30 i, v.2.2 31 i, v.2.2 32 i, v.2.1 33 i, v.2.2 34 i) :: (leL v).drop (i + 1) := lst_drop _ (by omega)
    rw [m_held_4, if_neg (by rw [h.1]; exact nI_ge (by omega) (by omega)), hd]
    have ih1 := ih (i + 1) g (x + 1) (by omega) (by omega)
    have ih0 := ih (i + 1) g x (by omega) (by omega)
    simp only [mrI, mrJ, m_held_28, ltd, show alen 28 = 24 from rfl, b0, c0, if_true, cmp_eq, nI_1, Int32.add_zero, ih1, ih0, List.countP_cons]
    by_cases q0 : v.2.1 28 i = x1 <;> simp [q0, cadd1]
theorem consumersOf_l {v : MV} (h : CV v 17 6) (x1 : Int32) : ∀ (d i f : Nat) (x : Int32), i + d = cN v 17 → d < f → m_consumersOf_4 f x1 x (nI i) v = some (x + nI (((coL v).drop i).countP (fun r : R_co => decide (r.2.2.2.1 = x1))), v) := by
  have hN := h.2
  intro d
  induction d with
  | zero =>
    intro i f x hi hf
    obtain ⟨g, rfl⟩ : ∃ g, f = g + 1 := ⟨f - 1, by omega⟩
    have hd : (coL v).drop i = [] := List.drop_eq_nil_of_le (by rw [coL_len]; omega)
    rw [m_consumersOf_4, if_pos (by rw [h.1]; exact nI_le (by omega) (by omega)), hd]
    simp [nI_0]
  | succ d ih =>
    intro i f x hi hf
    obtain ⟨g, rfl⟩ : ∃ g, f = g + 1 := ⟨f - 1, by omega⟩
    have b0 : inb (nI i) 6 = true := inb_nI (by omega) (by decide)
    have c0 : (nI i).toNatClampNeg = i := nI_clamp (by omega)
    have hd : (coL v).drop i = (v.2.1 19 i, v.2.1 20 i, v.2.2 21 i, v.2.1 22 i, v.2.1 23 i) :: (coL v).drop (i + 1) := lst_drop _ (by omega)
    rw [m_consumersOf_4, if_neg (by rw [h.1]; exact nI_ge (by omega) (by omega)), hd]
    have ih1 := ih (i + 1) g (x + 1) (by omega) (by omega)
    have ih0 := ih (i + 1) g x (by omega) (by omega)
    simp only [mrI, mrJ, m_consumersOf_28, ltd, show alen 22 = 6 from rfl, b0, c0, if_true, cmp_eq, nI_1, Int32.add_zero, ih1, ih0, List.countP_cons]
    by_cases q0 : v.2.1 22 i = x1 <;> simp [q0, cadd1]
theorem isThere_l {v : MV} (h : CV v 8 5) (x1 : Int32) : ∀ (d i f : Nat) (b : Bool), i + d = cN v 8 → d < f → m_isThere_4 f x1 (bit b) (nI i) v = some (bit (b || ((quL v).drop i).any (fun r : R_qu => decide (r.2.1 = x1))), v) := by
  have hN := h.2
  intro d
  induction d with
  | zero =>
    intro i f b hi hf
    obtain ⟨g, rfl⟩ : ∃ g, f = g + 1 := ⟨f - 1, by omega⟩
    have hd : (quL v).drop i = [] := List.drop_eq_nil_of_le (by rw [quL_len]; omega)
    rw [m_isThere_4, if_pos (by rw [h.1]; exact nI_le (by omega) (by omega)), hd]
    cases b <;> simp [rz, bit]
  | succ d ih =>
    intro i f b hi hf
    obtain ⟨g, rfl⟩ : ∃ g, f = g + 1 := ⟨f - 1, by omega⟩
    have b0 : inb (nI i) 5 = true := inb_nI (by omega) (by decide)
    have c0 : (nI i).toNatClampNeg = i := nI_clamp (by omega)
    have hd : (quL v).drop i = (v.2.2 10 i, v.2.1 11 i, v.2.1 12 i) :: (quL v).drop (i + 1) := lst_drop _ (by omega)
    rw [m_isThere_4, if_neg (by rw [h.1]; exact nI_ge (by omega) (by omega)), hd]
    have ih1 := ih (i + 1) g true (by omega) (by omega)
    have ih0 := ih (i + 1) g false (by omega) (by omega)
    simp only [bit_t, bit_f] at ih1 ih0
    cases b
    · simp only [bit_f, mrI, mrJ, m_isThere_31, ltd, show alen 11 = 5 from rfl, b0, c0, if_true, cmp_eq, nI_1, ih1, ih0, List.any_cons]
      by_cases q0 : v.2.1 11 i = x1 <;> simp [q0]
    · simp only [bit_t, m_isThere_31, nI_1, ih1, one_ne, if_false]
      simp [bit]
theorem hasBindings_l {v : MV} (h : CV v 13 12) (x1 : Int64) : ∀ (d i f : Nat) (b : Bool), i + d = cN v 13 → d < f → m_hasBindings_5 f x1 (bit b) (nI i) v = some (bit (b || ((biL v).drop i).any (fun r : R_bi => decide (r.2.1 = x1))), v) := by
  have hN := h.2
  intro d
  induction d with
  | zero =>
    intro i f b hi hf
    obtain ⟨g, rfl⟩ : ∃ g, f = g + 1 := ⟨f - 1, by omega⟩
    have hd : (biL v).drop i = [] := List.drop_eq_nil_of_le (by rw [biL_len]; omega)
    rw [m_hasBindings_5, if_pos (by rw [h.1]; exact nI_le (by omega) (by omega)), hd]
    cases b <;> simp [rz, bit]
  | succ d ih =>
    intro i f b hi hf
    obtain ⟨g, rfl⟩ : ∃ g, f = g + 1 := ⟨f - 1, by omega⟩
    have b0 : inb (nI i) 12 = true := inb_nI (by omega) (by decide)
    have c0 : (nI i).toNatClampNeg = i := nI_clamp (by omega)
    have hd : (biL v).drop i = (v.2.2 14 i, v.2.2 15 i, v.2.2 16 i) :: (biL v).drop (i + 1) := lst_drop _ (by omega)
    rw [m_hasBindings_5, if_neg (by rw [h.1]; exact nI_ge (by omega) (by omega)), hd]
    have ih1 := ih (i + 1) g true (by omega) (by omega)
    have ih0 := ih (i + 1) g false (by omega) (by omega)
    simp only [bit_t, bit_f] at ih1 ih0
    cases b
    · simp only [bit_f, mrI, mrJ, m_hasBindings_35, ltd, show alen 15 = 12 from rfl, b0, c0, if_true, cmp_eq, nI_1, ih1, ih0, List.any_cons]
      by_cases q0 : v.2.2 15 i = x1 <;> simp [q0]
    · simp only [bit_t, m_hasBindings_35, nI_1, ih1, one_ne, if_false]
      simp [bit]
theorem hasTag_l {v : MV} (h : CV v 17 6) (x1 : Int32) (x2 : Int64) : ∀ (d i f : Nat) (b : Bool), i + d = cN v 17 → d < f → m_hasTag_6 f x1 x2 (bit b) (nI i) v = some (bit (b || ((coL v).drop i).any (fun r : R_co => decide (r.2.1 = x1 ∧ r.2.2.1 = x2))), v) := by
  have hN := h.2
  intro d
  induction d with
  | zero =>
    intro i f b hi hf
    obtain ⟨g, rfl⟩ : ∃ g, f = g + 1 := ⟨f - 1, by omega⟩
    have hd : (coL v).drop i = [] := List.drop_eq_nil_of_le (by rw [coL_len]; omega)
    rw [m_hasTag_6, if_pos (by rw [h.1]; exact nI_le (by omega) (by omega)), hd]
    cases b <;> simp [rz, bit]
  | succ d ih =>
    intro i f b hi hf
    obtain ⟨g, rfl⟩ : ∃ g, f = g + 1 := ⟨f - 1, by omega⟩
    have b0 : inb (nI i) 6 = true := inb_nI (by omega) (by decide)
    have c0 : (nI i).toNatClampNeg = i := nI_clamp (by omega)
    have hd : (coL v).drop i = (v.2.1 19 i, v.2.1 20 i, v.2.2 21 i, v.2.1 22 i, v.2.1 23 i) :: (coL v).drop (i + 1) := lst_drop _ (by omega)
    rw [m_hasTag_6, if_neg (by rw [h.1]; exact nI_ge (by omega) (by omega)), hd]
    have ih1 := ih (i + 1) g true (by omega) (by omega)
    have ih0 := ih (i + 1) g false (by omega) (by omega)
    simp only [bit_t, bit_f] at ih1 ih0
    cases b
    · simp only [bit_f, mrI, mrJ, m_hasTag_48, ltd, show alen 20 = 6 from rfl, show alen 21 = 6 from rfl, b0, c0, if_true, cmp_eq, nI_1, ih1, ih0, List.any_cons]
      by_cases q0 : v.2.1 20 i = x1 <;> by_cases q1 : v.2.2 21 i = x2 <;> simp [q0, q1]
    · simp only [bit_t, m_hasTag_48, nI_1, ih1, one_ne, if_false]
      simp [bit]
theorem exchangeOf_ok {v : MV} (h : CV v 5 6) (x1 : Int64) : m_exchangeOf x1 v = some (fiR 0 ((exL v).findIdx? (fun r : R_ex => decide (r.1 = x1))), v) := by
  have hN := h.2
  have := exchangeOf_l h x1 (cN v 5) 0 FU (by omega) (by unfold FU; omega)
  rw [nI_0, List.drop_zero] at this
  unfold m_exchangeOf
  exact this
theorem queueOf_ok {v : MV} (h : CV v 8 5) (x1 : Int64) : m_queueOf x1 v = some (fiR 0 ((quL v).findIdx? (fun r : R_qu => decide (r.1 = x1))), v) := by
  have hN := h.2
  have := queueOf_l h x1 (cN v 8) 0 FU (by omega) (by unfold FU; omega)
  rw [nI_0, List.drop_zero] at this
  unfold m_queueOf
  exact this
theorem bindingOf_ok {v : MV} (h : CV v 13 12) (x1 : Int64) (x3 : Int64) (x5 : Int64) : m_bindingOf x1 x3 x5 v = some (fiR 0 ((biL v).findIdx? (fun r : R_bi => decide (r.1 = x1 ∧ r.2.1 = x3 ∧ r.2.2 = x5))), v) := by
  have hN := h.2
  have := bindingOf_l h x1 x3 x5 (cN v 13) 0 FU (by omega) (by unfold FU; omega)
  rw [nI_0, List.drop_zero] at this
  unfold m_bindingOf
  exact this
theorem firstOf_ok {v : MV} (h : CV v 24 24) (x1 : Int32) : m_firstOf x1 v = some (fiR 0 ((leL v).findIdx? (fun r : R_le => decide (r.2.1 = x1 ∧ r.2.2.1 = 0))), v) := by
  have hN := h.2
  have := firstOf_l h x1 (cN v 24) 0 FU (by omega) (by unfold FU; omega)
  rw [nI_0, List.drop_zero] at this
  unfold m_firstOf
  exact this
theorem waiting_ok {v : MV} (h : CV v 24 24) (x1 : Int32) : m_waiting x1 v = some (nI ((leL v).countP (fun r : R_le => decide (r.2.1 = x1 ∧ r.2.2.1 = 0))), v) := by
  have hN := h.2
  have := waiting_l h x1 (cN v 24) 0 FU 0 (by omega) (by unfold FU; omega)
  rw [nI_0, List.drop_zero] at this
  unfold m_waiting
  rw [this, Int32.zero_add]
theorem held_ok {v : MV} (h : CV v 24 24) (x1 : Int32) : m_held x1 v = some (nI ((leL v).countP (fun r : R_le => decide (r.2.2.1 = x1))), v) := by
  have hN := h.2
  have := held_l h x1 (cN v 24) 0 FU 0 (by omega) (by unfold FU; omega)
  rw [nI_0, List.drop_zero] at this
  unfold m_held
  rw [this, Int32.zero_add]
theorem consumersOf_ok {v : MV} (h : CV v 17 6) (x1 : Int32) : m_consumersOf x1 v = some (nI ((coL v).countP (fun r : R_co => decide (r.2.2.2.1 = x1))), v) := by
  have hN := h.2
  have := consumersOf_l h x1 (cN v 17) 0 FU 0 (by omega) (by unfold FU; omega)
  rw [nI_0, List.drop_zero] at this
  unfold m_consumersOf
  rw [this, Int32.zero_add]
theorem isThere_ok {v : MV} (h : CV v 8 5) (x1 : Int32) : m_isThere x1 v = some (bit ((quL v).any (fun r : R_qu => decide (r.2.1 = x1))), v) := by
  have hN := h.2
  have := isThere_l h x1 (cN v 8) 0 FU false (by omega) (by unfold FU; omega)
  rw [nI_0, List.drop_zero] at this
  unfold m_isThere
  simpa [bit_f] using this
theorem hasBindings_ok {v : MV} (h : CV v 13 12) (x1 : Int64) : m_hasBindings x1 v = some (bit ((biL v).any (fun r : R_bi => decide (r.2.1 = x1))), v) := by
  have hN := h.2
  have := hasBindings_l h x1 (cN v 13) 0 FU false (by omega) (by unfold FU; omega)
  rw [nI_0, List.drop_zero] at this
  unfold m_hasBindings
  simpa [bit_f] using this
theorem hasTag_ok {v : MV} (h : CV v 17 6) (x1 : Int32) (x2 : Int64) : m_hasTag x1 x2 v = some (bit ((coL v).any (fun r : R_co => decide (r.2.1 = x1 ∧ r.2.2.1 = x2))), v) := by
  have hN := h.2
  have := hasTag_l h x1 x2 (cN v 17) 0 FU false (by omega) (by unfold FU; omega)
  rw [nI_0, List.drop_zero] at this
  unfold m_hasTag
  simpa [bit_f] using this

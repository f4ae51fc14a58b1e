/-! ===== the reference's lists; taking an element out ===== -/
def sh {α : Type} (f : Nat → α) (a i : Nat) : Nat → α := fun j => if a ≤ j ∧ j < i then f (j + 1) else f j
theorem sh_hi {α : Type} (f : Nat → α) {a i j : Nat} (h : i ≤ j) : sh f a i j = f j := if_neg (by omega)
theorem sh_0 {α : Type} (f : Nat → α) (a : Nat) : sh f a a = f := by
  funext j
  exact if_neg (by omega)
theorem sh_stepL (f : Nat → Int64) {a i : Nat} (h : a ≤ i) : vp_updL (sh f a i) i (f (i + 1)) = sh f a (i + 1) := by
  funext j
  unfold vp_updL sh
  by_cases e : j = i
  · subst e
    rw [if_pos rfl, if_pos (by omega)]
  · rw [if_neg e]
    by_cases c : a ≤ j ∧ j < i
    · rw [if_pos c, if_pos (by omega)]
    · rw [if_neg c, if_neg (by omega)]
theorem sh_stepI (f : Nat → Int32) {a i : Nat} (h : a ≤ i) : upd (sh f a i) i (f (i + 1)) = sh f a (i + 1) := by
  funext j
  unfold upd sh
  by_cases e : j = i
  · subst e
    rw [if_pos rfl, if_pos (by omega)]
  · rw [if_neg e]
    by_cases c : a ≤ j ∧ j < i
    · rw [if_pos c, if_pos (by omega)]
    · rw [if_neg c, if_neg (by omega)]
theorem lst_erase {α : Type} {n a : Nat} (f : Nat → α) (ha : a ≤ n) : lst n (sh f a n) = (lst (n + 1) f).eraseIdx a := by
  apply List.ext_getElem?
  intro j
  rw [List.getElem?_eraseIdx]
  by_cases hj : j < n
  · rw [lst_get _ hj]
    by_cases c : j < a
    · rw [if_pos c, lst_get f (by omega)]
      unfold sh
      rw [if_neg (by omega)]
    · rw [if_neg c, lst_get f (by omega)]
      unfold sh
      rw [if_pos (by omega)]
  · rw [List.getElem?_eq_none (by rw [lst_len]; omega)]
    by_cases c : j < a
    · omega
    · rw [if_neg c, List.getElem?_eq_none (by rw [lst_len]; omega)]
/-- all rows named in AI, AJ shifted down from a to i -/
def SV (v : MV) (w : Nat → Int32) (AI AJ : List Nat) (a i : Nat) : MV := (w, (fun k => if k ∈ AI then sh (v.2.1 k) a i else v.2.1 k), (fun k => if k ∈ AJ then sh (v.2.2 k) a i else v.2.2 k))
theorem SV_0 (v : MV) (w : Nat → Int32) (AI AJ : List Nat) (a : Nat) : SV v w AI AJ a a = (w, v.2.1, v.2.2) := by
  unfold SV
  congr 2
  · funext k
    split
    · rw [sh_0]
    · rfl
  · funext k
    split
    · rw [sh_0]
    · rfl
theorem SV_J (v : MV) (w : Nat → Int32) (AI AJ : List Nat) (a i : Nat) {k : Nat} (h : k ∈ AJ) : (SV v w AI AJ a i).2.2 k = sh (v.2.2 k) a i := if_pos h
theorem SV_I (v : MV) (w : Nat → Int32) (AI AJ : List Nat) (a i : Nat) {k : Nat} (h : k ∈ AI) : (SV v w AI AJ a i).2.1 k = sh (v.2.1 k) a i := if_pos h

theorem csum {st : List Value} (h : st.length ≤ 4) : (st.map fun v => v.category).sum ≤ 8 := by
  have key : ∀ l : List Value, (l.map fun v => v.category).sum ≤ 2 * l.length := by
    intro l
    induction l with
    | nil => simp
    | cons v t ih =>
      have hv : v.category ≤ 2 := by rcases lv_cat v with e | e <;> omega
      simp only [List.map_cons, List.sum_cons, List.length_cons]
      omega
  have := key st
  omega
theorem cadd {a n w : Nat} (h : a ≤ 8) (k : 8 + n ≤ w) : a + n ≤ w := by omega
theorem catI {x : Int32} : (Value.int x).category = 1 := rfl
theorem catJ {x : Int64} : (Value.long x).category = 2 := rfl

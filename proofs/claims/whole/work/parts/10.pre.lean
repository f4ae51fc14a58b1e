/-! ===== small words of the printed walks ===== -/
def FU : Nat := 10000
def lt {α β : Type} (x : α) (F : α → Option β) : Option β := F x
section Pre
variable {α : Type} {Ω : Om} {y : Mt} {pc : Nat} {lv : List (Nat × Value)} {st : List Value} {h h' : AH} {r : Option Value} {q : α × AH}
theorem nn_some {x : Option Nat} {F : Nat → Option (α × AH)} (hf : nn x F = some q) : ∃ a, x = some a ∧ F a = some q := by
  cases x with
  | none => cases hf
  | some a => exact ⟨a, rfl, hf⟩
theorem lt_I {e : Int32} {F : Int32 → Option (α × AH)} (hf : lt e F = some q) (kk : ∀ x, F x = some q → Go Ω y pc lv (.int x :: st) h r h') : Go Ω y pc lv (.int e :: st) h r h' := kk e hf
theorem lt_J {e : Int64} {F : Int64 → Option (α × AH)} (hf : lt e F = some q) (kk : ∀ x, F x = some q → Go Ω y pc lv (.long x :: st) h r h') : Go Ω y pc lv (.long e :: st) h r h' := kk e hf
theorem catR {x : Option Nat} : (vR Ω x).category = 1 := by cases x <;> rfl
theorem la_R {i : Nat} {x : Option Nat} {vs : List Value} : lv_args i (vR Ω x :: vs) = (i, vR Ω x) :: lv_args (i + 1) vs := by
  cases x <;> rfl
theorem la_I {i : Nat} {x : Int32} {vs : List Value} : lv_args i (.int x :: vs) = (i, .int x) :: lv_args (i + 1) vs := rfl
theorem la_J {i : Nat} {x : Int64} {vs : List Value} : lv_args i (.long x :: vs) = (i, .long x) :: lv_args (i + 2) vs := rfl
theorem la_0 {i : Nat} : lv_args i [] = [] := rfl
theorem ls_R {x : Option Nat} {vs : List Value} : (lg_sl (vR Ω x :: vs)).length = (lg_sl vs).length + 1 := by
  cases x <;> simp [lg_sl, vR, va_rf, Value.category] <;> omega
theorem ls_I {x : Int32} {vs : List Value} : (lg_sl (.int x :: vs)).length = (lg_sl vs).length + 1 := by
  simp [lg_sl, Value.category]
theorem ls_J {x : Int64} {vs : List Value} : (lg_sl (.long x :: vs)).length = (lg_sl vs).length + 2 := by
  simp [lg_sl, Value.category]
theorem ls_0 : (lg_sl []).length = 0 := rfl
theorem go_objInit {idx a : Nat} (hd : decode (mb y) pc = .ok (.invokespecial idx, 3)) (hl : Cond.methodLink (my y).cls idx Lib.objectInit ∈ lw_tbl) (hw : 1 ≤ mF y ∧ (st.map fun v => v.category).sum + 12 ≤ mW y) (k : Go Ω y (pc + 3) lv st h r h') : Go Ω y pc lv (vR Ω (some a) :: st) h r h' :=
  ⟨k.1, fun p e s m args below meth c H locs ls h0 C L P S hv => by
    have T := cxW C
    exact W.objInit C.1 C.2.1 (cxO C) (T _ hl rfl args) (T _ (by decide +kernel) rfl args) (T _ (by decide +kernel) rfl args) rfl (hv.1.trans C.2.2.1.symm) rfl hd hw.1 (by have := hw.2; simpa [JFrame.monitorRoom, rmO] using this) (k.2 p e s m args below meth c H locs ls h0 C L P S hv)⟩
end Pre
theorem ti {x k : Int32} {n : Int} (hn : k.toInt = n) (c : ¬ x = k) : x.toInt ≠ n := fun h => c (Int32.toInt_inj.mp (h.trans hn.symm))
theorem lk_c {a o d o' : Int} {rs : List (Int × Int)} {k : Int} (h : k ≠ a) (hr : Op.lookupswitch.offset rs d k = o') : Op.lookupswitch.offset ((a, o) :: rs) d k = o' := by
  rw [Op.lookupswitch.offset_cons, if_neg (fun e => h e.symm)]
  exact hr

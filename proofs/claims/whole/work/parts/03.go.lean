/-! ===== the tables' words at every state of the run ===== -/
def okw : Cond → Bool
  | .arrayClass _ => true
  | .arrayOver (.object _) => true
  | .castable _ _ => true
  | .declares _ => true
  | .methodLinkNest _ _ _ _ => true
  | .fieldLinkNest _ _ _ _ _ _ => true
  | .publicMethod _ => true
  | .unhidden _ _ _ => true
  | w => w.onTables && w.keeps
def TW (U : State) : Prop := ∀ w ∈ lw_tbl, okw w = true → ∀ a : Array Value, w.before a U = true
theorem okw_warm {w : Cond} (hk : okw w = true) {s U : State} {a a' : Array Value} (hW : s.WarmedH U.vm) (h : w.before a s = true) : w.before a' U = true := by
  cases w
  case arrayClass ty => exact word_at hW (Or.inr ⟨_, rfl⟩) h
  case arrayOver t =>
    cases t
    case object C => exact va_AO.use (A := a') (va_AO.moved hW.alike (va_AO.of (A := a) h))
    all_goals (exact word_at hW (Or.inl hk) h)
  case castable C T => exact va_Nw.use rfl (va_Nw.warmC hW (va_Nw.of rfl h))
  case declares x => exact va_Nw.use rfl (va_Nw.warmD hW (va_Nw.of rfl h))
  case methodLinkNest => exact va_Nw.use rfl (va_Nw.warmM hW (va_Nw.of rfl h))
  case fieldLinkNest => exact va_Nw.use rfl (va_Nw.warmF hW (va_Nw.of rfl h))
  case publicMethod x =>
    exact va_tabs rfl (rfl : (s.setVm U.vm).vm = U.vm) (by rw [Cond.publicMethod_setVm hW.alike]; exact h)
  case unhidden =>
    exact va_tabs rfl (rfl : (s.setVm U.vm).vm = U.vm) (by rw [Cond.unhidden_setVm hW.alike]; exact h)
  all_goals (exact word_at hW (Or.inl hk) h)
theorem TW.warm {s U : State} (hW : s.WarmedH U.vm) (h : TW s) : TW U := fun w hw hk a => okw_warm hk hW (h w hw hk #[])
/-- the faces of the list's methods -/
def TFx (x y : MethodName) (U : State) : Prop := va_Fw "java/util/ArrayList" x y U
def TF (U : State) : Prop :=
  TFx ⟨"java/util/List", "add", "(Ljava/lang/Object;)Z"⟩ yJx4a65c_add_9ea2d U ∧ TFx ⟨"java/util/List", "add", "(ILjava/lang/Object;)V"⟩ yJx4a65c_add_7a177 U ∧ TFx ⟨"java/util/List", "get", "(I)Ljava/lang/Object;"⟩ yJx4a65c_get_915e3 U ∧ TFx ⟨"java/util/List", "remove", "(I)Ljava/lang/Object;"⟩ yJx4a65c_remove_915e3 U ∧ TFx ⟨"java/util/List", "size", "()I"⟩ yJx4a65c_size_8abf5 U ∧ TFx ⟨"java/util/List", "isEmpty", "()Z"⟩ yJx4a65c_isEmpty_aae02 U ∧ TFx ⟨"java/util/List", "clear", "()V"⟩ yJx4a65c_clear_da8c8 U
theorem TF.warm {s U : State} (hW : s.WarmedH U.vm) (h : TF s) : TF U := by
  obtain ⟨h1, h2, h3, h4, h5, h6, h7⟩ := h
  exact ⟨va_Fw.moved (by decide) hW.alike h1, va_Fw.moved (by decide) hW.alike h2, va_Fw.moved (by decide) hW.alike h3, va_Fw.moved (by decide) hW.alike h4, va_Fw.moved (by decide) hW.alike h5, va_Fw.moved (by decide) hW.alike h6, va_Fw.moved (by decide) hW.alike h7⟩
def greet8 (j : Nat) : Int32 := match j with
  | 0 => 65
  | 1 => 77
  | 2 => 81
  | 3 => 80
  | 4 => 0
  | 5 => 0
  | 6 => 9
  | _ => 1
def TS (Ω : Om) (U : State) : Prop :=
  va_Mi "[Ljava/lang/Object;" (oS Ω 2) U ∧ va_Z "java/util/ArrayList" "DEFAULTCAPACITY_EMPTY_ELEMENTDATA" "[Ljava/lang/Object;" (.ref (oS Ω 0)) (ge Ω) U (oH Ω) ∧ va_T (.object "java/lang/Object") (oS Ω 0) 0 (fun _ => .null) (ge Ω) U (oH Ω) ∧
  va_Z "LetterBroker" "GREETING" "[I" (.ref (oS Ω 1)) (ge Ω) U (oH Ω) ∧ va_T .int (oS Ω 1) 8 (fun j => .int (greet8 j)) (ge Ω) U (oH Ω) ∧ va_T .int (oS Ω 3) (oN Ω) (fun j => .int (oX Ω j)) (ge Ω) U (oH Ω)
theorem TS.warm {Ω : Om} {s U : State} (hW : s.WarmedH U.vm) (h : TS Ω s) : TS Ω U := by
  obtain ⟨h1, h2, h3, h4, h5, h6⟩ := h
  exact ⟨va_Mi.moved hW.alike h1, va_Z.moved hW.alike h2, va_T.moved hW.alike h3, va_Z.moved hW.alike h4, va_T.moved hW.alike h5, va_T.moved hW.alike h6⟩
def Tb (Ω : Om) (U : State) : Prop := TW U ∧ va_K (oD Ω) vwCl (tyO Ω) U ∧ TF U ∧ TS Ω U
theorem Tb.warm {Ω : Om} {s U : State} (hW : s.WarmedH U.vm) (h : Tb Ω s) : Tb Ω U := ⟨h.1.warm hW, va_K.moved hW.alike h.2.1, h.2.2.1.warm hW, h.2.2.2.warm hW⟩
/-! ===== a method: its name, bytes, locals, answer's type, frames and words below it ===== -/
abbrev Mt : Type := MethodName × ByteArray × Nat × Option FieldType × Nat × Nat
def my (y : Mt) : MethodName := y.1
def mb (y : Mt) : ByteArray := y.2.1
def mL (y : Mt) : Nat := y.2.2.1
def mR (y : Mt) : Option FieldType := y.2.2.2.1
def mF (y : Mt) : Nat := y.2.2.2.2.1
def mW (y : Mt) : Nat := y.2.2.2.2.2
def rmO (y : Mt) (h0 h' : AH) : Room := { frames := mF y, cells := hz h' - hz h0, slots := hs h' - hs h0, locals := mW y }
def Old (Ω : Om) (H : Heap) : Prop := (oH Ω).size = oB Ω ∧ ∀ q, q < oB Ω → H[q]? = (oH Ω)[q]?
def Pin (Ω : Om) (h : AH) (U : State) : Prop := Tb Ω U ∧ HR Ω h U.heap ∧ U.heap.size = oB Ω + hz h ∧ Old Ω U.heap
def Cx (Ω : Om) (y : Mt) (p : Program) (s : State) (m : MethodId) (meth : Method) (c : Code) (h0 : AH) : Prop :=
  p.tables.exec = Jvm.exec ∧ c.code = mb y ∧ c.maxLocals = mL y ∧ meth.sig.returnType = mR y ∧ s.vm.findClass (my y).cls = some m.cls ∧ ((my y).name = "<init>" → meth.name = "<init>") ∧ meth.locks = false ∧ Pin Ω h0 s
def Qc (Ω : Om) (r : Option Value) (h' : AH) : Array Value → State → Outcome → State → Prop := fun _ st oc t => oc = .returned r ∧ HR Ω h' t.heap ∧ va_F (ge Ω) st t
/-- **from here the method comes back with r, at the heap h'** -/
def Go (Ω : Om) (y : Mt) (pc : Nat) (lv : List (Nat × Value)) (st : List Value) (h : AH) (r : Option Value) (h' : AH) : Prop :=
  Le h h' ∧ ∀ (p : Program) (e : Env) (s : State) (m : MethodId) (args : Array Value) (below : List Frame) (meth : Method) (c : Code) (H : Heap) (locs : List Loc) (ls : Array Slot) (h0 : AH),
    Cx Ω y p s m meth c h0 → Le h0 h → HR Ω h H → va_S (ge Ω) s.heap H locs → lv_has ls (mL y) lv →
    W p (oL Ω) e (rmO y h0 h') s m args below meth c H locs (hz h - hz h0) (hs h - hs h0) (MQ below (Qc Ω r h') args s (hz h' - hz h0) (hs h' - hs h0) (ge Ω)) (F0 m pc ls st)
section GoSimple
variable {Ω : Om} {y : Mt} {pc : Nat} {lv lv' : List (Nat × Value)} {st : List Value} {h h' : AH} {r : Option Value}
theorem go_sub (ks : List Nat) (hl : lv_pick lv ks = lv') (k : Go Ω y pc lv' st h r h') : Go Ω y pc lv st h r h' :=
  ⟨k.1, fun p e s m args below meth c H locs ls h0 C L P S hv => k.2 p e s m args below meth c H locs ls h0 C L P S (lv_sub hv ks hl)⟩
theorem go_iadd {x z : Int32} (hd : decode (mb y) pc = .ok (.iadd, 1)) (k : Go Ω y (pc + 1) lv (.int (x + z) :: st) h r h') : Go Ω y pc lv (.int z :: .int x :: st) h r h' :=
  ⟨k.1, fun p e s m args below meth c H locs ls h0 C L P S hv => lv_iadd C.1 C.2.1 hd (k.2 p e s m args below meth c H locs ls h0 C L P S hv)⟩
theorem go_isub {x z : Int32} (hd : decode (mb y) pc = .ok (.isub, 1)) (k : Go Ω y (pc + 1) lv (.int (x - z) :: st) h r h') : Go Ω y pc lv (.int z :: .int x :: st) h r h' :=
  ⟨k.1, fun p e s m args below meth c H locs ls h0 C L P S hv => lv_isub C.1 C.2.1 hd (k.2 p e s m args below meth c H locs ls h0 C L P S hv)⟩
theorem go_imul {x z : Int32} (hd : decode (mb y) pc = .ok (.imul, 1)) (k : Go Ω y (pc + 1) lv (.int (x * z) :: st) h r h') : Go Ω y pc lv (.int z :: .int x :: st) h r h' :=
  ⟨k.1, fun p e s m args below meth c H locs ls h0 C L P S hv => lv_imul C.1 C.2.1 hd (k.2 p e s m args below meth c H locs ls h0 C L P S hv)⟩
theorem go_iand {x z : Int32} (hd : decode (mb y) pc = .ok (.iand, 1)) (k : Go Ω y (pc + 1) lv (.int (x &&& z) :: st) h r h') : Go Ω y pc lv (.int z :: .int x :: st) h r h' :=
  ⟨k.1, fun p e s m args below meth c H locs ls h0 C L P S hv => lv_iand C.1 C.2.1 hd (k.2 p e s m args below meth c H locs ls h0 C L P S hv)⟩
theorem go_ior {x z : Int32} (hd : decode (mb y) pc = .ok (.ior, 1)) (k : Go Ω y (pc + 1) lv (.int (x ||| z) :: st) h r h') : Go Ω y pc lv (.int z :: .int x :: st) h r h' :=
  ⟨k.1, fun p e s m args below meth c H locs ls h0 C L P S hv => lv_ior C.1 C.2.1 hd (k.2 p e s m args below meth c H locs ls h0 C L P S hv)⟩
theorem go_idiv {x z : Int32} (hd : decode (mb y) pc = .ok (.idiv, 1)) (hz0 : ¬ z = 0) (k : Go Ω y (pc + 1) lv (.int (x / z) :: st) h r h') : Go Ω y pc lv (.int z :: .int x :: st) h r h' :=
  ⟨k.1, fun p e s m args below meth c H locs ls h0 C L P S hv => lv_idiv C.1 C.2.1 hd hz0 (k.2 p e s m args below meth c H locs ls h0 C L P S hv)⟩
theorem go_irem {x z : Int32} (hd : decode (mb y) pc = .ok (.irem, 1)) (hz0 : ¬ z = 0) (k : Go Ω y (pc + 1) lv (.int (x - x / z * z) :: st) h r h') : Go Ω y pc lv (.int z :: .int x :: st) h r h' :=
  ⟨k.1, fun p e s m args below meth c H locs ls h0 C L P S hv => lv_irem C.1 C.2.1 hd hz0 (k.2 p e s m args below meth c H locs ls h0 C L P S hv)⟩
theorem go_ishl {x z : Int32} (hd : decode (mb y) pc = .ok (.ishl, 1)) (k : Go Ω y (pc + 1) lv (.int (x <<< (z &&& 31)) :: st) h r h') : Go Ω y pc lv (.int z :: .int x :: st) h r h' :=
  ⟨k.1, fun p e s m args below meth c H locs ls h0 C L P S hv => lv_ishl C.1 C.2.1 hd (k.2 p e s m args below meth c H locs ls h0 C L P S hv)⟩
theorem go_ishr {x z : Int32} (hd : decode (mb y) pc = .ok (.ishr, 1)) (k : Go Ω y (pc + 1) lv (.int (x >>> (z &&& 31)) :: st) h r h') : Go Ω y pc lv (.int z :: .int x :: st) h r h' :=
  ⟨k.1, fun p e s m args below meth c H locs ls h0 C L P S hv => lv_ishr C.1 C.2.1 hd (k.2 p e s m args below meth c H locs ls h0 C L P S hv)⟩
theorem go_iushr {x z : Int32} (hd : decode (mb y) pc = .ok (.iushr, 1)) (k : Go Ω y (pc + 1) lv (.int (x.toUInt32 >>> (z.toUInt32 &&& Int32.toUInt32 31)).toInt32 :: st) h r h') : Go Ω y pc lv (.int z :: .int x :: st) h r h' :=
  ⟨k.1, fun p e s m args below meth c H locs ls h0 C L P S hv => lv_iushr C.1 C.2.1 hd rfl (k.2 p e s m args below meth c H locs ls h0 C L P S hv)⟩
theorem go_land {x z : Int64} (hd : decode (mb y) pc = .ok (.land, 1)) (k : Go Ω y (pc + 1) lv (.long (x &&& z) :: st) h r h') : Go Ω y pc lv (.long z :: .long x :: st) h r h' :=
  ⟨k.1, fun p e s m args below meth c H locs ls h0 C L P S hv => lv_land C.1 C.2.1 hd (k.2 p e s m args below meth c H locs ls h0 C L P S hv)⟩
theorem go_lor {x z : Int64} (hd : decode (mb y) pc = .ok (.lor, 1)) (k : Go Ω y (pc + 1) lv (.long (x ||| z) :: st) h r h') : Go Ω y pc lv (.long z :: .long x :: st) h r h' :=
  ⟨k.1, fun p e s m args below meth c H locs ls h0 C L P S hv => lv_lor C.1 C.2.1 hd (k.2 p e s m args below meth c H locs ls h0 C L P S hv)⟩
theorem go_lushr {x : Int64} {z : Int32} (hd : decode (mb y) pc = .ok (.lushr, 1)) (k : Go Ω y (pc + 1) lv (.long (x.toUInt64 >>> (z.toInt64.toUInt64 &&& Int64.toUInt64 63)).toInt64 :: st) h r h') : Go Ω y pc lv (.int z :: .long x :: st) h r h' :=
  ⟨k.1, fun p e s m args below meth c H locs ls h0 C L P S hv => lv_lushr C.1 C.2.1 hd rfl (k.2 p e s m args below meth c H locs ls h0 C L P S hv)⟩
theorem go_lshl {x : Int64} {z : Int32} (hd : decode (mb y) pc = .ok (.lshl, 1)) (k : Go Ω y (pc + 1) lv (.long (x <<< (z.toInt64 &&& 63)) :: st) h r h') : Go Ω y pc lv (.int z :: .long x :: st) h r h' :=
  ⟨k.1, fun p e s m args below meth c H locs ls h0 C L P S hv => lv_lshl C.1 C.2.1 hd rfl (k.2 p e s m args below meth c H locs ls h0 C L P S hv)⟩
theorem go_lshr {x : Int64} {z : Int32} (hd : decode (mb y) pc = .ok (.lshr, 1)) (k : Go Ω y (pc + 1) lv (.long (x >>> (z.toInt64 &&& 63)) :: st) h r h') : Go Ω y pc lv (.int z :: .long x :: st) h r h' :=
  ⟨k.1, fun p e s m args below meth c H locs ls h0 C L P S hv => lv_lshr C.1 C.2.1 hd rfl (k.2 p e s m args below meth c H locs ls h0 C L P S hv)⟩
theorem go_lcmp {x z : Int64} (hd : decode (mb y) pc = .ok (.lcmp, 1)) (k : Go Ω y (pc + 1) lv (.int (lg_cmp x z) :: st) h r h') : Go Ω y pc lv (.long z :: .long x :: st) h r h' :=
  ⟨k.1, fun p e s m args below meth c H locs ls h0 C L P S hv => W.lcmp C.1 C.2.1 hd (k.2 p e s m args below meth c H locs ls h0 C L P S hv)⟩
theorem go_i2l {x : Int32} (hd : decode (mb y) pc = .ok (.i2l, 1)) (k : Go Ω y (pc + 1) lv (.long x.toInt64 :: st) h r h') : Go Ω y pc lv (.int x :: st) h r h' :=
  ⟨k.1, fun p e s m args below meth c H locs ls h0 C L P S hv => lv_i2l C.1 C.2.1 hd rfl (k.2 p e s m args below meth c H locs ls h0 C L P S hv)⟩
theorem go_l2i {x : Int64} (hd : decode (mb y) pc = .ok (.l2i, 1)) (k : Go Ω y (pc + 1) lv (.int x.toInt32 :: st) h r h') : Go Ω y pc lv (.long x :: st) h r h' :=
  ⟨k.1, fun p e s m args below meth c H locs ls h0 C L P S hv => lv_l2i C.1 C.2.1 hd rfl (k.2 p e s m args below meth c H locs ls h0 C L P S hv)⟩
theorem go_iconst {n : Int} (v : Int32) (hd : decode (mb y) pc = .ok (.iconst n, 1)) (hvv : Int32.ofInt n = v) (k : Go Ω y (pc + 1) lv (.int v :: st) h r h') : Go Ω y pc lv st h r h' :=
  ⟨k.1, fun p e s m args below meth c H locs ls h0 C L P S hv => lv_iconst C.1 C.2.1 hd hvv (k.2 p e s m args below meth c H locs ls h0 C L P S hv)⟩
theorem go_bipush {n : Int} (v : Int32) (hd : decode (mb y) pc = .ok (.bipush n, 2)) (hvv : (Int8.ofInt n).toInt32 = v) (k : Go Ω y (pc + 2) lv (.int v :: st) h r h') : Go Ω y pc lv st h r h' :=
  ⟨k.1, fun p e s m args below meth c H locs ls h0 C L P S hv => lv_bipush C.1 C.2.1 hd hvv (k.2 p e s m args below meth c H locs ls h0 C L P S hv)⟩
theorem go_sipush {n : Int} (v : Int32) (hd : decode (mb y) pc = .ok (.sipush n, 3)) (hvv : (Int16.ofInt n).toInt32 = v) (k : Go Ω y (pc + 3) lv (.int v :: st) h r h') : Go Ω y pc lv st h r h' :=
  ⟨k.1, fun p e s m args below meth c H locs ls h0 C L P S hv => lv_sipush C.1 C.2.1 hd hvv (k.2 p e s m args below meth c H locs ls h0 C L P S hv)⟩
theorem go_lconst {n : Fin 2} (v : Int64) (hd : decode (mb y) pc = .ok (.lconst n, 1)) (hvv : Int64.ofNat (n : Nat) = v) (k : Go Ω y (pc + 1) lv (.long v :: st) h r h') : Go Ω y pc lv st h r h' :=
  ⟨k.1, fun p e s m args below meth c H locs ls h0 C L P S hv => lv_lconst C.1 C.2.1 hd hvv (k.2 p e s m args below meth c H locs ls h0 C L P S hv)⟩
theorem go_null (hd : decode (mb y) pc = .ok (.aconst_null, 1)) (k : Go Ω y (pc + 1) lv (vR Ω none :: st) h r h') : Go Ω y pc lv st h r h' :=
  ⟨k.1, fun p e s m args below meth c H locs ls h0 C L P S hv => lv_null C.1 C.2.1 hd (k.2 p e s m args below meth c H locs ls h0 C L P S hv)⟩
theorem go_iload_n {k0 : Fin 4} {i : Nat} {x : Int32} (hd : decode (mb y) pc = .ok (.iload_n k0, 1)) (hi : (k0 : Nat) = i) (j : Nat) (hj : lv[j]? = some (i, .int x)) (k : Go Ω y (pc + 1) lv (.int x :: st) h r h') : Go Ω y pc lv st h r h' :=
  ⟨k.1, fun p e s m args below meth c H locs ls h0 C L P S hv => lv_iload_n C.1 C.2.1 hd hi (lv_at hv j hj) (k.2 p e s m args below meth c H locs ls h0 C L P S hv)⟩
theorem go_iload {i : Nat} {x : Int32} (hd : decode (mb y) pc = .ok (.iload i, 2)) (j : Nat) (hj : lv[j]? = some (i, .int x)) (k : Go Ω y (pc + 2) lv (.int x :: st) h r h') : Go Ω y pc lv st h r h' :=
  ⟨k.1, fun p e s m args below meth c H locs ls h0 C L P S hv => lv_iload C.1 C.2.1 hd (lv_at hv j hj) (k.2 p e s m args below meth c H locs ls h0 C L P S hv)⟩
theorem go_lload_n {k0 : Fin 4} {i : Nat} {x : Int64} (hd : decode (mb y) pc = .ok (.lload_n k0, 1)) (hi : (k0 : Nat) = i) (j : Nat) (hj : lv[j]? = some (i, .long x)) (k : Go Ω y (pc + 1) lv (.long x :: st) h r h') : Go Ω y pc lv st h r h' :=
  ⟨k.1, fun p e s m args below meth c H locs ls h0 C L P S hv => lv_lload_n C.1 C.2.1 hd hi (lv_at hv j hj) (k.2 p e s m args below meth c H locs ls h0 C L P S hv)⟩
theorem go_lload {i : Nat} {x : Int64} (hd : decode (mb y) pc = .ok (.lload i, 2)) (j : Nat) (hj : lv[j]? = some (i, .long x)) (k : Go Ω y (pc + 2) lv (.long x :: st) h r h') : Go Ω y pc lv st h r h' :=
  ⟨k.1, fun p e s m args below meth c H locs ls h0 C L P S hv => lv_lload C.1 C.2.1 hd (lv_at hv j hj) (k.2 p e s m args below meth c H locs ls h0 C L P S hv)⟩
theorem go_aload_n {k0 : Fin 4} {i : Nat} {q : Option Nat} (hd : decode (mb y) pc = .ok (.aload_n k0, 1)) (hi : (k0 : Nat) = i) (j : Nat) (hj : lv[j]? = some (i, vR Ω q)) (k : Go Ω y (pc + 1) lv (vR Ω q :: st) h r h') : Go Ω y pc lv st h r h' := by
  refine ⟨k.1, fun p e s m args below meth c H locs ls h0 C L P S hv => ?_⟩
  have k2 := k.2 p e s m args below meth c H locs ls h0 C L P S hv
  have ha := lv_at hv j hj
  cases q with
  | none => exact lv_aload_nN C.1 C.2.1 hd hi ha k2
  | some a => exact lv_aload_n C.1 C.2.1 hd hi ha k2
theorem go_aload {i : Nat} {q : Option Nat} (hd : decode (mb y) pc = .ok (.aload i, 2)) (j : Nat) (hj : lv[j]? = some (i, vR Ω q)) (k : Go Ω y (pc + 2) lv (vR Ω q :: st) h r h') : Go Ω y pc lv st h r h' := by
  refine ⟨k.1, fun p e s m args below meth c H locs ls h0 C L P S hv => ?_⟩
  have k2 := k.2 p e s m args below meth c H locs ls h0 C L P S hv
  have ha := lv_at hv j hj
  cases q with
  | none => exact lv_aloadN C.1 C.2.1 hd ha k2
  | some a => exact lv_aload C.1 C.2.1 hd ha k2
theorem go_astore_n {k0 : Fin 4} {i : Nat} {q : Option Nat} (hd : decode (mb y) pc = .ok (.astore_n k0, 1)) (hi : (k0 : Nat) = i) (hn : i < mL y) (hl : (i, vR Ω q) :: lv.filter (fun q => !(q.1 == i) && !(q.1 + 1 == i && q.2.category == 2)) = lv') (k : Go Ω y (pc + 1) lv' st h r h') : Go Ω y pc lv (vR Ω q :: st) h r h' := by
  refine ⟨k.1, fun p e s m args below meth c H locs ls h0 C L P S hv => ?_⟩
  cases q with
  | none => exact lv_astore_nN C.1 C.2.1 hd hi hv hn hl (fun ls hv => k.2 p e s m args below meth c H locs ls h0 C L P S hv)
  | some a => exact lv_astore_n C.1 C.2.1 hd hi hv hn hl (fun ls hv => k.2 p e s m args below meth c H locs ls h0 C L P S hv)
theorem go_astore {i : Nat} {q : Option Nat} (hd : decode (mb y) pc = .ok (.astore i, 2)) (hn : i < mL y) (hl : (i, vR Ω q) :: lv.filter (fun q => !(q.1 == i) && !(q.1 + 1 == i && q.2.category == 2)) = lv') (k : Go Ω y (pc + 2) lv' st h r h') : Go Ω y pc lv (vR Ω q :: st) h r h' := by
  refine ⟨k.1, fun p e s m args below meth c H locs ls h0 C L P S hv => ?_⟩
  cases q with
  | none => exact lv_astoreN C.1 C.2.1 hd hv hn hl (fun ls hv => k.2 p e s m args below meth c H locs ls h0 C L P S hv)
  | some a => exact lv_astore C.1 C.2.1 hd hv hn hl (fun ls hv => k.2 p e s m args below meth c H locs ls h0 C L P S hv)
theorem go_istore_n {k0 : Fin 4} {i : Nat} {x : Int32} (hd : decode (mb y) pc = .ok (.istore_n k0, 1)) (hi : (k0 : Nat) = i) (hn : i < mL y) (hl : (i, Value.int x) :: lv.filter (fun q => !(q.1 == i) && !(q.1 + 1 == i && q.2.category == 2)) = lv') (k : Go Ω y (pc + 1) lv' st h r h') : Go Ω y pc lv (.int x :: st) h r h' :=
  ⟨k.1, fun p e s m args below meth c H locs ls h0 C L P S hv => lv_istore_n C.1 C.2.1 hd hi hv hn hl (fun ls hv => k.2 p e s m args below meth c H locs ls h0 C L P S hv)⟩
theorem go_istore {i : Nat} {x : Int32} (hd : decode (mb y) pc = .ok (.istore i, 2)) (hn : i < mL y) (hl : (i, Value.int x) :: lv.filter (fun q => !(q.1 == i) && !(q.1 + 1 == i && q.2.category == 2)) = lv') (k : Go Ω y (pc + 2) lv' st h r h') : Go Ω y pc lv (.int x :: st) h r h' :=
  ⟨k.1, fun p e s m args below meth c H locs ls h0 C L P S hv => lv_istore C.1 C.2.1 hd hv hn hl (fun ls hv => k.2 p e s m args below meth c H locs ls h0 C L P S hv)⟩
theorem go_lstore_n {k0 : Fin 4} {i : Nat} {x : Int64} (hd : decode (mb y) pc = .ok (.lstore_n k0, 1)) (hi : (k0 : Nat) = i) (hn : i + 1 < mL y) (hl : (i, Value.long x) :: lv.filter (fun q => !(q.1 == i) && (!(q.1 == i + 1) && !(q.1 + 1 == i && q.2.category == 2))) = lv') (k : Go Ω y (pc + 1) lv' st h r h') : Go Ω y pc lv (.long x :: st) h r h' :=
  ⟨k.1, fun p e s m args below meth c H locs ls h0 C L P S hv => lv_lstore_n C.1 C.2.1 hd hi hv hn hl (fun ls hv => k.2 p e s m args below meth c H locs ls h0 C L P S hv)⟩
theorem go_lstore {i : Nat} {x : Int64} (hd : decode (mb y) pc = .ok (.lstore i, 2)) (hn : i + 1 < mL y) (hl : (i, Value.long x) :: lv.filter (fun q => !(q.1 == i) && (!(q.1 == i + 1) && !(q.1 + 1 == i && q.2.category == 2))) = lv') (k : Go Ω y (pc + 2) lv' st h r h') : Go Ω y pc lv (.long x :: st) h r h' :=
  ⟨k.1, fun p e s m args below meth c H locs ls h0 C L P S hv => lv_lstore C.1 C.2.1 hd hv hn hl (fun ls hv => k.2 p e s m args below meth c H locs ls h0 C L P S hv)⟩
theorem go_iinc {i j : Nat} {n : Int} {x v : Int32} (hd : decode (mb y) pc = .ok (.iinc i n, 3)) (hj : lv[j]? = some (i, .int x)) (hvv : x + Int32.ofInt n = v) (hn : i < mL y) (hl : (i, Value.int v) :: lv.filter (fun q => !(q.1 == i) && !(q.1 + 1 == i && q.2.category == 2)) = lv') (k : Go Ω y (pc + 3) lv' st h r h') : Go Ω y pc lv st h r h' :=
  ⟨k.1, fun p e s m args below meth c H locs ls h0 C L P S hv => lv_iinc C.1 C.2.1 hd hv hj hvv hn hl (fun ls hv => k.2 p e s m args below meth c H locs ls h0 C L P S hv)⟩
theorem go_dup {v : Value} (hd : decode (mb y) pc = .ok (.dup, 1)) (hc : v.category = 1) (k : Go Ω y (pc + 1) lv (v :: v :: st) h r h') : Go Ω y pc lv (v :: st) h r h' :=
  ⟨k.1, fun p e s m args below meth c H locs ls h0 C L P S hv => lv_dup C.1 C.2.1 hd hc (k.2 p e s m args below meth c H locs ls h0 C L P S hv)⟩
theorem go_pop {v : Value} (hd : decode (mb y) pc = .ok (.pop, 1)) (hc : v.category = 1) (k : Go Ω y (pc + 1) lv st h r h') : Go Ω y pc lv (v :: st) h r h' :=
  ⟨k.1, fun p e s m args below meth c H locs ls h0 C L P S hv => lv_pop C.1 C.2.1 hd hc (k.2 p e s m args below meth c H locs ls h0 C L P S hv)⟩
theorem go_dup_x1 {v w : Value} (hd : decode (mb y) pc = .ok (.dup_x1, 1)) (hc : v.category = 1) (hc2 : w.category = 1) (k : Go Ω y (pc + 1) lv (v :: w :: v :: st) h r h') : Go Ω y pc lv (v :: w :: st) h r h' :=
  ⟨k.1, fun p e s m args below meth c H locs ls h0 C L P S hv => lv_dup_x1 C.1 C.2.1 hd hc hc2 (k.2 p e s m args below meth c H locs ls h0 C L P S hv)⟩
theorem go_dup2 {v w : Value} (hd : decode (mb y) pc = .ok (.dup2, 1)) (hc : v.category = 1) (hc2 : w.category = 1) (k : Go Ω y (pc + 1) lv (v :: w :: v :: w :: st) h r h') : Go Ω y pc lv (v :: w :: st) h r h' :=
  ⟨k.1, fun p e s m args below meth c H locs ls h0 C L P S hv => lv_dup2_11 C.1 C.2.1 hd hc hc2 (k.2 p e s m args below meth c H locs ls h0 C L P S hv)⟩
theorem go_goto {off : Int} {tgt : Nat} (hd : decode (mb y) pc = .ok (.goto off, 3)) (ht : (pc : Int) + off = (tgt : Int)) (k : Go Ω y tgt lv st h r h') : Go Ω y pc lv st h r h' :=
  ⟨k.1, fun p e s m args below meth c H locs ls h0 C L P S hv => lv_goto C.1 C.2.1 hd ht (k.2 p e s m args below meth c H locs ls h0 C L P S hv)⟩
theorem go_if_eq {α : Type} {A B : Option (α × AH)} {q : α × AH} {x : Int32} {off : Int} {tgt : Nat} (hd : decode (mb y) pc = .ok (.ifCond .eq off, 3)) (ht : (pc : Int) + off = (tgt : Int)) (hf : (if x = 0 then A else B) = some q) (kt : A = some q → Go Ω y tgt lv st h r h') (kf : B = some q → Go Ω y (pc + 3) lv st h r h') : Go Ω y pc lv (.int x :: st) h r h' := by
  by_cases hc : x = 0
  · rw [if_pos hc] at hf
    exact ⟨(kt hf).1, fun p e s m args below meth c H locs ls h0 C L P S hv => lv_if_eq C.1 C.2.1 hd ht (fun _ => (kt hf).2 p e s m args below meth c H locs ls h0 C L P S hv) (fun n => absurd hc n)⟩
  · rw [if_neg hc] at hf
    exact ⟨(kf hf).1, fun p e s m args below meth c H locs ls h0 C L P S hv => lv_if_eq C.1 C.2.1 hd ht (fun n => absurd n hc) (fun _ => (kf hf).2 p e s m args below meth c H locs ls h0 C L P S hv)⟩
theorem go_if_ne {α : Type} {A B : Option (α × AH)} {q : α × AH} {x : Int32} {off : Int} {tgt : Nat} (hd : decode (mb y) pc = .ok (.ifCond .ne off, 3)) (ht : (pc : Int) + off = (tgt : Int)) (hf : (if x = 0 then B else A) = some q) (kt : A = some q → Go Ω y tgt lv st h r h') (kf : B = some q → Go Ω y (pc + 3) lv st h r h') : Go Ω y pc lv (.int x :: st) h r h' := by
  by_cases hc : x = 0
  · rw [if_pos hc] at hf
    exact ⟨(kf hf).1, fun p e s m args below meth c H locs ls h0 C L P S hv => lv_if_ne C.1 C.2.1 hd ht (fun n => absurd hc n) (fun _ => (kf hf).2 p e s m args below meth c H locs ls h0 C L P S hv)⟩
  · rw [if_neg hc] at hf
    exact ⟨(kt hf).1, fun p e s m args below meth c H locs ls h0 C L P S hv => lv_if_ne C.1 C.2.1 hd ht (fun _ => (kt hf).2 p e s m args below meth c H locs ls h0 C L P S hv) (fun n => absurd n hc)⟩
theorem go_if_lt {α : Type} {A B : Option (α × AH)} {q : α × AH} {x : Int32} {off : Int} {tgt : Nat} (hd : decode (mb y) pc = .ok (.ifCond .lt off, 3)) (ht : (pc : Int) + off = (tgt : Int)) (hf : (if x < 0 then A else B) = some q) (kt : A = some q → Go Ω y tgt lv st h r h') (kf : B = some q → Go Ω y (pc + 3) lv st h r h') : Go Ω y pc lv (.int x :: st) h r h' := by
  by_cases hc : x < 0
  · rw [if_pos hc] at hf
    exact ⟨(kt hf).1, fun p e s m args below meth c H locs ls h0 C L P S hv => lv_if_lt C.1 C.2.1 hd ht (fun _ => (kt hf).2 p e s m args below meth c H locs ls h0 C L P S hv) (fun n => absurd hc n)⟩
  · rw [if_neg hc] at hf
    exact ⟨(kf hf).1, fun p e s m args below meth c H locs ls h0 C L P S hv => lv_if_lt C.1 C.2.1 hd ht (fun n => absurd n hc) (fun _ => (kf hf).2 p e s m args below meth c H locs ls h0 C L P S hv)⟩
theorem go_if_ge {α : Type} {A B : Option (α × AH)} {q : α × AH} {x : Int32} {off : Int} {tgt : Nat} (hd : decode (mb y) pc = .ok (.ifCond .ge off, 3)) (ht : (pc : Int) + off = (tgt : Int)) (hf : (if 0 ≤ x then A else B) = some q) (kt : A = some q → Go Ω y tgt lv st h r h') (kf : B = some q → Go Ω y (pc + 3) lv st h r h') : Go Ω y pc lv (.int x :: st) h r h' := by
  by_cases hc : 0 ≤ x
  · rw [if_pos hc] at hf
    exact ⟨(kt hf).1, fun p e s m args below meth c H locs ls h0 C L P S hv => lv_if_ge C.1 C.2.1 hd ht (fun _ => (kt hf).2 p e s m args below meth c H locs ls h0 C L P S hv) (fun n => absurd hc n)⟩
  · rw [if_neg hc] at hf
    exact ⟨(kf hf).1, fun p e s m args below meth c H locs ls h0 C L P S hv => lv_if_ge C.1 C.2.1 hd ht (fun n => absurd n hc) (fun _ => (kf hf).2 p e s m args below meth c H locs ls h0 C L P S hv)⟩
theorem go_if_gt {α : Type} {A B : Option (α × AH)} {q : α × AH} {x : Int32} {off : Int} {tgt : Nat} (hd : decode (mb y) pc = .ok (.ifCond .gt off, 3)) (ht : (pc : Int) + off = (tgt : Int)) (hf : (if 0 < x then A else B) = some q) (kt : A = some q → Go Ω y tgt lv st h r h') (kf : B = some q → Go Ω y (pc + 3) lv st h r h') : Go Ω y pc lv (.int x :: st) h r h' := by
  by_cases hc : 0 < x
  · rw [if_pos hc] at hf
    exact ⟨(kt hf).1, fun p e s m args below meth c H locs ls h0 C L P S hv => lv_if_gt C.1 C.2.1 hd ht (fun _ => (kt hf).2 p e s m args below meth c H locs ls h0 C L P S hv) (fun n => absurd hc n)⟩
  · rw [if_neg hc] at hf
    exact ⟨(kf hf).1, fun p e s m args below meth c H locs ls h0 C L P S hv => lv_if_gt C.1 C.2.1 hd ht (fun n => absurd n hc) (fun _ => (kf hf).2 p e s m args below meth c H locs ls h0 C L P S hv)⟩
theorem go_if_le {α : Type} {A B : Option (α × AH)} {q : α × AH} {x : Int32} {off : Int} {tgt : Nat} (hd : decode (mb y) pc = .ok (.ifCond .le off, 3)) (ht : (pc : Int) + off = (tgt : Int)) (hf : (if x ≤ 0 then A else B) = some q) (kt : A = some q → Go Ω y tgt lv st h r h') (kf : B = some q → Go Ω y (pc + 3) lv st h r h') : Go Ω y pc lv (.int x :: st) h r h' := by
  by_cases hc : x ≤ 0
  · rw [if_pos hc] at hf
    exact ⟨(kt hf).1, fun p e s m args below meth c H locs ls h0 C L P S hv => lv_if_le C.1 C.2.1 hd ht (fun _ => (kt hf).2 p e s m args below meth c H locs ls h0 C L P S hv) (fun n => absurd hc n)⟩
  · rw [if_neg hc] at hf
    exact ⟨(kf hf).1, fun p e s m args below meth c H locs ls h0 C L P S hv => lv_if_le C.1 C.2.1 hd ht (fun n => absurd n hc) (fun _ => (kf hf).2 p e s m args below meth c H locs ls h0 C L P S hv)⟩
theorem go_icmp_eq {α : Type} {A B : Option (α × AH)} {q : α × AH} {x z : Int32} {off : Int} {tgt : Nat} (hd : decode (mb y) pc = .ok (.if_icmp .eq off, 3)) (ht : (pc : Int) + off = (tgt : Int)) (hf : (if x = z then A else B) = some q) (kt : A = some q → Go Ω y tgt lv st h r h') (kf : B = some q → Go Ω y (pc + 3) lv st h r h') : Go Ω y pc lv (.int z :: .int x :: st) h r h' := by
  by_cases hc : x = z
  · rw [if_pos hc] at hf
    exact ⟨(kt hf).1, fun p e s m args below meth c H locs ls h0 C L P S hv => lv_icmp_eq C.1 C.2.1 hd ht (fun _ => (kt hf).2 p e s m args below meth c H locs ls h0 C L P S hv) (fun n => absurd hc n)⟩
  · rw [if_neg hc] at hf
    exact ⟨(kf hf).1, fun p e s m args below meth c H locs ls h0 C L P S hv => lv_icmp_eq C.1 C.2.1 hd ht (fun n => absurd n hc) (fun _ => (kf hf).2 p e s m args below meth c H locs ls h0 C L P S hv)⟩
theorem go_icmp_ne {α : Type} {A B : Option (α × AH)} {q : α × AH} {x z : Int32} {off : Int} {tgt : Nat} (hd : decode (mb y) pc = .ok (.if_icmp .ne off, 3)) (ht : (pc : Int) + off = (tgt : Int)) (hf : (if x = z then B else A) = some q) (kt : A = some q → Go Ω y tgt lv st h r h') (kf : B = some q → Go Ω y (pc + 3) lv st h r h') : Go Ω y pc lv (.int z :: .int x :: st) h r h' := by
  by_cases hc : x = z
  · rw [if_pos hc] at hf
    exact ⟨(kf hf).1, fun p e s m args below meth c H locs ls h0 C L P S hv => lv_icmp_ne C.1 C.2.1 hd ht (fun n => absurd hc n) (fun _ => (kf hf).2 p e s m args below meth c H locs ls h0 C L P S hv)⟩
  · rw [if_neg hc] at hf
    exact ⟨(kt hf).1, fun p e s m args below meth c H locs ls h0 C L P S hv => lv_icmp_ne C.1 C.2.1 hd ht (fun _ => (kt hf).2 p e s m args below meth c H locs ls h0 C L P S hv) (fun n => absurd n hc)⟩
theorem go_icmp_lt {α : Type} {A B : Option (α × AH)} {q : α × AH} {x z : Int32} {off : Int} {tgt : Nat} (hd : decode (mb y) pc = .ok (.if_icmp .lt off, 3)) (ht : (pc : Int) + off = (tgt : Int)) (hf : (if x < z then A else B) = some q) (kt : A = some q → Go Ω y tgt lv st h r h') (kf : B = some q → Go Ω y (pc + 3) lv st h r h') : Go Ω y pc lv (.int z :: .int x :: st) h r h' := by
  by_cases hc : x < z
  · rw [if_pos hc] at hf
    exact ⟨(kt hf).1, fun p e s m args below meth c H locs ls h0 C L P S hv => lv_icmp_lt C.1 C.2.1 hd ht (fun _ => (kt hf).2 p e s m args below meth c H locs ls h0 C L P S hv) (fun n => absurd hc n)⟩
  · rw [if_neg hc] at hf
    exact ⟨(kf hf).1, fun p e s m args below meth c H locs ls h0 C L P S hv => lv_icmp_lt C.1 C.2.1 hd ht (fun n => absurd n hc) (fun _ => (kf hf).2 p e s m args below meth c H locs ls h0 C L P S hv)⟩
theorem go_icmp_ge {α : Type} {A B : Option (α × AH)} {q : α × AH} {x z : Int32} {off : Int} {tgt : Nat} (hd : decode (mb y) pc = .ok (.if_icmp .ge off, 3)) (ht : (pc : Int) + off = (tgt : Int)) (hf : (if z ≤ x then A else B) = some q) (kt : A = some q → Go Ω y tgt lv st h r h') (kf : B = some q → Go Ω y (pc + 3) lv st h r h') : Go Ω y pc lv (.int z :: .int x :: st) h r h' := by
  by_cases hc : z ≤ x
  · rw [if_pos hc] at hf
    exact ⟨(kt hf).1, fun p e s m args below meth c H locs ls h0 C L P S hv => lv_icmp_ge C.1 C.2.1 hd ht (fun _ => (kt hf).2 p e s m args below meth c H locs ls h0 C L P S hv) (fun n => absurd hc n)⟩
  · rw [if_neg hc] at hf
    exact ⟨(kf hf).1, fun p e s m args below meth c H locs ls h0 C L P S hv => lv_icmp_ge C.1 C.2.1 hd ht (fun n => absurd n hc) (fun _ => (kf hf).2 p e s m args below meth c H locs ls h0 C L P S hv)⟩
theorem go_icmp_gt {α : Type} {A B : Option (α × AH)} {q : α × AH} {x z : Int32} {off : Int} {tgt : Nat} (hd : decode (mb y) pc = .ok (.if_icmp .gt off, 3)) (ht : (pc : Int) + off = (tgt : Int)) (hf : (if z < x then A else B) = some q) (kt : A = some q → Go Ω y tgt lv st h r h') (kf : B = some q → Go Ω y (pc + 3) lv st h r h') : Go Ω y pc lv (.int z :: .int x :: st) h r h' := by
  by_cases hc : z < x
  · rw [if_pos hc] at hf
    exact ⟨(kt hf).1, fun p e s m args below meth c H locs ls h0 C L P S hv => lv_icmp_gt C.1 C.2.1 hd ht (fun _ => (kt hf).2 p e s m args below meth c H locs ls h0 C L P S hv) (fun n => absurd hc n)⟩
  · rw [if_neg hc] at hf
    exact ⟨(kf hf).1, fun p e s m args below meth c H locs ls h0 C L P S hv => lv_icmp_gt C.1 C.2.1 hd ht (fun n => absurd n hc) (fun _ => (kf hf).2 p e s m args below meth c H locs ls h0 C L P S hv)⟩
theorem go_icmp_le {α : Type} {A B : Option (α × AH)} {q : α × AH} {x z : Int32} {off : Int} {tgt : Nat} (hd : decode (mb y) pc = .ok (.if_icmp .le off, 3)) (ht : (pc : Int) + off = (tgt : Int)) (hf : (if x ≤ z then A else B) = some q) (kt : A = some q → Go Ω y tgt lv st h r h') (kf : B = some q → Go Ω y (pc + 3) lv st h r h') : Go Ω y pc lv (.int z :: .int x :: st) h r h' := by
  by_cases hc : x ≤ z
  · rw [if_pos hc] at hf
    exact ⟨(kt hf).1, fun p e s m args below meth c H locs ls h0 C L P S hv => lv_icmp_le C.1 C.2.1 hd ht (fun _ => (kt hf).2 p e s m args below meth c H locs ls h0 C L P S hv) (fun n => absurd hc n)⟩
  · rw [if_neg hc] at hf
    exact ⟨(kf hf).1, fun p e s m args below meth c H locs ls h0 C L P S hv => lv_icmp_le C.1 C.2.1 hd ht (fun n => absurd n hc) (fun _ => (kf hf).2 p e s m args below meth c H locs ls h0 C L P S hv)⟩
end GoSimple
/-! ===== what is known of the heap's size at a point of the walk ===== -/
theorem W_size {p : Program} {l : Launch} {e : Env} {R : Room} {s : State} {m : MethodId} {args : Array Value} {below : List Frame} {meth : Method} {c : Code} {H : Heap} {locs : List Loc} {cells slots : Nat} {Q : State → Prop} {g : JFrame}
    (k : H.size ≤ s.heap.size + cells → W p l e R s m args below meth c H locs cells slots Q g) : W p l e R s m args below meth c H locs cells slots Q g := by
  intro T hT X
  exact k (by rw [← hT]; exact X.heapSize) T hT X
theorem HR_size {Ω : Om} {h0 h : AH} {s : State} {H : Heap} {locs : List Loc} (hP : HR Ω h H) (hS : va_S (ge Ω) s.heap H locs) (hz0 : s.heap.size = oB Ω + hz h0) (L : Le h0 h) (hle : H.size ≤ s.heap.size + (hz h - hz h0)) : H.size = oB Ω + hz h := by
  have h1 : oB Ω + hz h ≤ H.size := by
    rcases Nat.eq_zero_or_pos (hz h) with q | q
    · have := hS.1
      omega
    · have := (hP.2 (hz h - 1) _ (pool_get (Ω := Ω) (h := h) (i := hz h - 1) (by omega))).lt
      have e : (oB Ω + (hz h - 1), ce Ω h (hz h - 1 + 4)).1 = oB Ω + (hz h - 1) := rfl
      rw [e] at this
      omega
  have := L.1
  omega
theorem Old.kept {Ω : Om} {s : State} {H : Heap} {locs : List Loc} (ho : Old Ω s.heap) (hb : oB Ω ≤ s.heap.size) (hS : va_S (ge Ω) s.heap H locs) : Old Ω H :=
  ⟨ho.1, fun q hq => (hS.2.1 q (Nat.lt_of_lt_of_le hq hb) (Nat.not_le.mpr hq)).trans (ho.2 q hq)⟩
/-- a method's contract out of its walk -/
theorem Go.met {Ω : Om} {y : Mt} {vs : List Value} {h h' : AH} {r : Option Value} (hy : plainFor (my y) = true) (hn : (lg_sl vs).length ≤ mL y) (k : Go Ω y 0 (lv_args 0 vs) [] h r h') :
    Met (oL Ω) (my y) [Cond.code (my y) (mb y) (mL y) (mR y)] (rmO y h h') (va_Pc vs (Pin Ω h)) (Qc Ω r h') (hz h' - hz h) (hs h' - hs h) (ge Ω) := by
  refine va_MetF (cc := mb y) (maxL := mL y) (ret := mR y) (ws' := []) hy rfl ?_
  intro p e s m args below meth c s₁ B hml hv
  obtain ⟨rfl, hp⟩ := hv
  have hown : s.vm.findClass (my y).cls = some m.cls := findClass_of_methodNamed B.named
  have hl := lv_entry vs (n := mL y) hn
  rw [lg_entry_eq]
  generalize (lg_sl vs ++ List.replicate (mL y - (lg_sl vs).length) Slot.unset).toArray = ls at hl ⊢
  have k2 := k.2 p e s m vs.toArray below meth c s.heap [] ls h ⟨B.exec, B.bytes, hml, B.returns, hown, (fun hn => (name_of_methodNamed B.named B.method).1.trans hn), B.notSynchronized, hp⟩ (Le.rf h) hp.2.1 va_S.rf hl
  rw [Nat.sub_self, Nat.sub_self] at k2
  exact k2

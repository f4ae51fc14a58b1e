/-! ===== constants, statics, casts, references compared, switches, ends ===== -/
section Misc
variable {α : Type} {Ω : Om} {y : Mt} {pc : Nat} {lv : List (Nat × Value)} {st : List Value} {h h' : AH} {r : Option Value} {q : α × AH}
theorem go_ldc {idx : Nat} (v : Int32) (hd : decode (mb y) pc = .ok (.ldc idx, 2)) (hl : Cond.constant (my y).cls idx v ∈ lw_tbl) (k : Go Ω y (pc + 2) lv (.int v :: st) h r h') : Go Ω y pc lv st h r h' :=
  ⟨k.1, fun p e s m args below meth c H locs ls h0 C L P S hv => lv_ldc C.1 C.2.1 (cxO C) (cxW C _ hl rfl args) hd (k.2 p e s m args below meth c H locs ls h0 C L P S hv)⟩
theorem go_ldcw {idx : Nat} (v : Int32) (hd : decode (mb y) pc = .ok (.ldc_w idx, 3)) (hl : Cond.constant (my y).cls idx v ∈ lw_tbl) (k : Go Ω y (pc + 3) lv (.int v :: st) h r h') : Go Ω y pc lv st h r h' :=
  ⟨k.1, fun p e s m args below meth c H locs ls h0 C L P S hv => lv_ldcw C.1 C.2.1 (cxO C) (cxW C _ hl rfl args) hd (k.2 p e s m args below meth c H locs ls h0 C L P S hv)⟩
theorem go_ldc2 {idx : Nat} (v : Int64) (hd : decode (mb y) pc = .ok (.ldc2_w idx, 3)) (hl : Cond.constantLong (my y).cls idx v ∈ lw_tbl) (k : Go Ω y (pc + 3) lv (.long v :: st) h r h') : Go Ω y pc lv st h r h' :=
  ⟨k.1, fun p e s m args below meth c H locs ls h0 C L P S hv => lv_ldc2 C.1 C.2.1 (cxO C) (cxW C _ hl rfl args) hd (k.2 p e s m args below meth c H locs ls h0 C L P S hv)⟩
theorem go_ldcM {idx : Nat} (hd : decode (mb y) pc = .ok (.ldc idx, 2)) (hl : Cond.classLink (my y).cls idx "[Ljava/lang/Object;" ∈ lw_tbl) (k : Go Ω y (pc + 2) lv (vR Ω (some 2) :: st) h r h') : Go Ω y pc lv st h r h' :=
  ⟨k.1, fun p e s m args below meth c H locs ls h0 C L P S hv => va_ldcM C.1 C.2.1 (cxO C) (cxW C _ hl rfl args) (cxS C).1 hd (k.2 p e s m args below meth c H locs ls h0 C L P S hv)⟩
theorem kept_of {p : Program} {s : State} {m : MethodId} {meth : Method} {c0 : Code} {h0 : AH} (C : Cx Ω y p s m meth c0 h0) : ∀ a : Nat, a < (oH Ω).size → ¬ ge Ω a → s.heap[a]? = (oH Ω)[a]? := fun a ha _ => (cxOld C).2 a (by rw [← (cxOld C).1]; exact ha)
theorem go_getsE {idx : Nat} (hd : decode (mb y) pc = .ok (.getstatic idx, 3)) (hl : Cond.fieldLink (my y).cls idx "java/util/ArrayList" "DEFAULTCAPACITY_EMPTY_ELEMENTDATA" "[Ljava/lang/Object;" ∈ lw_tbl) (k : Go Ω y (pc + 3) lv (vR Ω (some 0) :: st) h r h') : Go Ω y pc lv st h r h' :=
  ⟨k.1, fun p e s m args below meth c H locs ls h0 C L P S hv => va_gets C.1 C.2.1 ((cxS C).2.1.kept (kept_of C)) S (cxO C) (cxW C _ hl rfl args) (fun _ h => h) hd (k.2 p e s m args below meth c H locs ls h0 C L P S hv)⟩
theorem go_getsG {idx : Nat} (hd : decode (mb y) pc = .ok (.getstatic idx, 3)) (hl : Cond.fieldLinkNest (my y).cls idx "LetterBroker" "GREETING" "[I" "LetterBroker" ∈ lw_tbl) (k : Go Ω y (pc + 3) lv (vR Ω (some 1) :: st) h r h') : Go Ω y pc lv st h r h' :=
  ⟨k.1, fun p e s m args below meth c H locs ls h0 C L P S hv => va_getsN C.1 C.2.1 ((cxS C).2.2.2.1.kept (kept_of C)) S (cxO C) (cxW C _ hl rfl args) (fun _ h => h) hd (k.2 p e s m args below meth c H locs ls h0 C L P S hv)⟩
/-- the greeting's bytes, the script: arrays that nothing writes -/
def arG {β : Type} (i : Int32) (F : Int32 → Option β) : Option β := if inb i 8 = true then F (greet8 i.toNatClampNeg) else none
def arX {β : Type} (Ω : Om) (i : Int32) (F : Int32 → Option β) : Option β := if inb i (oN Ω) = true then F (oX Ω i.toNatClampNeg) else none
theorem go_lenG (hd : decode (mb y) pc = .ok (.arraylength, 1)) (k : Go Ω y (pc + 1) lv (.int 8 :: st) h r h') : Go Ω y pc lv (vR Ω (some 1) :: st) h r h' :=
  ⟨k.1, fun p e s m args below meth c H locs ls h0 C L P S hv => va_tlen (v := 8) C.1 C.2.1 ((cxS C).2.2.2.2.1.kept (kept_of C)) S rfl hd (k.2 p e s m args below meth c H locs ls h0 C L P S hv)⟩
theorem go_lenX (hd : decode (mb y) pc = .ok (.arraylength, 1)) (k : Go Ω y (pc + 1) lv (.int (nI (oN Ω)) :: st) h r h') : Go Ω y pc lv (vR Ω (some 3) :: st) h r h' :=
  ⟨k.1, fun p e s m args below meth c H locs ls h0 C L P S hv => va_tlen (v := nI (oN Ω)) C.1 C.2.1 ((cxS C).2.2.2.2.2.kept (kept_of C)) S rfl hd (k.2 p e s m args below meth c H locs ls h0 C L P S hv)⟩
theorem go_iaG {i : Int32} {F : Int32 → Option (α × AH)} (hd : decode (mb y) pc = .ok (.iaload, 1)) (hf : arG i F = some q) (kk : ∀ x, F x = some q → Go Ω y (pc + 1) lv (.int x :: st) h r h') : Go Ω y pc lv (.int i :: vR Ω (some 1) :: st) h r h' := by
  unfold arG at hf
  split at hf
  · rename_i hi
    have k := kk _ hf
    exact ⟨k.1, fun p e s m args below meth c H locs ls h0 C L P S hv => va_ti C.1 C.2.1 ((cxS C).2.2.2.2.1.kept (kept_of C)) S (inb_in hi) rfl hd (k.2 p e s m args below meth c H locs ls h0 C L P S hv)⟩
  · cases hf
theorem go_iaX {i : Int32} {F : Int32 → Option (α × AH)} (hd : decode (mb y) pc = .ok (.iaload, 1)) (hf : arX Ω i F = some q) (kk : ∀ x, F x = some q → Go Ω y (pc + 1) lv (.int x :: st) h r h') : Go Ω y pc lv (.int i :: vR Ω (some 3) :: st) h r h' := by
  unfold arX at hf
  split at hf
  · rename_i hi
    have k := kk _ hf
    exact ⟨k.1, fun p e s m args below meth c H locs ls h0 C L P S hv => va_ti C.1 C.2.1 ((cxS C).2.2.2.2.2.kept (kept_of C)) S (inb_in hi) rfl hd (k.2 p e s m args below meth c H locs ls h0 C L P S hv)⟩
  · cases hf
theorem go_cast {c idx : Nat} {x : Option Nat} {X : Option (α × AH)} (hd : decode (mb y) pc = .ok (.checkcast idx, 3)) (hc : c < 14) {w : vw_C} (hx : vwCl[c]? = some w) (hl : Cond.classLink (my y).cls idx w.1 ∈ lw_tbl) (hf : ckc h x c X = some q) (kk : X = some q → Go Ω y (pc + 3) lv (vR Ω x :: st) h r h') : Go Ω y pc lv (vR Ω x :: st) h r h' := by
  cases x with
  | none =>
    have k := kk hf
    exact ⟨k.1, fun p e s m args below meth c H locs ls h0 C L P S hv => lv_castN C.1 C.2.1 hd (k.2 p e s m args below meth c H locs ls h0 C L P S hv)⟩
  | some a =>
    unfold ckc at hf
    simp only at hf
    split at hf
    · rename_i hk
      have k := kk hf
      refine ⟨k.1, fun p e s m args below meth c0 H locs ls h0 C L P S hv => ?_⟩
      exact va_castE C.1 C.2.1 (cxO C) (cxW C _ hl rfl args) (obj_at C P hk hx hc) hd (k.2 p e s m args below meth c0 H locs ls h0 C L P S hv)
    · cases hf
/-- a cast of an array of objects to its own class -/
def ckA {β : Type} (h : AH) (r : Option Nat) (X : Option β) : Option β := match r with
  | none => X
  | some a => if kd h a = 103 then X else none
theorem ad_inj {a b : Nat} (w : ∀ j, j < 4 → j ≠ 2 → oS Ω j < oB Ω) (h1 : 4 ≤ a ∨ 4 ≤ b) (ha : a ≠ 2) (hb : b ≠ 2) (e : ad Ω a = ad Ω b) : a = b := by
  unfold ad at e
  split at e <;> split at e
  · omega
  · rename_i z1 z2
    have := w a z1 ha
    omega
  · rename_i z1 z2
    have := w b z2 hb
    omega
  · omega
theorem tS_lt {p : Program} {s : State} {m : MethodId} {meth : Method} {c0 : Code} {h0 : AH} (C : Cx Ω y p s m meth c0 h0) {ty : FieldType} {t N : Nat} {f : Nat → Value} (T : va_T ty t N f (ge Ω) s (oH Ω)) : t < oB Ω := by
  obtain ⟨cell, -, -, -, -, -, -, hn⟩ := T
  exact Nat.not_le.mp hn
theorem acmp_ok {p : Program} {s : State} {m : MethodId} {meth : Method} {c0 : Code} {h0 : AH} (C : Cx Ω y p s m meth c0 h0) {x z : Option Nat} (hk : okq x z = true) : x.map (ad Ω) = z.map (ad Ω) ↔ x = z := by
  have w : ∀ j, j < 4 → j ≠ 2 → oS Ω j < oB Ω := by
    intro j hj hj2
    obtain ⟨-, -, t0, -, t1, t3⟩ := cxS C
    match j, hj, hj2 with
    | 0, _, _ => exact tS_lt C t0
    | 1, _, _ => exact tS_lt C t1
    | 2, _, n => exact absurd rfl n
    | 3, _, _ => exact tS_lt C t3
  constructor
  · intro e
    cases x with
    | none => cases z with
      | none => rfl
      | some b => cases e
    | some a => cases z with
      | none => cases e
      | some b =>
        simp only [Option.map_some, Option.some.injEq] at e
        simp only [okq, okr, Bool.and_eq_true, Bool.or_eq_true, decide_eq_true_eq] at hk
        rw [ad_inj w hk.1.1 (fun z => hk.1.2 (by rw [z])) (fun z => hk.2 (by rw [z])) e]
  · rintro rfl
    rfl
theorem go_acmp_eq {x z : Option Nat} {A B : Option (α × AH)} {off : Int} {tgt : Nat} (hd : decode (mb y) pc = .ok (.if_acmp .eq off, 3)) (ht : (pc : Int) + off = (tgt : Int)) (hf : aq x z A B = some q) (kt : A = some q → Go Ω y tgt lv st h r h') (kf : B = some q → Go Ω y (pc + 3) lv st h r h') : Go Ω y pc lv (vR Ω z :: vR Ω x :: st) h r h' := by
  unfold aq at hf
  split at hf
  · rename_i e
    subst e
    have k := kt hf
    exact ⟨k.1, fun p e s m args below meth c H locs ls h0 C L P S hv => lv_acmp_eq C.1 C.2.1 hd ht (fun _ => k.2 p e s m args below meth c H locs ls h0 C L P S hv) (fun n => absurd rfl n)⟩
  · rename_i ne
    split at hf
    · rename_i hk
      have k := kf hf
      exact ⟨k.1, fun p e s m args below meth c H locs ls h0 C L P S hv => lv_acmp_eq C.1 C.2.1 hd ht (fun n => absurd ((acmp_ok C hk).mp n) ne) (fun _ => k.2 p e s m args below meth c H locs ls h0 C L P S hv)⟩
    · cases hf
theorem go_acmp_ne {x z : Option Nat} {A B : Option (α × AH)} {off : Int} {tgt : Nat} (hd : decode (mb y) pc = .ok (.if_acmp .ne off, 3)) (ht : (pc : Int) + off = (tgt : Int)) (hf : aq x z B A = some q) (kt : A = some q → Go Ω y tgt lv st h r h') (kf : B = some q → Go Ω y (pc + 3) lv st h r h') : Go Ω y pc lv (vR Ω z :: vR Ω x :: st) h r h' := by
  unfold aq at hf
  split at hf
  · rename_i e
    subst e
    have k := kf hf
    exact ⟨k.1, fun p e s m args below meth c H locs ls h0 C L P S hv => lv_acmp_ne C.1 C.2.1 hd ht (fun n => absurd rfl n) (fun _ => k.2 p e s m args below meth c H locs ls h0 C L P S hv)⟩
  · rename_i ne
    split at hf
    · rename_i hk
      have k := kt hf
      exact ⟨k.1, fun p e s m args below meth c H locs ls h0 C L P S hv => lv_acmp_ne C.1 C.2.1 hd ht (fun _ => k.2 p e s m args below meth c H locs ls h0 C L P S hv) (fun n => absurd ((acmp_ok C hk).mp n) ne)⟩
    · cases hf
/-- null, or an address -/
def nb {β : Type} (x : Option Nat) (A : Option β) (B : Nat → Option β) : Option β := match x with
  | none => A
  | some a => B a
theorem go_ifnull {x : Option Nat} {A : Option (α × AH)} {B : Nat → Option (α × AH)} {off : Int} {tgt : Nat} (hd : decode (mb y) pc = .ok (.ifnull off, 3)) (ht : (pc : Int) + off = (tgt : Int)) (hf : nb x A B = some q) (kt : x = none → A = some q → Go Ω y tgt lv st h r h') (kf : ∀ a, x = some a → B a = some q → Go Ω y (pc + 3) lv st h r h') : Go Ω y pc lv (vR Ω x :: st) h r h' := by
  cases x with
  | none =>
    have k := kt rfl hf
    exact ⟨k.1, fun p e s m args below meth c H locs ls h0 C L P S hv => lv_ifnullN C.1 C.2.1 hd ht (k.2 p e s m args below meth c H locs ls h0 C L P S hv)⟩
  | some a =>
    have k := kf a rfl hf
    exact ⟨k.1, fun p e s m args below meth c H locs ls h0 C L P S hv => lv_ifnull C.1 C.2.1 hd (k.2 p e s m args below meth c H locs ls h0 C L P S hv)⟩
theorem go_ifnonnull {x : Option Nat} {A : Option (α × AH)} {B : Nat → Option (α × AH)} {off : Int} {tgt : Nat} (hd : decode (mb y) pc = .ok (.ifnonnull off, 3)) (ht : (pc : Int) + off = (tgt : Int)) (hf : nb x A B = some q) (kf : x = none → A = some q → Go Ω y (pc + 3) lv st h r h') (kt : ∀ a, x = some a → B a = some q → Go Ω y tgt lv st h r h') : Go Ω y pc lv (vR Ω x :: st) h r h' := by
  cases x with
  | none =>
    have k := kf rfl hf
    exact ⟨k.1, fun p e s m args below meth c H locs ls h0 C L P S hv => lv_ifnonnullN C.1 C.2.1 hd (k.2 p e s m args below meth c H locs ls h0 C L P S hv)⟩
  | some a =>
    have k := kt a rfl hf
    exact ⟨k.1, fun p e s m args below meth c H locs ls h0 C L P S hv => lv_ifnonnull C.1 C.2.1 hd ht (k.2 p e s m args below meth c H locs ls h0 C L P S hv)⟩
/-- a switch's arm: x is the number n, and this is where it goes -/
theorem go_lsw1 {x : Int32} {dflt : Int} {ps : Array (Int × Int)} {len : Nat} {off : Int} {tgt : Nat} (hd : decode (mb y) pc = .ok (.lookupswitch dflt ps, len)) (hp : (ps.toList.zip (ps.toList.drop 1)).all (fun (a, next) => a.1 < next.1) = true) (ho : Op.lookupswitch.offset ps.toList dflt x.toInt = off) (ht : (pc : Int) + off = (tgt : Int)) (k : Go Ω y tgt lv st h r h') : Go Ω y pc lv (.int x :: st) h r h' :=
  ⟨k.1, fun p e s m args below meth c H locs ls h0 C L P S hv => lv_lookup C.1 C.2.1 hd hp ho ht (k.2 p e s m args below meth c H locs ls h0 C L P S hv)⟩
theorem go_tsw1 {x : Int32} {dflt lo hi : Int} {offs : Array Int} {len : Nat} {off : Int} {tgt : Nat} (hd : decode (mb y) pc = .ok (.tableswitch dflt lo hi offs, len)) (h1 : ¬ x.toInt < lo) (h2 : ¬ hi < x.toInt) (ho : offs[(x.toInt - lo).toNat]? = some off) (ht : (pc : Int) + off = (tgt : Int)) (k : Go Ω y tgt lv st h r h') : Go Ω y pc lv (.int x :: st) h r h' :=
  ⟨k.1, fun p e s m args below meth c H locs ls h0 C L P S hv => lv_tableIn C.1 C.2.1 hd h1 h2 ho ht (k.2 p e s m args below meth c H locs ls h0 C L P S hv)⟩
theorem go_tsw0 {x : Int32} {dflt lo hi : Int} {offs : Array Int} {len : Nat} {tgt : Nat} (hd : decode (mb y) pc = .ok (.tableswitch dflt lo hi offs, len)) (h1 : x.toInt < lo ∨ hi < x.toInt) (ht : (pc : Int) + dflt = (tgt : Int)) (k : Go Ω y tgt lv st h r h') : Go Ω y pc lv (.int x :: st) h r h' :=
  ⟨k.1, fun p e s m args below meth c H locs ls h0 C L P S hv => lv_tableOut C.1 C.2.1 hd h1 ht (k.2 p e s m args below meth c H locs ls h0 C L P S hv)⟩
/-! ends -/
theorem qend {s : State} {H : Heap} {locs : List Loc} {args : Array Value} {v : Option Value} (P : HR Ω h H) (S : va_S (ge Ω) s.heap H locs) : ∀ t : State, t.heap = H → s.WarmedH t.vm → Qc Ω v h args s (.returned v) t := fun t ht _ => ⟨rfl, by rw [ht]; exact P, S.F ht⟩
theorem go_ireturn {x : Int32} {q : Int32 × AH} (hd : decode (mb y) pc = .ok (.ireturn, 1)) (hr : mR y = some .int) (hf : some (x, h) = some q) : Go Ω y pc lv [.int x] h (some (.int q.1)) q.2 := by
  cases hf
  exact ⟨Le.rf _, fun p e s m args below meth c H locs ls h0 C L P S hv => W.iret C.1 C.2.1 (C.2.2.2.1.trans hr) (qend P S) S.2.2 hd C.2.2.2.2.2.2.1⟩
/-- the end of a method that answers a truth -/
def rz {β : Type} (x : Int32) (X : Option β) : Option β := if x = 0 ∨ x = 1 then X else none
theorem go_zreturn {x : Int32} {q : Int32 × AH} (hd : decode (mb y) pc = .ok (.ireturn, 1)) (hr : mR y = some .boolean) (hf : rz x (some (x, h)) = some q) : Go Ω y pc lv [.int x] h (some (.int q.1)) q.2 := by
  unfold rz at hf
  split at hf
  · rename_i hb
    have hnar : narrow .boolean (.int x) = .int x := by rcases hb with rfl | rfl <;> decide
    cases hf
    exact ⟨Le.rf _, fun p e s m args below meth c H locs ls h0 C L P S hv => W.zret C.1 C.2.1 (C.2.2.2.1.trans hr) hnar (qend P S) S.2.2 hd C.2.2.2.2.2.2.1⟩
  · cases hf
theorem go_lreturn {x : Int64} {q : Int64 × AH} (hd : decode (mb y) pc = .ok (.lreturn, 1)) (hr : mR y = some .long) (hf : some (x, h) = some q) : Go Ω y pc lv [.long x] h (some (.long q.1)) q.2 := by
  cases hf
  exact ⟨Le.rf _, fun p e s m args below meth c H locs ls h0 C L P S hv => W.lret C.1 C.2.1 (C.2.2.2.1.trans hr) (qend P S) S.2.2 hd C.2.2.2.2.2.2.1⟩
theorem go_areturn {x : Option Nat} {q : Option Nat × AH} {rt : FieldType} (hd : decode (mb y) pc = .ok (.areturn, 1)) (hr : mR y = some rt) (hrt : (∃ n, rt = .object n) ∨ ∃ t, rt = .array t) (hf : some (x, h) = some q) : Go Ω y pc lv [vR Ω x] h (some (vR Ω q.1)) q.2 := by
  cases hf
  exact ⟨Le.rf _, fun p e s m args below meth c H locs ls h0 C L P S hv => W.aret C.1 C.2.1 (C.2.2.2.1.trans hr) hrt (by cases x with | none => exact Or.inl rfl | some a => exact Or.inr ⟨_, rfl⟩) (qend P S) S.2.2 hd C.2.2.2.2.2.2.1⟩
theorem go_return {q : Unit × AH} (hd : decode (mb y) pc = .ok (.return_, 1)) (hr : mR y = none) (hf : some ((), h) = some q) : Go Ω y pc lv [] h none q.2 := by
  cases hf
  exact ⟨Le.rf _, fun p e s m args below meth c H locs ls h0 C L P S hv => W.vret C.1 C.2.1 (C.2.2.2.1.trans hr) (qend P S) S.2.2 hd C.2.2.2.2.2.2.1⟩
end Misc

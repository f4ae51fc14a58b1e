/-! THE CLAIM OUT OF ONE WALK OF THE LAW'S BODY. Your part is whole_start (and what it stands on); all else here is the same for every law, but numbers. -/
def R_law : String := "LetterBrokerLaw"
def lw_P (b : Addr) (xs : List Int32) (args : Array Value) (s : State) : Prop := args = #[.ref b] ∧ s.IntsAt b xs ∧ xs.length ≤ 2048 ∧ (Jvm.Cond.and given_1 narrow_1).before args s = true
def lw_Q (_ : Array Value) (s : State) (o : Outcome) (t : State) : Prop := o = .returned (some (.int 1)) ∧ Framed s o t [] 600000 7302250
def lw_Z (below : List Frame) (a : Array Value) (s : State) : State → Prop := fun t => ∃ o, t.status = .running ∧ Ended t below o ∧ lw_Q a s o t
/-- the law's own end, with 1 on the stack, nothing written that was there before, its room as the claim has it -/
theorem lw_ret {p : Program} {l : Launch} {e : Env} {s : State} {m : MethodId} {below : List Frame} {meth : Method} {c : Code} {b : Nat} (hx : p.tables.exec = Jvm.exec) (hb : c.code = code) (hr : meth.sig.returnType = ret) (hlocks : meth.locks = false) {pc : Nat} {H : Heap} {ls : Array Slot} (hdg : decode code pc = .ok (.ireturn, 1)) : W p l e room_1 s m #[Value.ref b] below meth c H [] 600000 7302250 (lw_Z below #[Value.ref b] s) (F0 m pc ls [.int 1]) := by
  intro T hT X
  obtain ⟨fs, hret, hrun, hended, hW, hframe⟩ := X.leave (v := some (.int 1)) (hlocks := hlocks) (fun h => by rw [hr] at h; cases h)
  have hmeth' : T.vm.method? m = some meth := X.method'
  refine ⟨T.setFrames fs, ?_, .returned (some (.int 1)), hrun, hended, rfl, ⟨_, rfl⟩, hW, hframe⟩
  jvm_step X.here [X.here.top, hx, hb, hdg, hmeth', hr, ret, narrow_b1]
  (try refine ⟨rfl, ?_⟩); (try refine ⟨rfl, ?_⟩)
  first | (intro acts; rw [hret _ acts rfl rfl rfl]) | rw [hret _ _ rfl rfl rfl]
  exact Steps.refl _
/-- what holds at the law's entry: the machine, the code, the tables' words (any of lw_tbl by 'hts w (by decide +kernel)'), the script of L ints xs at the cell b, what the Statement gives of the start (any of its parts by flat_of_before) -/
def lw_At (p : Program) (s : State) (m : MethodId) (meth : Method) (c : Code) (b L : Nat) (xs : Nat → Int32) : Prop :=
  p.tables.exec = Jvm.exec ∧ c.code = code ∧ meth.sig.returnType = ret ∧ c.maxLocals = 4 ∧ s.vm.findClass R_law = some m.cls ∧ (∀ w ∈ lw_tbl, w.before #[Value.ref b] s = true) ∧ va_X b L xs s s.heap ∧ b < s.heap.size ∧ meth.locks = false ∧ (Jvm.Cond.and given_1 narrow_1).before #[Value.ref b] s = true

/-! ===== the claim out of the law's own function ===== -/
def hI : AH := (0, 0, fun a => if a < 4 then 90 + a else 999, fun _ => 0, fun _ _ => 0, fun _ _ => 0, fun _ _ => none)
theorem hI_wf : Wf hI := by
  refine ⟨fun a ha => by simp [hI, kd, ha], fun a ha => ?_, fun a h1 h2 => ?_⟩
  · have : hz hI = 0 := rfl
    have h4 : ¬ a < 4 := by omega
    simp [hI, kd, h4]
  · have : hz hI = 0 := rfl
    omega
theorem flat_n {args : Array Value} {s : State} (h : (Jvm.Cond.and given_1 narrow_1).before args s = true) : narrow_1.before args s = true := by
  rw [Cond.before_and, Bool.and_eq_true] at h
  exact h.2
theorem sbn_forget {s t : State} {L : List Loc} {k n k2 n2 : Nat} (h : s.sameButNew t L k n) (hL : ∀ q ∈ L, s.heap.size ≤ q.base) (h1 : k ≤ k2) (h2 : n ≤ n2) : s.sameButNew t [] k2 n2 := by
  obtain ⟨a1, a2, a3, a4, a5, a6⟩ := h
  refine ⟨a1, a2, by omega, a4, by omega, fun a c hc => ?_⟩
  obtain ⟨c', e1, e2, e3, e4⟩ := a6 a c hc
  refine ⟨c', e1, e2, e3, fun i _ => e4 i (fun hm => ?_)⟩
  have hlt : a < s.heap.size := (Array.getElem?_eq_some_iff.mp hc).1
  have := hL _ hm
  exact absurd this (Nat.not_le.mpr hlt)
theorem room_le {s : State} {pl : Platform} {r r2 : Room} (h : s.hasRoom pl r = true) (h1 : r2.frames ≤ r.frames) (h2 : r2.cells ≤ r.cells) (h3 : r2.slots ≤ r.slots) (h4 : r2.locals ≤ r.locals) : s.hasRoom pl r2 = true := by
  simp only [State.hasRoom, Bool.and_eq_true, decide_eq_true_eq] at h ⊢
  obtain ⟨⟨⟨⟨b1, b2, b3, b4, b5, b6⟩, b7⟩, b8⟩, b9⟩ := h
  exact ⟨⟨⟨⟨by omega, by omega, by omega, by omega, by omega, b6⟩, by omega⟩, by omega⟩, b9⟩
theorem arrK {s : State} {ty : FieldType} {a : Array Value} (h : (Cond.arrayClass ty).before a s = true) (hty : ∀ C, ty ≠ .object C) : ∃ cA : ClassId, ArrOfT s cA ty ∧ va_RA s cA ty := by
  obtain ⟨c, k, comp, e1, e2, e3⟩ := Cond.arrayClass_spec h
  refine ⟨c, fun n z => ⟨fun k h => (by cases h), k, e2, comp, e3⟩, ?_⟩
  cases ty
  case object C => exact absurd rfl (hty C)
  all_goals exact e1
theorem arrQ {s : State} {C : String} {a : Array Value} (h : (Cond.arrayOver (.object C)).before a s = true) : ∃ cA : ClassId, ArrOfT s cA (.object C) ∧ va_RA s cA (.object C) := by
  obtain ⟨comp, c, k, e1, -, e3, e4, e5⟩ := Cond.arrayOver_spec h
  exact ⟨c, fun n z => ⟨fun k h => (by cases h), k, e3, comp, e4⟩, k, comp, e3, e4, e1, e5⟩
set_option maxRecDepth 20000 in
theorem facesI : Cond.interfaceMethod "java/util/List" "java/util/List" "add" "(Ljava/lang/Object;)Z" ∈ lw_tbl ∧ Cond.interfaceMethod "java/util/List" "java/util/List" "add" "(ILjava/lang/Object;)V" ∈ lw_tbl ∧ Cond.interfaceMethod "java/util/List" "java/util/List" "get" "(I)Ljava/lang/Object;" ∈ lw_tbl ∧ Cond.interfaceMethod "java/util/List" "java/util/List" "remove" "(I)Ljava/lang/Object;" ∈ lw_tbl ∧ Cond.interfaceMethod "java/util/List" "java/util/List" "size" "()I" ∈ lw_tbl ∧ Cond.interfaceMethod "java/util/List" "java/util/List" "isEmpty" "()Z" ∈ lw_tbl ∧ Cond.interfaceMethod "java/util/List" "java/util/List" "clear" "()V" ∈ lw_tbl := by decide +kernel
set_option maxHeartbeats 4000000 in
set_option maxRecDepth 100000 in
theorem whole_of (hall : ∀ Ω : Om, oN Ω ≤ 2048 → ∃ h' : AH, f_L_law Ω hI = some (1, h') ∧ hz h' ≤ 600000 ∧ hs h' ≤ 7302250) {p : Program} {e : Env} {s : State} {m : MethodId} {below : List Frame} {meth : Method} {c : Code} (l : Launch) {b L : Nat} {xs : Nat → Int32} (hL : L ≤ 2048) (C0 : lw_At p s m meth c b L xs) : W p l e room_1 s m #[Value.ref b] below meth c s.heap [] 0 0 (lw_Z below #[Value.ref b] s) (entryFrame m ([Value.ref b] : List Value).toArray 4) := by
  obtain ⟨hx, hb, hr, hml, hown, hts, hX, hbl, hlocks, hgv⟩ := C0
  have hAn : ∀ a : Nat, a < s.heap.size → ¬ (fun q : Nat => s.heap.size ≤ q) a := fun a ha => Nat.not_le.mpr ha
  have hs0 := flat_of_before _ hgv
  have TWs : TW s := fun w hw hk a => okw_warm hk (State.WarmedH.refl s) (hts w hw)
  -- the classes
  have hcl : ∀ k : Nat, ∃ (cC : ClassId) (iS : Nat → Nat), ∀ q : vw_C, vwCl[k]? = some q → u_Kn s q.1 q.2.1 q.2.2 cC iS := by
    intro k
    by_cases hk : k < 14
    · obtain ⟨q, hq, -, hw, -, -, hin, -⟩ := clk k hk
      obtain ⟨cC, iS, h1⟩ := u_known (C := q.1) (T := q.2.1) (N := q.2.2) (n := q.2.2) (ws := u_ws q.1 q.2.1 q.2.2) (args := #[]) (tw_lays TWs hw #[]) (fun _ h => h) (TWs _ hin rfl #[])
      exact ⟨cC, iS, fun q' hq' => by cases hq.symm.trans hq'; exact h1⟩
    · refine ⟨0, fun _ => 0, fun q hq => ?_⟩
      have := (List.getElem?_eq_some_iff.mp hq).1
      exact absurd this (by simp [vwCl]; omega)
  obtain ⟨dC, hdC⟩ := Classical.axiomOfChoice hcl
  obtain ⟨dI, hdI⟩ := Classical.axiomOfChoice hdC
  -- the arrays' classes
  obtain ⟨c0, a0⟩ := arrK (hts (.arrayClass .int) (by decide +kernel)) (fun C h => by cases h)
  obtain ⟨c1, a1⟩ := arrK (hts (.arrayClass .long) (by decide +kernel)) (fun C h => by cases h)
  obtain ⟨c2, a2⟩ := arrK (hts (.arrayClass .boolean) (by decide +kernel)) (fun C h => by cases h)
  obtain ⟨c3, a3⟩ := arrQ (C := "java/lang/Object") (hts _ (by decide +kernel))
  obtain ⟨c4, a4⟩ := arrQ (C := "LetterBroker$Channel") (hts _ (by decide +kernel))
  -- the statics
  obtain ⟨mi, hmi⟩ := va_Mi.of (C := "[Ljava/lang/Object;") (hs0 _ (by decide +kernel))
  obtain ⟨tE, hE, hET⟩ := va_Tof (args := #[Value.ref b]) (s := s) (tm := .static "java/util/ArrayList" "DEFAULTCAPACITY_EMPTY_ELEMENTDATA" "[Ljava/lang/Object;") (ty := .object "java/lang/Object") (N := 0) (f := fun _ => .null) (A := fun q => s.heap.size ≤ q) (by decide) (hs0 _ (by decide +kernel)) (va_eqt (z := 0) (hs0 _ (by decide +kernel))) (fun j hj => absurd hj (by omega)) hAn
  obtain ⟨tG, hG, hGT⟩ := va_Tof (args := #[Value.ref b]) (s := s) (tm := .static "LetterBroker" "GREETING" "[I") (ty := .int) (N := 8) (f := fun j => .int (greet8 j)) (A := fun q => s.heap.size ≤ q) (by decide) (hs0 _ (by decide +kernel)) (va_eqt (z := 8) (hs0 _ (by decide +kernel))) (by
      intro j hj
      match j, hj with
      | 0, _ => exact va_eqt (z := 65) (hs0 _ (by decide +kernel))
      | 1, _ => exact va_eqt (z := 77) (hs0 _ (by decide +kernel))
      | 2, _ => exact va_eqt (z := 81) (hs0 _ (by decide +kernel))
      | 3, _ => exact va_eqt (z := 80) (hs0 _ (by decide +kernel))
      | 4, _ => exact va_eqt (z := 0) (hs0 _ (by decide +kernel))
      | 5, _ => exact va_eqt (z := 0) (hs0 _ (by decide +kernel))
      | 6, _ => exact va_eqt (z := 9) (hs0 _ (by decide +kernel))
      | 7, _ => exact va_eqt (z := 1) (hs0 _ (by decide +kernel))
      | n + 8, h => exact absurd h (by omega)) hAn
  have hZE := va_Zref (A := fun q => s.heap.size ≤ q) (hts (.laysStatic "java/util/ArrayList" "DEFAULTCAPACITY_EMPTY_ELEMENTDATA" "[Ljava/lang/Object;") (by decide +kernel)) (hts (.initialized "java/util/ArrayList") (by decide +kernel)) hE hAn
  have hZG := va_Zref (A := fun q => s.heap.size ≤ q) (hts (.laysStatic "LetterBroker" "GREETING" "[I") (by decide +kernel)) (hts (.initialized "LetterBroker") (by decide +kernel)) hG hAn
  -- the run's constants
  obtain ⟨Ω, hΩ⟩ : ∃ Ω : Om, Ω = (l, (dC, dI), s.heap.size, s.heap, (fun j => match j with | 0 => tE | 1 => tG | 2 => mi | _ => b), (fun j => match j with | 0 => c0 | 1 => c1 | 2 => c2 | 3 => c3 | _ => c4), L, xs) := ⟨_, rfl⟩
  have eL : oL Ω = l := by rw [hΩ]; rfl
  have eD : oD Ω = (dC, dI) := by rw [hΩ]; rfl
  have eB : oB Ω = s.heap.size := by rw [hΩ]; rfl
  have eH : oH Ω = s.heap := by rw [hΩ]; rfl
  have eN : oN Ω = L := by rw [hΩ]; rfl
  have eX : oX Ω = xs := by rw [hΩ]; rfl
  have s0 : oS Ω 0 = tE := by rw [hΩ]; rfl
  have s1 : oS Ω 1 = tG := by rw [hΩ]; rfl
  have s2 : oS Ω 2 = mi := by rw [hΩ]; rfl
  have s3 : oS Ω 3 = b := by rw [hΩ]; rfl
  have eG : ge Ω = fun q => s.heap.size ≤ q := by unfold ge; rw [eB]
  have k0 : oC Ω 0 = c0 := by rw [hΩ]; rfl
  have k1 : oC Ω 1 = c1 := by rw [hΩ]; rfl
  have k2 : oC Ω 2 = c2 := by rw [hΩ]; rfl
  have k3 : oC Ω 3 = c3 := by rw [hΩ]; rfl
  have k4 : oC Ω 4 = c4 := by rw [hΩ]; rfl
  have hK : va_K (oD Ω) vwCl (tyO Ω) s := by
    rw [eD]
    refine ⟨fun k q hq => hdI k q hq, fun k q hq => ?_⟩
    match k, hq with
    | 0, hq => cases hq; rw [k0]; exact a0
    | 1, hq => cases hq; rw [k1]; exact a1
    | 2, hq => cases hq; rw [k2]; exact a2
    | 3, hq => cases hq; rw [k3]; exact a3
    | 4, hq => cases hq; rw [k4]; exact a4
    | n + 5, hq => simp [tyO] at hq
  have hTS : TS Ω s := by
    refine ⟨by rw [s2]; exact hmi, by rw [s0, eG, eH]; exact hZE, by rw [s0, eG, eH]; exact hET, by rw [s1, eG, eH]; exact hZG, by rw [s1, eG, eH]; exact hGT, ?_⟩
    rw [s3, eG, eH, eN, eX]
    obtain ⟨scr, x1, x2, x3, x4, x5⟩ := hX
    refine ⟨scr, x1, x2, x3, by omega, by rw [x4], x5, Nat.not_le.mpr hbl⟩
  have hTF : TF s := by
    obtain ⟨f1, f2, f3, f4, f5, f6, f7⟩ := facesI
    exact ⟨va_Fw.of (hts _ (by decide +kernel)) (hts _ f1) (hts _ (by decide +kernel)) (hts _ (by decide +kernel)) (hts _ (by decide +kernel)), va_Fw.of (hts _ (by decide +kernel)) (hts _ f2) (hts _ (by decide +kernel)) (hts _ (by decide +kernel)) (hts _ (by decide +kernel)), va_Fw.of (hts _ (by decide +kernel)) (hts _ f3) (hts _ (by decide +kernel)) (hts _ (by decide +kernel)) (hts _ (by decide +kernel)), va_Fw.of (hts _ (by decide +kernel)) (hts _ f4) (hts _ (by decide +kernel)) (hts _ (by decide +kernel)) (hts _ (by decide +kernel)), va_Fw.of (hts _ (by decide +kernel)) (hts _ f5) (hts _ (by decide +kernel)) (hts _ (by decide +kernel)) (hts _ (by decide +kernel)), va_Fw.of (hts _ (by decide +kernel)) (hts _ f6) (hts _ (by decide +kernel)) (hts _ (by decide +kernel)) (hts _ (by decide +kernel)), va_Fw.of (hts _ (by decide +kernel)) (hts _ f7) (hts _ (by decide +kernel)) (hts _ (by decide +kernel)) (hts _ (by decide +kernel))⟩
  obtain ⟨h', hf, b1, b2⟩ := hall Ω (by rw [eN]; exact hL)
  have go := t_L_law hI (1, h') hf
  have hl := lv_entry ([vR Ω (some 3)]) (n := mL M_L_law) (by rw [ls_R, ls_0]; decide)
  have ev : vR Ω (some 3) = Value.ref b := by rw [vR_some]; unfold ad; rw [if_pos (by omega), s3]
  rw [ev] at hl go
  rw [lg_entry_eq]
  have hl4 : lv_has ((lg_sl [Value.ref b] ++ List.replicate (4 - (lg_sl [Value.ref b]).length) Slot.unset).toArray) 4 (lv_args 0 [Value.ref b]) := hl
  generalize (lg_sl [Value.ref b] ++ List.replicate (4 - (lg_sl [Value.ref b]).length) Slot.unset).toArray = ls at hl4 ⊢
  have hO : Old Ω s.heap := ⟨by rw [eH, eB], fun q _ => by rw [eH]⟩
  have hpin : Pin Ω hI s := ⟨⟨TWs, hK, hTF, hTS⟩, ⟨hI_wf, fun k q hq => absurd (pool_of hq).1 (Nat.not_lt_zero _)⟩, by rw [eB]; rfl, hO⟩
  have hown' : s.vm.findClass (my M_L_law).cls = some m.cls := hown
  have k := go.2 p e s m #[Value.ref b] below meth c s.heap [] ls hI ⟨hx, hb, hml, hr, hown', fun h => absurd h (by decide), hlocks, hpin⟩ (Le.rf _) hpin.2.1 va_S.rf hl4
  rw [Nat.sub_self, Nat.sub_self, eL] at k
  have z1 : hz hI = 0 := rfl
  have z2 : hs hI = 0 := rfl
  intro T hT X
  have X2 : Stand p l e (rmO M_L_law hI h') s m #[Value.ref b] below meth c T [] 0 0 := { X with room := room_le X.room (show (13 : Nat) ≤ 15 by decide) (by show hz h' - hz hI ≤ 600000; omega) (by show hs h' - hs hI ≤ 7302250; omega) (show (301 : Nat) ≤ 598 by decide) }
  obtain ⟨t, q1, o, q2, q3, ⟨q4, -, -⟩, Lc, ⟨q5, q6, q7⟩, q8⟩ := k T hT X2
  refine ⟨t, q1, o, q2, q3, q4, q5, q6, ?_⟩
  exact sbn_forget q7 (fun q hq => by have := q8 q hq; rw [eG] at this; exact this) (by show hz h' - hz hI ≤ 600000; omega) (by show hs h' - hs hI ≤ 7302250; omega)

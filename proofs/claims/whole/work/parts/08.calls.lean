/-! ===== calls: a method's walk (Go) from its entry is used at a call ===== -/
/-- what the tables say of a method that is called -/
def Mok (y : Mt) : Prop := Cond.code (my y) (mb y) (mL y) (mR y) ∈ lw_tbl ∧ Cond.initialized (my y).cls ∈ lw_tbl ∧ ((my y).cls ≠ "java/lang/invoke/MethodHandle" ∧ (my y).cls ≠ "java/lang/invoke/VarHandle") ∧ plainFor (my y) = true
section Call
variable {α β : Type} {Ω : Om} {y y2 : Mt} {pc : Nat} {lv : List (Nat × Value)} {st st0 vs : List Value} {h h1 h' : AH} {r r1 : Option Value} {q : α × AH}
theorem run_k {p : Program} {e : Env} {s : State} {m : MethodId} {args : Array Value} {below : List Frame} {meth : Method} {c : Code} {H : Heap} {locs : List Loc} {R : Room} {cells slots mc ms npc : Nat} {ls : Array Slot} {a : Array Value} {Q : State → Prop}
    (hr : va_Run p (oL Ω) e R s m args below meth c H locs cells slots mc ms (F0 m pc ls st0) st (Qc Ω r1 h1 a) (ge Ω)) (S : va_S (ge Ω) s.heap H locs)
    (kk : ∀ (H1 : Heap) (locs1 : List Loc), HR Ω h1 H1 → va_S (ge Ω) s.heap H1 locs1 → W p (oL Ω) e R s m args below meth c H1 locs1 (cells + mc) (slots + ms) Q (F0 m (pc + 3) ls (r1.toList ++ st))) : W p (oL Ω) e R s m args below meth c H locs cells slots Q (F0 m pc ls st0) := by
  intro T hT X
  obtain ⟨v, st₀, t, T', L, e0, X', hL, e1, e2, ⟨hv, hR, hz1, hk1⟩, stp⟩ := hr T hT X
  cases hv
  rw [e0] at hz1 hk1
  obtain ⟨t2, a1, b1⟩ := kk T'.heap (locs ++ L) (by rw [e1]; exact hR) ⟨Nat.le_trans S.1 (by rw [e1]; exact hz1), fun x g1 g2 => by rw [e1, hk1 x (Nat.lt_of_lt_of_le g1 S.1) g2]; exact S.2.1 x g1 g2, fun x hx => by
      rcases List.mem_append.mp hx with z | z
      · exact S.2.2 x z
      · exact hL x z⟩ T' rfl X'
  exact ⟨t2, stp t2 a1, b1⟩
theorem run5_k {p : Program} {e : Env} {s : State} {m : MethodId} {args : Array Value} {below : List Frame} {meth : Method} {c : Code} {H : Heap} {locs : List Loc} {R : Room} {cells slots mc ms npc : Nat} {ls : Array Slot} {a : Array Value} {Q : State → Prop}
    (hr : va_Run5 p (oL Ω) e R s m args below meth c H locs cells slots mc ms (F0 m pc ls st0) st (Qc Ω r1 h1 a) (ge Ω)) (S : va_S (ge Ω) s.heap H locs)
    (kk : ∀ (H1 : Heap) (locs1 : List Loc), HR Ω h1 H1 → va_S (ge Ω) s.heap H1 locs1 → W p (oL Ω) e R s m args below meth c H1 locs1 (cells + mc) (slots + ms) Q (F0 m (pc + 5) ls (r1.toList ++ st))) : W p (oL Ω) e R s m args below meth c H locs cells slots Q (F0 m pc ls st0) := by
  intro T hT X
  obtain ⟨v, st₀, t, T', L, e0, X', hL, e1, e2, ⟨hv, hR, hz1, hk1⟩, stp⟩ := hr T hT X
  cases hv
  rw [e0] at hz1 hk1
  obtain ⟨t2, a1, b1⟩ := kk T'.heap (locs ++ L) (by rw [e1]; exact hR) ⟨Nat.le_trans S.1 (by rw [e1]; exact hz1), fun x g1 g2 => by rw [e1, hk1 x (Nat.lt_of_lt_of_le g1 S.1) g2]; exact S.2.1 x g1 g2, fun x hx => by
      rcases List.mem_append.mp hx with z | z
      · exact S.2.2 x z
      · exact hL x z⟩ T' rfl X'
  exact ⟨t2, stp t2 a1, b1⟩
theorem pin_blind : FrameBlind (va_Pc vs (Pin Ω h)) := fun a U g mk hp => by
  obtain ⟨e, ⟨t1, t2, t3, t4⟩, p2, p3, p4⟩ := hp
  have hW : U.WarmedH (U.calling g mk a).vm := State.WarmedH.refl U
  exact ⟨e, Tb.warm hW ⟨t1, t2, t3, t4⟩, p2, p3, p4⟩
theorem pin_at {p : Program} {s : State} {m : MethodId} {meth : Method} {c : Code} {h0 : AH} (C : Cx Ω y p s m meth c h0) {H : Heap} {locs : List Loc} (P : HR Ω h H) (S : va_S (ge Ω) s.heap H locs) (hsz : H.size = oB Ω + hz h) : ∀ U : State, U.heap = H → s.WarmedH U.vm → va_Pc vs (Pin Ω h) vs.toArray U := fun U hU hW =>
  ⟨rfl, Tb.warm hW C.2.2.2.2.2.2.2.1, by rw [hU]; exact P, by rw [hU]; exact hsz, by rw [hU]; exact (cxOld C).kept (by rw [cxZ C]; exact Nat.le_add_right _ _) S⟩
/-- the room at a call -/
def Rm (y y2 : Mt) : Prop := mF y2 + 1 ≤ mF y ∧ 8 + (mL y2 + 11) + mW y2 ≤ mW y
def Nargs (x : MethodName) (n : Nat) : Prop := (parseMethodDescriptor x.desc).map (fun d => d.parameters.length) = some n
theorem Nargs.len {x : MethodName} {n : Nat} (hn : Nargs x n) : ∀ sig, parseMethodDescriptor x.desc = some sig → n = sig.parameters.length := fun sig hs => by
  unfold Nargs at hn
  rw [hs] at hn
  exact (Option.some.inj hn).symm
theorem callB_go {p : Program} {s : State} {m : MethodId} {meth : Method} {c : Code} {h0 : AH} (C : Cx Ω y p s m meth c h0) {idx n : Nat} {args : Array Value} (mo : Mok y2) (rm : Rm y y2) (hn : Nargs (my y2) n) (hl : Cond.methodLink (my y).cls idx (my y2) ∈ lw_tbl) :
    CallB (rmO y h0 h') s args (my y).cls idx (my y2) (mb y2) (mL y2) (mR y2) [Cond.code (my y2) (mb y2) (mL y2) (mR y2)] (rmO y2 h h1) (hz h1 - hz h) (hs h1 - hs h) n := by
  have T := cxW C
  refine ⟨rfl, rfl, rm.1, rm.2, fun w hw a' U hW => ?_, List.mem_cons_self, T _ mo.1 rfl args, T _ mo.2.1 rfl args, mo.2.2.1, hn.len, T _ hl rfl args⟩
  rw [List.mem_singleton] at hw
  subst hw
  exact TW.warm hW T _ mo.1 rfl a'
theorem sizes {h0 : AH} (L : Le h0 h) (L1 : Le h h1) (L2 : Le h1 h') : hz h - hz h0 + (hz h1 - hz h) = hz h1 - hz h0 ∧ hs h - hs h0 + (hs h1 - hs h) = hs h1 - hs h0 ∧ hz h - hz h0 + (hz h1 - hz h) ≤ hz h' - hz h0 ∧ hs h - hs h0 + (hs h1 - hs h) ≤ hs h' - hs h0 := by
  have a1 := L.1
  have a2 := L.2
  have b1 := L1.1
  have b2 := L1.2
  have c1 := L2.1
  have c2 := L2.2
  omega
theorem go_callS {idx n : Nat} (hd : decode (mb y) pc = .ok (.invokestatic idx, 3)) (mo : Mok y2) (rm : Rm y y2) (hn : Nargs (my y2) n) (hl : Cond.methodLink (my y).cls idx (my y2) ∈ lw_tbl) (hst : Cond.static (my y2) ∈ lw_tbl) (vs : List Value) (hlen : vs.length = n) (hls : (lg_sl vs).length ≤ mL y2) (hstk : st0 = vs.reverse ++ st) (hw : (st.map fun v => v.category).sum ≤ 8)
    (g : Go Ω y2 0 (lv_args 0 vs) [] h r1 h1) (k : Go Ω y (pc + 3) lv (r1.toList ++ st) h1 r h') : Go Ω y pc lv st0 h r h' := by
  refine ⟨g.1.tr k.1, fun p e s m args below meth c H locs ls h0 C L P S hv => W_size (fun hle => ?_)⟩
  have hsz := HR_size P S (cxZ C) L hle
  obtain ⟨z1, z2, z3, z4⟩ := sizes L g.1 k.1
  refine run_k (npc := 0) (va_runS (n := n) ⟨C.1, C.2.1, C.2.2.1, cxO C, fun w hw => absurd hw List.not_mem_nil⟩ (g.met mo.2.2.2 hls) ⟨callB_go C mo rm hn hl, cxW C _ hst rfl args⟩ ⟨pin_blind, pin_at C P S hsz⟩ rfl hlen hv.1 hstk (by simpa [JFrame.monitorRoom] using hw) hd ⟨z3, z4⟩) S (fun H1 locs1 hR hS => ?_)
  rw [z1, z2]
  exact k.2 p e s m args below meth c H1 locs1 ls h0 C (L.tr g.1) hR hS hv
theorem go_callV {idx n c2 a : Nat} (hd : decode (mb y) pc = .ok (.invokevirtual idx, 3)) (mo : Mok y2) (rm : Rm y y2) (hn : Nargs (my y2) n) (hl : Cond.methodLink (my y).cls idx (my y2) ∈ lw_tbl) (hin : Cond.instanceMethod (my y2) ∈ lw_tbl) (hc : c2 < 14) {x : vw_C} (hx : vwCl[c2]? = some x) (hse : Cond.selects x.1 (my y2) (my y2) ∈ lw_tbl) (hk : kd h a = c2) (vs : List Value) (hlen : vs.length = n) (hls : (lg_sl (vR Ω (some a) :: vs)).length ≤ mL y2) (hstk : st0 = vs.reverse ++ vR Ω (some a) :: st) (hw : (st.map fun v => v.category).sum ≤ 8)
    (g : Go Ω y2 0 (lv_args 0 (vR Ω (some a) :: vs)) [] h r1 h1) (k : Go Ω y (pc + 3) lv (r1.toList ++ st) h1 r h') : Go Ω y pc lv st0 h r h' := by
  refine ⟨g.1.tr k.1, fun p e s m args below meth c H locs ls h0 C L P S hv => W_size (fun hle => ?_)⟩
  have hsz := HR_size P S (cxZ C) L hle
  obtain ⟨z1, z2, z3, z4⟩ := sizes L g.1 k.1
  refine run_k (npc := 0) (va_runV (n := n) (C := x.1) ⟨C.1, C.2.1, C.2.2.1, cxO C, fun w hw => absurd hw List.not_mem_nil⟩ (g.met mo.2.2.2 hls) ⟨callB_go C mo rm hn hl, cxW C _ hin rfl args, cxW C _ hse rfl args⟩ ⟨pin_blind, obj_at C P hk hx hc, pin_at C P S hsz⟩ rfl hlen hv.1 hstk (by simpa [JFrame.monitorRoom] using hw) hd ⟨z3, z4⟩) S (fun H1 locs1 hR hS => ?_)
  rw [z1, z2]
  exact k.2 p e s m args below meth c H1 locs1 ls h0 C (L.tr g.1) hR hS hv
theorem go_callI {idx n a : Nat} (hd : decode (mb y) pc = .ok (.invokespecial idx, 3)) (mo : Mok y2) (rm : Rm y y2) (hn : Nargs (my y2) n) (hl : Cond.methodLink (my y).cls idx (my y2) ∈ lw_tbl) (hin : Cond.instanceMethod (my y2) ∈ lw_tbl) (hnm : (my y2).name = "<init>") (hret : mR y2 = none) (vs : List Value) (hlen : vs.length = n) (hls : (lg_sl (vR Ω (some a) :: vs)).length ≤ mL y2) (hstk : st0 = vs.reverse ++ vR Ω (some a) :: st) (hw : (st.map fun v => v.category).sum ≤ 8)
    (g : Go Ω y2 0 (lv_args 0 (vR Ω (some a) :: vs)) [] h r1 h1) (k : Go Ω y (pc + 3) lv (r1.toList ++ st) h1 r h') : Go Ω y pc lv st0 h r h' := by
  refine ⟨g.1.tr k.1, fun p e s m args below meth c H locs ls h0 C L P S hv => W_size (fun hle => ?_)⟩
  have hsz := HR_size P S (cxZ C) L hle
  obtain ⟨z1, z2, z3, z4⟩ := sizes L g.1 k.1
  have cb := callB_go (h := h) (h1 := h1) (h' := h') (args := args) C mo rm hn hl
  rw [hret] at cb
  refine run_k (npc := 0) (va_runI (n := n) ⟨C.1, C.2.1, C.2.2.1, cxO C, fun w hw => absurd hw List.not_mem_nil⟩ (by have := g.met mo.2.2.2 hls; rw [hret] at this; exact this) ⟨cb, hnm, cxW C _ hin rfl args⟩ ⟨pin_blind, pin_at C P S hsz⟩ rfl hlen hv.1 hstk (by simpa [JFrame.monitorRoom] using hw) hd ⟨z3, z4⟩) S (fun H1 locs1 hR hS => ?_)
  rw [z1, z2]
  exact k.2 p e s m args below meth c H1 locs1 ls h0 C (L.tr g.1) hR hS hv
theorem go_callIN {idx n a : Nat} {host : String} (hd : decode (mb y) pc = .ok (.invokespecial idx, 3)) (mo : Mok y2) (rm : Rm y y2) (hn : Nargs (my y2) n) (hl : Cond.methodLinkNest (my y).cls idx (my y2) host ∈ lw_tbl) (hin : Cond.instanceMethod (my y2) ∈ lw_tbl) (hnm : (my y2).name = "<init>") (hret : mR y2 = none) (vs : List Value) (hlen : vs.length = n) (hls : (lg_sl (vR Ω (some a) :: vs)).length ≤ mL y2) (hstk : st0 = vs.reverse ++ vR Ω (some a) :: st) (hw : (st.map fun v => v.category).sum ≤ 8)
    (g : Go Ω y2 0 (lv_args 0 (vR Ω (some a) :: vs)) [] h r1 h1) (k : Go Ω y (pc + 3) lv (r1.toList ++ st) h1 r h') : Go Ω y pc lv st0 h r h' := by
  refine ⟨g.1.tr k.1, fun p e s m args below meth c H locs ls h0 C L P S hv => W_size (fun hle => ?_)⟩
  have hsz := HR_size P S (cxZ C) L hle
  obtain ⟨z1, z2, z3, z4⟩ := sizes L g.1 k.1
  have T := cxW C
  have cb : va_CN (rmO y h0 h') s args (my y).cls idx (my y2) host (mb y2) (mL y2) none [Cond.code (my y2) (mb y2) (mL y2) none] (rmO y2 h h1) (hz h1 - hz h) (hs h1 - hs h) n := by
    have mo1 := mo.1
    rw [hret] at mo1
    refine ⟨⟨rfl, rfl, rm.1, rm.2, fun w hw a' U hW => ?_, List.mem_cons_self⟩, T _ mo1 rfl args, T _ mo.2.1 rfl args, mo.2.2.1, hn.len, T _ hl rfl args⟩
    rw [List.mem_singleton] at hw
    subst hw
    exact TW.warm hW T _ mo1 rfl a'
  refine run_k (npc := 0) (va_runIN (n := n) ⟨C.1, C.2.1, C.2.2.1, cxO C, fun w hw => absurd hw List.not_mem_nil⟩ (by have := g.met mo.2.2.2 hls; rw [hret] at this; exact this) ⟨cb, hnm, cxW C _ hin rfl args⟩ ⟨pin_blind, pin_at C P S hsz⟩ rfl hlen hv.1 hstk (by simpa [JFrame.monitorRoom] using hw) hd ⟨z3, z4⟩) S (fun H1 locs1 hR hS => ?_)
  rw [z1, z2]
  exact k.2 p e s m args below meth c H1 locs1 ls h0 C (L.tr g.1) hR hS hv
theorem go_callF {idx n cnt a : Nat} {x2 : MethodName} (hd : decode (mb y) pc = .ok (.invokeinterface idx cnt, 5)) (mo : Mok y2) (rm : Rm y y2) (hn : Nargs x2 n) (hl : Cond.methodLink (my y).cls idx x2 ∈ lw_tbl) (hin : Cond.instanceMethod (my y2) ∈ lw_tbl) (hse : Cond.selects "java/util/ArrayList" x2 (my y2) ∈ lw_tbl) (hxm : x2.cls ≠ "java/lang/invoke/MethodHandle" ∧ x2.cls ≠ "java/lang/invoke/VarHandle") (hF : ∀ U, TF U → va_Fw "java/util/ArrayList" x2 (my y2) U) (hk : kd h a = 0) (vs : List Value) (hlen : vs.length = n) (hls : (lg_sl (vR Ω (some a) :: vs)).length ≤ mL y2) (hstk : st0 = vs.reverse ++ vR Ω (some a) :: st) (hw : (st.map fun v => v.category).sum ≤ 8)
    (g : Go Ω y2 0 (lv_args 0 (vR Ω (some a) :: vs)) [] h r1 h1) (k : Go Ω y (pc + 5) lv (r1.toList ++ st) h1 r h') : Go Ω y pc lv st0 h r h' := by
  refine ⟨g.1.tr k.1, fun p e s m args below meth c H locs ls h0 C L P S hv => W_size (fun hle => ?_)⟩
  have hsz := HR_size P S (cxZ C) L hle
  obtain ⟨z1, z2, z3, z4⟩ := sizes L g.1 k.1
  have T := cxW C
  obtain ⟨f1, f2, f3, f4, f5⟩ := hF s (cxF C)
  have tr : ∀ {w : Cond}, w.onTables = true → w.before #[] s = true → w.before args s = true := fun hw hb => va_tabs hw rfl hb
  have ci : va_CI (rmO y h0 h') s args (my y).cls "java/util/ArrayList" idx x2 (my y2) (mb y2) (mL y2) (mR y2) [Cond.code (my y2) (mb y2) (mL y2) (mR y2)] (rmO y2 h h1) (hz h1 - hz h) (hs h1 - hs h) n := by
    refine ⟨⟨rfl, rfl, rm.1, rm.2, fun w hw a' U hW => ?_, List.mem_cons_self⟩, T _ hl rfl args, tr rfl f1, tr rfl f2, T _ hse rfl args, T _ hin rfl args, tr rfl f3, tr rfl f4, tr rfl f5, T _ mo.2.1 rfl args, T _ mo.1 rfl args, hxm, hn.len⟩
    rw [List.mem_singleton] at hw
    subst hw
    exact TW.warm hW T _ mo.1 rfl a'
  have hat : ClassAt s "java/util/ArrayList" ((oD Ω).1 0) := ((cxK C).1 0 _ rfl).2
  refine run5_k (npc := 0) (va_runF (n := n) hat ⟨C.1, C.2.1, C.2.2.1, cxO C, fun w hw => absurd hw List.not_mem_nil⟩ (g.met mo.2.2.2 hls) ci ⟨pin_blind, obj_at C P hk (show vwCl[0]? = some _ from rfl) (by omega), pin_at C P S hsz⟩ rfl hlen hv.1 hstk (by simpa [JFrame.monitorRoom] using hw) hd ⟨z3, z4⟩) S (fun H1 locs1 hR hS => ?_)
  rw [z1, z2]
  exact k.2 p e s m args below meth c H1 locs1 ls h0 C (L.tr g.1) hR hS hv
theorem bd_some {x : Option (β × AH)} {F : β → AH → Option (α × AH)} (hf : bd x F = some q) : ∃ z : β × AH, x = some z ∧ F z.1 z.2 = some q := by
  cases x with
  | none => cases hf
  | some z => exact ⟨z, rfl, hf⟩
theorem kg_some {a c : Nat} {X : Option (α × AH)} (hf : kg h a c X = some q) : kd h a = c ∧ X = some q := by
  unfold kg at hf
  split at hf
  · exact ⟨by assumption, hf⟩
  · cases hf
theorem nz_some {z : Int32} {X : Option (α × AH)} (hf : nz z X = some q) : ¬ z = 0 ∧ X = some q := by
  unfold nz at hf
  split at hf
  · cases hf
  · exact ⟨by assumption, hf⟩
end Call

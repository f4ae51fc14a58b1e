/-! printed by wip/whole/gen/lists.py: the reference's lists, and taking an element out of each -/
def cN (v : MV) (k : Nat) : Nat := (v.1 k).toNatClampNeg
def CV (v : MV) (k N : Nat) : Prop := v.1 k = nI (cN v k) ∧ cN v k ≤ N
theorem CV.of {v : MV} {k N n : Nat} (h : v.1 k = nI n) (hn : n ≤ N) (hN : N < 2 ^ 31) : CV v k N ∧ cN v k = n := by
  have e : cN v k = n := by unfold cN; rw [h]; exact nI_clamp (by omega)
  exact ⟨⟨by rw [e]; exact h, by omega⟩, e⟩
/-- what differs: fields in F, rows in A -/
def Fr (v v' : MV) (F A : List Nat) : Prop := (∀ k, k ∉ F → v'.1 k = v.1 k) ∧ ∀ k, k ∉ A → v'.2.1 k = v.2.1 k ∧ v'.2.2 k = v.2.2 k
theorem Fr.rf (v : MV) : Fr v v [] [] := ⟨fun _ _ => rfl, fun _ _ => ⟨rfl, rfl⟩⟩
theorem Fr.tr {a b c : MV} {F A G B : List Nat} (h : Fr a b F A) (k : Fr b c G B) : Fr a c (F ++ G) (A ++ B) := by
  refine ⟨fun i hi => ?_, fun i hi => ?_⟩
  · rw [List.mem_append, not_or] at hi
    exact (k.1 i hi.2).trans (h.1 i hi.1)
  · rw [List.mem_append, not_or] at hi
    exact ⟨(k.2 i hi.2).1.trans (h.2 i hi.1).1, (k.2 i hi.2).2.trans (h.2 i hi.1).2⟩
theorem Fr.mono {a b : MV} {F A G B : List Nat} (h : Fr a b F A) (hF : ∀ k ∈ F, k ∈ G) (hA : ∀ k ∈ A, k ∈ B) : Fr a b G B := ⟨fun k hk => h.1 k (fun z => hk (hF k z)), fun k hk => h.2 k (fun z => hk (hA k z))⟩
def Bo (v : MV) (k : Nat) : Prop := ∀ j, v.2.1 k j = 0 ∨ v.2.1 k j = 1
theorem Bo.fr {v v' : MV} {F A : List Nat} {k : Nat} (h : Bo v k) (f : Fr v v' F A) (hk : k ∉ A) : Bo v' k := fun j => by rw [(f.2 k hk).1]; exact h j
theorem CV.fr {v v' : MV} {F A : List Nat} {k N : Nat} (h : CV v k N) (f : Fr v v' F A) (hk : k ∉ F) : CV v' k N ∧ cN v' k = cN v k := by
  have e := f.1 k hk
  have e2 : cN v' k = cN v k := by unfold cN; rw [e]
  exact ⟨⟨by rw [e, e2]; exact h.1, by rw [e2]; exact h.2⟩, e2⟩
theorem sh_bo {f : Nat → Int32} {a i : Nat} (h : ∀ j, f j = 0 ∨ f j = 1) : ∀ j, sh f a i j = 0 ∨ sh f a i j = 1 := fun j => by unfold sh; split <;> exact h _
abbrev R_ex : Type := Int64 × Int32
def exL (v : MV) : List R_ex := lst (cN v 5) (fun k => (v.2.2 6 k, v.2.1 7 k))
theorem exL_len (v : MV) : (exL v).length = cN v 5 := lst_len _ _
theorem exL_fr {v v' : MV} {F A : List Nat} (f : Fr v v' F A) (hc : 5 ∉ F) (h6 : 6 ∉ A) (h7 : 7 ∉ A) : exL v' = exL v := by
  unfold exL cN
  rw [f.1 5 hc]
  exact lst_congr (fun i _ => by rw [(f.2 6 h6).2, (f.2 7 h7).1])
theorem ex_rm {v : MV} (h : CV v 5 6) {a : Nat} (ha : a < cN v 5) : ∃ v', m_removeExchange_38 (nI a) v = some ((), v') ∧ exL v' = (exL v).eraseIdx a ∧ CV v' 5 6 ∧ cN v' 5 = cN v 5 - 1 ∧ Fr v v' [5] [6, 7] := by
  obtain ⟨n, hn⟩ : ∃ n, cN v 5 = n + 1 := ⟨cN v 5 - 1, by omega⟩
  have hN := h.2
  have e0 : v.1 5 = nI (n + 1) := by rw [← hn]; exact h.1
  have ew : upd v.1 5 (nI n) 5 = nI n := pk_us
  obtain ⟨w, hw⟩ : ∃ w : Nat → Int32, w = upd v.1 5 (nI n) := ⟨_, rfl⟩
  have ew2 : w 5 = nI n := by rw [hw]; exact ew
  have ecn : cN (SV v w [7] [6] a n) 5 = n := by
    show (w 5).toNatClampNeg = n
    rw [ew2]
    exact nI_clamp (by omega)
  refine ⟨SV v w [7] [6] a n, ?_, ?_, ⟨?_, by rw [ecn]; omega⟩, by rw [ecn]; omega, ⟨fun k hk => ?_, fun k hk => ?_⟩⟩
  · unfold m_removeExchange_38 mwI
    rw [e0, nI_pred, ← hw]
    have := x_loop v w n a ew2 (by omega) (n - a) a FU (by omega) (Nat.le_refl _) (by unfold FU; omega)
    rw [SV_0] at this
    exact this
  · unfold exL
    rw [ecn, hn, ← lst_erase _ (by omega)]
    apply lst_congr
    intro i hi
    unfold sh SV
    by_cases c : a ≤ i ∧ i < n
    · simp [sh, c]
    · simp [sh, c]
  · rw [ecn]
    exact ew2
  · show w k = v.1 k
    rw [hw]
    exact pk_un (by simpa using hk)
  · simp only [List.mem_cons, List.not_mem_nil, or_false, not_or] at hk
    unfold SV
    simp [hk]
abbrev R_qu : Type := Int64 × Int32 × Int32
def quL (v : MV) : List R_qu := lst (cN v 8) (fun k => (v.2.2 10 k, v.2.1 11 k, v.2.1 12 k))
theorem quL_len (v : MV) : (quL v).length = cN v 8 := lst_len _ _
theorem quL_fr {v v' : MV} {F A : List Nat} (f : Fr v v' F A) (hc : 8 ∉ F) (h10 : 10 ∉ A) (h11 : 11 ∉ A) (h12 : 12 ∉ A) : quL v' = quL v := by
  unfold quL cN
  rw [f.1 8 hc]
  exact lst_congr (fun i _ => by rw [(f.2 10 h10).2, (f.2 11 h11).1, (f.2 12 h12).1])
theorem qu_rm {v : MV} (h : CV v 8 5) {a : Nat} (ha : a < cN v 8) : ∃ v', m_removeQueue_75 (nI a) v = some ((), v') ∧ quL v' = (quL v).eraseIdx a ∧ CV v' 8 5 ∧ cN v' 8 = cN v 8 - 1 ∧ Fr v v' [8] [10, 11, 12] := by
  obtain ⟨n, hn⟩ : ∃ n, cN v 8 = n + 1 := ⟨cN v 8 - 1, by omega⟩
  have hN := h.2
  have e0 : v.1 8 = nI (n + 1) := by rw [← hn]; exact h.1
  have ew : upd v.1 8 (nI n) 8 = nI n := pk_us
  obtain ⟨w, hw⟩ : ∃ w : Nat → Int32, w = upd v.1 8 (nI n) := ⟨_, rfl⟩
  have ew2 : w 8 = nI n := by rw [hw]; exact ew
  have ecn : cN (SV v w [11, 12] [10] a n) 8 = n := by
    show (w 8).toNatClampNeg = n
    rw [ew2]
    exact nI_clamp (by omega)
  refine ⟨SV v w [11, 12] [10] a n, ?_, ?_, ⟨?_, by rw [ecn]; omega⟩, by rw [ecn]; omega, ⟨fun k hk => ?_, fun k hk => ?_⟩⟩
  · unfold m_removeQueue_75 mwI
    rw [e0, nI_pred, ← hw]
    have := q_loop v w n a ew2 (by omega) (n - a) a FU (by omega) (Nat.le_refl _) (by unfold FU; omega)
    rw [SV_0] at this
    exact this
  · unfold quL
    rw [ecn, hn, ← lst_erase _ (by omega)]
    apply lst_congr
    intro i hi
    unfold sh SV
    by_cases c : a ≤ i ∧ i < n
    · simp [sh, c]
    · simp [sh, c]
  · rw [ecn]
    exact ew2
  · show w k = v.1 k
    rw [hw]
    exact pk_un (by simpa using hk)
  · simp only [List.mem_cons, List.not_mem_nil, or_false, not_or] at hk
    unfold SV
    simp [hk]
abbrev R_bi : Type := Int64 × Int64 × Int64
def biL (v : MV) : List R_bi := lst (cN v 13) (fun k => (v.2.2 14 k, v.2.2 15 k, v.2.2 16 k))
theorem biL_len (v : MV) : (biL v).length = cN v 13 := lst_len _ _
theorem biL_fr {v v' : MV} {F A : List Nat} (f : Fr v v' F A) (hc : 13 ∉ F) (h14 : 14 ∉ A) (h15 : 15 ∉ A) (h16 : 16 ∉ A) : biL v' = biL v := by
  unfold biL cN
  rw [f.1 13 hc]
  exact lst_congr (fun i _ => by rw [(f.2 14 h14).2, (f.2 15 h15).2, (f.2 16 h16).2])
theorem bi_rm {v : MV} (h : CV v 13 12) {a : Nat} (ha : a < cN v 13) : ∃ v', m_removeBinding (nI a) v = some ((), v') ∧ biL v' = (biL v).eraseIdx a ∧ CV v' 13 12 ∧ cN v' 13 = cN v 13 - 1 ∧ Fr v v' [13] [14, 15, 16] := by
  obtain ⟨n, hn⟩ : ∃ n, cN v 13 = n + 1 := ⟨cN v 13 - 1, by omega⟩
  have hN := h.2
  have e0 : v.1 13 = nI (n + 1) := by rw [← hn]; exact h.1
  have ew : upd v.1 13 (nI n) 13 = nI n := pk_us
  obtain ⟨w, hw⟩ : ∃ w : Nat → Int32, w = upd v.1 13 (nI n) := ⟨_, rfl⟩
  have ew2 : w 13 = nI n := by rw [hw]; exact ew
  have ecn : cN (SV v w [] [14, 15, 16] a n) 13 = n := by
    show (w 13).toNatClampNeg = n
    rw [ew2]
    exact nI_clamp (by omega)
  refine ⟨SV v w [] [14, 15, 16] a n, ?_, ?_, ⟨?_, by rw [ecn]; omega⟩, by rw [ecn]; omega, ⟨fun k hk => ?_, fun k hk => ?_⟩⟩
  · unfold m_removeBinding mwI
    rw [e0, nI_pred, ← hw]
    have := b_loop v w n a ew2 (by omega) (n - a) a FU (by omega) (Nat.le_refl _) (by unfold FU; omega)
    rw [SV_0] at this
    exact this
  · unfold biL
    rw [ecn, hn, ← lst_erase _ (by omega)]
    apply lst_congr
    intro i hi
    unfold sh SV
    by_cases c : a ≤ i ∧ i < n
    · simp [sh, c]
    · simp [sh, c]
  · rw [ecn]
    exact ew2
  · show w k = v.1 k
    rw [hw]
    exact pk_un (by simpa using hk)
  · simp only [List.mem_cons, List.not_mem_nil, or_false, not_or] at hk
    unfold SV
    simp [hk]
abbrev R_co : Type := Int32 × Int32 × Int64 × Int32 × Int32
def coL (v : MV) : List R_co := lst (cN v 17) (fun k => (v.2.1 19 k, v.2.1 20 k, v.2.2 21 k, v.2.1 22 k, v.2.1 23 k))
theorem coL_len (v : MV) : (coL v).length = cN v 17 := lst_len _ _
theorem coL_fr {v v' : MV} {F A : List Nat} (f : Fr v v' F A) (hc : 17 ∉ F) (h19 : 19 ∉ A) (h20 : 20 ∉ A) (h21 : 21 ∉ A) (h22 : 22 ∉ A) (h23 : 23 ∉ A) : coL v' = coL v := by
  unfold coL cN
  rw [f.1 17 hc]
  exact lst_congr (fun i _ => by rw [(f.2 19 h19).1, (f.2 20 h20).1, (f.2 21 h21).2, (f.2 22 h22).1, (f.2 23 h23).1])
theorem co_rm {v : MV} (h : CV v 17 6) (hz23 : Bo v 23) {a : Nat} (ha : a < cN v 17) : ∃ v', m_removeConsumer (nI a) v = some ((), v') ∧ coL v' = (coL v).eraseIdx a ∧ CV v' 17 6 ∧ cN v' 17 = cN v 17 - 1 ∧ Fr v v' [17] [19, 20, 21, 22, 23] ∧ Bo v' 23 := by
  obtain ⟨n, hn⟩ : ∃ n, cN v 17 = n + 1 := ⟨cN v 17 - 1, by omega⟩
  have hN := h.2
  have e0 : v.1 17 = nI (n + 1) := by rw [← hn]; exact h.1
  have ew : upd v.1 17 (nI n) 17 = nI n := pk_us
  obtain ⟨w, hw⟩ : ∃ w : Nat → Int32, w = upd v.1 17 (nI n) := ⟨_, rfl⟩
  have ew2 : w 17 = nI n := by rw [hw]; exact ew
  have ecn : cN (SV v w [19, 20, 22, 23] [21] a n) 17 = n := by
    show (w 17).toNatClampNeg = n
    rw [ew2]
    exact nI_clamp (by omega)
  refine ⟨SV v w [19, 20, 22, 23] [21] a n, ?_, ?_, ⟨?_, by rw [ecn]; omega⟩, by rw [ecn]; omega, ⟨fun k hk => ?_, fun k hk => ?_⟩, ?_⟩
  · unfold m_removeConsumer mwI
    rw [e0, nI_pred, ← hw]
    have := c_loop v w n a ew2 (by omega) hz23 (n - a) a FU (by omega) (Nat.le_refl _) (by unfold FU; omega)
    rw [SV_0] at this
    exact this
  · unfold coL
    rw [ecn, hn, ← lst_erase _ (by omega)]
    apply lst_congr
    intro i hi
    unfold sh SV
    by_cases c : a ≤ i ∧ i < n
    · simp [sh, c]
    · simp [sh, c]
  · rw [ecn]
    exact ew2
  · show w k = v.1 k
    rw [hw]
    exact pk_un (by simpa using hk)
  · simp only [List.mem_cons, List.not_mem_nil, or_false, not_or] at hk
    unfold SV
    simp [hk]
  · intro j
    rw [SV_I v w [19, 20, 22, 23] [21] a n (k := 23) (by decide)]
    exact sh_bo hz23 j
abbrev R_le : Type := Int32 × Int32 × Int32 × Int32 × Int32 × Int64 × Int64 × Int32 × Int64
def leL (v : MV) : List R_le := lst (cN v 24) (fun k => (v.2.1 26 k, v.2.1 27 k, v.2.1 28 k, v.2.1 29 k, v.2.1 30 k, v.2.2 31 k, v.2.2 32 k, v.2.1 33 k, v.2.2 34 k))
theorem leL_len (v : MV) : (leL v).length = cN v 24 := lst_len _ _
theorem leL_fr {v v' : MV} {F A : List Nat} (f : Fr v v' F A) (hc : 24 ∉ F) (h26 : 26 ∉ A) (h27 : 27 ∉ A) (h28 : 28 ∉ A) (h29 : 29 ∉ A) (h30 : 30 ∉ A) (h31 : 31 ∉ A) (h32 : 32 ∉ A) (h33 : 33 ∉ A) (h34 : 34 ∉ A) : leL v' = leL v := by
  unfold leL cN
  rw [f.1 24 hc]
  exact lst_congr (fun i _ => by rw [(f.2 26 h26).1, (f.2 27 h27).1, (f.2 28 h28).1, (f.2 29 h29).1, (f.2 30 h30).1, (f.2 31 h31).2, (f.2 32 h32).2, (f.2 33 h33).1, (f.2 34 h34).2])
theorem le_rm {v : MV} (h : CV v 24 24) (hz30 : Bo v 30) {a : Nat} (ha : a < cN v 24) : ∃ v', m_removeLetter (nI a) v = some ((), v') ∧ leL v' = (leL v).eraseIdx a ∧ CV v' 24 24 ∧ cN v' 24 = cN v 24 - 1 ∧ Fr v v' [24] [26, 27, 28, 29, 30, 31, 32, 33, 34] ∧ Bo v' 30 := by
  obtain ⟨n, hn⟩ : ∃ n, cN v 24 = n + 1 := ⟨cN v 24 - 1, by omega⟩
  have hN := h.2
  have e0 : v.1 24 = nI (n + 1) := by rw [← hn]; exact h.1
  have ew : upd v.1 24 (nI n) 24 = nI n := pk_us
  obtain ⟨w, hw⟩ : ∃ w : Nat → Int32, w = upd v.1 24 (nI n) := ⟨_, rfl⟩
  have ew2 : w 24 = nI n := by rw [hw]; exact ew
  have ecn : cN (SV v w [26, 27, 28, 29, 30, 33] [31, 32, 34] a n) 24 = n := by
    show (w 24).toNatClampNeg = n
    rw [ew2]
    exact nI_clamp (by omega)
  refine ⟨SV v w [26, 27, 28, 29, 30, 33] [31, 32, 34] a n, ?_, ?_, ⟨?_, by rw [ecn]; omega⟩, by rw [ecn]; omega, ⟨fun k hk => ?_, fun k hk => ?_⟩, ?_⟩
  · unfold m_removeLetter mwI
    rw [e0, nI_pred, ← hw]
    have := l_loop v w n a ew2 (by omega) hz30 (n - a) a FU (by omega) (Nat.le_refl _) (by unfold FU; omega)
    rw [SV_0] at this
    exact this
  · unfold leL
    rw [ecn, hn, ← lst_erase _ (by omega)]
    apply lst_congr
    intro i hi
    unfold sh SV
    by_cases c : a ≤ i ∧ i < n
    · simp [sh, c]
    · simp [sh, c]
  · rw [ecn]
    exact ew2
  · show w k = v.1 k
    rw [hw]
    exact pk_un (by simpa using hk)
  · simp only [List.mem_cons, List.not_mem_nil, or_false, not_or] at hk
    unfold SV
    simp [hk]
  · intro j
    rw [SV_I v w [26, 27, 28, 29, 30, 33] [31, 32, 34] a n (k := 30) (by decide)]
    exact sh_bo hz30 j

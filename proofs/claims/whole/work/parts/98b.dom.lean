section Dm2
variable {t t' : Nat} {h h' h1 : AH} {v v' w : MV} {c d : Nat} {G G' : GH} {wr : Bool}
theorem bd_id {X : Option (Int32 × AH)} : (bd X fun x h => some (x, h)) = X := by
  cases X with
  | none => rfl
  | some p => rfl
theorem lm20 : m_letterMethod 20 v = m_consume v := by
  unfold m_letterMethod
  rw [ltd, if_neg (by decide), if_pos rfl, bdm_id]
theorem lm30 : m_letterMethod 30 v = m_cancel v := by
  unfold m_letterMethod
  rw [ltd, if_neg (by decide), if_neg (by decide), if_pos rfl, bdm_id]
theorem lm40 : m_letterMethod 40 v = m_publish v := by
  unfold m_letterMethod
  rw [ltd, if_neg (by decide), if_neg (by decide), if_neg (by decide), if_pos rfl, bdm_id]
theorem lm70 : m_letterMethod 70 v = m_get v := by
  unfold m_letterMethod
  rw [ltd, if_neg (by decide), if_neg (by decide), if_neg (by decide), if_neg (by decide), if_pos rfl, bdm_id]
theorem qm10 : m_queueMethod 10 v = m_declareQueue v := by
  unfold m_queueMethod
  rw [if_pos rfl, bdm_id]
theorem qm20 : m_queueMethod 20 v = m_bind 20 v := by
  unfold m_queueMethod m_queueMethod_25
  rw [if_neg (by decide), if_pos rfl, bdm_id]
theorem qm50 : m_queueMethod 50 v = m_bind 50 v := by
  unfold m_queueMethod m_queueMethod_25
  rw [if_neg (by decide), if_neg (by decide), if_pos rfl, bdm_id]
theorem qm30 : m_queueMethod 30 v = m_emptyQueue 30 v := by
  unfold m_queueMethod
  rw [if_neg (by decide), if_neg (by decide), if_neg (by decide), bdm_id]
theorem qm40 : m_queueMethod 40 v = m_emptyQueue 40 v := by
  unfold m_queueMethod
  rw [if_neg (by decide), if_neg (by decide), if_neg (by decide), bdm_id]
theorem d94_20 {x : Int32} : m_doMethod_94 20 x 1 v = m_channelMethod x v := by
  unfold m_doMethod_94
  rw [if_neg (by decide), if_pos rfl, bdm_id]
theorem d94_40 {x : Int32} : m_doMethod_94 40 x 1 v = m_exchangeMethod x v := by
  unfold m_doMethod_94
  rw [if_neg (by decide), if_neg (by decide), if_pos rfl, bdm_id]
theorem d94_50 {x : Int32} : m_doMethod_94 50 x 1 v = m_queueMethod x v := by
  unfold m_doMethod_94
  rw [if_neg (by decide), if_neg (by decide), if_neg (by decide), if_pos rfl, bdm_id]
theorem d94_60 {x : Int32} : m_doMethod_94 60 x 1 v = m_letterMethod x v := by
  unfold m_doMethod_94
  rw [if_neg (by decide), if_neg (by decide), if_neg (by decide), if_neg (by decide), if_pos rfl, bdm_id]
theorem d94_90 {x : Int32} : m_doMethod_94 90 x 1 v = m_transactionMethod x v := by
  unfold m_doMethod_94
  rw [if_neg (by decide), if_neg (by decide), if_neg (by decide), if_neg (by decide), if_neg (by decide), bdm_id]
theorem d94_0 {x y : Int32} : m_doMethod_94 x y 0 v = m_hard 503 v := by
  unfold m_doMethod_94
  rw [if_pos rfl, bdm_id]
theorem isM_l {p q : Nat} (z : (p = 20 ∧ (q = 20 ∨ q = 40)) ∨ (p = 40 ∧ (q = 10 ∨ q = 20)) ∨ (p = 50 ∧ 10 ≤ q ∧ q ≤ 50 ∧ q % 10 = 0) ∨ (p = 60 ∧ ((10 ≤ q ∧ q ≤ 40 ∧ q % 10 = 0) ∨ (70 ≤ q ∧ q ≤ 90 ∧ q % 10 = 0) ∨ q = 110 ∨ q = 120)) ∨ (p = 90 ∧ (q = 10 ∨ q = 20 ∨ q = 30))) : (p = 20 ∧ q = 20) ∨ (p = 20 ∧ q = 40) ∨ (p = 40 ∧ q = 10) ∨ (p = 40 ∧ q = 20) ∨ (p = 50 ∧ q = 10) ∨ (p = 50 ∧ q = 20) ∨ (p = 50 ∧ q = 30) ∨ (p = 50 ∧ q = 40) ∨ (p = 50 ∧ q = 50) ∨ (p = 60 ∧ q = 10) ∨ (p = 60 ∧ q = 20) ∨ (p = 60 ∧ q = 30) ∨ (p = 60 ∧ q = 40) ∨ (p = 60 ∧ q = 70) ∨ (p = 60 ∧ q = 80) ∨ (p = 60 ∧ q = 90) ∨ (p = 60 ∧ q = 110) ∨ (p = 60 ∧ q = 120) ∨ (p = 90 ∧ q = 10) ∨ (p = 90 ∧ q = 20) ∨ (p = 90 ∧ q = 30) := by
  rcases z with ⟨rfl, z⟩ | ⟨rfl, z⟩ | ⟨rfl, z1, z2, z3⟩ | ⟨rfl, z⟩ | ⟨rfl, z⟩
  · rcases z with rfl | rfl <;> simp
  · rcases z with rfl | rfl <;> simp
  · have : q = 10 ∨ q = 20 ∨ q = 30 ∨ q = 40 ∨ q = 50 := by omega
    rcases this with rfl | rfl | rfl | rfl | rfl <;> simp
  · rcases z with ⟨z1, z2, z3⟩ | ⟨z1, z2, z3⟩ | rfl | rfl
    · have : q = 10 ∨ q = 20 ∨ q = 30 ∨ q = 40 := by omega
      rcases this with rfl | rfl | rfl | rfl <;> simp
    · have : q = 70 ∨ q = 80 ∨ q = 90 := by omega
      rcases this with rfl | rfl | rfl <;> simp
    · simp
    · simp
  · rcases z with rfl | rfl | rfl <;> simp
/-- an open channel's method -/
theorem openM {p q : Nat} (P : Pre t h v c G wr) (st : v.2.1 35 c = 1) (e0 : v.1 0 = 4) (hh : 27 ≤ hz h) (fc : gI h 6 1 = nI c) (hp : p < 256) (hq : q < 256) : SC t h v (f_X11_doMethod_26 4 (some (chA c)) (nI (p * 256 + q)) (if nI (p * 256 + q) = 5130 then 1 else 0) 1 h) (if bit (isM p q) = 0 then m_doMethod_94 (nI p) (nI q) 0 v else m_doMethod_94 (nI p) (nI q) 1 v) := by
  have a := P.1
  have h1' := P.2.2.2.1
  have h2' := P.2.2.2.2.1
  have hl := P.2.2.2.2.2.1
  have k4 := a.1.2.1.1.1
  have n5 : L4 (v.1 0) := ⟨4, by decide, by decide, e0⟩
  have bad : SC t h v (some (503, h)) (m_hard 503 v) := hard_sc a (e := 503) (by decide) h2' fc hl
  unfold f_X11_doMethod_26
  rw [rdI_e k4, a.2.2.1, if_pos e0]
  by_cases e5140 : p = 20 ∧ q = 20
  · obtain ⟨rfl, rfl⟩ := e5140
    rw [if_neg (show ¬ nI (20 * 256 + 20) = (5130 : Int32) by decide), if_neg (show ¬ (0 : Int32) = 1 by decide), if_neg (show ¬ nI (20 * 256 + 20) = (5130 : Int32) by decide), if_pos (show nI (20 * 256 + 20) = (5140 : Int32) by decide), kg_e k4, bd_id, show isM 20 20 = true by decide, bit_t, if_neg (show ¬ (1 : Int32) = 0 by decide)]
    have e : m_doMethod_94 (nI 20) (nI 20) 1 v = m_channelMethod 20 v := d94_20
    rw [e]
    exact (flowC P st).sc n5 h1' h2' fc hl
  by_cases e5160 : p = 20 ∧ q = 40
  · obtain ⟨rfl, rfl⟩ := e5160
    rw [if_neg (show ¬ nI (20 * 256 + 40) = (5130 : Int32) by decide), if_neg (show ¬ (0 : Int32) = 1 by decide), if_neg (show ¬ nI (20 * 256 + 40) = (5130 : Int32) by decide), if_neg (show ¬ nI (20 * 256 + 40) = (5140 : Int32) by decide), if_pos (show nI (20 * 256 + 40) = (5160 : Int32) by decide), kg_e k4, bd_id, show isM 20 40 = true by decide, bit_t, if_neg (show ¬ (1 : Int32) = 0 by decide)]
    have e : m_doMethod_94 (nI 20) (nI 40) 1 v = m_channelMethod 40 v := d94_20
    rw [e]
    exact (closeC P).sc n5 h1' h2' fc hl
  by_cases e10250 : p = 40 ∧ q = 10
  · obtain ⟨rfl, rfl⟩ := e10250
    rw [if_neg (show ¬ nI (40 * 256 + 10) = (5130 : Int32) by decide), if_neg (show ¬ (0 : Int32) = 1 by decide), if_neg (show ¬ nI (40 * 256 + 10) = (5130 : Int32) by decide), if_neg (show ¬ nI (40 * 256 + 10) = (5140 : Int32) by decide), if_neg (show ¬ nI (40 * 256 + 10) = (5160 : Int32) by decide), if_pos (show nI (40 * 256 + 10) = (10250 : Int32) by decide), kg_e k4, bd_id, show isM 40 10 = true by decide, bit_t, if_neg (show ¬ (1 : Int32) = 0 by decide)]
    have e : m_doMethod_94 (nI 40) (nI 10) 1 v = m_exchangeMethod 10 v := d94_40
    rw [e]
    exact (declXC P).sc n5 h1' h2' fc hl
  by_cases e10260 : p = 40 ∧ q = 20
  · obtain ⟨rfl, rfl⟩ := e10260
    rw [if_neg (show ¬ nI (40 * 256 + 20) = (5130 : Int32) by decide), if_neg (show ¬ (0 : Int32) = 1 by decide), if_neg (show ¬ nI (40 * 256 + 20) = (5130 : Int32) by decide), if_neg (show ¬ nI (40 * 256 + 20) = (5140 : Int32) by decide), if_neg (show ¬ nI (40 * 256 + 20) = (5160 : Int32) by decide), if_neg (show ¬ nI (40 * 256 + 20) = (10250 : Int32) by decide), if_pos (show nI (40 * 256 + 20) = (10260 : Int32) by decide), kg_e k4, bd_id, show isM 40 20 = true by decide, bit_t, if_neg (show ¬ (1 : Int32) = 0 by decide)]
    have e : m_doMethod_94 (nI 40) (nI 20) 1 v = m_exchangeMethod 20 v := d94_40
    rw [e]
    exact (delXC P).sc n5 h1' h2' fc hl
  by_cases e12810 : p = 50 ∧ q = 10
  · obtain ⟨rfl, rfl⟩ := e12810
    rw [if_neg (show ¬ nI (50 * 256 + 10) = (5130 : Int32) by decide), if_neg (show ¬ (0 : Int32) = 1 by decide), if_neg (show ¬ nI (50 * 256 + 10) = (5130 : Int32) by decide), if_neg (show ¬ nI (50 * 256 + 10) = (5140 : Int32) by decide), if_neg (show ¬ nI (50 * 256 + 10) = (5160 : Int32) by decide), if_neg (show ¬ nI (50 * 256 + 10) = (10250 : Int32) by decide), if_neg (show ¬ nI (50 * 256 + 10) = (10260 : Int32) by decide), if_pos (show nI (50 * 256 + 10) = (12810 : Int32) by decide), kg_e k4, bd_id, show isM 50 10 = true by decide, bit_t, if_neg (show ¬ (1 : Int32) = 0 by decide)]
    have e : m_doMethod_94 (nI 50) (nI 10) 1 v = m_queueMethod 10 v := d94_50
    rw [e, qm10]
    exact (declQC P hh).sc n5 h1' h2' fc hl
  by_cases e12820 : p = 50 ∧ q = 20
  · obtain ⟨rfl, rfl⟩ := e12820
    rw [if_neg (show ¬ nI (50 * 256 + 20) = (5130 : Int32) by decide), if_neg (show ¬ (0 : Int32) = 1 by decide), if_neg (show ¬ nI (50 * 256 + 20) = (5130 : Int32) by decide), if_neg (show ¬ nI (50 * 256 + 20) = (5140 : Int32) by decide), if_neg (show ¬ nI (50 * 256 + 20) = (5160 : Int32) by decide), if_neg (show ¬ nI (50 * 256 + 20) = (10250 : Int32) by decide), if_neg (show ¬ nI (50 * 256 + 20) = (10260 : Int32) by decide), if_neg (show ¬ nI (50 * 256 + 20) = (12810 : Int32) by decide), if_pos (show nI (50 * 256 + 20) = (12820 : Int32) by decide), kg_e k4, bd_id, show isM 50 20 = true by decide, bit_t, if_neg (show ¬ (1 : Int32) = 0 by decide)]
    have e : m_doMethod_94 (nI 50) (nI 20) 1 v = m_queueMethod 20 v := d94_50
    rw [e, qm20]
    exact (bindC P (.inl ⟨rfl, rfl⟩)).sc n5 h1' h2' fc hl
  by_cases e12830 : p = 50 ∧ q = 30
  · obtain ⟨rfl, rfl⟩ := e12830
    rw [if_neg (show ¬ nI (50 * 256 + 30) = (5130 : Int32) by decide), if_neg (show ¬ (0 : Int32) = 1 by decide), if_neg (show ¬ nI (50 * 256 + 30) = (5130 : Int32) by decide), if_neg (show ¬ nI (50 * 256 + 30) = (5140 : Int32) by decide), if_neg (show ¬ nI (50 * 256 + 30) = (5160 : Int32) by decide), if_neg (show ¬ nI (50 * 256 + 30) = (10250 : Int32) by decide), if_neg (show ¬ nI (50 * 256 + 30) = (10260 : Int32) by decide), if_neg (show ¬ nI (50 * 256 + 30) = (12810 : Int32) by decide), if_neg (show ¬ nI (50 * 256 + 30) = (12820 : Int32) by decide), if_pos (show nI (50 * 256 + 30) = (12830 : Int32) by decide), kg_e k4, bd_id, show isM 50 30 = true by decide, bit_t, if_neg (show ¬ (1 : Int32) = 0 by decide)]
    have e : m_doMethod_94 (nI 50) (nI 30) 1 v = m_queueMethod 30 v := d94_50
    rw [e, qm30]
    exact (purgeC P).sc n5 h1' h2' fc hl
  by_cases e12840 : p = 50 ∧ q = 40
  · obtain ⟨rfl, rfl⟩ := e12840
    rw [if_neg (show ¬ nI (50 * 256 + 40) = (5130 : Int32) by decide), if_neg (show ¬ (0 : Int32) = 1 by decide), if_neg (show ¬ nI (50 * 256 + 40) = (5130 : Int32) by decide), if_neg (show ¬ nI (50 * 256 + 40) = (5140 : Int32) by decide), if_neg (show ¬ nI (50 * 256 + 40) = (5160 : Int32) by decide), if_neg (show ¬ nI (50 * 256 + 40) = (10250 : Int32) by decide), if_neg (show ¬ nI (50 * 256 + 40) = (10260 : Int32) by decide), if_neg (show ¬ nI (50 * 256 + 40) = (12810 : Int32) by decide), if_neg (show ¬ nI (50 * 256 + 40) = (12820 : Int32) by decide), if_neg (show ¬ nI (50 * 256 + 40) = (12830 : Int32) by decide), if_pos (show nI (50 * 256 + 40) = (12840 : Int32) by decide), kg_e k4, bd_id, show isM 50 40 = true by decide, bit_t, if_neg (show ¬ (1 : Int32) = 0 by decide)]
    have e : m_doMethod_94 (nI 50) (nI 40) 1 v = m_queueMethod 40 v := d94_50
    rw [e, qm40]
    exact (delQC P).sc n5 h1' h2' fc hl
  by_cases e12850 : p = 50 ∧ q = 50
  · obtain ⟨rfl, rfl⟩ := e12850
    rw [if_neg (show ¬ nI (50 * 256 + 50) = (5130 : Int32) by decide), if_neg (show ¬ (0 : Int32) = 1 by decide), if_neg (show ¬ nI (50 * 256 + 50) = (5130 : Int32) by decide), if_neg (show ¬ nI (50 * 256 + 50) = (5140 : Int32) by decide), if_neg (show ¬ nI (50 * 256 + 50) = (5160 : Int32) by decide), if_neg (show ¬ nI (50 * 256 + 50) = (10250 : Int32) by decide), if_neg (show ¬ nI (50 * 256 + 50) = (10260 : Int32) by decide), if_neg (show ¬ nI (50 * 256 + 50) = (12810 : Int32) by decide), if_neg (show ¬ nI (50 * 256 + 50) = (12820 : Int32) by decide), if_neg (show ¬ nI (50 * 256 + 50) = (12830 : Int32) by decide), if_neg (show ¬ nI (50 * 256 + 50) = (12840 : Int32) by decide), if_pos (show nI (50 * 256 + 50) = (12850 : Int32) by decide), kg_e k4, bd_id, show isM 50 50 = true by decide, bit_t, if_neg (show ¬ (1 : Int32) = 0 by decide)]
    have e : m_doMethod_94 (nI 50) (nI 50) 1 v = m_queueMethod 50 v := d94_50
    rw [e, qm50]
    exact (bindC P (.inr ⟨rfl, rfl⟩)).sc n5 h1' h2' fc hl
  by_cases e15370 : p = 60 ∧ q = 10
  · obtain ⟨rfl, rfl⟩ := e15370
    rw [if_neg (show ¬ nI (60 * 256 + 10) = (5130 : Int32) by decide), if_neg (show ¬ (0 : Int32) = 1 by decide), if_neg (show ¬ nI (60 * 256 + 10) = (5130 : Int32) by decide), if_neg (show ¬ nI (60 * 256 + 10) = (5140 : Int32) by decide), if_neg (show ¬ nI (60 * 256 + 10) = (5160 : Int32) by decide), if_neg (show ¬ nI (60 * 256 + 10) = (10250 : Int32) by decide), if_neg (show ¬ nI (60 * 256 + 10) = (10260 : Int32) by decide), if_neg (show ¬ nI (60 * 256 + 10) = (12810 : Int32) by decide), if_neg (show ¬ nI (60 * 256 + 10) = (12820 : Int32) by decide), if_neg (show ¬ nI (60 * 256 + 10) = (12830 : Int32) by decide), if_neg (show ¬ nI (60 * 256 + 10) = (12840 : Int32) by decide), if_neg (show ¬ nI (60 * 256 + 10) = (12850 : Int32) by decide), if_pos (show nI (60 * 256 + 10) = (15370 : Int32) by decide), kg_e k4, bd_id, show isM 60 10 = true by decide, bit_t, if_neg (show ¬ (1 : Int32) = 0 by decide)]
    have e : m_doMethod_94 (nI 60) (nI 10) 1 v = m_letterMethod 10 v := d94_60
    rw [e]
    exact (limitC P st).sc n5 h1' h2' fc hl
  by_cases e15380 : p = 60 ∧ q = 20
  · obtain ⟨rfl, rfl⟩ := e15380
    rw [if_neg (show ¬ nI (60 * 256 + 20) = (5130 : Int32) by decide), if_neg (show ¬ (0 : Int32) = 1 by decide), if_neg (show ¬ nI (60 * 256 + 20) = (5130 : Int32) by decide), if_neg (show ¬ nI (60 * 256 + 20) = (5140 : Int32) by decide), if_neg (show ¬ nI (60 * 256 + 20) = (5160 : Int32) by decide), if_neg (show ¬ nI (60 * 256 + 20) = (10250 : Int32) by decide), if_neg (show ¬ nI (60 * 256 + 20) = (10260 : Int32) by decide), if_neg (show ¬ nI (60 * 256 + 20) = (12810 : Int32) by decide), if_neg (show ¬ nI (60 * 256 + 20) = (12820 : Int32) by decide), if_neg (show ¬ nI (60 * 256 + 20) = (12830 : Int32) by decide), if_neg (show ¬ nI (60 * 256 + 20) = (12840 : Int32) by decide), if_neg (show ¬ nI (60 * 256 + 20) = (12850 : Int32) by decide), if_neg (show ¬ nI (60 * 256 + 20) = (15370 : Int32) by decide), if_pos (show nI (60 * 256 + 20) = (15380 : Int32) by decide), kg_e k4, bd_id, show isM 60 20 = true by decide, bit_t, if_neg (show ¬ (1 : Int32) = 0 by decide)]
    have e : m_doMethod_94 (nI 60) (nI 20) 1 v = m_letterMethod 20 v := d94_60
    rw [e, lm20]
    exact (consumeC P st).sc n5 h1' h2' fc hl
  by_cases e15390 : p = 60 ∧ q = 30
  · obtain ⟨rfl, rfl⟩ := e15390
    rw [if_neg (show ¬ nI (60 * 256 + 30) = (5130 : Int32) by decide), if_neg (show ¬ (0 : Int32) = 1 by decide), if_neg (show ¬ nI (60 * 256 + 30) = (5130 : Int32) by decide), if_neg (show ¬ nI (60 * 256 + 30) = (5140 : Int32) by decide), if_neg (show ¬ nI (60 * 256 + 30) = (5160 : Int32) by decide), if_neg (show ¬ nI (60 * 256 + 30) = (10250 : Int32) by decide), if_neg (show ¬ nI (60 * 256 + 30) = (10260 : Int32) by decide), if_neg (show ¬ nI (60 * 256 + 30) = (12810 : Int32) by decide), if_neg (show ¬ nI (60 * 256 + 30) = (12820 : Int32) by decide), if_neg (show ¬ nI (60 * 256 + 30) = (12830 : Int32) by decide), if_neg (show ¬ nI (60 * 256 + 30) = (12840 : Int32) by decide), if_neg (show ¬ nI (60 * 256 + 30) = (12850 : Int32) by decide), if_neg (show ¬ nI (60 * 256 + 30) = (15370 : Int32) by decide), if_neg (show ¬ nI (60 * 256 + 30) = (15380 : Int32) by decide), if_pos (show nI (60 * 256 + 30) = (15390 : Int32) by decide), kg_e k4, bd_id, show isM 60 30 = true by decide, bit_t, if_neg (show ¬ (1 : Int32) = 0 by decide)]
    have e : m_doMethod_94 (nI 60) (nI 30) 1 v = m_letterMethod 30 v := d94_60
    rw [e, lm30]
    exact (cancelC P).sc n5 h1' h2' fc hl
  by_cases e15400 : p = 60 ∧ q = 40
  · obtain ⟨rfl, rfl⟩ := e15400
    rw [if_neg (show ¬ nI (60 * 256 + 40) = (5130 : Int32) by decide), if_neg (show ¬ (0 : Int32) = 1 by decide), if_neg (show ¬ nI (60 * 256 + 40) = (5130 : Int32) by decide), if_neg (show ¬ nI (60 * 256 + 40) = (5140 : Int32) by decide), if_neg (show ¬ nI (60 * 256 + 40) = (5160 : Int32) by decide), if_neg (show ¬ nI (60 * 256 + 40) = (10250 : Int32) by decide), if_neg (show ¬ nI (60 * 256 + 40) = (10260 : Int32) by decide), if_neg (show ¬ nI (60 * 256 + 40) = (12810 : Int32) by decide), if_neg (show ¬ nI (60 * 256 + 40) = (12820 : Int32) by decide), if_neg (show ¬ nI (60 * 256 + 40) = (12830 : Int32) by decide), if_neg (show ¬ nI (60 * 256 + 40) = (12840 : Int32) by decide), if_neg (show ¬ nI (60 * 256 + 40) = (12850 : Int32) by decide), if_neg (show ¬ nI (60 * 256 + 40) = (15370 : Int32) by decide), if_neg (show ¬ nI (60 * 256 + 40) = (15380 : Int32) by decide), if_neg (show ¬ nI (60 * 256 + 40) = (15390 : Int32) by decide), if_pos (show nI (60 * 256 + 40) = (15400 : Int32) by decide), kg_e k4, bd_id, show isM 60 40 = true by decide, bit_t, if_neg (show ¬ (1 : Int32) = 0 by decide)]
    have e : m_doMethod_94 (nI 60) (nI 40) 1 v = m_letterMethod 40 v := d94_60
    rw [e, lm40]
    exact (publishC P st).sc n5 h1' h2' fc hl
  by_cases e15430 : p = 60 ∧ q = 70
  · obtain ⟨rfl, rfl⟩ := e15430
    rw [if_neg (show ¬ nI (60 * 256 + 70) = (5130 : Int32) by decide), if_neg (show ¬ (0 : Int32) = 1 by decide), if_neg (show ¬ nI (60 * 256 + 70) = (5130 : Int32) by decide), if_neg (show ¬ nI (60 * 256 + 70) = (5140 : Int32) by decide), if_neg (show ¬ nI (60 * 256 + 70) = (5160 : Int32) by decide), if_neg (show ¬ nI (60 * 256 + 70) = (10250 : Int32) by decide), if_neg (show ¬ nI (60 * 256 + 70) = (10260 : Int32) by decide), if_neg (show ¬ nI (60 * 256 + 70) = (12810 : Int32) by decide), if_neg (show ¬ nI (60 * 256 + 70) = (12820 : Int32) by decide), if_neg (show ¬ nI (60 * 256 + 70) = (12830 : Int32) by decide), if_neg (show ¬ nI (60 * 256 + 70) = (12840 : Int32) by decide), if_neg (show ¬ nI (60 * 256 + 70) = (12850 : Int32) by decide), if_neg (show ¬ nI (60 * 256 + 70) = (15370 : Int32) by decide), if_neg (show ¬ nI (60 * 256 + 70) = (15380 : Int32) by decide), if_neg (show ¬ nI (60 * 256 + 70) = (15390 : Int32) by decide), if_neg (show ¬ nI (60 * 256 + 70) = (15400 : Int32) by decide), if_pos (show nI (60 * 256 + 70) = (15430 : Int32) by decide), kg_e k4, bd_id, show isM 60 70 = true by decide, bit_t, if_neg (show ¬ (1 : Int32) = 0 by decide)]
    have e : m_doMethod_94 (nI 60) (nI 70) 1 v = m_letterMethod 70 v := d94_60
    rw [e, lm70]
    exact (getC P st).sc n5 h1' h2' fc hl
  by_cases e15440 : p = 60 ∧ q = 80
  · obtain ⟨rfl, rfl⟩ := e15440
    rw [if_neg (show ¬ nI (60 * 256 + 80) = (5130 : Int32) by decide), if_neg (show ¬ (0 : Int32) = 1 by decide), if_neg (show ¬ nI (60 * 256 + 80) = (5130 : Int32) by decide), if_neg (show ¬ nI (60 * 256 + 80) = (5140 : Int32) by decide), if_neg (show ¬ nI (60 * 256 + 80) = (5160 : Int32) by decide), if_neg (show ¬ nI (60 * 256 + 80) = (10250 : Int32) by decide), if_neg (show ¬ nI (60 * 256 + 80) = (10260 : Int32) by decide), if_neg (show ¬ nI (60 * 256 + 80) = (12810 : Int32) by decide), if_neg (show ¬ nI (60 * 256 + 80) = (12820 : Int32) by decide), if_neg (show ¬ nI (60 * 256 + 80) = (12830 : Int32) by decide), if_neg (show ¬ nI (60 * 256 + 80) = (12840 : Int32) by decide), if_neg (show ¬ nI (60 * 256 + 80) = (12850 : Int32) by decide), if_neg (show ¬ nI (60 * 256 + 80) = (15370 : Int32) by decide), if_neg (show ¬ nI (60 * 256 + 80) = (15380 : Int32) by decide), if_neg (show ¬ nI (60 * 256 + 80) = (15390 : Int32) by decide), if_neg (show ¬ nI (60 * 256 + 80) = (15400 : Int32) by decide), if_neg (show ¬ nI (60 * 256 + 80) = (15430 : Int32) by decide), if_pos (show nI (60 * 256 + 80) = (15440 : Int32) by decide), kg_e k4, bd_id, show isM 60 80 = true by decide, bit_t, if_neg (show ¬ (1 : Int32) = 0 by decide)]
    have e : m_doMethod_94 (nI 60) (nI 80) 1 v = m_letterMethod 80 v := d94_60
    rw [e]
    exact (ackC P st).sc n5 h1' h2' fc hl
  by_cases e15450 : p = 60 ∧ q = 90
  · obtain ⟨rfl, rfl⟩ := e15450
    rw [if_neg (show ¬ nI (60 * 256 + 90) = (5130 : Int32) by decide), if_neg (show ¬ (0 : Int32) = 1 by decide), if_neg (show ¬ nI (60 * 256 + 90) = (5130 : Int32) by decide), if_neg (show ¬ nI (60 * 256 + 90) = (5140 : Int32) by decide), if_neg (show ¬ nI (60 * 256 + 90) = (5160 : Int32) by decide), if_neg (show ¬ nI (60 * 256 + 90) = (10250 : Int32) by decide), if_neg (show ¬ nI (60 * 256 + 90) = (10260 : Int32) by decide), if_neg (show ¬ nI (60 * 256 + 90) = (12810 : Int32) by decide), if_neg (show ¬ nI (60 * 256 + 90) = (12820 : Int32) by decide), if_neg (show ¬ nI (60 * 256 + 90) = (12830 : Int32) by decide), if_neg (show ¬ nI (60 * 256 + 90) = (12840 : Int32) by decide), if_neg (show ¬ nI (60 * 256 + 90) = (12850 : Int32) by decide), if_neg (show ¬ nI (60 * 256 + 90) = (15370 : Int32) by decide), if_neg (show ¬ nI (60 * 256 + 90) = (15380 : Int32) by decide), if_neg (show ¬ nI (60 * 256 + 90) = (15390 : Int32) by decide), if_neg (show ¬ nI (60 * 256 + 90) = (15400 : Int32) by decide), if_neg (show ¬ nI (60 * 256 + 90) = (15430 : Int32) by decide), if_neg (show ¬ nI (60 * 256 + 90) = (15440 : Int32) by decide), if_pos (show nI (60 * 256 + 90) = (15450 : Int32) by decide), kg_e k4, bd_id, show isM 60 90 = true by decide, bit_t, if_neg (show ¬ (1 : Int32) = 0 by decide)]
    have e : m_doMethod_94 (nI 60) (nI 90) 1 v = m_letterMethod 90 v := d94_60
    rw [e]
    exact (rejectC P st).sc n5 h1' h2' fc hl
  by_cases e15470 : p = 60 ∧ q = 110
  · obtain ⟨rfl, rfl⟩ := e15470
    rw [if_neg (show ¬ nI (60 * 256 + 110) = (5130 : Int32) by decide), if_neg (show ¬ (0 : Int32) = 1 by decide), if_neg (show ¬ nI (60 * 256 + 110) = (5130 : Int32) by decide), if_neg (show ¬ nI (60 * 256 + 110) = (5140 : Int32) by decide), if_neg (show ¬ nI (60 * 256 + 110) = (5160 : Int32) by decide), if_neg (show ¬ nI (60 * 256 + 110) = (10250 : Int32) by decide), if_neg (show ¬ nI (60 * 256 + 110) = (10260 : Int32) by decide), if_neg (show ¬ nI (60 * 256 + 110) = (12810 : Int32) by decide), if_neg (show ¬ nI (60 * 256 + 110) = (12820 : Int32) by decide), if_neg (show ¬ nI (60 * 256 + 110) = (12830 : Int32) by decide), if_neg (show ¬ nI (60 * 256 + 110) = (12840 : Int32) by decide), if_neg (show ¬ nI (60 * 256 + 110) = (12850 : Int32) by decide), if_neg (show ¬ nI (60 * 256 + 110) = (15370 : Int32) by decide), if_neg (show ¬ nI (60 * 256 + 110) = (15380 : Int32) by decide), if_neg (show ¬ nI (60 * 256 + 110) = (15390 : Int32) by decide), if_neg (show ¬ nI (60 * 256 + 110) = (15400 : Int32) by decide), if_neg (show ¬ nI (60 * 256 + 110) = (15430 : Int32) by decide), if_neg (show ¬ nI (60 * 256 + 110) = (15440 : Int32) by decide), if_neg (show ¬ nI (60 * 256 + 110) = (15450 : Int32) by decide), if_pos (show nI (60 * 256 + 110) = (15470 : Int32) by decide), kg_e k4, bd_id, show isM 60 110 = true by decide, bit_t, if_neg (show ¬ (1 : Int32) = 0 by decide)]
    have e : m_doMethod_94 (nI 60) (nI 110) 1 v = m_letterMethod 110 v := d94_60
    rw [e]
    exact (recoverC P).sc n5 h1' h2' fc hl
  by_cases e15480 : p = 60 ∧ q = 120
  · obtain ⟨rfl, rfl⟩ := e15480
    rw [if_neg (show ¬ nI (60 * 256 + 120) = (5130 : Int32) by decide), if_neg (show ¬ (0 : Int32) = 1 by decide), if_neg (show ¬ nI (60 * 256 + 120) = (5130 : Int32) by decide), if_neg (show ¬ nI (60 * 256 + 120) = (5140 : Int32) by decide), if_neg (show ¬ nI (60 * 256 + 120) = (5160 : Int32) by decide), if_neg (show ¬ nI (60 * 256 + 120) = (10250 : Int32) by decide), if_neg (show ¬ nI (60 * 256 + 120) = (10260 : Int32) by decide), if_neg (show ¬ nI (60 * 256 + 120) = (12810 : Int32) by decide), if_neg (show ¬ nI (60 * 256 + 120) = (12820 : Int32) by decide), if_neg (show ¬ nI (60 * 256 + 120) = (12830 : Int32) by decide), if_neg (show ¬ nI (60 * 256 + 120) = (12840 : Int32) by decide), if_neg (show ¬ nI (60 * 256 + 120) = (12850 : Int32) by decide), if_neg (show ¬ nI (60 * 256 + 120) = (15370 : Int32) by decide), if_neg (show ¬ nI (60 * 256 + 120) = (15380 : Int32) by decide), if_neg (show ¬ nI (60 * 256 + 120) = (15390 : Int32) by decide), if_neg (show ¬ nI (60 * 256 + 120) = (15400 : Int32) by decide), if_neg (show ¬ nI (60 * 256 + 120) = (15430 : Int32) by decide), if_neg (show ¬ nI (60 * 256 + 120) = (15440 : Int32) by decide), if_neg (show ¬ nI (60 * 256 + 120) = (15450 : Int32) by decide), if_neg (show ¬ nI (60 * 256 + 120) = (15470 : Int32) by decide), if_pos (show nI (60 * 256 + 120) = (15480 : Int32) by decide), kg_e k4, bd_id, show isM 60 120 = true by decide, bit_t, if_neg (show ¬ (1 : Int32) = 0 by decide)]
    have e : m_doMethod_94 (nI 60) (nI 120) 1 v = m_letterMethod 120 v := d94_60
    rw [e]
    exact (refuseC P st).sc n5 h1' h2' fc hl
  by_cases e23050 : p = 90 ∧ q = 10
  · obtain ⟨rfl, rfl⟩ := e23050
    rw [if_neg (show ¬ nI (90 * 256 + 10) = (5130 : Int32) by decide), if_neg (show ¬ (0 : Int32) = 1 by decide), if_neg (show ¬ nI (90 * 256 + 10) = (5130 : Int32) by decide), if_neg (show ¬ nI (90 * 256 + 10) = (5140 : Int32) by decide), if_neg (show ¬ nI (90 * 256 + 10) = (5160 : Int32) by decide), if_neg (show ¬ nI (90 * 256 + 10) = (10250 : Int32) by decide), if_neg (show ¬ nI (90 * 256 + 10) = (10260 : Int32) by decide), if_neg (show ¬ nI (90 * 256 + 10) = (12810 : Int32) by decide), if_neg (show ¬ nI (90 * 256 + 10) = (12820 : Int32) by decide), if_neg (show ¬ nI (90 * 256 + 10) = (12830 : Int32) by decide), if_neg (show ¬ nI (90 * 256 + 10) = (12840 : Int32) by decide), if_neg (show ¬ nI (90 * 256 + 10) = (12850 : Int32) by decide), if_neg (show ¬ nI (90 * 256 + 10) = (15370 : Int32) by decide), if_neg (show ¬ nI (90 * 256 + 10) = (15380 : Int32) by decide), if_neg (show ¬ nI (90 * 256 + 10) = (15390 : Int32) by decide), if_neg (show ¬ nI (90 * 256 + 10) = (15400 : Int32) by decide), if_neg (show ¬ nI (90 * 256 + 10) = (15430 : Int32) by decide), if_neg (show ¬ nI (90 * 256 + 10) = (15440 : Int32) by decide), if_neg (show ¬ nI (90 * 256 + 10) = (15450 : Int32) by decide), if_neg (show ¬ nI (90 * 256 + 10) = (15470 : Int32) by decide), if_neg (show ¬ nI (90 * 256 + 10) = (15480 : Int32) by decide), if_pos (show nI (90 * 256 + 10) = (23050 : Int32) by decide), kg_e k4, bd_id, show isM 90 10 = true by decide, bit_t, if_neg (show ¬ (1 : Int32) = 0 by decide)]
    have e : m_doMethod_94 (nI 90) (nI 10) 1 v = m_transactionMethod 10 v := d94_90
    rw [e]
    exact (transC P st).sc n5 h1' h2' fc hl
  by_cases e23060 : p = 90 ∧ q = 20
  · obtain ⟨rfl, rfl⟩ := e23060
    rw [if_neg (show ¬ nI (90 * 256 + 20) = (5130 : Int32) by decide), if_neg (show ¬ (0 : Int32) = 1 by decide), if_neg (show ¬ nI (90 * 256 + 20) = (5130 : Int32) by decide), if_neg (show ¬ nI (90 * 256 + 20) = (5140 : Int32) by decide), if_neg (show ¬ nI (90 * 256 + 20) = (5160 : Int32) by decide), if_neg (show ¬ nI (90 * 256 + 20) = (10250 : Int32) by decide), if_neg (show ¬ nI (90 * 256 + 20) = (10260 : Int32) by decide), if_neg (show ¬ nI (90 * 256 + 20) = (12810 : Int32) by decide), if_neg (show ¬ nI (90 * 256 + 20) = (12820 : Int32) by decide), if_neg (show ¬ nI (90 * 256 + 20) = (12830 : Int32) by decide), if_neg (show ¬ nI (90 * 256 + 20) = (12840 : Int32) by decide), if_neg (show ¬ nI (90 * 256 + 20) = (12850 : Int32) by decide), if_neg (show ¬ nI (90 * 256 + 20) = (15370 : Int32) by decide), if_neg (show ¬ nI (90 * 256 + 20) = (15380 : Int32) by decide), if_neg (show ¬ nI (90 * 256 + 20) = (15390 : Int32) by decide), if_neg (show ¬ nI (90 * 256 + 20) = (15400 : Int32) by decide), if_neg (show ¬ nI (90 * 256 + 20) = (15430 : Int32) by decide), if_neg (show ¬ nI (90 * 256 + 20) = (15440 : Int32) by decide), if_neg (show ¬ nI (90 * 256 + 20) = (15450 : Int32) by decide), if_neg (show ¬ nI (90 * 256 + 20) = (15470 : Int32) by decide), if_neg (show ¬ nI (90 * 256 + 20) = (15480 : Int32) by decide), if_neg (show ¬ nI (90 * 256 + 20) = (23050 : Int32) by decide), if_pos (show nI (90 * 256 + 20) = (23060 : Int32) by decide), kg_e k4, bd_id, show isM 90 20 = true by decide, bit_t, if_neg (show ¬ (1 : Int32) = 0 by decide)]
    have e : m_doMethod_94 (nI 90) (nI 20) 1 v = m_transactionMethod 20 v := d94_90
    rw [e]
    rcases commitC P st with z | z
    · exact z.sc n5 h1' h2' fc hl
    · exact z.sc n5 h1' h2' fc hl
  by_cases e23070 : p = 90 ∧ q = 30
  · obtain ⟨rfl, rfl⟩ := e23070
    rw [if_neg (show ¬ nI (90 * 256 + 30) = (5130 : Int32) by decide), if_neg (show ¬ (0 : Int32) = 1 by decide), if_neg (show ¬ nI (90 * 256 + 30) = (5130 : Int32) by decide), if_neg (show ¬ nI (90 * 256 + 30) = (5140 : Int32) by decide), if_neg (show ¬ nI (90 * 256 + 30) = (5160 : Int32) by decide), if_neg (show ¬ nI (90 * 256 + 30) = (10250 : Int32) by decide), if_neg (show ¬ nI (90 * 256 + 30) = (10260 : Int32) by decide), if_neg (show ¬ nI (90 * 256 + 30) = (12810 : Int32) by decide), if_neg (show ¬ nI (90 * 256 + 30) = (12820 : Int32) by decide), if_neg (show ¬ nI (90 * 256 + 30) = (12830 : Int32) by decide), if_neg (show ¬ nI (90 * 256 + 30) = (12840 : Int32) by decide), if_neg (show ¬ nI (90 * 256 + 30) = (12850 : Int32) by decide), if_neg (show ¬ nI (90 * 256 + 30) = (15370 : Int32) by decide), if_neg (show ¬ nI (90 * 256 + 30) = (15380 : Int32) by decide), if_neg (show ¬ nI (90 * 256 + 30) = (15390 : Int32) by decide), if_neg (show ¬ nI (90 * 256 + 30) = (15400 : Int32) by decide), if_neg (show ¬ nI (90 * 256 + 30) = (15430 : Int32) by decide), if_neg (show ¬ nI (90 * 256 + 30) = (15440 : Int32) by decide), if_neg (show ¬ nI (90 * 256 + 30) = (15450 : Int32) by decide), if_neg (show ¬ nI (90 * 256 + 30) = (15470 : Int32) by decide), if_neg (show ¬ nI (90 * 256 + 30) = (15480 : Int32) by decide), if_neg (show ¬ nI (90 * 256 + 30) = (23050 : Int32) by decide), if_neg (show ¬ nI (90 * 256 + 30) = (23060 : Int32) by decide), if_pos (show nI (90 * 256 + 30) = (23070 : Int32) by decide), kg_e k4, bd_id, show isM 90 30 = true by decide, bit_t, if_neg (show ¬ (1 : Int32) = 0 by decide)]
    have e : m_doMethod_94 (nI 90) (nI 30) 1 v = m_transactionMethod 30 v := d94_90
    rw [e]
    exact (rollC P).sc n5 h1' h2' fc hl
  have nm : isM p q = false := by
    cases hm : isM p q with
    | false => rfl
    | true =>
      exfalso
      have z := of_decide_eq_true hm
      rcases isM_l z with ⟨z1, z2⟩ | ⟨z1, z2⟩ | ⟨z1, z2⟩ | ⟨z1, z2⟩ | ⟨z1, z2⟩ | ⟨z1, z2⟩ | ⟨z1, z2⟩ | ⟨z1, z2⟩ | ⟨z1, z2⟩ | ⟨z1, z2⟩ | ⟨z1, z2⟩ | ⟨z1, z2⟩ | ⟨z1, z2⟩ | ⟨z1, z2⟩ | ⟨z1, z2⟩ | ⟨z1, z2⟩ | ⟨z1, z2⟩ | ⟨z1, z2⟩ | ⟨z1, z2⟩ | ⟨z1, z2⟩ | ⟨z1, z2⟩
      · exact e5140 ⟨z1, z2⟩
      · exact e5160 ⟨z1, z2⟩
      · exact e10250 ⟨z1, z2⟩
      · exact e10260 ⟨z1, z2⟩
      · exact e12810 ⟨z1, z2⟩
      · exact e12820 ⟨z1, z2⟩
      · exact e12830 ⟨z1, z2⟩
      · exact e12840 ⟨z1, z2⟩
      · exact e12850 ⟨z1, z2⟩
      · exact e15370 ⟨z1, z2⟩
      · exact e15380 ⟨z1, z2⟩
      · exact e15390 ⟨z1, z2⟩
      · exact e15400 ⟨z1, z2⟩
      · exact e15430 ⟨z1, z2⟩
      · exact e15440 ⟨z1, z2⟩
      · exact e15450 ⟨z1, z2⟩
      · exact e15470 ⟨z1, z2⟩
      · exact e15480 ⟨z1, z2⟩
      · exact e23050 ⟨z1, z2⟩
      · exact e23060 ⟨z1, z2⟩
      · exact e23070 ⟨z1, z2⟩
  rw [nm, bit_f, if_pos rfl, d94_0]
  by_cases e5130 : p = 20 ∧ q = 10
  · obtain ⟨rfl, rfl⟩ := e5130
    rw [if_pos (show nI (20 * 256 + 10) = (5130 : Int32) by decide), if_pos (show (1 : Int32) = 1 from rfl)]
    exact bad
  rw [if_neg (show ¬ nI (p * 256 + q) = (5130 : Int32) from fun y => e5130 ((ab_eq (k := 5130) hp hq (by decide)).mp y)), if_neg (show ¬ (0 : Int32) = 1 by decide), if_neg (show ¬ nI (p * 256 + q) = (5130 : Int32) from fun y => e5130 ((ab_eq (k := 5130) hp hq (by decide)).mp y)), if_neg (show ¬ nI (p * 256 + q) = (5140 : Int32) from fun y => e5140 ((ab_eq (k := 5140) hp hq (by decide)).mp y)), if_neg (show ¬ nI (p * 256 + q) = (5160 : Int32) from fun y => e5160 ((ab_eq (k := 5160) hp hq (by decide)).mp y)), if_neg (show ¬ nI (p * 256 + q) = (10250 : Int32) from fun y => e10250 ((ab_eq (k := 10250) hp hq (by decide)).mp y)), if_neg (show ¬ nI (p * 256 + q) = (10260 : Int32) from fun y => e10260 ((ab_eq (k := 10260) hp hq (by decide)).mp y)), if_neg (show ¬ nI (p * 256 + q) = (12810 : Int32) from fun y => e12810 ((ab_eq (k := 12810) hp hq (by decide)).mp y)), if_neg (show ¬ nI (p * 256 + q) = (12820 : Int32) from fun y => e12820 ((ab_eq (k := 12820) hp hq (by decide)).mp y)), if_neg (show ¬ nI (p * 256 + q) = (12830 : Int32) from fun y => e12830 ((ab_eq (k := 12830) hp hq (by decide)).mp y)), if_neg (show ¬ nI (p * 256 + q) = (12840 : Int32) from fun y => e12840 ((ab_eq (k := 12840) hp hq (by decide)).mp y)), if_neg (show ¬ nI (p * 256 + q) = (12850 : Int32) from fun y => e12850 ((ab_eq (k := 12850) hp hq (by decide)).mp y)), if_neg (show ¬ nI (p * 256 + q) = (15370 : Int32) from fun y => e15370 ((ab_eq (k := 15370) hp hq (by decide)).mp y)), if_neg (show ¬ nI (p * 256 + q) = (15380 : Int32) from fun y => e15380 ((ab_eq (k := 15380) hp hq (by decide)).mp y)), if_neg (show ¬ nI (p * 256 + q) = (15390 : Int32) from fun y => e15390 ((ab_eq (k := 15390) hp hq (by decide)).mp y)), if_neg (show ¬ nI (p * 256 + q) = (15400 : Int32) from fun y => e15400 ((ab_eq (k := 15400) hp hq (by decide)).mp y)), if_neg (show ¬ nI (p * 256 + q) = (15430 : Int32) from fun y => e15430 ((ab_eq (k := 15430) hp hq (by decide)).mp y)), if_neg (show ¬ nI (p * 256 + q) = (15440 : Int32) from fun y => e15440 ((ab_eq (k := 15440) hp hq (by decide)).mp y)), if_neg (show ¬ nI (p * 256 + q) = (15450 : Int32) from fun y => e15450 ((ab_eq (k := 15450) hp hq (by decide)).mp y)), if_neg (show ¬ nI (p * 256 + q) = (15470 : Int32) from fun y => e15470 ((ab_eq (k := 15470) hp hq (by decide)).mp y)), if_neg (show ¬ nI (p * 256 + q) = (15480 : Int32) from fun y => e15480 ((ab_eq (k := 15480) hp hq (by decide)).mp y)), if_neg (show ¬ nI (p * 256 + q) = (23050 : Int32) from fun y => e23050 ((ab_eq (k := 23050) hp hq (by decide)).mp y)), if_neg (show ¬ nI (p * 256 + q) = (23060 : Int32) from fun y => e23060 ((ab_eq (k := 23060) hp hq (by decide)).mp y)), if_neg (show ¬ nI (p * 256 + q) = (23070 : Int32) from fun y => e23070 ((ab_eq (k := 23070) hp hq (by decide)).mp y))]
  exact bad
theorem domC {p q : Nat} (P : Pre t h v c G wr) (hh : 27 ≤ hz h) (fc : gI h 6 1 = nI c) (hp : p < 256) (hq : q < 256) : SC t h v (f_X11_doMethod 4 (some (chA c)) (nI (p * 256 + q)) h) (if v.1 0 = 4 then mrI v 35 (v.1 54) fun x_5 => if x_5 = 1 then bdm (m_isMethod (nI p) (nI q) v) fun x_7 v_6 => if x_7 = 0 then m_doMethod_94 (nI p) (nI q) 0 v_6 else m_doMethod_94 (nI p) (nI q) 1 v_6 else if nI p = 20 then if nI q = 10 then m_doMethod_94 (nI p) (nI q) 1 v else m_doMethod_94 (nI p) (nI q) 0 v else m_doMethod_94 (nI p) (nI q) 0 v else m_doMethod_94 (nI p) (nI q) 0 v) := by
  have a := P.1
  have e54 := P.2.2.1
  have h1' := P.2.2.2.1
  have h2' := P.2.2.2.2.1
  have hl := P.2.2.2.2.2.1
  have s0 := a.1.2.1.1
  have k4 := s0.1
  have kc := (s0.ch h1' h2').1
  have s3 := (a.1.2.1.2.1.2.2 c h1' h2').1
  have bad : SC t h v (some (503, h)) (m_hard 503 v) := hard_sc a (e := 503) (by decide) h2' fc hl
  have cls : f_X11_doMethod 4 (some (chA c)) (nI (p * 256 + q)) h = f_X11_doMethod_26 4 (some (chA c)) (nI (p * 256 + q)) (if nI (p * 256 + q) = 5130 then 1 else 0) (if v.2.1 35 c = 1 then 1 else 0) h := by
    unfold f_X11_doMethod f_X11_doMethod_12
    by_cases z : nI (p * 256 + q) = 5130
    · rw [if_pos z, if_pos z, nn_s, rdI_e kc, s3]
      split <;> rfl
    · rw [if_neg z, if_neg z, nn_s, rdI_e kc, s3]
      split <;> rfl
  rw [cls, e54]
  by_cases e0 : v.1 0 = 4
  · rw [if_pos e0, mrI_e (show c < 4 by omega) (by decide)]
    by_cases st : v.2.1 35 c = 1
    · rw [if_pos st, if_pos st, isM_ok hp hq, bdm_s]
      exact openM P st e0 hh fc hp hq
    · rw [if_neg st, if_neg st]
      have n5 : L4 (v.1 0) := ⟨4, by decide, by decide, e0⟩
      unfold f_X11_doMethod_26
      rw [rdI_e k4, a.2.2.1, if_pos e0]
      by_cases e : p = 20 ∧ q = 10
      · obtain ⟨rfl, rfl⟩ := e
        rw [if_pos (show nI (20 * 256 + 10) = (5130 : Int32) by decide), if_neg (show ¬ (1 : Int32) = 0 by decide), if_pos (show nI (20 * 256 + 10) = (5130 : Int32) by decide), kg_e k4, bd_id, if_pos (show nI 20 = (20 : Int32) from rfl), if_pos (show nI 10 = (10 : Int32) from rfl)]
        have e : m_doMethod_94 (nI 20) (nI 10) 1 v = m_channelMethod 10 v := d94_20
        rw [e]
        exact (openC P st).sc n5 h1' h2' fc hl
      · rw [if_neg (show ¬ nI (p * 256 + q) = (5130 : Int32) from fun y => e ((ab_eq (k := 5130) hp hq (by decide)).mp y)), if_pos rfl, d94_0]
        have em : (if nI p = 20 then if nI q = 10 then m_doMethod_94 (nI p) (nI q) 1 v else m_hard 503 v else m_hard 503 v) = m_hard 503 v := by
          by_cases y1 : nI p = 20
          · rw [if_pos y1, if_neg]
            intro y2
            exact e ⟨(bN8 (k := 20) hp (by decide)).mp y1, (bN8 (k := 10) hq (by decide)).mp y2⟩
          · rw [if_neg y1]
        rw [em]
        exact bad
  · rw [if_neg e0, d94_0]
    unfold f_X11_doMethod_26
    rw [rdI_e k4, a.2.2.1, if_neg e0]
    exact bad
end Dm2

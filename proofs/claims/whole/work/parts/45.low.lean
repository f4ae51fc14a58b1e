/-! printed by wip/whole/gen/lower.py -/
-- X12_greet
def m_greet_44 (v : MV) : Option (Int32 × MV) := bdm (m_hard 501 v) fun _ v_1 =>
  some (1, v_1)
set_option maxHeartbeats 4000000 in
theorem e_X12_greet_44 {m0 : Nat} {h : AH} (S : MSh m0 h) (v : MV) : f_X12_greet_44 m0 (mput h m0 v) = mm h m0 (m_greet_44  v) := by
  unfold f_X12_greet_44 m_greet_44
  simp only [bd_mm, l_kg S, ltd, mm_bdm, mm_ite, mm_none, mm_some, nn_s, e_X12_hard S]
def m_greet_59 (v : MV) : Option (Int32 × MV) := bdm (m_drop 8 v) fun _ v_1 =>
  bdm (m_say 0 10 10 v_1) fun _ v_2 =>
  mwI v_2 0 1 fun v_3 =>
  some (1, v_3)
set_option maxHeartbeats 4000000 in
theorem e_X12_greet_59 {m0 : Nat} {h : AH} (S : MSh m0 h) (v : MV) : f_X12_greet_59 m0 (mput h m0 v) = mm h m0 (m_greet_59  v) := by
  unfold f_X12_greet_59 m_greet_59
  simp only [bd_mm, l_kg S, l_wrI S, ltd, mm_bdm, mm_ite, mm_mwI, mm_none, mm_some, nn_s, e_X12_drop S, e_X12_say S]
def m_greet_2 : Nat → Int32 → MV → Option (Int32 × MV)
  | 0, _, _ => none
  | n + 1, x1, v => (if 8 ≤ x1 then
      m_greet_59  v
    else
      (if x1 < (v.1 2) then
        mrI v 1 x1 fun x_1 =>
        (if (lg_cmp x_1.toInt64 (((4705506589711272193 : Int64) >>> ((56 - (8 * x1)).toInt64 &&& 63)) &&& 255)) = 0 then
          m_greet_2 n (x1 + 1) v
        else
          m_greet_44  v)
      else
        some (0, v)))
set_option maxHeartbeats 4000000 in
theorem e_X12_greet_2 {m0 : Nat} {h : AH} (S : MSh m0 h) : ∀ (n : Nat) (x1 : Int32) (v : MV), f_X12_greet_2 n m0 x1 (mput h m0 v) = mm h m0 (m_greet_2 n x1 v) := by
  intro n
  induction n with
  | zero => intros; rfl
  | succ n ih =>
    intro x1 v
    rw [f_X12_greet_2, m_greet_2]
    simp only [lA_1 S, lR_1 S, l_rdI S, ltd, mm_ite, mm_mrI, mm_none, mm_some, nn_s, e_X12_greet_44 S, e_X12_greet_59 S, ih]
def m_greet (v : MV) : Option (Int32 × MV) := m_greet_2 FU 0 v
set_option maxHeartbeats 4000000 in
theorem e_X12_greet {m0 : Nat} {h : AH} (S : MSh m0 h) (v : MV) : f_X12_greet m0 (mput h m0 v) = mm h m0 (m_greet  v) := by
  unfold f_X12_greet m_greet
  simp only [ltd, mm_ite, mm_none, mm_some, nn_s, e_X12_greet_2 S]
-- X12_step
def m_step_106 : Nat → MV → Option (Int32 × MV)
  | 0, _ => none
  | n + 1, v => (if (v.1 0) = 4 then
      bdm (m_deliver v) fun x_2 v_1 =>
      (if x_2 = 0 then
        some (1, v_1)
      else
        mwI v_1 54 0 fun v_3 =>
        m_step_106 n  v_3)
    else
      some (1, v))
set_option maxHeartbeats 4000000 in
theorem e_X12_step_106 {m0 : Nat} {h : AH} (S : MSh m0 h) : ∀ (n : Nat) (v : MV), f_X12_step_106 n m0 (mput h m0 v) = mm h m0 (m_step_106 n  v) := by
  intro n
  induction n with
  | zero => intros; rfl
  | succ n ih =>
    intro  v
    rw [f_X12_step_106, m_step_106]
    simp only [bd_mm, l_kg S, l_rdI S, l_wrI S, ltd, mm_bdm, mm_ite, mm_mwI, mm_none, mm_some, nn_s, e_X12_deliver S, ih]
def m_step (v : MV) : Option (Int32 × MV) := (if (v.1 0) = 5 then
    some (((-1)), v)
  else
    (if (v.1 4) < 500 then
      (if (v.1 0) = 0 then
        bdm (m_greet v) fun x_13 v_12 =>
        some (x_13, v_12)
      else
        bdm (m_frameLength v) fun x_2 v_1 =>
        (if x_2 = 0 then
          some (0, v_1)
        else
          (if 0 ≤ x_2 then
            mrI v_1 1 1 fun x_3 =>
            mwI v_1 54 x_3 fun v_4 =>
            mwI v_4 55 3 fun v_5 =>
            mwI v_5 56 (x_2 - 1) fun v_6 =>
            mwZ v_6 57 0 fun v_7 =>
            mrI v_7 1 0 fun x_8 =>
            bdm (m_frame x_8 v_7) fun _ v_9 =>
            (if (v_9.1 0) = 5 then
              m_step_106 FU  v_9
            else
              bdm (m_drop x_2 v_9) fun _ v_10 =>
              m_step_106 FU  v_10)
          else
            bdm (m_hard 501 v_1) fun _ v_11 =>
            some (1, v_11))))
    else
      some (((-1)), v)))
set_option maxHeartbeats 4000000 in
theorem e_X12_step {m0 : Nat} {h : AH} (S : MSh m0 h) (v : MV) : f_X12_step m0 (mput h m0 v) = mm h m0 (m_step  v) := by
  unfold f_X12_step m_step
  simp only [bd_mm, lA_1 S, lR_1 S, l_kg S, l_rdI S, l_wrI S, l_wrZ S, ltd, mm_bdm, mm_ite, mm_mrI, mm_mwI, mm_mwZ, mm_none, mm_some, nn_s, e_X12_drop S, e_X12_frame S, e_X12_frameLength S, e_X12_greet S, e_X12_hard S, e_X12_step_106 S]

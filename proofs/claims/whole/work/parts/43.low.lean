/-! printed by wip/whole/gen/lower.py -/
-- X12_nextTruth
def m_nextTruth (v : MV) : Option (Int32 × MV) := bdm (m_next v) fun x_2 v_1 =>
  (if x_2 = 0 then
    rz 0 (some (0, v_1))
  else
    rz 1 (some (1, v_1)))
set_option maxHeartbeats 4000000 in
theorem e_X12_nextTruth {m0 : Nat} {h : AH} (S : MSh m0 h) (v : MV) : f_X12_nextTruth m0 (mput h m0 v) = mm h m0 (m_nextTruth  v) := by
  unfold f_X12_nextTruth m_nextTruth
  simp only [bd_mm, l_kg S, ltd, mm_bdm, mm_ite, mm_none, mm_rz, mm_some, nn_s, e_X12_next S]
-- X12_removeBinding
def m_removeBinding_12 : Nat → Int32 → MV → Option (Unit × MV)
  | 0, _, _ => none
  | n + 1, x2, v => (if (v.1 13) ≤ x2 then
      some ((), v)
    else
      mrJ v 14 (x2 + 1) fun x_1 =>
      msJ v 14 x2 x_1 fun v_2 =>
      mrJ v_2 15 (x2 + 1) fun x_3 =>
      msJ v_2 15 x2 x_3 fun v_4 =>
      mrJ v_4 16 (x2 + 1) fun x_5 =>
      msJ v_4 16 x2 x_5 fun v_6 =>
      m_removeBinding_12 n (x2 + 1) v_6)
set_option maxHeartbeats 4000000 in
theorem e_X12_removeBinding_12 {m0 : Nat} {h : AH} (S : MSh m0 h) : ∀ (n : Nat) (x2 : Int32) (v : MV), f_X12_removeBinding_12 n m0 x2 (mput h m0 v) = mm h m0 (m_removeBinding_12 n x2 v) := by
  intro n
  induction n with
  | zero => intros; rfl
  | succ n ih =>
    intro x2 v
    rw [f_X12_removeBinding_12, m_removeBinding_12]
    simp only [lA_14 S, lA_15 S, lA_16 S, lR_14 S, lR_15 S, lR_16 S, lS_14 S, lS_15 S, lS_16 S, l_rdI S, ltd, mm_ite, mm_mrJ, mm_msJ, mm_none, mm_some, nn_s, ih]
def m_removeBinding (x1 : Int32) (v : MV) : Option (Unit × MV) := mwI v 13 ((v.1 13) - 1) fun v_1 =>
  m_removeBinding_12 FU x1 v_1
set_option maxHeartbeats 4000000 in
theorem e_X12_removeBinding {m0 : Nat} {h : AH} (S : MSh m0 h) (x1 : Int32) (v : MV) : f_X12_removeBinding m0 x1 (mput h m0 v) = mm h m0 (m_removeBinding x1 v) := by
  unfold f_X12_removeBinding m_removeBinding
  simp only [l_rdI S, l_wrI S, ltd, mm_ite, mm_mwI, mm_none, mm_some, nn_s, e_X12_removeBinding_12 S]
-- X12_removeExchange
def m_removeExchange_32 (k7 : Int32 → Int32 → MV → Option (Unit × MV)) (x1 : Int32) (x2 : Int32) (v : MV) : Option (Unit × MV) := k7 x1 (x2 + (-1)) v
set_option maxHeartbeats 4000000 in
theorem e_X12_removeExchange_32 {m0 : Nat} {h : AH} (S : MSh m0 h) {k7 : Nat → Int32 → Int32 → AH → Option (Unit × AH)} {j7 : Int32 → Int32 → MV → Option (Unit × MV)} (c7 : ∀ (x1 : Int32) (x2 : Int32) (v : MV), k7 m0 x1 x2 (mput h m0 v) = mm h m0 (j7 x1 x2 v)) (x1 : Int32) (x2 : Int32) (v : MV) : f_X12_removeExchange_32 k7 m0 x1 x2 (mput h m0 v) = mm h m0 (m_removeExchange_32 j7 x1 x2 v) := by
  unfold f_X12_removeExchange_32 m_removeExchange_32
  simp only [ltd, mm_ite, mm_none, mm_some, nn_s, c7]
def m_removeExchange_50 : Nat → Int32 → MV → Option (Unit × MV)
  | 0, _, _ => none
  | n + 1, x2, v => (if (v.1 5) ≤ x2 then
      some ((), v)
    else
      mrJ v 6 (x2 + 1) fun x_1 =>
      msJ v 6 x2 x_1 fun v_2 =>
      mrI v_2 7 (x2 + 1) fun x_3 =>
      msI v_2 7 x2 x_3 fun v_4 =>
      m_removeExchange_50 n (x2 + 1) v_4)
set_option maxHeartbeats 4000000 in
theorem e_X12_removeExchange_50 {m0 : Nat} {h : AH} (S : MSh m0 h) : ∀ (n : Nat) (x2 : Int32) (v : MV), f_X12_removeExchange_50 n m0 x2 (mput h m0 v) = mm h m0 (m_removeExchange_50 n x2 v) := by
  intro n
  induction n with
  | zero => intros; rfl
  | succ n ih =>
    intro x2 v
    rw [f_X12_removeExchange_50, m_removeExchange_50]
    simp only [lA_6 S, lA_7 S, lR_6 S, lR_7 S, lS_6 S, lS_7 S, l_rdI S, ltd, mm_ite, mm_mrI, mm_mrJ, mm_msI, mm_msJ, mm_none, mm_some, nn_s, ih]
def m_removeExchange_38 (x1 : Int32) (v : MV) : Option (Unit × MV) := mwI v 5 ((v.1 5) - 1) fun v_1 =>
  m_removeExchange_50 FU x1 v_1
set_option maxHeartbeats 4000000 in
theorem e_X12_removeExchange_38 {m0 : Nat} {h : AH} (S : MSh m0 h) (x1 : Int32) (v : MV) : f_X12_removeExchange_38 m0 x1 (mput h m0 v) = mm h m0 (m_removeExchange_38 x1 v) := by
  unfold f_X12_removeExchange_38 m_removeExchange_38
  simp only [l_rdI S, l_wrI S, ltd, mm_ite, mm_mwI, mm_none, mm_some, nn_s, e_X12_removeExchange_50 S]
def m_removeExchange_7 : Nat → Int32 → Int32 → MV → Option (Unit × MV)
  | 0, _, _, _ => none
  | n + 1, x1, x2, v => (if x2 < 0 then
      m_removeExchange_38 x1 v
    else
      mrJ v 15 x2 fun x_1 =>
      mrJ v 6 x1 fun x_2 =>
      (if (lg_cmp x_1 x_2) = 0 then
        bdm (m_removeBinding x2 v) fun _ v_3 =>
        m_removeExchange_32 (fun x1 x2 v => m_removeExchange_7 n x1 x2 v) x1 x2 v_3
      else
        m_removeExchange_32 (fun x1 x2 v => m_removeExchange_7 n x1 x2 v) x1 x2 v))
set_option maxHeartbeats 4000000 in
theorem e_X12_removeExchange_7 {m0 : Nat} {h : AH} (S : MSh m0 h) : ∀ (n : Nat) (x1 : Int32) (x2 : Int32) (v : MV), f_X12_removeExchange_7 n m0 x1 x2 (mput h m0 v) = mm h m0 (m_removeExchange_7 n x1 x2 v) := by
  intro n
  induction n with
  | zero => intros; rfl
  | succ n ih =>
    intro x1 x2 v
    rw [f_X12_removeExchange_7, m_removeExchange_7]
    simp only [bd_mm, lA_15 S, lA_6 S, lR_15 S, lR_6 S, l_kg S, ltd, mm_bdm, mm_ite, mm_mrJ, mm_none, mm_some, nn_s, e_X12_removeBinding S, e_X12_removeExchange_32 S (fun x1 x2 v => ih x1 x2 v), e_X12_removeExchange_38 S, ih]
def m_removeExchange (x1 : Int32) (v : MV) : Option (Unit × MV) := lt ((v.1 13) - 1) fun x_1 =>
  m_removeExchange_7 FU x1 x_1 v
set_option maxHeartbeats 4000000 in
theorem e_X12_removeExchange {m0 : Nat} {h : AH} (S : MSh m0 h) (x1 : Int32) (v : MV) : f_X12_removeExchange m0 x1 (mput h m0 v) = mm h m0 (m_removeExchange x1 v) := by
  unfold f_X12_removeExchange m_removeExchange
  simp only [l_rdI S, ltd, mm_ite, mm_none, mm_some, nn_s, e_X12_removeExchange_7 S]
-- X12_exchangeMethod
def m_exchangeMethod_202 (x2 : Int32) (v : MV) : Option (Unit × MV) := bdm (m_say x2 40 11 v) fun _ v_1 =>
  some ((), v_1)
set_option maxHeartbeats 4000000 in
theorem e_X12_exchangeMethod_202 {m0 : Nat} {h : AH} (S : MSh m0 h) (x2 : Int32) (v : MV) : f_X12_exchangeMethod_202 m0 x2 (mput h m0 v) = mm h m0 (m_exchangeMethod_202 x2 v) := by
  unfold f_X12_exchangeMethod_202 m_exchangeMethod_202
  simp only [bd_mm, l_kg S, ltd, mm_bdm, mm_ite, mm_none, mm_some, nn_s, e_X12_say S]
def m_exchangeMethod_166 (x2 : Int32) (x3 : Int64) (x5 : Int32) (x7 : Int32) (v : MV) : Option (Unit × MV) := (if 0 ≤ x7 then
    m_exchangeMethod_202 x2 v
  else
    msJ v 6 (v.1 5) x3 fun v_1 =>
    msI v_1 7 (v_1.1 5) x5 fun v_2 =>
    mwI v_2 5 ((v_2.1 5) + 1) fun v_3 =>
    m_exchangeMethod_202 x2 v_3)
set_option maxHeartbeats 4000000 in
theorem e_X12_exchangeMethod_166 {m0 : Nat} {h : AH} (S : MSh m0 h) (x2 : Int32) (x3 : Int64) (x5 : Int32) (x7 : Int32) (v : MV) : f_X12_exchangeMethod_166 m0 x2 x3 x5 x7 (mput h m0 v) = mm h m0 (m_exchangeMethod_166 x2 x3 x5 x7 v) := by
  unfold f_X12_exchangeMethod_166 m_exchangeMethod_166
  simp only [lR_6 S, lR_7 S, lS_6 S, lS_7 S, l_rdI S, l_wrI S, ltd, mm_ite, mm_msI, mm_msJ, mm_mwI, mm_none, mm_some, nn_s, e_X12_exchangeMethod_202 S]
def m_exchangeMethod_141 (x2 : Int32) (x3 : Int64) (x5 : Int32) (x7 : Int32) (v : MV) : Option (Unit × MV) := (if 0 ≤ x7 then
    m_exchangeMethod_166 x2 x3 x5 x7 v
  else
    (if (v.1 5) = 6 then
      bdm (m_soft x2 506 v) fun _ v_1 =>
      some ((), v_1)
    else
      m_exchangeMethod_166 x2 x3 x5 x7 v))
set_option maxHeartbeats 4000000 in
theorem e_X12_exchangeMethod_141 {m0 : Nat} {h : AH} (S : MSh m0 h) (x2 : Int32) (x3 : Int64) (x5 : Int32) (x7 : Int32) (v : MV) : f_X12_exchangeMethod_141 m0 x2 x3 x5 x7 (mput h m0 v) = mm h m0 (m_exchangeMethod_141 x2 x3 x5 x7 v) := by
  unfold f_X12_exchangeMethod_141 m_exchangeMethod_141
  simp only [bd_mm, l_kg S, l_rdI S, ltd, mm_bdm, mm_ite, mm_none, mm_some, nn_s, e_X12_exchangeMethod_166 S, e_X12_soft S]
def m_exchangeMethod_96 (x2 : Int32) (x3 : Int64) (x5 : Int32) (x7 : Int32) (v : MV) : Option (Unit × MV) := (if (lg_cmp x3 0) = 0 then
    bdm (m_soft x2 403 v) fun _ v_3 =>
    some ((), v_3)
  else
    (if x7 < 0 then
      m_exchangeMethod_141 x2 x3 x5 x7 v
    else
      mrI v 7 x7 fun x_1 =>
      (if x_1 = x5 then
        m_exchangeMethod_141 x2 x3 x5 x7 v
      else
        bdm (m_soft x2 406 v) fun _ v_2 =>
        some ((), v_2))))
set_option maxHeartbeats 4000000 in
theorem e_X12_exchangeMethod_96 {m0 : Nat} {h : AH} (S : MSh m0 h) (x2 : Int32) (x3 : Int64) (x5 : Int32) (x7 : Int32) (v : MV) : f_X12_exchangeMethod_96 m0 x2 x3 x5 x7 (mput h m0 v) = mm h m0 (m_exchangeMethod_96 x2 x3 x5 x7 v) := by
  unfold f_X12_exchangeMethod_96 m_exchangeMethod_96
  simp only [bd_mm, lA_7 S, lR_7 S, l_kg S, ltd, mm_bdm, mm_ite, mm_mrI, mm_none, mm_some, nn_s, e_X12_exchangeMethod_141 S, e_X12_soft S]
def m_exchangeMethod_269 (x2 : Int32) (x7 : Int32) (v : MV) : Option (Unit × MV) := bdm (m_removeExchange x7 v) fun _ v_1 =>
  bdm (m_say x2 40 21 v_1) fun _ v_2 =>
  some ((), v_2)
set_option maxHeartbeats 4000000 in
theorem e_X12_exchangeMethod_269 {m0 : Nat} {h : AH} (S : MSh m0 h) (x2 : Int32) (x7 : Int32) (v : MV) : f_X12_exchangeMethod_269 m0 x2 x7 (mput h m0 v) = mm h m0 (m_exchangeMethod_269 x2 x7 v) := by
  unfold f_X12_exchangeMethod_269 m_exchangeMethod_269
  simp only [bd_mm, l_kg S, ltd, mm_bdm, mm_ite, mm_none, mm_some, nn_s, e_X12_removeExchange S, e_X12_say S]
def m_exchangeMethod_45 (x1 : Int32) (x2 : Int32) (x3 : Int64) (x5 : Int32) (s0 : Int32) (v : MV) : Option (Unit × MV) := mwZ v 57 s0 fun v_1 =>
  bdm (m_nextTruth v_1) fun x_3 v_2 =>
  bdm (m_isJust v_2) fun x_5 v_4 =>
  (if x_5 = 0 then
    some ((), v_4)
  else
    bdm (m_exchangeOf x3 v_4) fun x_7 v_6 =>
    (if x1 = 10 then
      (if x_3 = 0 then
        m_exchangeMethod_96 x2 x3 x5 x_7 v_6
      else
        (if 0 ≤ x_7 then
          m_exchangeMethod_96 x2 x3 x5 x_7 v_6
        else
          bdm (m_soft x2 404 v_6) fun _ v_13 =>
          some ((), v_13)))
    else
      (if 0 ≤ x_7 then
        (if (lg_cmp x3 0) = 0 then
          bdm (m_soft x2 403 v_6) fun _ v_11 =>
          some ((), v_11)
        else
          (if x_3 = 0 then
            m_exchangeMethod_269 x2 x_7 v_6
          else
            bdm (m_hasBindings x3 v_6) fun x_9 v_8 =>
            (if x_9 = 0 then
              m_exchangeMethod_269 x2 x_7 v_8
            else
              bdm (m_soft x2 406 v_8) fun _ v_10 =>
              some ((), v_10))))
      else
        bdm (m_soft x2 404 v_6) fun _ v_12 =>
        some ((), v_12))))
set_option maxHeartbeats 4000000 in
theorem e_X12_exchangeMethod_45 {m0 : Nat} {h : AH} (S : MSh m0 h) (x1 : Int32) (x2 : Int32) (x3 : Int64) (x5 : Int32) (s0 : Int32) (v : MV) : f_X12_exchangeMethod_45 m0 x1 x2 x3 x5 s0 (some m0) (mput h m0 v) = mm h m0 (m_exchangeMethod_45 x1 x2 x3 x5 s0 v) := by
  unfold f_X12_exchangeMethod_45 m_exchangeMethod_45
  simp only [bd_mm, l_kg S, l_wrZ S, ltd, mm_bdm, mm_ite, mm_mwZ, mm_none, mm_some, nn_s, e_X12_exchangeMethod_269 S, e_X12_exchangeMethod_96 S, e_X12_exchangeOf S, e_X12_hasBindings S, e_X12_isJust S, e_X12_nextTruth S, e_X12_soft S]
def m_exchangeMethod_24 (x1 : Int32) (x2 : Int32) (x3 : Int64) (s0 : Int32) (v : MV) : Option (Unit × MV) := (if (v.1 57) = 0 then
    (if s0 ≤ 2 then
      m_exchangeMethod_45 x1 x2 x3 s0 0 v
    else
      m_exchangeMethod_45 x1 x2 x3 s0 1 v)
  else
    m_exchangeMethod_45 x1 x2 x3 s0 1 v)
set_option maxHeartbeats 4000000 in
theorem e_X12_exchangeMethod_24 {m0 : Nat} {h : AH} (S : MSh m0 h) (x1 : Int32) (x2 : Int32) (x3 : Int64) (s0 : Int32) (v : MV) : f_X12_exchangeMethod_24 m0 x1 x2 x3 s0 (mput h m0 v) = mm h m0 (m_exchangeMethod_24 x1 x2 x3 s0 v) := by
  unfold f_X12_exchangeMethod_24 m_exchangeMethod_24
  simp only [l_rdI S, ltd, mm_ite, mm_none, mm_some, nn_s, e_X12_exchangeMethod_45 S]
def m_exchangeMethod (x1 : Int32) (v : MV) : Option (Unit × MV) := lt (v.1 54) fun x_1 =>
  bdm (m_nextName v) fun x_3 v_2 =>
  (if x1 = 10 then
    bdm (m_next v_2) fun x_5 v_4 =>
    m_exchangeMethod_24 x1 x_1 x_3 x_5 v_4
  else
    m_exchangeMethod_24 x1 x_1 x_3 0 v_2)
set_option maxHeartbeats 4000000 in
theorem e_X12_exchangeMethod {m0 : Nat} {h : AH} (S : MSh m0 h) (x1 : Int32) (v : MV) : f_X12_exchangeMethod m0 x1 (mput h m0 v) = mm h m0 (m_exchangeMethod x1 v) := by
  unfold f_X12_exchangeMethod m_exchangeMethod
  simp only [bd_mm, l_kg S, l_rdI S, ltd, mm_bdm, mm_ite, mm_none, mm_some, nn_s, e_X12_exchangeMethod_24 S, e_X12_next S, e_X12_nextName S]
-- X12_isMethod
def m_isMethod_151 (x1 : Int32) (v : MV) : Option (Int32 × MV) := (if x1 = 110 then
    rz 1 (some (1, v))
  else
    (if x1 = 120 then
      rz 1 (some (1, v))
    else
      rz 0 (some (0, v))))
set_option maxHeartbeats 4000000 in
theorem e_X12_isMethod_151 {m0 : Nat} {h : AH} (S : MSh m0 h) (x1 : Int32) (v : MV) : f_X12_isMethod_151 x1 (mput h m0 v) = mm h m0 (m_isMethod_151 x1 v) := by
  unfold f_X12_isMethod_151 m_isMethod_151
  simp only [ltd, mm_ite, mm_none, mm_rz, mm_some, nn_s]
def m_isMethod_132 (x1 : Int32) (v : MV) : Option (Int32 × MV) := (if x1 < 70 then
    m_isMethod_151 x1 v
  else
    (if 90 < x1 then
      m_isMethod_151 x1 v
    else
      nz 10 (
      (if (x1 - x1 / 10 * 10) = 0 then
        rz 1 (some (1, v))
      else
        m_isMethod_151 x1 v))))
set_option maxHeartbeats 4000000 in
theorem e_X12_isMethod_132 {m0 : Nat} {h : AH} (S : MSh m0 h) (x1 : Int32) (v : MV) : f_X12_isMethod_132 x1 (mput h m0 v) = mm h m0 (m_isMethod_132 x1 v) := by
  unfold f_X12_isMethod_132 m_isMethod_132
  simp only [ltd, mm_ite, mm_none, mm_nz, mm_rz, mm_some, nn_s, e_X12_isMethod_151 S]
def m_isMethod (x0 : Int32) (x1 : Int32) (v : MV) : Option (Int32 × MV) := (if x0 = 20 then
    (if x1 = 20 then
      rz 1 (some (1, v))
    else
      (if x1 = 40 then
        rz 1 (some (1, v))
      else
        rz 0 (some (0, v))))
  else (if x0 = 40 then
    (if x1 = 10 then
      rz 1 (some (1, v))
    else
      (if x1 = 20 then
        rz 1 (some (1, v))
      else
        rz 0 (some (0, v))))
  else (if x0 = 50 then
    (if x1 < 10 then
      rz 0 (some (0, v))
    else
      (if 50 < x1 then
        rz 0 (some (0, v))
      else
        nz 10 (
        (if (x1 - x1 / 10 * 10) = 0 then
          rz 1 (some (1, v))
        else
          rz 0 (some (0, v))))))
  else (if x0 = 60 then
    (if x1 < 10 then
      m_isMethod_132 x1 v
    else
      (if 40 < x1 then
        m_isMethod_132 x1 v
      else
        nz 10 (
        (if (x1 - x1 / 10 * 10) = 0 then
          rz 1 (some (1, v))
        else
          m_isMethod_132 x1 v))))
  else (if x0 = 90 then
    (if x1 = 10 then
      rz 1 (some (1, v))
    else
      (if x1 = 20 then
        rz 1 (some (1, v))
      else
        (if x1 = 30 then
          rz 1 (some (1, v))
        else
          rz 0 (some (0, v)))))
  else rz 0 (some (0, v)))))))
set_option maxHeartbeats 4000000 in
theorem e_X12_isMethod {m0 : Nat} {h : AH} (S : MSh m0 h) (x0 : Int32) (x1 : Int32) (v : MV) : f_X12_isMethod x0 x1 (mput h m0 v) = mm h m0 (m_isMethod x0 x1 v) := by
  unfold f_X12_isMethod m_isMethod
  simp only [ltd, mm_ite, mm_none, mm_nz, mm_rz, mm_some, nn_s, e_X12_isMethod_132 S]
-- X12_cancel
def m_cancel_53 (k20 : Int64 → Int32 → MV → Option (Unit × MV)) (x1 : Int64) (x3 : Int32) (v : MV) : Option (Unit × MV) := k20 x1 (x3 + (-1)) v
set_option maxHeartbeats 4000000 in
theorem e_X12_cancel_53 {m0 : Nat} {h : AH} (S : MSh m0 h) {k20 : Nat → Int64 → Int32 → AH → Option (Unit × AH)} {j20 : Int64 → Int32 → MV → Option (Unit × MV)} (c20 : ∀ (x1 : Int64) (x3 : Int32) (v : MV), k20 m0 x1 x3 (mput h m0 v) = mm h m0 (j20 x1 x3 v)) (x1 : Int64) (x3 : Int32) (v : MV) : f_X12_cancel_53 k20 m0 x1 x3 (mput h m0 v) = mm h m0 (m_cancel_53 j20 x1 x3 v) := by
  unfold f_X12_cancel_53 m_cancel_53
  simp only [ltd, mm_ite, mm_none, mm_some, nn_s, c20]
def m_cancel_59 (x1 : Int64) (v : MV) : Option (Unit × MV) := bdm (m_method (v.1 54) 60 31 v) fun _ v_1 =>
  bdm (m_putName x1 v_1) fun _ v_2 =>
  bdm (m_finish v_2) fun _ v_3 =>
  some ((), v_3)
set_option maxHeartbeats 4000000 in
theorem e_X12_cancel_59 {m0 : Nat} {h : AH} (S : MSh m0 h) (x1 : Int64) (v : MV) : f_X12_cancel_59 m0 x1 (mput h m0 v) = mm h m0 (m_cancel_59 x1 v) := by
  unfold f_X12_cancel_59 m_cancel_59
  simp only [bd_mm, l_kg S, l_rdI S, ltd, mm_bdm, mm_ite, mm_none, mm_some, nn_s, e_X12_finish S, e_X12_method S, e_X12_putName S]
def m_cancel_20 : Nat → Int64 → Int32 → MV → Option (Unit × MV)
  | 0, _, _, _ => none
  | n + 1, x1, x3, v => (if x3 < 0 then
      m_cancel_59 x1 v
    else
      mrI v 20 x3 fun x_1 =>
      (if x_1 = (v.1 54) then
        mrJ v 21 x3 fun x_2 =>
        (if (lg_cmp x_2 x1) = 0 then
          bdm (m_removeConsumer x3 v) fun _ v_3 =>
          m_cancel_53 (fun x1 x3 v => m_cancel_20 n x1 x3 v) x1 x3 v_3
        else
          m_cancel_53 (fun x1 x3 v => m_cancel_20 n x1 x3 v) x1 x3 v)
      else
        m_cancel_53 (fun x1 x3 v => m_cancel_20 n x1 x3 v) x1 x3 v))
set_option maxHeartbeats 4000000 in
theorem e_X12_cancel_20 {m0 : Nat} {h : AH} (S : MSh m0 h) : ∀ (n : Nat) (x1 : Int64) (x3 : Int32) (v : MV), f_X12_cancel_20 n m0 x1 x3 (mput h m0 v) = mm h m0 (m_cancel_20 n x1 x3 v) := by
  intro n
  induction n with
  | zero => intros; rfl
  | succ n ih =>
    intro x1 x3 v
    rw [f_X12_cancel_20, m_cancel_20]
    simp only [bd_mm, lA_20 S, lA_21 S, lR_20 S, lR_21 S, l_kg S, l_rdI S, ltd, mm_bdm, mm_ite, mm_mrI, mm_mrJ, mm_none, mm_some, nn_s, e_X12_cancel_53 S (fun x1 x3 v => ih x1 x3 v), e_X12_cancel_59 S, e_X12_removeConsumer S, ih]
def m_cancel (v : MV) : Option (Unit × MV) := bdm (m_nextName v) fun x_2 v_1 =>
  bdm (m_isJust v_1) fun x_4 v_3 =>
  (if x_4 = 0 then
    some ((), v_3)
  else
    lt ((v_3.1 17) - 1) fun x_5 =>
    m_cancel_20 FU x_2 x_5 v_3)
set_option maxHeartbeats 4000000 in
theorem e_X12_cancel {m0 : Nat} {h : AH} (S : MSh m0 h) (v : MV) : f_X12_cancel m0 (mput h m0 v) = mm h m0 (m_cancel  v) := by
  unfold f_X12_cancel m_cancel
  simp only [bd_mm, l_kg S, l_rdI S, ltd, mm_bdm, mm_ite, mm_none, mm_some, nn_s, e_X12_cancel_20 S, e_X12_isJust S, e_X12_nextName S]
-- X12_hasTag
def m_hasTag_48 (k6 : Int32 → Int64 → Int32 → Int32 → MV → Option (Int32 × MV)) (x1 : Int32) (x2 : Int64) (x5 : Int32) (s0 : Int32) (v : MV) : Option (Int32 × MV) := k6 x1 x2 s0 (x5 + 1) v
set_option maxHeartbeats 4000000 in
theorem e_X12_hasTag_48 {m0 : Nat} {h : AH} (S : MSh m0 h) {k6 : Nat → Int32 → Int64 → Int32 → Int32 → AH → Option (Int32 × AH)} {j6 : Int32 → Int64 → Int32 → Int32 → MV → Option (Int32 × MV)} (c6 : ∀ (x1 : Int32) (x2 : Int64) (x4 : Int32) (x5 : Int32) (v : MV), k6 m0 x1 x2 x4 x5 (mput h m0 v) = mm h m0 (j6 x1 x2 x4 x5 v)) (x1 : Int32) (x2 : Int64) (x5 : Int32) (s0 : Int32) (v : MV) : f_X12_hasTag_48 k6 m0 x1 x2 x5 s0 (mput h m0 v) = mm h m0 (m_hasTag_48 j6 x1 x2 x5 s0 v) := by
  unfold f_X12_hasTag_48 m_hasTag_48
  simp only [ltd, mm_ite, mm_none, mm_some, nn_s, c6]
def m_hasTag_6 : Nat → Int32 → Int64 → Int32 → Int32 → MV → Option (Int32 × MV)
  | 0, _, _, _, _, _ => none
  | n + 1, x1, x2, x4, x5, v => (if (v.1 17) ≤ x5 then
      rz x4 (some (x4, v))
    else
      (if x4 = 0 then
        mrI v 20 x5 fun x_1 =>
        (if x_1 = x1 then
          mrJ v 21 x5 fun x_2 =>
          (if (lg_cmp x_2 x2) = 0 then
            m_hasTag_48 (fun x1 x2 x4 x5 v => m_hasTag_6 n x1 x2 x4 x5 v) x1 x2 x5 1 v
          else
            m_hasTag_48 (fun x1 x2 x4 x5 v => m_hasTag_6 n x1 x2 x4 x5 v) x1 x2 x5 0 v)
        else
          m_hasTag_48 (fun x1 x2 x4 x5 v => m_hasTag_6 n x1 x2 x4 x5 v) x1 x2 x5 0 v)
      else
        m_hasTag_48 (fun x1 x2 x4 x5 v => m_hasTag_6 n x1 x2 x4 x5 v) x1 x2 x5 1 v))
set_option maxHeartbeats 4000000 in
theorem e_X12_hasTag_6 {m0 : Nat} {h : AH} (S : MSh m0 h) : ∀ (n : Nat) (x1 : Int32) (x2 : Int64) (x4 : Int32) (x5 : Int32) (v : MV), f_X12_hasTag_6 n m0 x1 x2 x4 x5 (mput h m0 v) = mm h m0 (m_hasTag_6 n x1 x2 x4 x5 v) := by
  intro n
  induction n with
  | zero => intros; rfl
  | succ n ih =>
    intro x1 x2 x4 x5 v
    rw [f_X12_hasTag_6, m_hasTag_6]
    simp only [lA_20 S, lA_21 S, lR_20 S, lR_21 S, l_rdI S, ltd, mm_ite, mm_mrI, mm_mrJ, mm_none, mm_rz, mm_some, nn_s, e_X12_hasTag_48 S (fun x1 x2 x4 x5 v => ih x1 x2 x4 x5 v), ih]
def m_hasTag (x1 : Int32) (x2 : Int64) (v : MV) : Option (Int32 × MV) := m_hasTag_6 FU x1 x2 0 0 v
set_option maxHeartbeats 4000000 in
theorem e_X12_hasTag {m0 : Nat} {h : AH} (S : MSh m0 h) (x1 : Int32) (x2 : Int64) (v : MV) : f_X12_hasTag m0 x1 x2 (mput h m0 v) = mm h m0 (m_hasTag x1 x2 v) := by
  unfold f_X12_hasTag m_hasTag
  simp only [ltd, mm_ite, mm_none, mm_some, nn_s, e_X12_hasTag_6 S]
-- X12_queueOf
def m_queueOf_2 : Nat → Int64 → Int32 → MV → Option (Int32 × MV)
  | 0, _, _, _ => none
  | n + 1, x1, x3, v => (if (v.1 8) ≤ x3 then
      some (((-1)), v)
    else
      mrJ v 10 x3 fun x_1 =>
      (if (lg_cmp x_1 x1) = 0 then
        some (x3, v)
      else
        m_queueOf_2 n x1 (x3 + 1) v))
set_option maxHeartbeats 4000000 in
theorem e_X12_queueOf_2 {m0 : Nat} {h : AH} (S : MSh m0 h) : ∀ (n : Nat) (x1 : Int64) (x3 : Int32) (v : MV), f_X12_queueOf_2 n m0 x1 x3 (mput h m0 v) = mm h m0 (m_queueOf_2 n x1 x3 v) := by
  intro n
  induction n with
  | zero => intros; rfl
  | succ n ih =>
    intro x1 x3 v
    rw [f_X12_queueOf_2, m_queueOf_2]
    simp only [lA_10 S, lR_10 S, l_rdI S, ltd, mm_ite, mm_mrJ, mm_none, mm_some, nn_s, ih]
def m_queueOf (x1 : Int64) (v : MV) : Option (Int32 × MV) := m_queueOf_2 FU x1 0 v
set_option maxHeartbeats 4000000 in
theorem e_X12_queueOf {m0 : Nat} {h : AH} (S : MSh m0 h) (x1 : Int64) (v : MV) : f_X12_queueOf m0 x1 (mput h m0 v) = mm h m0 (m_queueOf x1 v) := by
  unfold f_X12_queueOf m_queueOf
  simp only [ltd, mm_ite, mm_none, mm_some, nn_s, e_X12_queueOf_2 S]
-- X12_consume
def m_consume (v : MV) : Option (Unit × MV) := lt (v.1 54) fun x_1 =>
  bdm (m_nextName v) fun x_3 v_2 =>
  bdm (m_nextName v_2) fun x_5 v_4 =>
  bdm (m_nextTruth v_4) fun x_7 v_6 =>
  bdm (m_isJust v_6) fun x_9 v_8 =>
  (if x_9 = 0 then
    some ((), v_8)
  else
    bdm (m_queueOf x_3 v_8) fun x_11 v_10 =>
    (if 0 ≤ x_11 then
      bdm (m_hasTag x_1 x_5 v_10) fun x_13 v_12 =>
      (if x_13 = 0 then
        (if (v_12.1 17) = 6 then
          bdm (m_soft x_1 506 v_12) fun _ v_25 =>
          some ((), v_25)
        else
          mwI v_12 18 ((v_12.1 18) + 1) fun v_14 =>
          msI v_14 19 (v_14.1 17) (v_14.1 18) fun v_15 =>
          msI v_15 20 (v_15.1 17) x_1 fun v_16 =>
          msJ v_16 21 (v_16.1 17) x_5 fun v_17 =>
          mrI v_17 11 x_11 fun x_18 =>
          msI v_17 22 (v_17.1 17) x_18 fun v_19 =>
          msZ v_19 23 (v_19.1 17) x_7 fun v_20 =>
          mwI v_20 17 ((v_20.1 17) + 1) fun v_21 =>
          bdm (m_method x_1 60 21 v_21) fun _ v_22 =>
          bdm (m_putName x_5 v_22) fun _ v_23 =>
          bdm (m_finish v_23) fun _ v_24 =>
          some ((), v_24))
      else
        bdm (m_soft x_1 530 v_12) fun _ v_26 =>
        some ((), v_26))
    else
      bdm (m_soft x_1 404 v_10) fun _ v_27 =>
      some ((), v_27)))
set_option maxHeartbeats 4000000 in
theorem e_X12_consume {m0 : Nat} {h : AH} (S : MSh m0 h) (v : MV) : f_X12_consume m0 (mput h m0 v) = mm h m0 (m_consume  v) := by
  unfold f_X12_consume m_consume
  simp only [bd_mm, lA_11 S, lR_11 S, lR_19 S, lR_20 S, lR_21 S, lR_22 S, lR_23 S, lS_19 S, lS_20 S, lS_21 S, lS_22 S, lS_23 S, l_kg S, l_rdI S, l_wrI S, ltd, mm_bdm, mm_ite, mm_mrI, mm_msI, mm_msJ, mm_msZ, mm_mwI, mm_none, mm_some, nn_s, e_X12_finish S, e_X12_hasTag S, e_X12_isJust S, e_X12_method S, e_X12_nextName S, e_X12_nextTruth S, e_X12_putName S, e_X12_queueOf S, e_X12_soft S]
-- X12_get
def m_get (v : MV) : Option (Unit × MV) := lt (v.1 54) fun x_1 =>
  bdm (m_nextName v) fun x_3 v_2 =>
  bdm (m_nextTruth v_2) fun x_5 v_4 =>
  bdm (m_isJust v_4) fun x_7 v_6 =>
  (if x_7 = 0 then
    some ((), v_6)
  else
    bdm (m_queueOf x_3 v_6) fun x_9 v_8 =>
    (if 0 ≤ x_9 then
      mrI v_8 11 x_9 fun x_10 =>
      bdm (m_firstOf x_10 v_8) fun x_12 v_11 =>
      (if 0 ≤ x_12 then
        mrI v_11 38 x_1 fun x_13 =>
        msI v_11 38 x_1 (x_13 + 1) fun v_14 =>
        bdm (m_method x_1 60 71 v_14) fun _ v_15 =>
        bdm (m_tell x_12 x_1 v_15) fun _ v_16 =>
        mrI v_16 11 x_9 fun x_17 =>
        bdm (m_waiting x_17 v_16) fun x_19 v_18 =>
        bdm (m_put (x_19 - 1) v_18) fun _ v_20 =>
        bdm (m_finish v_20) fun _ v_21 =>
        mrI v_21 33 x_12 fun x_22 =>
        mrJ v_21 34 x_12 fun x_23 =>
        bdm (m_putLetter x_1 x_22 x_23 v_21) fun _ v_24 =>
        bdm (m_take x_12 x_1 x_5 v_24) fun _ v_25 =>
        some ((), v_25)
      else
        bdm (m_say x_1 60 72 v_11) fun _ v_26 =>
        some ((), v_26))
    else
      bdm (m_soft x_1 404 v_8) fun _ v_27 =>
      some ((), v_27)))
set_option maxHeartbeats 4000000 in
theorem e_X12_get {m0 : Nat} {h : AH} (S : MSh m0 h) (v : MV) : f_X12_get m0 (mput h m0 v) = mm h m0 (m_get  v) := by
  unfold f_X12_get m_get
  simp only [bd_mm, lA_11 S, lA_33 S, lA_34 S, lA_38 S, lR_11 S, lR_33 S, lR_34 S, lR_38 S, lS_38 S, l_kg S, l_rdI S, ltd, mm_bdm, mm_ite, mm_mrI, mm_mrJ, mm_msI, mm_none, mm_some, nn_s, e_X12_finish S, e_X12_firstOf S, e_X12_isJust S, e_X12_method S, e_X12_nextName S, e_X12_nextTruth S, e_X12_put S, e_X12_putLetter S, e_X12_queueOf S, e_X12_say S, e_X12_soft S, e_X12_take S, e_X12_tell S, e_X12_waiting S]
-- X12_nextShort
def m_nextShort (v : MV) : Option (Int32 × MV) := bdm (m_next v) fun x_2 v_1 =>
  bdm (m_next v_1) fun x_4 v_3 =>
  some (((x_2 <<< ((8 : Int32) &&& 31)) ||| x_4), v_3)
set_option maxHeartbeats 4000000 in
theorem e_X12_nextShort {m0 : Nat} {h : AH} (S : MSh m0 h) (v : MV) : f_X12_nextShort m0 (mput h m0 v) = mm h m0 (m_nextShort  v) := by
  unfold f_X12_nextShort m_nextShort
  simp only [bd_mm, l_kg S, ltd, mm_bdm, mm_ite, mm_none, mm_some, nn_s, e_X12_next S]
-- X12_publish
def m_publish (v : MV) : Option (Unit × MV) := lt (v.1 54) fun x_1 =>
  bdm (m_nextName v) fun x_3 v_2 =>
  bdm (m_nextName v_2) fun x_5 v_4 =>
  bdm (m_nextTruth v_4) fun x_7 v_6 =>
  bdm (m_isJust v_6) fun x_9 v_8 =>
  (if x_9 = 0 then
    some ((), v_8)
  else
    bdm (m_exchangeOf x_3 v_8) fun x_11 v_10 =>
    (if 0 ≤ x_11 then
      msI v_10 40 x_1 1 fun v_12 =>
      msJ v_12 41 x_1 x_3 fun v_13 =>
      msJ v_13 42 x_1 x_5 fun v_14 =>
      msZ v_14 43 x_1 x_7 fun v_15 =>
      some ((), v_15)
    else
      bdm (m_soft x_1 404 v_10) fun _ v_16 =>
      some ((), v_16)))
set_option maxHeartbeats 4000000 in
theorem e_X12_publish {m0 : Nat} {h : AH} (S : MSh m0 h) (v : MV) : f_X12_publish m0 (mput h m0 v) = mm h m0 (m_publish  v) := by
  unfold f_X12_publish m_publish
  simp only [bd_mm, lR_40 S, lR_41 S, lR_42 S, lR_43 S, lS_40 S, lS_41 S, lS_42 S, lS_43 S, l_kg S, l_rdI S, ltd, mm_bdm, mm_ite, mm_msI, mm_msJ, mm_msZ, mm_none, mm_some, nn_s, e_X12_exchangeOf S, e_X12_isJust S, e_X12_nextName S, e_X12_nextTruth S, e_X12_soft S]
-- X12_isMeant
def m_isMeant (x1 : Int32) (x2 : Int32) (x3 : Int32) (x4 : Int32) (v : MV) : Option (Int32 × MV) := mrI v 28 x1 fun x_1 =>
  (if x_1 = x2 then
    (if x4 = 0 then
      mrI v 29 x1 fun x_2 =>
      (if x_2 = x3 then
        rz 1 (some (1, v))
      else
        rz 0 (some (0, v)))
    else
      (if x3 = 0 then
        rz 1 (some (1, v))
      else
        mrI v 29 x1 fun x_3 =>
        (if x3 < x_3 then
          rz 0 (some (0, v))
        else
          rz 1 (some (1, v)))))
  else
    rz 0 (some (0, v)))
set_option maxHeartbeats 4000000 in
theorem e_X12_isMeant {m0 : Nat} {h : AH} (S : MSh m0 h) (x1 : Int32) (x2 : Int32) (x3 : Int32) (x4 : Int32) (v : MV) : f_X12_isMeant m0 x1 x2 x3 x4 (mput h m0 v) = mm h m0 (m_isMeant x1 x2 x3 x4 v) := by
  unfold f_X12_isMeant m_isMeant
  simp only [lA_28 S, lA_29 S, lR_28 S, lR_29 S, ltd, mm_ite, mm_mrI, mm_none, mm_rz, mm_some, nn_s]
-- X12_settle
def m_settle_53 (k3 : Int32 → Int32 → Int32 → Int32 → Int32 → MV → Option (Unit × MV)) (x1 : Int32) (x2 : Int32) (x3 : Int32) (x4 : Int32) (x5 : Int32) (x6 : Int32) (v : MV) : Option (Unit × MV) := (if x6 = 0 then
    lt (x5 + 1) fun x_1 =>
    k3 x1 x2 x3 x4 x_1 v
  else
    lt (x5 + 0) fun x_2 =>
    k3 x1 x2 x3 x4 x_2 v)
set_option maxHeartbeats 4000000 in
theorem e_X12_settle_53 {m0 : Nat} {h : AH} (S : MSh m0 h) {k3 : Nat → Int32 → Int32 → Int32 → Int32 → Int32 → AH → Option (Unit × AH)} {j3 : Int32 → Int32 → Int32 → Int32 → Int32 → MV → Option (Unit × MV)} (c3 : ∀ (x1 : Int32) (x2 : Int32) (x3 : Int32) (x4 : Int32) (x5 : Int32) (v : MV), k3 m0 x1 x2 x3 x4 x5 (mput h m0 v) = mm h m0 (j3 x1 x2 x3 x4 x5 v)) (x1 : Int32) (x2 : Int32) (x3 : Int32) (x4 : Int32) (x5 : Int32) (x6 : Int32) (v : MV) : f_X12_settle_53 k3 m0 x1 x2 x3 x4 x5 x6 (mput h m0 v) = mm h m0 (m_settle_53 j3 x1 x2 x3 x4 x5 x6 v) := by
  unfold f_X12_settle_53 m_settle_53
  simp only [ltd, mm_ite, mm_none, mm_some, nn_s, c3]
def m_settle_3 : Nat → Int32 → Int32 → Int32 → Int32 → Int32 → MV → Option (Unit × MV)
  | 0, _, _, _, _, _, _ => none
  | n + 1, x1, x2, x3, x4, x5, v => (if (v.1 24) ≤ x5 then
      some ((), v)
    else
      bdm (m_isMeant x5 x1 x3 x4 v) fun x_2 v_1 =>
      (if x_2 = 0 then
        m_settle_53 (fun x1 x2 x3 x4 x5 v => m_settle_3 n x1 x2 x3 x4 x5 v) x1 x2 x3 x4 x5 0 v_1
      else
        (if x2 = 2 then
          bdm (m_goesBack x5 v_1) fun x_5 v_4 =>
          m_settle_53 (fun x1 x2 x3 x4 x5 v => m_settle_3 n x1 x2 x3 x4 x5 v) x1 x2 x3 x4 x5 x_5 v_4
        else
          bdm (m_removeLetter x5 v_1) fun _ v_3 =>
          m_settle_53 (fun x1 x2 x3 x4 x5 v => m_settle_3 n x1 x2 x3 x4 x5 v) x1 x2 x3 x4 x5 1 v_3)))
set_option maxHeartbeats 4000000 in
theorem e_X12_settle_3 {m0 : Nat} {h : AH} (S : MSh m0 h) : ∀ (n : Nat) (x1 : Int32) (x2 : Int32) (x3 : Int32) (x4 : Int32) (x5 : Int32) (v : MV), f_X12_settle_3 n m0 x1 x2 x3 x4 x5 (mput h m0 v) = mm h m0 (m_settle_3 n x1 x2 x3 x4 x5 v) := by
  intro n
  induction n with
  | zero => intros; rfl
  | succ n ih =>
    intro x1 x2 x3 x4 x5 v
    rw [f_X12_settle_3, m_settle_3]
    simp only [bd_mm, l_kg S, l_rdI S, ltd, mm_bdm, mm_ite, mm_none, mm_some, nn_s, e_X12_goesBack S, e_X12_isMeant S, e_X12_removeLetter S, e_X12_settle_53 S (fun x1 x2 x3 x4 x5 v => ih x1 x2 x3 x4 x5 v), ih]
def m_settle (x1 : Int32) (x2 : Int32) (x3 : Int32) (x4 : Int32) (v : MV) : Option (Unit × MV) := m_settle_3 FU x1 x2 x3 x4 0 v
set_option maxHeartbeats 4000000 in
theorem e_X12_settle {m0 : Nat} {h : AH} (S : MSh m0 h) (x1 : Int32) (x2 : Int32) (x3 : Int32) (x4 : Int32) (v : MV) : f_X12_settle m0 x1 x2 x3 x4 (mput h m0 v) = mm h m0 (m_settle x1 x2 x3 x4 v) := by
  unfold f_X12_settle m_settle
  simp only [ltd, mm_ite, mm_none, mm_some, nn_s, e_X12_settle_3 S]
-- X12_settleOrKeep
def m_settleOrKeep_51 (k19 : Int32 → Int32 → Int32 → Int32 → Int32 → Int32 → MV → Option (Unit × MV)) (x1 : Int32) (x2 : Int32) (x3 : Int32) (x4 : Int32) (x6 : Int32) (s0 : Int32) (v : MV) : Option (Unit × MV) := k19 x1 x2 x3 x4 s0 (x6 + 1) v
set_option maxHeartbeats 4000000 in
theorem e_X12_settleOrKeep_51 {m0 : Nat} {h : AH} (S : MSh m0 h) {k19 : Nat → Int32 → Int32 → Int32 → Int32 → Int32 → Int32 → AH → Option (Unit × AH)} {j19 : Int32 → Int32 → Int32 → Int32 → Int32 → Int32 → MV → Option (Unit × MV)} (c19 : ∀ (x1 : Int32) (x2 : Int32) (x3 : Int32) (x4 : Int32) (x5 : Int32) (x6 : Int32) (v : MV), k19 m0 x1 x2 x3 x4 x5 x6 (mput h m0 v) = mm h m0 (j19 x1 x2 x3 x4 x5 x6 v)) (x1 : Int32) (x2 : Int32) (x3 : Int32) (x4 : Int32) (x6 : Int32) (s0 : Int32) (v : MV) : f_X12_settleOrKeep_51 k19 m0 x1 x2 x3 x4 x6 s0 (mput h m0 v) = mm h m0 (m_settleOrKeep_51 j19 x1 x2 x3 x4 x6 s0 v) := by
  unfold f_X12_settleOrKeep_51 m_settleOrKeep_51
  simp only [ltd, mm_ite, mm_none, mm_some, nn_s, c19]
def m_settleOrKeep_59 (x1 : Int32) (x2 : Int32) (x3 : Int32) (x4 : Int32) (x5 : Int32) (v : MV) : Option (Unit × MV) := (if x5 = 0 then
    bdm (m_soft x1 406 v) fun _ v_12 =>
    some ((), v_12)
  else
    mrI v 39 x1 fun x_1 =>
    (if x_1 = 0 then
      bdm (m_settle x1 x2 x3 x4 v) fun _ v_11 =>
      some ((), v_11)
    else
      mrI v 47 x1 fun x_2 =>
      (if x_2 = 12 then
        bdm (m_soft x1 506 v) fun _ v_10 =>
        some ((), v_10)
      else
        mrI v 47 x1 fun x_3 =>
        lt ((12 * x1) + x_3) fun x_4 =>
        msI v 48 x_4 x2 fun v_5 =>
        msJ v_5 49 x_4 x3.toInt64 fun v_6 =>
        msZ v_6 51 x_4 x4 fun v_7 =>
        mrI v_7 47 x1 fun x_8 =>
        msI v_7 47 x1 (x_8 + 1) fun v_9 =>
        some ((), v_9))))
set_option maxHeartbeats 4000000 in
theorem e_X12_settleOrKeep_59 {m0 : Nat} {h : AH} (S : MSh m0 h) (x1 : Int32) (x2 : Int32) (x3 : Int32) (x4 : Int32) (x5 : Int32) (v : MV) : f_X12_settleOrKeep_59 m0 x1 x2 x3 x4 x5 (mput h m0 v) = mm h m0 (m_settleOrKeep_59 x1 x2 x3 x4 x5 v) := by
  unfold f_X12_settleOrKeep_59 m_settleOrKeep_59
  simp only [bd_mm, lA_39 S, lA_47 S, lR_39 S, lR_47 S, lR_48 S, lR_49 S, lR_51 S, lS_47 S, lS_48 S, lS_49 S, lS_51 S, l_kg S, ltd, mm_bdm, mm_ite, mm_mrI, mm_msI, mm_msJ, mm_msZ, mm_none, mm_some, nn_s, e_X12_settle S, e_X12_soft S]
def m_settleOrKeep_19 : Nat → Int32 → Int32 → Int32 → Int32 → Int32 → Int32 → MV → Option (Unit × MV)
  | 0, _, _, _, _, _, _, _ => none
  | n + 1, x1, x2, x3, x4, x5, x6, v => (if (v.1 24) ≤ x6 then
      m_settleOrKeep_59 x1 x2 x3 x4 x5 v
    else
      (if x5 = 0 then
        bdm (m_isMeant x6 x1 x3 x4 v) fun x_2 v_1 =>
        (if x_2 = 0 then
          m_settleOrKeep_51 (fun x1 x2 x3 x4 x5 x6 v => m_settleOrKeep_19 n x1 x2 x3 x4 x5 x6 v) x1 x2 x3 x4 x6 0 v_1
        else
          m_settleOrKeep_51 (fun x1 x2 x3 x4 x5 x6 v => m_settleOrKeep_19 n x1 x2 x3 x4 x5 x6 v) x1 x2 x3 x4 x6 1 v_1)
      else
        m_settleOrKeep_51 (fun x1 x2 x3 x4 x5 x6 v => m_settleOrKeep_19 n x1 x2 x3 x4 x5 x6 v) x1 x2 x3 x4 x6 1 v))
set_option maxHeartbeats 4000000 in
theorem e_X12_settleOrKeep_19 {m0 : Nat} {h : AH} (S : MSh m0 h) : ∀ (n : Nat) (x1 : Int32) (x2 : Int32) (x3 : Int32) (x4 : Int32) (x5 : Int32) (x6 : Int32) (v : MV), f_X12_settleOrKeep_19 n m0 x1 x2 x3 x4 x5 x6 (mput h m0 v) = mm h m0 (m_settleOrKeep_19 n x1 x2 x3 x4 x5 x6 v) := by
  intro n
  induction n with
  | zero => intros; rfl
  | succ n ih =>
    intro x1 x2 x3 x4 x5 x6 v
    rw [f_X12_settleOrKeep_19, m_settleOrKeep_19]
    simp only [bd_mm, l_kg S, l_rdI S, ltd, mm_bdm, mm_ite, mm_none, mm_some, nn_s, e_X12_isMeant S, e_X12_settleOrKeep_51 S (fun x1 x2 x3 x4 x5 x6 v => ih x1 x2 x3 x4 x5 x6 v), e_X12_settleOrKeep_59 S, ih]
def m_settleOrKeep (x1 : Int32) (x2 : Int32) (x3 : Int32) (x4 : Int32) (v : MV) : Option (Unit × MV) := (if x4 = 0 then
    m_settleOrKeep_19 FU x1 x2 x3 x4 0 0 v
  else
    (if x3 = 0 then
      m_settleOrKeep_19 FU x1 x2 x3 x4 1 0 v
    else
      m_settleOrKeep_19 FU x1 x2 x3 x4 0 0 v))
set_option maxHeartbeats 4000000 in
theorem e_X12_settleOrKeep {m0 : Nat} {h : AH} (S : MSh m0 h) (x1 : Int32) (x2 : Int32) (x3 : Int32) (x4 : Int32) (v : MV) : f_X12_settleOrKeep m0 x1 x2 x3 x4 (mput h m0 v) = mm h m0 (m_settleOrKeep x1 x2 x3 x4 v) := by
  unfold f_X12_settleOrKeep m_settleOrKeep
  simp only [ltd, mm_ite, mm_none, mm_some, nn_s, e_X12_settleOrKeep_19 S]
-- X12_letterMethod
def m_letterMethod_214 (x4 : Int32) (x5 : Int32) (s0 : Int32) (s1 : Int32) (v : MV) : Option (Unit × MV) := bdm (m_settleOrKeep s1 s0 x4 x5 v) fun _ v_1 =>
  some ((), v_1)
set_option maxHeartbeats 4000000 in
theorem e_X12_letterMethod_214 {m0 : Nat} {h : AH} (S : MSh m0 h) (x4 : Int32) (x5 : Int32) (s0 : Int32) (s1 : Int32) (v : MV) : f_X12_letterMethod_214 x4 x5 s0 s1 (some m0) (mput h m0 v) = mm h m0 (m_letterMethod_214 x4 x5 s0 s1 v) := by
  unfold f_X12_letterMethod_214 m_letterMethod_214
  simp only [bd_mm, l_kg S, ltd, mm_bdm, mm_ite, mm_none, mm_some, nn_s, e_X12_settleOrKeep S]
def m_letterMethod_183 (x1 : Int32) (x2 : Int32) (x4 : Int32) (x5 : Int32) (s0 : Int32) (v : MV) : Option (Unit × MV) := bdm (m_isJust v) fun x_2 v_1 =>
  (if x_2 = 0 then
    some ((), v_1)
  else
    (if x1 = 80 then
      m_letterMethod_214 x4 x5 1 x2 v_1
    else
      (if s0 = 0 then
        m_letterMethod_214 x4 x5 3 x2 v_1
      else
        m_letterMethod_214 x4 x5 2 x2 v_1)))
set_option maxHeartbeats 4000000 in
theorem e_X12_letterMethod_183 {m0 : Nat} {h : AH} (S : MSh m0 h) (x1 : Int32) (x2 : Int32) (x4 : Int32) (x5 : Int32) (s0 : Int32) (v : MV) : f_X12_letterMethod_183 m0 x1 x2 x4 x5 s0 (mput h m0 v) = mm h m0 (m_letterMethod_183 x1 x2 x4 x5 s0 v) := by
  unfold f_X12_letterMethod_183 m_letterMethod_183
  simp only [bd_mm, l_kg S, ltd, mm_bdm, mm_ite, mm_none, mm_some, nn_s, e_X12_isJust S, e_X12_letterMethod_214 S]
def m_letterMethod_163 (x1 : Int32) (x2 : Int32) (x4 : Int32) (s0 : Int32) (v : MV) : Option (Unit × MV) := (if x1 = 80 then
    m_letterMethod_183 x1 x2 x4 s0 0 v
  else
    bdm (m_nextTruth v) fun x_2 v_1 =>
    (if x_2 = 0 then
      m_letterMethod_183 x1 x2 x4 s0 0 v_1
    else
      m_letterMethod_183 x1 x2 x4 s0 1 v_1))
set_option maxHeartbeats 4000000 in
theorem e_X12_letterMethod_163 {m0 : Nat} {h : AH} (S : MSh m0 h) (x1 : Int32) (x2 : Int32) (x4 : Int32) (s0 : Int32) (v : MV) : f_X12_letterMethod_163 m0 x1 x2 x4 s0 (mput h m0 v) = mm h m0 (m_letterMethod_163 x1 x2 x4 s0 v) := by
  unfold f_X12_letterMethod_163 m_letterMethod_163
  simp only [bd_mm, l_kg S, ltd, mm_bdm, mm_ite, mm_none, mm_some, nn_s, e_X12_letterMethod_183 S, e_X12_nextTruth S]
def m_letterMethod (x1 : Int32) (v : MV) : Option (Unit × MV) := lt (v.1 54) fun x_1 =>
  (if x1 = 10 then
    bdm (m_next v) fun x_3 v_2 =>
    bdm (m_isJust v_2) fun x_5 v_4 =>
    (if x_5 = 0 then
      some ((), v_4)
    else
      msI v_4 36 x_1 x_3 fun v_6 =>
      bdm (m_say x_1 60 11 v_6) fun _ v_7 =>
      some ((), v_7))
  else (if x1 = 20 then
    bdm (m_consume v) fun _ v_8 =>
    some ((), v_8)
  else (if x1 = 30 then
    bdm (m_cancel v) fun _ v_9 =>
    some ((), v_9)
  else (if x1 = 40 then
    bdm (m_publish v) fun _ v_10 =>
    some ((), v_10)
  else (if x1 = 70 then
    bdm (m_get v) fun _ v_11 =>
    some ((), v_11)
  else (if x1 = 80 then
    bdm (m_nextShort v) fun x_13 v_12 =>
    (if x1 = 90 then
      m_letterMethod_163 x1 x_1 x_13 0 v_12
    else
      bdm (m_nextTruth v_12) fun x_15 v_14 =>
      (if x_15 = 0 then
        m_letterMethod_163 x1 x_1 x_13 0 v_14
      else
        m_letterMethod_163 x1 x_1 x_13 1 v_14))
  else (if x1 = 90 then
    bdm (m_nextShort v) fun x_17 v_16 =>
    (if x1 = 90 then
      m_letterMethod_163 x1 x_1 x_17 0 v_16
    else
      bdm (m_nextTruth v_16) fun x_19 v_18 =>
      (if x_19 = 0 then
        m_letterMethod_163 x1 x_1 x_17 0 v_18
      else
        m_letterMethod_163 x1 x_1 x_17 1 v_18))
  else (if x1 = 120 then
    bdm (m_nextShort v) fun x_21 v_20 =>
    (if x1 = 90 then
      m_letterMethod_163 x1 x_1 x_21 0 v_20
    else
      bdm (m_nextTruth v_20) fun x_23 v_22 =>
      (if x_23 = 0 then
        m_letterMethod_163 x1 x_1 x_21 0 v_22
      else
        m_letterMethod_163 x1 x_1 x_21 1 v_22))
  else bdm (m_isJust v) fun x_25 v_24 =>
  (if x_25 = 0 then
    some ((), v_24)
  else
    bdm (m_allBack x_1 v_24) fun _ v_26 =>
    bdm (m_say x_1 60 111 v_26) fun _ v_27 =>
    some ((), v_27))))))))))
set_option maxHeartbeats 4000000 in
theorem e_X12_letterMethod {m0 : Nat} {h : AH} (S : MSh m0 h) (x1 : Int32) (v : MV) : f_X12_letterMethod m0 x1 (mput h m0 v) = mm h m0 (m_letterMethod x1 v) := by
  unfold f_X12_letterMethod m_letterMethod
  simp only [bd_mm, lR_36 S, lS_36 S, l_kg S, l_rdI S, ltd, mm_bdm, mm_ite, mm_msI, mm_none, mm_some, nn_s, e_X12_allBack S, e_X12_cancel S, e_X12_consume S, e_X12_get S, e_X12_isJust S, e_X12_letterMethod_163 S, e_X12_next S, e_X12_nextShort S, e_X12_nextTruth S, e_X12_publish S, e_X12_say S]

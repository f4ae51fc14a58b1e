/-! printed by wip/whole/gen/lower.py -/
-- X12_lineMethod
def m_lineMethod_53 (v : MV) : Option (Unit × MV) := bdm (m_hard 503 v) fun _ v_1 =>
  some ((), v_1)
set_option maxHeartbeats 4000000 in
theorem e_X12_lineMethod_53 {m0 : Nat} {h : AH} (S : MSh m0 h) (v : MV) : f_X12_lineMethod_53 m0 (mput h m0 v) = mm h m0 (m_lineMethod_53  v) := by
  unfold f_X12_lineMethod_53 m_lineMethod_53
  simp only [bd_mm, l_kg S, ltd, mm_bdm, mm_ite, mm_none, mm_some, nn_s, e_X12_hard S]
def m_lineMethod_41 (x1 : Int32) (x2 : Int32) (s0 : Int32) (v : MV) : Option (Unit × MV) := (if x1 = 10 then
    (if x2 = s0 then
      bdm (m_isJust v) fun x_2 v_1 =>
      (if x_2 = 0 then
        some ((), v_1)
      else
        (if (v_1.1 0) = 1 then
          bdm (m_say 0 10 30 v_1) fun _ v_8 =>
          mwI v_8 0 2 fun v_9 =>
          some ((), v_9)
        else
          (if (v_1.1 0) = 2 then
            mwI v_1 0 3 fun v_7 =>
            some ((), v_7)
          else
            (if (v_1.1 0) = 3 then
              bdm (m_say 0 10 41 v_1) fun _ v_5 =>
              mwI v_5 0 4 fun v_6 =>
              some ((), v_6)
            else
              bdm (m_say 0 10 51 v_1) fun _ v_3 =>
              bdm (m_shut v_3) fun _ v_4 =>
              some ((), v_4)))))
    else
      m_lineMethod_53  v)
  else
    m_lineMethod_53  v)
set_option maxHeartbeats 4000000 in
theorem e_X12_lineMethod_41 {m0 : Nat} {h : AH} (S : MSh m0 h) (x1 : Int32) (x2 : Int32) (s0 : Int32) (v : MV) : f_X12_lineMethod_41 m0 x1 x2 s0 (mput h m0 v) = mm h m0 (m_lineMethod_41 x1 x2 s0 v) := by
  unfold f_X12_lineMethod_41 m_lineMethod_41
  simp only [bd_mm, l_kg S, l_rdI S, l_wrI S, ltd, mm_bdm, mm_ite, mm_mwI, mm_none, mm_some, nn_s, e_X12_isJust S, e_X12_lineMethod_53 S, e_X12_say S, e_X12_shut S]
def m_lineMethod (x1 : Int32) (x2 : Int32) (v : MV) : Option (Unit × MV) := (if (v.1 0) = 1 then
    m_lineMethod_41 x1 x2 11 v
  else
    (if (v.1 0) = 2 then
      m_lineMethod_41 x1 x2 31 v
    else
      (if (v.1 0) = 3 then
        m_lineMethod_41 x1 x2 40 v
      else
        m_lineMethod_41 x1 x2 50 v)))
set_option maxHeartbeats 4000000 in
theorem e_X12_lineMethod {m0 : Nat} {h : AH} (S : MSh m0 h) (x1 : Int32) (x2 : Int32) (v : MV) : f_X12_lineMethod m0 x1 x2 (mput h m0 v) = mm h m0 (m_lineMethod x1 x2 v) := by
  unfold f_X12_lineMethod m_lineMethod
  simp only [l_rdI S, ltd, mm_ite, mm_none, mm_some, nn_s, e_X12_lineMethod_41 S]
-- X12_bindingOf
def m_bindingOf_52 (k3 : Int64 → Int64 → Int64 → Int32 → MV → Option (Int32 × MV)) (x1 : Int64) (x3 : Int64) (x5 : Int64) (x7 : Int32) (v : MV) : Option (Int32 × MV) := k3 x1 x3 x5 (x7 + 1) v
set_option maxHeartbeats 4000000 in
theorem e_X12_bindingOf_52 {m0 : Nat} {h : AH} (S : MSh m0 h) {k3 : Nat → Int64 → Int64 → Int64 → Int32 → AH → Option (Int32 × AH)} {j3 : Int64 → Int64 → Int64 → Int32 → MV → Option (Int32 × MV)} (c3 : ∀ (x1 : Int64) (x3 : Int64) (x5 : Int64) (x7 : Int32) (v : MV), k3 m0 x1 x3 x5 x7 (mput h m0 v) = mm h m0 (j3 x1 x3 x5 x7 v)) (x1 : Int64) (x3 : Int64) (x5 : Int64) (x7 : Int32) (v : MV) : f_X12_bindingOf_52 k3 m0 x1 x3 x5 x7 (mput h m0 v) = mm h m0 (m_bindingOf_52 j3 x1 x3 x5 x7 v) := by
  unfold f_X12_bindingOf_52 m_bindingOf_52
  simp only [ltd, mm_ite, mm_none, mm_some, nn_s, c3]
def m_bindingOf_3 : Nat → Int64 → Int64 → Int64 → Int32 → MV → Option (Int32 × MV)
  | 0, _, _, _, _, _ => none
  | n + 1, x1, x3, x5, x7, v => (if (v.1 13) ≤ x7 then
      some (((-1)), v)
    else
      mrJ v 14 x7 fun x_1 =>
      (if (lg_cmp x_1 x1) = 0 then
        mrJ v 15 x7 fun x_2 =>
        (if (lg_cmp x_2 x3) = 0 then
          mrJ v 16 x7 fun x_3 =>
          (if (lg_cmp x_3 x5) = 0 then
            some (x7, v)
          else
            m_bindingOf_52 (fun x1 x3 x5 x7 v => m_bindingOf_3 n x1 x3 x5 x7 v) x1 x3 x5 x7 v)
        else
          m_bindingOf_52 (fun x1 x3 x5 x7 v => m_bindingOf_3 n x1 x3 x5 x7 v) x1 x3 x5 x7 v)
      else
        m_bindingOf_52 (fun x1 x3 x5 x7 v => m_bindingOf_3 n x1 x3 x5 x7 v) x1 x3 x5 x7 v))
set_option maxHeartbeats 4000000 in
theorem e_X12_bindingOf_3 {m0 : Nat} {h : AH} (S : MSh m0 h) : ∀ (n : Nat) (x1 : Int64) (x3 : Int64) (x5 : Int64) (x7 : Int32) (v : MV), f_X12_bindingOf_3 n m0 x1 x3 x5 x7 (mput h m0 v) = mm h m0 (m_bindingOf_3 n x1 x3 x5 x7 v) := by
  intro n
  induction n with
  | zero => intros; rfl
  | succ n ih =>
    intro x1 x3 x5 x7 v
    rw [f_X12_bindingOf_3, m_bindingOf_3]
    simp only [lA_14 S, lA_15 S, lA_16 S, lR_14 S, lR_15 S, lR_16 S, l_rdI S, ltd, mm_ite, mm_mrJ, mm_none, mm_some, nn_s, e_X12_bindingOf_52 S (fun x1 x3 x5 x7 v => ih x1 x3 x5 x7 v), ih]
def m_bindingOf (x1 : Int64) (x3 : Int64) (x5 : Int64) (v : MV) : Option (Int32 × MV) := m_bindingOf_3 FU x1 x3 x5 0 v
set_option maxHeartbeats 4000000 in
theorem e_X12_bindingOf {m0 : Nat} {h : AH} (S : MSh m0 h) (x1 : Int64) (x3 : Int64) (x5 : Int64) (v : MV) : f_X12_bindingOf m0 x1 x3 x5 (mput h m0 v) = mm h m0 (m_bindingOf x1 x3 x5 v) := by
  unfold f_X12_bindingOf m_bindingOf
  simp only [ltd, mm_ite, mm_none, mm_some, nn_s, e_X12_bindingOf_3 S]
-- X12_bind
def m_bind_58 (x2 : Int32) (v : MV) : Option (Unit × MV) := bdm (m_soft x2 404 v) fun _ v_1 =>
  some ((), v_1)
set_option maxHeartbeats 4000000 in
theorem e_X12_bind_58 {m0 : Nat} {h : AH} (S : MSh m0 h) (x2 : Int32) (v : MV) : f_X12_bind_58 m0 x2 (mput h m0 v) = mm h m0 (m_bind_58 x2 v) := by
  unfold f_X12_bind_58 m_bind_58
  simp only [bd_mm, l_kg S, ltd, mm_bdm, mm_ite, mm_none, mm_some, nn_s, e_X12_soft S]
def m_bind_104 (x2 : Int32) (v : MV) : Option (Unit × MV) := bdm (m_say x2 50 51 v) fun _ v_1 =>
  some ((), v_1)
set_option maxHeartbeats 4000000 in
theorem e_X12_bind_104 {m0 : Nat} {h : AH} (S : MSh m0 h) (x2 : Int32) (v : MV) : f_X12_bind_104 m0 x2 (mput h m0 v) = mm h m0 (m_bind_104 x2 v) := by
  unfold f_X12_bind_104 m_bind_104
  simp only [bd_mm, l_kg S, ltd, mm_bdm, mm_ite, mm_none, mm_some, nn_s, e_X12_say S]
def m_bind_188 (x2 : Int32) (v : MV) : Option (Unit × MV) := bdm (m_say x2 50 21 v) fun _ v_1 =>
  some ((), v_1)
set_option maxHeartbeats 4000000 in
theorem e_X12_bind_188 {m0 : Nat} {h : AH} (S : MSh m0 h) (x2 : Int32) (v : MV) : f_X12_bind_188 m0 x2 (mput h m0 v) = mm h m0 (m_bind_188 x2 v) := by
  unfold f_X12_bind_188 m_bind_188
  simp only [bd_mm, l_kg S, ltd, mm_bdm, mm_ite, mm_none, mm_some, nn_s, e_X12_say S]
def m_bind_141 (x2 : Int32) (x3 : Int64) (x5 : Int64) (x7 : Int64) (x9 : Int32) (v : MV) : Option (Unit × MV) := (if 0 ≤ x9 then
    m_bind_188 x2 v
  else
    msJ v 14 (v.1 13) x3 fun v_1 =>
    msJ v_1 15 (v_1.1 13) x5 fun v_2 =>
    msJ v_2 16 (v_2.1 13) x7 fun v_3 =>
    mwI v_3 13 ((v_3.1 13) + 1) fun v_4 =>
    m_bind_188 x2 v_4)
set_option maxHeartbeats 4000000 in
theorem e_X12_bind_141 {m0 : Nat} {h : AH} (S : MSh m0 h) (x2 : Int32) (x3 : Int64) (x5 : Int64) (x7 : Int64) (x9 : Int32) (v : MV) : f_X12_bind_141 m0 x2 x3 x5 x7 x9 (mput h m0 v) = mm h m0 (m_bind_141 x2 x3 x5 x7 x9 v) := by
  unfold f_X12_bind_141 m_bind_141
  simp only [lR_14 S, lR_15 S, lR_16 S, lS_14 S, lS_15 S, lS_16 S, l_rdI S, l_wrI S, ltd, mm_ite, mm_msJ, mm_mwI, mm_none, mm_some, nn_s, e_X12_bind_188 S]
def m_bind (x1 : Int32) (v : MV) : Option (Unit × MV) := lt (v.1 54) fun x_1 =>
  bdm (m_nextName v) fun x_3 v_2 =>
  bdm (m_nextName v_2) fun x_5 v_4 =>
  bdm (m_nextName v_4) fun x_7 v_6 =>
  bdm (m_isJust v_6) fun x_9 v_8 =>
  (if x_9 = 0 then
    some ((), v_8)
  else
    bdm (m_bindingOf x_3 x_5 x_7 v_8) fun x_11 v_10 =>
    bdm (m_queueOf x_3 v_10) fun x_13 v_12 =>
    (if x_13 < 0 then
      m_bind_58 x_1 v_12
    else
      bdm (m_exchangeOf x_5 v_12) fun x_15 v_14 =>
      (if 0 ≤ x_15 then
        (if (lg_cmp x_5 0) = 0 then
          bdm (m_soft x_1 403 v_14) fun _ v_18 =>
          some ((), v_18)
        else
          (if x1 = 50 then
            (if x_11 < 0 then
              m_bind_104 x_1 v_14
            else
              bdm (m_removeBinding x_11 v_14) fun _ v_17 =>
              m_bind_104 x_1 v_17)
          else
            (if 0 ≤ x_11 then
              m_bind_141 x_1 x_3 x_5 x_7 x_11 v_14
            else
              (if (v_14.1 13) = 12 then
                bdm (m_soft x_1 506 v_14) fun _ v_16 =>
                some ((), v_16)
              else
                m_bind_141 x_1 x_3 x_5 x_7 x_11 v_14))))
      else
        m_bind_58 x_1 v_14)))
set_option maxHeartbeats 4000000 in
theorem e_X12_bind {m0 : Nat} {h : AH} (S : MSh m0 h) (x1 : Int32) (v : MV) : f_X12_bind m0 x1 (mput h m0 v) = mm h m0 (m_bind x1 v) := by
  unfold f_X12_bind m_bind
  simp only [bd_mm, l_kg S, l_rdI S, ltd, mm_bdm, mm_ite, mm_none, mm_some, nn_s, e_X12_bind_104 S, e_X12_bind_141 S, e_X12_bind_58 S, e_X12_bindingOf S, e_X12_exchangeOf S, e_X12_isJust S, e_X12_nextName S, e_X12_queueOf S, e_X12_removeBinding S, e_X12_soft S]
-- X12_declareQueue
def m_declareQueue_151 (x1 : Int32) (x2 : Int64) (x5 : Int32) (v : MV) : Option (Unit × MV) := bdm (m_method x1 50 11 v) fun _ v_1 =>
  bdm (m_putName x2 v_1) fun _ v_2 =>
  mrI v_2 11 x5 fun x_3 =>
  bdm (m_waiting x_3 v_2) fun x_5 v_4 =>
  bdm (m_put x_5 v_4) fun _ v_6 =>
  mrI v_6 11 x5 fun x_7 =>
  bdm (m_consumersOf x_7 v_6) fun x_9 v_8 =>
  bdm (m_put x_9 v_8) fun _ v_10 =>
  bdm (m_finish v_10) fun _ v_11 =>
  some ((), v_11)
set_option maxHeartbeats 4000000 in
theorem e_X12_declareQueue_151 {m0 : Nat} {h : AH} (S : MSh m0 h) (x1 : Int32) (x2 : Int64) (x5 : Int32) (v : MV) : f_X12_declareQueue_151 m0 x1 x2 x5 (mput h m0 v) = mm h m0 (m_declareQueue_151 x1 x2 x5 v) := by
  unfold f_X12_declareQueue_151 m_declareQueue_151
  simp only [bd_mm, lA_11 S, lR_11 S, l_kg S, ltd, mm_bdm, mm_ite, mm_mrI, mm_none, mm_some, nn_s, e_X12_consumersOf S, e_X12_finish S, e_X12_method S, e_X12_put S, e_X12_putName S, e_X12_waiting S]
def m_declareQueue_93 (x1 : Int32) (x2 : Int64) (x5 : Int32) (v : MV) : Option (Unit × MV) := (if 0 ≤ x5 then
    m_declareQueue_151 x1 x2 x5 v
  else
    lt (v.1 8) fun x_1 =>
    mwI v 9 ((v.1 9) + 1) fun v_2 =>
    msJ v_2 10 x_1 x2 fun v_3 =>
    msI v_3 11 x_1 (v_3.1 9) fun v_4 =>
    msI v_4 12 x_1 0 fun v_5 =>
    mwI v_5 8 ((v_5.1 8) + 1) fun v_6 =>
    m_declareQueue_151 x1 x2 x_1 v_6)
set_option maxHeartbeats 4000000 in
theorem e_X12_declareQueue_93 {m0 : Nat} {h : AH} (S : MSh m0 h) (x1 : Int32) (x2 : Int64) (x5 : Int32) (v : MV) : f_X12_declareQueue_93 m0 x1 x2 x5 (mput h m0 v) = mm h m0 (m_declareQueue_93 x1 x2 x5 v) := by
  unfold f_X12_declareQueue_93 m_declareQueue_93
  simp only [lR_10 S, lR_11 S, lR_12 S, lS_10 S, lS_11 S, lS_12 S, l_rdI S, l_wrI S, ltd, mm_ite, mm_msI, mm_msJ, mm_mwI, mm_none, mm_some, nn_s, e_X12_declareQueue_151 S]
def m_declareQueue_52 (x1 : Int32) (x2 : Int64) (x5 : Int32) (v : MV) : Option (Unit × MV) := (if (lg_cmp x2 0) = 0 then
    bdm (m_soft x1 403 v) fun _ v_2 =>
    some ((), v_2)
  else
    (if 0 ≤ x5 then
      m_declareQueue_93 x1 x2 x5 v
    else
      (if (v.1 8) = 5 then
        bdm (m_soft x1 506 v) fun _ v_1 =>
        some ((), v_1)
      else
        m_declareQueue_93 x1 x2 x5 v)))
set_option maxHeartbeats 4000000 in
theorem e_X12_declareQueue_52 {m0 : Nat} {h : AH} (S : MSh m0 h) (x1 : Int32) (x2 : Int64) (x5 : Int32) (v : MV) : f_X12_declareQueue_52 m0 x1 x2 x5 (mput h m0 v) = mm h m0 (m_declareQueue_52 x1 x2 x5 v) := by
  unfold f_X12_declareQueue_52 m_declareQueue_52
  simp only [bd_mm, l_kg S, l_rdI S, ltd, mm_bdm, mm_ite, mm_none, mm_some, nn_s, e_X12_declareQueue_93 S, e_X12_soft S]
def m_declareQueue (v : MV) : Option (Unit × MV) := lt (v.1 54) fun x_1 =>
  bdm (m_nextName v) fun x_3 v_2 =>
  bdm (m_nextTruth v_2) fun x_5 v_4 =>
  bdm (m_isJust v_4) fun x_7 v_6 =>
  (if x_7 = 0 then
    some ((), v_6)
  else
    bdm (m_queueOf x_3 v_6) fun x_9 v_8 =>
    (if x_5 = 0 then
      m_declareQueue_52 x_1 x_3 x_9 v_8
    else
      (if 0 ≤ x_9 then
        m_declareQueue_52 x_1 x_3 x_9 v_8
      else
        bdm (m_soft x_1 404 v_8) fun _ v_10 =>
        some ((), v_10))))
set_option maxHeartbeats 4000000 in
theorem e_X12_declareQueue {m0 : Nat} {h : AH} (S : MSh m0 h) (v : MV) : f_X12_declareQueue m0 (mput h m0 v) = mm h m0 (m_declareQueue  v) := by
  unfold f_X12_declareQueue m_declareQueue
  simp only [bd_mm, l_kg S, l_rdI S, ltd, mm_bdm, mm_ite, mm_none, mm_some, nn_s, e_X12_declareQueue_52 S, e_X12_isJust S, e_X12_nextName S, e_X12_nextTruth S, e_X12_queueOf S, e_X12_soft S]
-- X12_purge
def m_purge_8 : Nat → Int32 → Int32 → Int32 → MV → Option (Int32 × MV)
  | 0, _, _, _, _ => none
  | n + 1, x1, x2, x3, v => (if x3 < 0 then
      some (x2, v)
    else
      bdm (m_removeLetter x3 v) fun _ v_1 =>
      bdm (m_firstOf x1 v_1) fun x_3 v_2 =>
      m_purge_8 n x1 (x2 + 1) x_3 v_2)
set_option maxHeartbeats 4000000 in
theorem e_X12_purge_8 {m0 : Nat} {h : AH} (S : MSh m0 h) : ∀ (n : Nat) (x1 : Int32) (x2 : Int32) (x3 : Int32) (v : MV), f_X12_purge_8 n m0 x1 x2 x3 (mput h m0 v) = mm h m0 (m_purge_8 n x1 x2 x3 v) := by
  intro n
  induction n with
  | zero => intros; rfl
  | succ n ih =>
    intro x1 x2 x3 v
    rw [f_X12_purge_8, m_purge_8]
    simp only [bd_mm, l_kg S, ltd, mm_bdm, mm_ite, mm_none, mm_some, nn_s, e_X12_firstOf S, e_X12_removeLetter S, ih]
def m_purge (x1 : Int32) (v : MV) : Option (Int32 × MV) := bdm (m_firstOf x1 v) fun x_2 v_1 =>
  m_purge_8 FU x1 0 x_2 v_1
set_option maxHeartbeats 4000000 in
theorem e_X12_purge {m0 : Nat} {h : AH} (S : MSh m0 h) (x1 : Int32) (v : MV) : f_X12_purge m0 x1 (mput h m0 v) = mm h m0 (m_purge x1 v) := by
  unfold f_X12_purge m_purge
  simp only [bd_mm, l_kg S, ltd, mm_bdm, mm_ite, mm_none, mm_some, nn_s, e_X12_firstOf S, e_X12_purge_8 S]
-- X12_removeQueue
def m_removeQueue_32 (k7 : Int32 → Int32 → MV → Option (Unit × MV)) (x1 : Int32) (x2 : Int32) (v : MV) : Option (Unit × MV) := k7 x1 (x2 + (-1)) v
set_option maxHeartbeats 4000000 in
theorem e_X12_removeQueue_32 {m0 : Nat} {h : AH} (S : MSh m0 h) {k7 : Nat → Int32 → Int32 → AH → Option (Unit × AH)} {j7 : Int32 → Int32 → MV → Option (Unit × MV)} (c7 : ∀ (x1 : Int32) (x2 : Int32) (v : MV), k7 m0 x1 x2 (mput h m0 v) = mm h m0 (j7 x1 x2 v)) (x1 : Int32) (x2 : Int32) (v : MV) : f_X12_removeQueue_32 k7 m0 x1 x2 (mput h m0 v) = mm h m0 (m_removeQueue_32 j7 x1 x2 v) := by
  unfold f_X12_removeQueue_32 m_removeQueue_32
  simp only [ltd, mm_ite, mm_none, mm_some, nn_s, c7]
def m_removeQueue_69 (k45 : Int32 → Int32 → MV → Option (Unit × MV)) (x1 : Int32) (x2 : Int32) (v : MV) : Option (Unit × MV) := k45 x1 (x2 + (-1)) v
set_option maxHeartbeats 4000000 in
theorem e_X12_removeQueue_69 {m0 : Nat} {h : AH} (S : MSh m0 h) {k45 : Nat → Int32 → Int32 → AH → Option (Unit × AH)} {j45 : Int32 → Int32 → MV → Option (Unit × MV)} (c45 : ∀ (x1 : Int32) (x2 : Int32) (v : MV), k45 m0 x1 x2 (mput h m0 v) = mm h m0 (j45 x1 x2 v)) (x1 : Int32) (x2 : Int32) (v : MV) : f_X12_removeQueue_69 k45 m0 x1 x2 (mput h m0 v) = mm h m0 (m_removeQueue_69 j45 x1 x2 v) := by
  unfold f_X12_removeQueue_69 m_removeQueue_69
  simp only [ltd, mm_ite, mm_none, mm_some, nn_s, c45]
def m_removeQueue_87 : Nat → Int32 → MV → Option (Unit × MV)
  | 0, _, _ => none
  | n + 1, x2, v => (if (v.1 8) ≤ x2 then
      some ((), v)
    else
      mrJ v 10 (x2 + 1) fun x_1 =>
      msJ v 10 x2 x_1 fun v_2 =>
      mrI v_2 11 (x2 + 1) fun x_3 =>
      msI v_2 11 x2 x_3 fun v_4 =>
      mrI v_4 12 (x2 + 1) fun x_5 =>
      msI v_4 12 x2 x_5 fun v_6 =>
      m_removeQueue_87 n (x2 + 1) v_6)
set_option maxHeartbeats 4000000 in
theorem e_X12_removeQueue_87 {m0 : Nat} {h : AH} (S : MSh m0 h) : ∀ (n : Nat) (x2 : Int32) (v : MV), f_X12_removeQueue_87 n m0 x2 (mput h m0 v) = mm h m0 (m_removeQueue_87 n x2 v) := by
  intro n
  induction n with
  | zero => intros; rfl
  | succ n ih =>
    intro x2 v
    rw [f_X12_removeQueue_87, m_removeQueue_87]
    simp only [lA_10 S, lA_11 S, lA_12 S, lR_10 S, lR_11 S, lR_12 S, lS_10 S, lS_11 S, lS_12 S, l_rdI S, ltd, mm_ite, mm_mrI, mm_mrJ, mm_msI, mm_msJ, mm_none, mm_some, nn_s, ih]
def m_removeQueue_75 (x1 : Int32) (v : MV) : Option (Unit × MV) := mwI v 8 ((v.1 8) - 1) fun v_1 =>
  m_removeQueue_87 FU x1 v_1
set_option maxHeartbeats 4000000 in
theorem e_X12_removeQueue_75 {m0 : Nat} {h : AH} (S : MSh m0 h) (x1 : Int32) (v : MV) : f_X12_removeQueue_75 m0 x1 (mput h m0 v) = mm h m0 (m_removeQueue_75 x1 v) := by
  unfold f_X12_removeQueue_75 m_removeQueue_75
  simp only [l_rdI S, l_wrI S, ltd, mm_ite, mm_mwI, mm_none, mm_some, nn_s, e_X12_removeQueue_87 S]
def m_removeQueue_45 : Nat → Int32 → Int32 → MV → Option (Unit × MV)
  | 0, _, _, _ => none
  | n + 1, x1, x2, v => (if x2 < 0 then
      m_removeQueue_75 x1 v
    else
      mrI v 22 x2 fun x_1 =>
      mrI v 11 x1 fun x_2 =>
      (if x_1 = x_2 then
        bdm (m_removeConsumer x2 v) fun _ v_3 =>
        m_removeQueue_69 (fun x1 x2 v => m_removeQueue_45 n x1 x2 v) x1 x2 v_3
      else
        m_removeQueue_69 (fun x1 x2 v => m_removeQueue_45 n x1 x2 v) x1 x2 v))
set_option maxHeartbeats 4000000 in
theorem e_X12_removeQueue_45 {m0 : Nat} {h : AH} (S : MSh m0 h) : ∀ (n : Nat) (x1 : Int32) (x2 : Int32) (v : MV), f_X12_removeQueue_45 n m0 x1 x2 (mput h m0 v) = mm h m0 (m_removeQueue_45 n x1 x2 v) := by
  intro n
  induction n with
  | zero => intros; rfl
  | succ n ih =>
    intro x1 x2 v
    rw [f_X12_removeQueue_45, m_removeQueue_45]
    simp only [bd_mm, lA_11 S, lA_22 S, lR_11 S, lR_22 S, l_kg S, ltd, mm_bdm, mm_ite, mm_mrI, mm_none, mm_some, nn_s, e_X12_removeConsumer S, e_X12_removeQueue_69 S (fun x1 x2 v => ih x1 x2 v), e_X12_removeQueue_75 S, ih]
def m_removeQueue_38 (x1 : Int32) (v : MV) : Option (Unit × MV) := lt ((v.1 17) - 1) fun x_1 =>
  m_removeQueue_45 FU x1 x_1 v
set_option maxHeartbeats 4000000 in
theorem e_X12_removeQueue_38 {m0 : Nat} {h : AH} (S : MSh m0 h) (x1 : Int32) (v : MV) : f_X12_removeQueue_38 m0 x1 (mput h m0 v) = mm h m0 (m_removeQueue_38 x1 v) := by
  unfold f_X12_removeQueue_38 m_removeQueue_38
  simp only [l_rdI S, ltd, mm_ite, mm_none, mm_some, nn_s, e_X12_removeQueue_45 S]
def m_removeQueue_7 : Nat → Int32 → Int32 → MV → Option (Unit × MV)
  | 0, _, _, _ => none
  | n + 1, x1, x2, v => (if x2 < 0 then
      m_removeQueue_38 x1 v
    else
      mrJ v 14 x2 fun x_1 =>
      mrJ v 10 x1 fun x_2 =>
      (if (lg_cmp x_1 x_2) = 0 then
        bdm (m_removeBinding x2 v) fun _ v_3 =>
        m_removeQueue_32 (fun x1 x2 v => m_removeQueue_7 n x1 x2 v) x1 x2 v_3
      else
        m_removeQueue_32 (fun x1 x2 v => m_removeQueue_7 n x1 x2 v) x1 x2 v))
set_option maxHeartbeats 4000000 in
theorem e_X12_removeQueue_7 {m0 : Nat} {h : AH} (S : MSh m0 h) : ∀ (n : Nat) (x1 : Int32) (x2 : Int32) (v : MV), f_X12_removeQueue_7 n m0 x1 x2 (mput h m0 v) = mm h m0 (m_removeQueue_7 n x1 x2 v) := by
  intro n
  induction n with
  | zero => intros; rfl
  | succ n ih =>
    intro x1 x2 v
    rw [f_X12_removeQueue_7, m_removeQueue_7]
    simp only [bd_mm, lA_10 S, lA_14 S, lR_10 S, lR_14 S, l_kg S, ltd, mm_bdm, mm_ite, mm_mrJ, mm_none, mm_some, nn_s, e_X12_removeBinding S, e_X12_removeQueue_32 S (fun x1 x2 v => ih x1 x2 v), e_X12_removeQueue_38 S, ih]
def m_removeQueue (x1 : Int32) (v : MV) : Option (Unit × MV) := lt ((v.1 13) - 1) fun x_1 =>
  m_removeQueue_7 FU x1 x_1 v
set_option maxHeartbeats 4000000 in
theorem e_X12_removeQueue {m0 : Nat} {h : AH} (S : MSh m0 h) (x1 : Int32) (v : MV) : f_X12_removeQueue m0 x1 (mput h m0 v) = mm h m0 (m_removeQueue x1 v) := by
  unfold f_X12_removeQueue m_removeQueue
  simp only [l_rdI S, ltd, mm_ite, mm_none, mm_some, nn_s, e_X12_removeQueue_7 S]
-- X12_emptyQueue
def m_emptyQueue_130 (x2 : Int32) (v : MV) : Option (Unit × MV) := bdm (m_soft x2 406 v) fun _ v_1 =>
  some ((), v_1)
set_option maxHeartbeats 4000000 in
theorem e_X12_emptyQueue_130 {m0 : Nat} {h : AH} (S : MSh m0 h) (x2 : Int32) (v : MV) : f_X12_emptyQueue_130 m0 x2 (mput h m0 v) = mm h m0 (m_emptyQueue_130 x2 v) := by
  unfold f_X12_emptyQueue_130 m_emptyQueue_130
  simp only [bd_mm, l_kg S, ltd, mm_bdm, mm_ite, mm_none, mm_some, nn_s, e_X12_soft S]
def m_emptyQueue_159 (x1 : Int32) (x2 : Int32) (x10 : Int32) (v : MV) : Option (Unit × MV) := bdm (m_method x2 50 (x1 + 1) v) fun _ v_1 =>
  bdm (m_put x10 v_1) fun _ v_2 =>
  bdm (m_finish v_2) fun _ v_3 =>
  some ((), v_3)
set_option maxHeartbeats 4000000 in
theorem e_X12_emptyQueue_159 {m0 : Nat} {h : AH} (S : MSh m0 h) (x1 : Int32) (x2 : Int32) (x10 : Int32) (v : MV) : f_X12_emptyQueue_159 m0 x1 x2 x10 (mput h m0 v) = mm h m0 (m_emptyQueue_159 x1 x2 x10 v) := by
  unfold f_X12_emptyQueue_159 m_emptyQueue_159
  simp only [bd_mm, l_kg S, ltd, mm_bdm, mm_ite, mm_none, mm_some, nn_s, e_X12_finish S, e_X12_method S, e_X12_put S]
def m_emptyQueue_139 (x1 : Int32) (x2 : Int32) (x6 : Int32) (x7 : Int32) (v : MV) : Option (Unit × MV) := bdm (m_purge x7 v) fun x_2 v_1 =>
  (if x1 = 40 then
    bdm (m_removeQueue x6 v_1) fun _ v_3 =>
    m_emptyQueue_159 x1 x2 x_2 v_3
  else
    m_emptyQueue_159 x1 x2 x_2 v_1)
set_option maxHeartbeats 4000000 in
theorem e_X12_emptyQueue_139 {m0 : Nat} {h : AH} (S : MSh m0 h) (x1 : Int32) (x2 : Int32) (x6 : Int32) (x7 : Int32) (v : MV) : f_X12_emptyQueue_139 m0 x1 x2 x6 x7 (mput h m0 v) = mm h m0 (m_emptyQueue_139 x1 x2 x6 x7 v) := by
  unfold f_X12_emptyQueue_139 m_emptyQueue_139
  simp only [bd_mm, l_kg S, ltd, mm_bdm, mm_ite, mm_none, mm_some, nn_s, e_X12_emptyQueue_159 S, e_X12_purge S, e_X12_removeQueue S]
def m_emptyQueue_112 (x1 : Int32) (x2 : Int32) (x6 : Int32) (x7 : Int32) (x8 : Int32) (s0 : Int32) (v : MV) : Option (Unit × MV) := (if x1 = 40 then
    (if x8 = 0 then
      (if s0 = 0 then
        m_emptyQueue_139 x1 x2 x6 x7 v
      else
        m_emptyQueue_130 x2 v)
    else
      m_emptyQueue_130 x2 v)
  else
    m_emptyQueue_139 x1 x2 x6 x7 v)
set_option maxHeartbeats 4000000 in
theorem e_X12_emptyQueue_112 {m0 : Nat} {h : AH} (S : MSh m0 h) (x1 : Int32) (x2 : Int32) (x6 : Int32) (x7 : Int32) (x8 : Int32) (s0 : Int32) (v : MV) : f_X12_emptyQueue_112 m0 x1 x2 x6 x7 x8 s0 (mput h m0 v) = mm h m0 (m_emptyQueue_112 x1 x2 x6 x7 x8 s0 v) := by
  unfold f_X12_emptyQueue_112 m_emptyQueue_112
  simp only [ltd, mm_ite, mm_none, mm_some, nn_s, e_X12_emptyQueue_130 S, e_X12_emptyQueue_139 S]
def m_emptyQueue_86 (x1 : Int32) (x2 : Int32) (x5 : Int32) (x6 : Int32) (x7 : Int32) (s0 : Int32) (v : MV) : Option (Unit × MV) := nz 2 (
  nz 2 (
  (if ((x5 / 2) - (x5 / 2) / 2 * 2) = 1 then
    bdm (m_waiting x7 v) fun x_2 v_1 =>
    (if x_2 ≤ 0 then
      m_emptyQueue_112 x1 x2 x6 x7 s0 0 v_1
    else
      m_emptyQueue_112 x1 x2 x6 x7 s0 1 v_1)
  else
    m_emptyQueue_112 x1 x2 x6 x7 s0 0 v)))
set_option maxHeartbeats 4000000 in
theorem e_X12_emptyQueue_86 {m0 : Nat} {h : AH} (S : MSh m0 h) (x1 : Int32) (x2 : Int32) (x5 : Int32) (x6 : Int32) (x7 : Int32) (s0 : Int32) (v : MV) : f_X12_emptyQueue_86 m0 x1 x2 x5 x6 x7 s0 (mput h m0 v) = mm h m0 (m_emptyQueue_86 x1 x2 x5 x6 x7 s0 v) := by
  unfold f_X12_emptyQueue_86 m_emptyQueue_86
  simp only [bd_mm, l_kg S, ltd, mm_bdm, mm_ite, mm_none, mm_nz, mm_some, nn_s, e_X12_emptyQueue_112 S, e_X12_waiting S]
def m_emptyQueue_24 (x1 : Int32) (x2 : Int32) (x3 : Int64) (s0 : Int32) (v : MV) : Option (Unit × MV) := bdm (m_isJust v) fun x_2 v_1 =>
  (if x_2 = 0 then
    some ((), v_1)
  else
    bdm (m_queueOf x3 v_1) fun x_4 v_3 =>
    (if 0 ≤ x_4 then
      mrI v_3 11 x_4 fun x_5 =>
      nz 2 (
      (if (s0 - s0 / 2 * 2) = 1 then
        bdm (m_consumersOf x_5 v_3) fun x_7 v_6 =>
        (if x_7 ≤ 0 then
          m_emptyQueue_86 x1 x2 s0 x_4 x_5 0 v_6
        else
          m_emptyQueue_86 x1 x2 s0 x_4 x_5 1 v_6)
      else
        m_emptyQueue_86 x1 x2 s0 x_4 x_5 0 v_3))
    else
      bdm (m_soft x2 404 v_3) fun _ v_8 =>
      some ((), v_8)))
set_option maxHeartbeats 4000000 in
theorem e_X12_emptyQueue_24 {m0 : Nat} {h : AH} (S : MSh m0 h) (x1 : Int32) (x2 : Int32) (x3 : Int64) (s0 : Int32) (v : MV) : f_X12_emptyQueue_24 m0 x1 x2 x3 s0 (mput h m0 v) = mm h m0 (m_emptyQueue_24 x1 x2 x3 s0 v) := by
  unfold f_X12_emptyQueue_24 m_emptyQueue_24
  simp only [bd_mm, lA_11 S, lR_11 S, l_kg S, ltd, mm_bdm, mm_ite, mm_mrI, mm_none, mm_nz, mm_some, nn_s, e_X12_consumersOf S, e_X12_emptyQueue_86 S, e_X12_isJust S, e_X12_queueOf S, e_X12_soft S]
def m_emptyQueue (x1 : Int32) (v : MV) : Option (Unit × MV) := lt (v.1 54) fun x_1 =>
  bdm (m_nextName v) fun x_3 v_2 =>
  (if x1 = 40 then
    bdm (m_next v_2) fun x_5 v_4 =>
    m_emptyQueue_24 x1 x_1 x_3 x_5 v_4
  else
    m_emptyQueue_24 x1 x_1 x_3 0 v_2)
set_option maxHeartbeats 4000000 in
theorem e_X12_emptyQueue {m0 : Nat} {h : AH} (S : MSh m0 h) (x1 : Int32) (v : MV) : f_X12_emptyQueue m0 x1 (mput h m0 v) = mm h m0 (m_emptyQueue x1 v) := by
  unfold f_X12_emptyQueue m_emptyQueue
  simp only [bd_mm, l_kg S, l_rdI S, ltd, mm_bdm, mm_ite, mm_none, mm_some, nn_s, e_X12_emptyQueue_24 S, e_X12_next S, e_X12_nextName S]
-- X12_queueMethod
def m_queueMethod_25 (x1 : Int32) (v : MV) : Option (Unit × MV) := bdm (m_bind x1 v) fun _ v_1 =>
  some ((), v_1)
set_option maxHeartbeats 4000000 in
theorem e_X12_queueMethod_25 {m0 : Nat} {h : AH} (S : MSh m0 h) (x1 : Int32) (v : MV) : f_X12_queueMethod_25 m0 x1 (mput h m0 v) = mm h m0 (m_queueMethod_25 x1 v) := by
  unfold f_X12_queueMethod_25 m_queueMethod_25
  simp only [bd_mm, l_kg S, ltd, mm_bdm, mm_ite, mm_none, mm_some, nn_s, e_X12_bind S]
def m_queueMethod (x1 : Int32) (v : MV) : Option (Unit × MV) := (if x1 = 10 then
    bdm (m_declareQueue v) fun _ v_2 =>
    some ((), v_2)
  else
    (if x1 = 20 then
      m_queueMethod_25 x1 v
    else
      (if x1 = 50 then
        m_queueMethod_25 x1 v
      else
        bdm (m_emptyQueue x1 v) fun _ v_1 =>
        some ((), v_1))))
set_option maxHeartbeats 4000000 in
theorem e_X12_queueMethod {m0 : Nat} {h : AH} (S : MSh m0 h) (x1 : Int32) (v : MV) : f_X12_queueMethod m0 x1 (mput h m0 v) = mm h m0 (m_queueMethod x1 v) := by
  unfold f_X12_queueMethod m_queueMethod
  simp only [bd_mm, l_kg S, ltd, mm_bdm, mm_ite, mm_none, mm_some, nn_s, e_X12_declareQueue S, e_X12_emptyQueue S, e_X12_queueMethod_25 S]
-- X12_commit
def m_commit_118 (k22 : Int32 → Int32 → Int32 → Int32 → MV → Option (Unit × MV)) (x1 : Int32) (x2 : Int32) (x3 : Int32) (x4 : Int32) (v : MV) : Option (Unit × MV) := k22 x1 x2 x3 (x4 + 1) v
set_option maxHeartbeats 4000000 in
theorem e_X12_commit_118 {m0 : Nat} {h : AH} (S : MSh m0 h) {k22 : Nat → Int32 → Int32 → Int32 → Int32 → AH → Option (Unit × AH)} {j22 : Int32 → Int32 → Int32 → Int32 → MV → Option (Unit × MV)} (c22 : ∀ (x1 : Int32) (x2 : Int32) (x3 : Int32) (x4 : Int32) (v : MV), k22 m0 x1 x2 x3 x4 (mput h m0 v) = mm h m0 (j22 x1 x2 x3 x4 v)) (x1 : Int32) (x2 : Int32) (x3 : Int32) (x4 : Int32) (v : MV) : f_X12_commit_118 k22 m0 x1 x2 x3 x4 (mput h m0 v) = mm h m0 (m_commit_118 j22 x1 x2 x3 x4 v) := by
  unfold f_X12_commit_118 m_commit_118
  simp only [ltd, mm_ite, mm_none, mm_some, nn_s, c22]
def m_commit_124 (x1 : Int32) (x3 : Int32) (v : MV) : Option (Unit × MV) := (if x3 = 0 then
    some ((), v)
  else
    bdm (m_say x1 90 21 v) fun _ v_1 =>
    some ((), v_1))
set_option maxHeartbeats 4000000 in
theorem e_X12_commit_124 {m0 : Nat} {h : AH} (S : MSh m0 h) (x1 : Int32) (x3 : Int32) (v : MV) : f_X12_commit_124 m0 x1 x3 (mput h m0 v) = mm h m0 (m_commit_124 x1 x3 v) := by
  unfold f_X12_commit_124 m_commit_124
  simp only [bd_mm, l_kg S, ltd, mm_bdm, mm_ite, mm_none, mm_some, nn_s, e_X12_say S]
def m_commit_22 : Nat → Int32 → Int32 → Int32 → Int32 → MV → Option (Unit × MV)
  | 0, _, _, _, _, _ => none
  | n + 1, x1, x2, x3, x4, v => (if ((12 * x1) + x2) ≤ x4 then
      m_commit_124 x1 x3 v
    else
      (if x3 = 0 then
        m_commit_124 x1 x3 v
      else
        mrI v 48 x4 fun x_1 =>
        (if x_1 = 0 then
          mrJ v 49 x4 fun x_6 =>
          mrJ v 50 x4 fun x_7 =>
          mrI v 51 x4 fun x_8 =>
          mrI v 52 x4 fun x_9 =>
          mrJ v 53 x4 fun x_10 =>
          bdm (m_route x1 x_6 x_7 x_8 x_9 x_10 v) fun x_12 v_11 =>
          m_commit_118 (fun x1 x2 x3 x4 v => m_commit_22 n x1 x2 x3 x4 v) x1 x2 x_12 x4 v_11
        else
          mrI v 48 x4 fun x_2 =>
          mrJ v 49 x4 fun x_3 =>
          mrI v 51 x4 fun x_4 =>
          bdm (m_settle x1 x_2 x_3.toInt32 x_4 v) fun _ v_5 =>
          m_commit_118 (fun x1 x2 x3 x4 v => m_commit_22 n x1 x2 x3 x4 v) x1 x2 x3 x4 v_5)))
set_option maxHeartbeats 4000000 in
theorem e_X12_commit_22 {m0 : Nat} {h : AH} (S : MSh m0 h) : ∀ (n : Nat) (x1 : Int32) (x2 : Int32) (x3 : Int32) (x4 : Int32) (v : MV), f_X12_commit_22 n m0 x1 x2 x3 x4 (mput h m0 v) = mm h m0 (m_commit_22 n x1 x2 x3 x4 v) := by
  intro n
  induction n with
  | zero => intros; rfl
  | succ n ih =>
    intro x1 x2 x3 x4 v
    rw [f_X12_commit_22, m_commit_22]
    simp only [bd_mm, lA_48 S, lA_49 S, lA_50 S, lA_51 S, lA_52 S, lA_53 S, lR_48 S, lR_49 S, lR_50 S, lR_51 S, lR_52 S, lR_53 S, l_kg S, ltd, mm_bdm, mm_ite, mm_mrI, mm_mrJ, mm_none, mm_some, nn_s, e_X12_commit_118 S (fun x1 x2 x3 x4 v => ih x1 x2 x3 x4 v), e_X12_commit_124 S, e_X12_route S, e_X12_settle S, ih]
def m_commit (x1 : Int32) (v : MV) : Option (Unit × MV) := mrI v 47 x1 fun x_1 =>
  msI v 47 x1 0 fun v_2 =>
  lt (12 * x1) fun x_3 =>
  m_commit_22 FU x1 x_1 1 x_3 v_2
set_option maxHeartbeats 4000000 in
theorem e_X12_commit {m0 : Nat} {h : AH} (S : MSh m0 h) (x1 : Int32) (v : MV) : f_X12_commit m0 x1 (mput h m0 v) = mm h m0 (m_commit x1 v) := by
  unfold f_X12_commit m_commit
  simp only [lA_47 S, lR_47 S, lS_47 S, ltd, mm_ite, mm_mrI, mm_msI, mm_none, mm_some, nn_s, e_X12_commit_22 S]
-- X12_transactionMethod
def m_transactionMethod (x1 : Int32) (v : MV) : Option (Unit × MV) := lt (v.1 54) fun x_1 =>
  bdm (m_isJust v) fun x_3 v_2 =>
  (if x_3 = 0 then
    some ((), v_2)
  else
    (if x1 = 10 then
      msZ v_2 39 x_1 1 fun v_9 =>
      bdm (m_say x_1 90 11 v_9) fun _ v_10 =>
      some ((), v_10)
    else
      mrI v_2 39 x_1 fun x_4 =>
      (if x_4 = 0 then
        bdm (m_soft x_1 406 v_2) fun _ v_8 =>
        some ((), v_8)
      else
        (if x1 = 20 then
          bdm (m_commit x_1 v_2) fun _ v_7 =>
          some ((), v_7)
        else
          msI v_2 47 x_1 0 fun v_5 =>
          bdm (m_say x_1 90 31 v_5) fun _ v_6 =>
          some ((), v_6)))))
set_option maxHeartbeats 4000000 in
theorem e_X12_transactionMethod {m0 : Nat} {h : AH} (S : MSh m0 h) (x1 : Int32) (v : MV) : f_X12_transactionMethod m0 x1 (mput h m0 v) = mm h m0 (m_transactionMethod x1 v) := by
  unfold f_X12_transactionMethod m_transactionMethod
  simp only [bd_mm, lA_39 S, lR_39 S, lR_47 S, lS_39 S, lS_47 S, l_kg S, l_rdI S, ltd, mm_bdm, mm_ite, mm_mrI, mm_msI, mm_msZ, mm_none, mm_some, nn_s, e_X12_commit S, e_X12_isJust S, e_X12_say S, e_X12_soft S]
-- X12_doMethod
def m_doMethod_94 (x1 : Int32) (x2 : Int32) (s0 : Int32) (v : MV) : Option (Unit × MV) := (if s0 = 0 then
    bdm (m_hard 503 v) fun _ v_6 =>
    some ((), v_6)
  else
    (if x1 = 20 then
      bdm (m_channelMethod x2 v) fun _ v_1 =>
      some ((), v_1)
    else (if x1 = 40 then
      bdm (m_exchangeMethod x2 v) fun _ v_2 =>
      some ((), v_2)
    else (if x1 = 50 then
      bdm (m_queueMethod x2 v) fun _ v_3 =>
      some ((), v_3)
    else (if x1 = 60 then
      bdm (m_letterMethod x2 v) fun _ v_4 =>
      some ((), v_4)
    else bdm (m_transactionMethod x2 v) fun _ v_5 =>
    some ((), v_5))))))
set_option maxHeartbeats 4000000 in
theorem e_X12_doMethod_94 {m0 : Nat} {h : AH} (S : MSh m0 h) (x1 : Int32) (x2 : Int32) (s0 : Int32) (v : MV) : f_X12_doMethod_94 m0 x1 x2 s0 (mput h m0 v) = mm h m0 (m_doMethod_94 x1 x2 s0 v) := by
  unfold f_X12_doMethod_94 m_doMethod_94
  simp only [bd_mm, l_kg S, ltd, mm_bdm, mm_ite, mm_none, mm_some, nn_s, e_X12_channelMethod S, e_X12_exchangeMethod S, e_X12_hard S, e_X12_letterMethod S, e_X12_queueMethod S, e_X12_transactionMethod S]
def m_doMethod (v : MV) : Option (Unit × MV) := (if 2 ≤ ((v.1 56) - (v.1 55)) then
    bdm (m_next v) fun x_2 v_1 =>
    bdm (m_next v_1) fun x_4 v_3 =>
    (if (v_3.1 54) = 0 then
      bdm (m_lineMethod x_2 x_4 v_3) fun _ v_8 =>
      some ((), v_8)
    else
      (if (v_3.1 0) = 4 then
        mrI v_3 35 (v_3.1 54) fun x_5 =>
        (if x_5 = 1 then
          bdm (m_isMethod x_2 x_4 v_3) fun x_7 v_6 =>
          (if x_7 = 0 then
            m_doMethod_94 x_2 x_4 0 v_6
          else
            m_doMethod_94 x_2 x_4 1 v_6)
        else
          (if x_2 = 20 then
            (if x_4 = 10 then
              m_doMethod_94 x_2 x_4 1 v_3
            else
              m_doMethod_94 x_2 x_4 0 v_3)
          else
            m_doMethod_94 x_2 x_4 0 v_3))
      else
        m_doMethod_94 x_2 x_4 0 v_3))
  else
    bdm (m_hard 501 v) fun _ v_9 =>
    some ((), v_9))
set_option maxHeartbeats 4000000 in
theorem e_X12_doMethod {m0 : Nat} {h : AH} (S : MSh m0 h) (v : MV) : f_X12_doMethod m0 (mput h m0 v) = mm h m0 (m_doMethod  v) := by
  unfold f_X12_doMethod m_doMethod
  simp only [bd_mm, lA_35 S, lR_35 S, l_kg S, l_rdI S, ltd, mm_bdm, mm_ite, mm_mrI, mm_none, mm_some, nn_s, e_X12_doMethod_94 S, e_X12_hard S, e_X12_isMethod S, e_X12_lineMethod S, e_X12_next S]
-- X12_head
def m_head_32 (v : MV) : Option (Unit × MV) := bdm (m_hard 501 v) fun _ v_1 =>
  some ((), v_1)
set_option maxHeartbeats 4000000 in
theorem e_X12_head_32 {m0 : Nat} {h : AH} (S : MSh m0 h) (v : MV) : f_X12_head_32 m0 (mput h m0 v) = mm h m0 (m_head_32  v) := by
  unfold f_X12_head_32 m_head_32
  simp only [bd_mm, l_kg S, ltd, mm_bdm, mm_ite, mm_none, mm_some, nn_s, e_X12_hard S]
def m_head (v : MV) : Option (Unit × MV) := lt (v.1 54) fun x_1 =>
  (if ((v.1 56) - (v.1 55)) = 1 then
    mrI v 1 (v.1 55) fun x_2 =>
    (if x_2 ≤ 6 then
      mrI v 1 (v.1 55) fun x_3 =>
      msI v 44 x_1 x_3 fun v_4 =>
      mrI v_4 1 (v_4.1 55) fun x_5 =>
      msI v_4 45 x_1 x_5 fun v_6 =>
      msJ v_6 46 x_1 0 fun v_7 =>
      msI v_7 40 x_1 2 fun v_8 =>
      mrI v_8 44 x_1 fun x_9 =>
      (if x_9 = 0 then
        bdm (m_complete x_1 v_8) fun _ v_10 =>
        some ((), v_10)
      else
        some ((), v_8))
    else
      m_head_32  v)
  else
    m_head_32  v)
set_option maxHeartbeats 4000000 in
theorem e_X12_head {m0 : Nat} {h : AH} (S : MSh m0 h) (v : MV) : f_X12_head m0 (mput h m0 v) = mm h m0 (m_head  v) := by
  unfold f_X12_head m_head
  simp only [bd_mm, lA_1 S, lA_44 S, lR_1 S, lR_40 S, lR_44 S, lR_45 S, lR_46 S, lS_40 S, lS_44 S, lS_45 S, lS_46 S, l_kg S, l_rdI S, ltd, mm_bdm, mm_ite, mm_mrI, mm_msI, mm_msJ, mm_none, mm_some, nn_s, e_X12_complete S, e_X12_head_32 S]
-- X12_frame
def m_frame_111 (v : MV) : Option (Unit × MV) := bdm (m_hard 505 v) fun _ v_1 =>
  some ((), v_1)
set_option maxHeartbeats 4000000 in
theorem e_X12_frame_111 {m0 : Nat} {h : AH} (S : MSh m0 h) (v : MV) : f_X12_frame_111 m0 (mput h m0 v) = mm h m0 (m_frame_111  v) := by
  unfold f_X12_frame_111 m_frame_111
  simp only [bd_mm, l_kg S, ltd, mm_bdm, mm_ite, mm_none, mm_some, nn_s, e_X12_hard S]
def m_frame_121 (x1 : Int32) (v : MV) : Option (Unit × MV) := (if x1 = 1 then
    bdm (m_doMethod v) fun _ v_3 =>
    some ((), v_3)
  else
    (if x1 = 2 then
      bdm (m_head v) fun _ v_2 =>
      some ((), v_2)
    else
      bdm (m_body v) fun _ v_1 =>
      some ((), v_1)))
set_option maxHeartbeats 4000000 in
theorem e_X12_frame_121 {m0 : Nat} {h : AH} (S : MSh m0 h) (x1 : Int32) (v : MV) : f_X12_frame_121 m0 x1 (mput h m0 v) = mm h m0 (m_frame_121 x1 v) := by
  unfold f_X12_frame_121 m_frame_121
  simp only [bd_mm, l_kg S, ltd, mm_bdm, mm_ite, mm_none, mm_some, nn_s, e_X12_body S, e_X12_doMethod S, e_X12_head S]
def m_frame_91 (x1 : Int32) (s0 : Int32) (v : MV) : Option (Unit × MV) := (if s0 ≤ 0 then
    (if x1 = 1 then
      m_frame_121 x1 v
    else
      m_frame_111  v)
  else
    (if x1 = (s0 + 1) then
      m_frame_121 x1 v
    else
      m_frame_111  v))
set_option maxHeartbeats 4000000 in
theorem e_X12_frame_91 {m0 : Nat} {h : AH} (S : MSh m0 h) (x1 : Int32) (s0 : Int32) (v : MV) : f_X12_frame_91 m0 x1 s0 (mput h m0 v) = mm h m0 (m_frame_91 x1 s0 v) := by
  unfold f_X12_frame_91 m_frame_91
  simp only [ltd, mm_ite, mm_none, mm_some, nn_s, e_X12_frame_111 S, e_X12_frame_121 S]
def m_frame (x1 : Int32) (v : MV) : Option (Unit × MV) := lt (v.1 54) fun x_1 =>
  mrI v 35 x_1 fun x_2 =>
  (if x_2 = 2 then
    (if x1 = 1 then
      (if ((v.1 56) - (v.1 55)) = 2 then
        mrI v 1 (v.1 55) fun x_5 =>
        (if x_5 = 20 then
          mrI v 1 ((v.1 55) + 1) fun x_6 =>
          (if x_6 = 41 then
            msI v 35 x_1 0 fun v_7 =>
            some ((), v_7)
          else
            some ((), v))
        else
          some ((), v))
      else
        some ((), v))
    else
      some ((), v))
  else
    mrI v 35 x_1 fun x_3 =>
    (if x_3 = 1 then
      mrI v 40 x_1 fun x_4 =>
      m_frame_91 x1 x_4 v
    else
      m_frame_91 x1 0 v))
set_option maxHeartbeats 4000000 in
theorem e_X12_frame {m0 : Nat} {h : AH} (S : MSh m0 h) (x1 : Int32) (v : MV) : f_X12_frame m0 x1 (mput h m0 v) = mm h m0 (m_frame x1 v) := by
  unfold f_X12_frame m_frame
  simp only [lA_1 S, lA_35 S, lA_40 S, lR_1 S, lR_35 S, lR_40 S, lS_35 S, l_rdI S, ltd, mm_ite, mm_mrI, mm_msI, mm_none, mm_some, nn_s, e_X12_frame_91 S]
-- X12_frameLength
def m_frameLength_66 (v : MV) : Option (Int32 × MV) := (if (v.1 2) < 3 then
    some (0, v)
  else
    mrI v 1 2 fun x_1 =>
    (if (x_1 + 4) ≤ (v.1 2) then
      mrI v 1 2 fun x_2 =>
      mrI v 1 (x_2 + 3) fun x_3 =>
      (if x_3 = 206 then
        mrI v 1 2 fun x_4 =>
        some ((x_4 + 4), v)
      else
        some (((-1)), v))
    else
      some (0, v)))
set_option maxHeartbeats 4000000 in
theorem e_X12_frameLength_66 {m0 : Nat} {h : AH} (S : MSh m0 h) (v : MV) : f_X12_frameLength_66 m0 (mput h m0 v) = mm h m0 (m_frameLength_66  v) := by
  unfold f_X12_frameLength_66 m_frameLength_66
  simp only [lA_1 S, lR_1 S, l_rdI S, ltd, mm_ite, mm_mrI, mm_none, mm_some, nn_s]
def m_frameLength_45 (v : MV) : Option (Int32 × MV) := (if (v.1 2) ≤ 2 then
    m_frameLength_66  v
  else
    mrI v 1 2 fun x_1 =>
    (if x_1 ≤ 40 then
      m_frameLength_66  v
    else
      some (((-1)), v)))
set_option maxHeartbeats 4000000 in
theorem e_X12_frameLength_45 {m0 : Nat} {h : AH} (S : MSh m0 h) (v : MV) : f_X12_frameLength_45 m0 (mput h m0 v) = mm h m0 (m_frameLength_45  v) := by
  unfold f_X12_frameLength_45 m_frameLength_45
  simp only [lA_1 S, lR_1 S, l_rdI S, ltd, mm_ite, mm_mrI, mm_none, mm_some, nn_s, e_X12_frameLength_66 S]
def m_frameLength_27 (v : MV) : Option (Int32 × MV) := (if (v.1 2) ≤ 1 then
    m_frameLength_45  v
  else
    mrI v 1 1 fun x_1 =>
    (if 3 < x_1 then
      some (((-1)), v)
    else
      m_frameLength_45  v))
set_option maxHeartbeats 4000000 in
theorem e_X12_frameLength_27 {m0 : Nat} {h : AH} (S : MSh m0 h) (v : MV) : f_X12_frameLength_27 m0 (mput h m0 v) = mm h m0 (m_frameLength_27  v) := by
  unfold f_X12_frameLength_27 m_frameLength_27
  simp only [lA_1 S, lR_1 S, l_rdI S, ltd, mm_ite, mm_mrI, mm_none, mm_some, nn_s, e_X12_frameLength_45 S]
def m_frameLength (v : MV) : Option (Int32 × MV) := (if (v.1 2) ≤ 0 then
    m_frameLength_27  v
  else
    mrI v 1 0 fun x_1 =>
    (if x_1 < 1 then
      some (((-1)), v)
    else
      mrI v 1 0 fun x_2 =>
      (if 3 < x_2 then
        some (((-1)), v)
      else
        m_frameLength_27  v)))
set_option maxHeartbeats 4000000 in
theorem e_X12_frameLength {m0 : Nat} {h : AH} (S : MSh m0 h) (v : MV) : f_X12_frameLength m0 (mput h m0 v) = mm h m0 (m_frameLength  v) := by
  unfold f_X12_frameLength m_frameLength
  simp only [lA_1 S, lR_1 S, l_rdI S, ltd, mm_ite, mm_mrI, mm_none, mm_some, nn_s, e_X12_frameLength_27 S]

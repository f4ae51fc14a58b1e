/-! printed by wip/whole/gen/lower.py -/
-- X12_held
def m_held_28 (k4 : Int32 → Int32 → Int32 → MV → Option (Int32 × MV)) (x1 : Int32) (x3 : Int32) (s0 : Int32) (s1 : Int32) (v : MV) : Option (Int32 × MV) := lt (s1 + s0) fun x_1 =>
  k4 x1 x_1 (x3 + 1) v
set_option maxHeartbeats 4000000 in
theorem e_X12_held_28 {m0 : Nat} {h : AH} (S : MSh m0 h) {k4 : Nat → Int32 → Int32 → Int32 → AH → Option (Int32 × AH)} {j4 : Int32 → Int32 → Int32 → MV → Option (Int32 × MV)} (c4 : ∀ (x1 : Int32) (x2 : Int32) (x3 : Int32) (v : MV), k4 m0 x1 x2 x3 (mput h m0 v) = mm h m0 (j4 x1 x2 x3 v)) (x1 : Int32) (x3 : Int32) (s0 : Int32) (s1 : Int32) (v : MV) : f_X12_held_28 k4 m0 x1 x3 s0 s1 (mput h m0 v) = mm h m0 (m_held_28 j4 x1 x3 s0 s1 v) := by
  unfold f_X12_held_28 m_held_28
  simp only [ltd, mm_ite, mm_none, mm_some, nn_s, c4]
def m_held_4 : Nat → Int32 → Int32 → Int32 → MV → Option (Int32 × MV)
  | 0, _, _, _, _ => none
  | n + 1, x1, x2, x3, v => (if (v.1 24) ≤ x3 then
      some (x2, v)
    else
      mrI v 28 x3 fun x_1 =>
      (if x_1 = x1 then
        m_held_28 (fun x1 x2 x3 v => m_held_4 n x1 x2 x3 v) x1 x3 1 x2 v
      else
        m_held_28 (fun x1 x2 x3 v => m_held_4 n x1 x2 x3 v) x1 x3 0 x2 v))
set_option maxHeartbeats 4000000 in
theorem e_X12_held_4 {m0 : Nat} {h : AH} (S : MSh m0 h) : ∀ (n : Nat) (x1 : Int32) (x2 : Int32) (x3 : Int32) (v : MV), f_X12_held_4 n m0 x1 x2 x3 (mput h m0 v) = mm h m0 (m_held_4 n x1 x2 x3 v) := by
  intro n
  induction n with
  | zero => intros; rfl
  | succ n ih =>
    intro x1 x2 x3 v
    rw [f_X12_held_4, m_held_4]
    simp only [lA_28 S, lR_28 S, l_rdI S, ltd, mm_ite, mm_mrI, mm_none, mm_some, nn_s, e_X12_held_28 S (fun x1 x2 x3 v => ih x1 x2 x3 v), ih]
def m_held (x1 : Int32) (v : MV) : Option (Int32 × MV) := m_held_4 FU x1 0 0 v
set_option maxHeartbeats 4000000 in
theorem e_X12_held {m0 : Nat} {h : AH} (S : MSh m0 h) (x1 : Int32) (v : MV) : f_X12_held m0 x1 (mput h m0 v) = mm h m0 (m_held x1 v) := by
  unfold f_X12_held m_held
  simp only [ltd, mm_ite, mm_none, mm_some, nn_s, e_X12_held_4 S]
-- X12_channel
def m_channel (x1 : Int32) (x2 : Int32) (v : MV) : Option (Int32 × MV) := (if x1 < 1 then
    some (((-1)), v)
  else
    (if x1 ≤ 3 then
      (if x2 = 0 then
        mrI v 35 x1 fun x_1 =>
        some (x_1, v)
      else (if x2 = 1 then
        bdm (m_held x1 v) fun x_3 v_2 =>
        some (x_3, v_2)
      else (if x2 = 2 then
        mrI v 38 x1 fun x_4 =>
        some (x_4, v)
      else (if x2 = 3 then
        mrI v 47 x1 fun x_5 =>
        some (x_5, v)
      else some (((-1)), v)))))
    else
      some (((-1)), v)))
set_option maxHeartbeats 4000000 in
theorem e_X12_channel {m0 : Nat} {h : AH} (S : MSh m0 h) (x1 : Int32) (x2 : Int32) (v : MV) : f_X12_channel m0 x1 x2 (mput h m0 v) = mm h m0 (m_channel x1 x2 v) := by
  unfold f_X12_channel m_channel
  simp only [bd_mm, lA_35 S, lA_38 S, lA_47 S, lR_35 S, lR_38 S, lR_47 S, l_kg S, ltd, mm_bdm, mm_ite, mm_mrI, mm_none, mm_some, nn_s, e_X12_held S]
-- X12_connect
def m_connect (v : MV) : Option (Int32 × MV) := (if (v.1 0) = 5 then
    mwI v 0 0 fun v_1 =>
    rz 1 (some (1, v_1))
  else
    rz 0 (some (0, v)))
set_option maxHeartbeats 4000000 in
theorem e_X12_connect {m0 : Nat} {h : AH} (S : MSh m0 h) (v : MV) : f_X12_connect m0 (mput h m0 v) = mm h m0 (m_connect  v) := by
  unfold f_X12_connect m_connect
  simp only [l_rdI S, l_wrI S, ltd, mm_ite, mm_mwI, mm_none, mm_rz, mm_some, nn_s]
-- X12_line
def m_line (v : MV) : Option (Int32 × MV) := some ((v.1 0), v)
set_option maxHeartbeats 4000000 in
theorem e_X12_line {m0 : Nat} {h : AH} (S : MSh m0 h) (v : MV) : f_X12_line m0 (mput h m0 v) = mm h m0 (m_line  v) := by
  unfold f_X12_line m_line
  simp only [l_rdI S, ltd, mm_ite, mm_none, mm_some, nn_s]
-- X12_consumersOf
def m_consumersOf_28 (k4 : Int32 → Int32 → Int32 → MV → Option (Int32 × MV)) (x1 : Int32) (x3 : Int32) (s0 : Int32) (s1 : Int32) (v : MV) : Option (Int32 × MV) := lt (s1 + s0) fun x_1 =>
  k4 x1 x_1 (x3 + 1) v
set_option maxHeartbeats 4000000 in
theorem e_X12_consumersOf_28 {m0 : Nat} {h : AH} (S : MSh m0 h) {k4 : Nat → Int32 → Int32 → Int32 → AH → Option (Int32 × AH)} {j4 : Int32 → Int32 → Int32 → MV → Option (Int32 × MV)} (c4 : ∀ (x1 : Int32) (x2 : Int32) (x3 : Int32) (v : MV), k4 m0 x1 x2 x3 (mput h m0 v) = mm h m0 (j4 x1 x2 x3 v)) (x1 : Int32) (x3 : Int32) (s0 : Int32) (s1 : Int32) (v : MV) : f_X12_consumersOf_28 k4 m0 x1 x3 s0 s1 (mput h m0 v) = mm h m0 (m_consumersOf_28 j4 x1 x3 s0 s1 v) := by
  unfold f_X12_consumersOf_28 m_consumersOf_28
  simp only [ltd, mm_ite, mm_none, mm_some, nn_s, c4]
def m_consumersOf_4 : Nat → Int32 → Int32 → Int32 → MV → Option (Int32 × MV)
  | 0, _, _, _, _ => none
  | n + 1, x1, x2, x3, v => (if (v.1 17) ≤ x3 then
      some (x2, v)
    else
      mrI v 22 x3 fun x_1 =>
      (if x_1 = x1 then
        m_consumersOf_28 (fun x1 x2 x3 v => m_consumersOf_4 n x1 x2 x3 v) x1 x3 1 x2 v
      else
        m_consumersOf_28 (fun x1 x2 x3 v => m_consumersOf_4 n x1 x2 x3 v) x1 x3 0 x2 v))
set_option maxHeartbeats 4000000 in
theorem e_X12_consumersOf_4 {m0 : Nat} {h : AH} (S : MSh m0 h) : ∀ (n : Nat) (x1 : Int32) (x2 : Int32) (x3 : Int32) (v : MV), f_X12_consumersOf_4 n m0 x1 x2 x3 (mput h m0 v) = mm h m0 (m_consumersOf_4 n x1 x2 x3 v) := by
  intro n
  induction n with
  | zero => intros; rfl
  | succ n ih =>
    intro x1 x2 x3 v
    rw [f_X12_consumersOf_4, m_consumersOf_4]
    simp only [lA_22 S, lR_22 S, l_rdI S, ltd, mm_ite, mm_mrI, mm_none, mm_some, nn_s, e_X12_consumersOf_28 S (fun x1 x2 x3 v => ih x1 x2 x3 v), ih]
def m_consumersOf (x1 : Int32) (v : MV) : Option (Int32 × MV) := m_consumersOf_4 FU x1 0 0 v
set_option maxHeartbeats 4000000 in
theorem e_X12_consumersOf {m0 : Nat} {h : AH} (S : MSh m0 h) (x1 : Int32) (v : MV) : f_X12_consumersOf m0 x1 (mput h m0 v) = mm h m0 (m_consumersOf x1 v) := by
  unfold f_X12_consumersOf m_consumersOf
  simp only [ltd, mm_ite, mm_none, mm_some, nn_s, e_X12_consumersOf_4 S]
-- X12_firstOf
def m_firstOf_31 (k2 : Int32 → Int32 → MV → Option (Int32 × MV)) (x1 : Int32) (x2 : Int32) (v : MV) : Option (Int32 × MV) := k2 x1 (x2 + 1) v
set_option maxHeartbeats 4000000 in
theorem e_X12_firstOf_31 {m0 : Nat} {h : AH} (S : MSh m0 h) {k2 : Nat → Int32 → Int32 → AH → Option (Int32 × AH)} {j2 : Int32 → Int32 → MV → Option (Int32 × MV)} (c2 : ∀ (x1 : Int32) (x2 : Int32) (v : MV), k2 m0 x1 x2 (mput h m0 v) = mm h m0 (j2 x1 x2 v)) (x1 : Int32) (x2 : Int32) (v : MV) : f_X12_firstOf_31 k2 m0 x1 x2 (mput h m0 v) = mm h m0 (m_firstOf_31 j2 x1 x2 v) := by
  unfold f_X12_firstOf_31 m_firstOf_31
  simp only [ltd, mm_ite, mm_none, mm_some, nn_s, c2]
def m_firstOf_2 : Nat → Int32 → Int32 → MV → Option (Int32 × MV)
  | 0, _, _, _ => none
  | n + 1, x1, x2, v => (if (v.1 24) ≤ x2 then
      some (((-1)), v)
    else
      mrI v 27 x2 fun x_1 =>
      (if x_1 = x1 then
        mrI v 28 x2 fun x_2 =>
        (if x_2 = 0 then
          some (x2, v)
        else
          m_firstOf_31 (fun x1 x2 v => m_firstOf_2 n x1 x2 v) x1 x2 v)
      else
        m_firstOf_31 (fun x1 x2 v => m_firstOf_2 n x1 x2 v) x1 x2 v))
set_option maxHeartbeats 4000000 in
theorem e_X12_firstOf_2 {m0 : Nat} {h : AH} (S : MSh m0 h) : ∀ (n : Nat) (x1 : Int32) (x2 : Int32) (v : MV), f_X12_firstOf_2 n m0 x1 x2 (mput h m0 v) = mm h m0 (m_firstOf_2 n x1 x2 v) := by
  intro n
  induction n with
  | zero => intros; rfl
  | succ n ih =>
    intro x1 x2 v
    rw [f_X12_firstOf_2, m_firstOf_2]
    simp only [lA_27 S, lA_28 S, lR_27 S, lR_28 S, l_rdI S, ltd, mm_ite, mm_mrI, mm_none, mm_some, nn_s, e_X12_firstOf_31 S (fun x1 x2 v => ih x1 x2 v), ih]
def m_firstOf (x1 : Int32) (v : MV) : Option (Int32 × MV) := m_firstOf_2 FU x1 0 v
set_option maxHeartbeats 4000000 in
theorem e_X12_firstOf {m0 : Nat} {h : AH} (S : MSh m0 h) (x1 : Int32) (v : MV) : f_X12_firstOf m0 x1 (mput h m0 v) = mm h m0 (m_firstOf x1 v) := by
  unfold f_X12_firstOf m_firstOf
  simp only [ltd, mm_ite, mm_none, mm_some, nn_s, e_X12_firstOf_2 S]
-- X12_waiting
def m_waiting_37 (k4 : Int32 → Int32 → Int32 → MV → Option (Int32 × MV)) (x1 : Int32) (x3 : Int32) (s0 : Int32) (s1 : Int32) (v : MV) : Option (Int32 × MV) := lt (s1 + s0) fun x_1 =>
  k4 x1 x_1 (x3 + 1) v
set_option maxHeartbeats 4000000 in
theorem e_X12_waiting_37 {m0 : Nat} {h : AH} (S : MSh m0 h) {k4 : Nat → Int32 → Int32 → Int32 → AH → Option (Int32 × AH)} {j4 : Int32 → Int32 → Int32 → MV → Option (Int32 × MV)} (c4 : ∀ (x1 : Int32) (x2 : Int32) (x3 : Int32) (v : MV), k4 m0 x1 x2 x3 (mput h m0 v) = mm h m0 (j4 x1 x2 x3 v)) (x1 : Int32) (x3 : Int32) (s0 : Int32) (s1 : Int32) (v : MV) : f_X12_waiting_37 k4 m0 x1 x3 s0 s1 (mput h m0 v) = mm h m0 (m_waiting_37 j4 x1 x3 s0 s1 v) := by
  unfold f_X12_waiting_37 m_waiting_37
  simp only [ltd, mm_ite, mm_none, mm_some, nn_s, c4]
def m_waiting_4 : Nat → Int32 → Int32 → Int32 → MV → Option (Int32 × MV)
  | 0, _, _, _, _ => none
  | n + 1, x1, x2, x3, v => (if (v.1 24) ≤ x3 then
      some (x2, v)
    else
      mrI v 27 x3 fun x_1 =>
      (if x_1 = x1 then
        mrI v 28 x3 fun x_2 =>
        (if x_2 = 0 then
          m_waiting_37 (fun x1 x2 x3 v => m_waiting_4 n x1 x2 x3 v) x1 x3 1 x2 v
        else
          m_waiting_37 (fun x1 x2 x3 v => m_waiting_4 n x1 x2 x3 v) x1 x3 0 x2 v)
      else
        m_waiting_37 (fun x1 x2 x3 v => m_waiting_4 n x1 x2 x3 v) x1 x3 0 x2 v))
set_option maxHeartbeats 4000000 in
theorem e_X12_waiting_4 {m0 : Nat} {h : AH} (S : MSh m0 h) : ∀ (n : Nat) (x1 : Int32) (x2 : Int32) (x3 : Int32) (v : MV), f_X12_waiting_4 n m0 x1 x2 x3 (mput h m0 v) = mm h m0 (m_waiting_4 n x1 x2 x3 v) := by
  intro n
  induction n with
  | zero => intros; rfl
  | succ n ih =>
    intro x1 x2 x3 v
    rw [f_X12_waiting_4, m_waiting_4]
    simp only [lA_27 S, lA_28 S, lR_27 S, lR_28 S, l_rdI S, ltd, mm_ite, mm_mrI, mm_none, mm_some, nn_s, e_X12_waiting_37 S (fun x1 x2 x3 v => ih x1 x2 x3 v), ih]
def m_waiting (x1 : Int32) (v : MV) : Option (Int32 × MV) := m_waiting_4 FU x1 0 0 v
set_option maxHeartbeats 4000000 in
theorem e_X12_waiting {m0 : Nat} {h : AH} (S : MSh m0 h) (x1 : Int32) (v : MV) : f_X12_waiting m0 x1 (mput h m0 v) = mm h m0 (m_waiting x1 v) := by
  unfold f_X12_waiting m_waiting
  simp only [ltd, mm_ite, mm_none, mm_some, nn_s, e_X12_waiting_4 S]
-- X12_queue
def m_queue_103 (k71 : Int32 → Int32 → Int32 → MV → Option (Int32 × MV)) (x1 : Int32) (x4 : Int32) (s0 : Int32) (s1 : Int32) (v : MV) : Option (Int32 × MV) := lt (s1 + s0) fun x_1 =>
  k71 x1 x_1 (x4 + 1) v
set_option maxHeartbeats 4000000 in
theorem e_X12_queue_103 {m0 : Nat} {h : AH} (S : MSh m0 h) {k71 : Nat → Int32 → Int32 → Int32 → AH → Option (Int32 × AH)} {j71 : Int32 → Int32 → Int32 → MV → Option (Int32 × MV)} (c71 : ∀ (x1 : Int32) (x3 : Int32) (x4 : Int32) (v : MV), k71 m0 x1 x3 x4 (mput h m0 v) = mm h m0 (j71 x1 x3 x4 v)) (x1 : Int32) (x4 : Int32) (s0 : Int32) (s1 : Int32) (v : MV) : f_X12_queue_103 k71 m0 x1 x4 s0 s1 (mput h m0 v) = mm h m0 (m_queue_103 j71 x1 x4 s0 s1 v) := by
  unfold f_X12_queue_103 m_queue_103
  simp only [ltd, mm_ite, mm_none, mm_some, nn_s, c71]
def m_queue_71 : Nat → Int32 → Int32 → Int32 → MV → Option (Int32 × MV)
  | 0, _, _, _, _ => none
  | n + 1, x1, x3, x4, v => (if (v.1 13) ≤ x4 then
      some (x3, v)
    else
      mrJ v 14 x4 fun x_1 =>
      mrJ v 10 x1 fun x_2 =>
      (if (lg_cmp x_1 x_2) = 0 then
        m_queue_103 (fun x1 x3 x4 v => m_queue_71 n x1 x3 x4 v) x1 x4 1 x3 v
      else
        m_queue_103 (fun x1 x3 x4 v => m_queue_71 n x1 x3 x4 v) x1 x4 0 x3 v))
set_option maxHeartbeats 4000000 in
theorem e_X12_queue_71 {m0 : Nat} {h : AH} (S : MSh m0 h) : ∀ (n : Nat) (x1 : Int32) (x3 : Int32) (x4 : Int32) (v : MV), f_X12_queue_71 n m0 x1 x3 x4 (mput h m0 v) = mm h m0 (m_queue_71 n x1 x3 x4 v) := by
  intro n
  induction n with
  | zero => intros; rfl
  | succ n ih =>
    intro x1 x3 x4 v
    rw [f_X12_queue_71, m_queue_71]
    simp only [lA_10 S, lA_14 S, lR_10 S, lR_14 S, l_rdI S, ltd, mm_ite, mm_mrJ, mm_none, mm_some, nn_s, e_X12_queue_103 S (fun x1 x3 x4 v => ih x1 x3 x4 v), ih]
def m_queue (x1 : Int32) (x2 : Int32) (v : MV) : Option (Int32 × MV) := (if x1 < 0 then
    some (((-1)), v)
  else
    (if x1 < (v.1 8) then
      (if x2 = 0 then
        mrI v 11 x1 fun x_1 =>
        bdm (m_waiting x_1 v) fun x_3 v_2 =>
        some (x_3, v_2)
      else (if x2 = 1 then
        mrI v 11 x1 fun x_4 =>
        bdm (m_consumersOf x_4 v) fun x_6 v_5 =>
        some (x_6, v_5)
      else (if x2 = 2 then
        m_queue_71 FU x1 0 0 v
      else (if x2 = 3 then
        mrI v 11 x1 fun x_7 =>
        bdm (m_firstOf x_7 v) fun x_9 v_8 =>
        (if 0 ≤ x_9 then
          mrI v_8 26 x_9 fun x_10 =>
          some (x_10, v_8)
        else
          some (0, v_8))
      else some (((-1)), v)))))
    else
      some (((-1)), v)))
set_option maxHeartbeats 4000000 in
theorem e_X12_queue {m0 : Nat} {h : AH} (S : MSh m0 h) (x1 : Int32) (x2 : Int32) (v : MV) : f_X12_queue m0 x1 x2 (mput h m0 v) = mm h m0 (m_queue x1 x2 v) := by
  unfold f_X12_queue m_queue
  simp only [bd_mm, lA_11 S, lA_26 S, lR_11 S, lR_26 S, l_kg S, l_rdI S, ltd, mm_bdm, mm_ite, mm_mrI, mm_none, mm_some, nn_s, e_X12_consumersOf S, e_X12_firstOf S, e_X12_queue_71 S, e_X12_waiting S]
-- X12_ready
def m_ready (v : MV) : Option (Int32 × MV) := some ((v.1 4), v)
set_option maxHeartbeats 4000000 in
theorem e_X12_ready {m0 : Nat} {h : AH} (S : MSh m0 h) (v : MV) : f_X12_ready m0 (mput h m0 v) = mm h m0 (m_ready  v) := by
  unfold f_X12_ready m_ready
  simp only [l_rdI S, ltd, mm_ite, mm_none, mm_some, nn_s]
-- X12_receive
def m_receive_28 : Nat → Int32 → Int32 → MV → Option (Int32 × MV)
  | 0, _, _, _ => none
  | n + 1, x1, x2, v => (if (v.1 4) ≤ x2 then
      some (x1, v)
    else
      mrI v 3 (x2 + 1) fun x_1 =>
      msI v 3 x2 x_1 fun v_2 =>
      m_receive_28 n x1 (x2 + 1) v_2)
set_option maxHeartbeats 4000000 in
theorem e_X12_receive_28 {m0 : Nat} {h : AH} (S : MSh m0 h) : ∀ (n : Nat) (x1 : Int32) (x2 : Int32) (v : MV), f_X12_receive_28 n m0 x1 x2 (mput h m0 v) = mm h m0 (m_receive_28 n x1 x2 v) := by
  intro n
  induction n with
  | zero => intros; rfl
  | succ n ih =>
    intro x1 x2 v
    rw [f_X12_receive_28, m_receive_28]
    simp only [lA_3 S, lR_3 S, lS_3 S, l_rdI S, ltd, mm_ite, mm_mrI, mm_msI, mm_none, mm_some, nn_s, ih]
def m_receive (v : MV) : Option (Int32 × MV) := (if (v.1 4) = 0 then
    some (((-1)), v)
  else
    mrI v 3 0 fun x_1 =>
    mwI v 4 ((v.1 4) - 1) fun v_2 =>
    m_receive_28 FU x_1 0 v_2)
set_option maxHeartbeats 4000000 in
theorem e_X12_receive {m0 : Nat} {h : AH} (S : MSh m0 h) (v : MV) : f_X12_receive m0 (mput h m0 v) = mm h m0 (m_receive  v) := by
  unfold f_X12_receive m_receive
  simp only [lA_3 S, lR_3 S, l_rdI S, l_wrI S, ltd, mm_ite, mm_mrI, mm_mwI, mm_none, mm_some, nn_s, e_X12_receive_28 S]
-- X12_send
def m_send_80 (v : MV) : Option (Int32 × MV) := some ((v.1 2), v)
set_option maxHeartbeats 4000000 in
theorem e_X12_send_80 {m0 : Nat} {h : AH} (S : MSh m0 h) (v : MV) : f_X12_send_80 m0 (mput h m0 v) = mm h m0 (m_send_80  v) := by
  unfold f_X12_send_80 m_send_80
  simp only [l_rdI S, ltd, mm_ite, mm_none, mm_some, nn_s]
def m_send_38 : Nat → Int64 → Int32 → MV → Option (Int32 × MV)
  | 0, _, _, _ => none
  | n + 1, x1, x4, v => (if x4 < 0 then
      m_send_80  v
    else
      msI v 1 (v.1 2) (((x1 >>> ((8 * x4).toInt64 &&& 63)) &&& 255).toInt32) fun v_1 =>
      mwI v_1 2 ((v_1.1 2) + 1) fun v_2 =>
      m_send_38 n x1 (x4 + (-1)) v_2)
set_option maxHeartbeats 4000000 in
theorem e_X12_send_38 {m0 : Nat} {h : AH} (S : MSh m0 h) : ∀ (n : Nat) (x1 : Int64) (x4 : Int32) (v : MV), f_X12_send_38 n m0 x1 x4 (mput h m0 v) = mm h m0 (m_send_38 n x1 x4 v) := by
  intro n
  induction n with
  | zero => intros; rfl
  | succ n ih =>
    intro x1 x4 v
    rw [f_X12_send_38, m_send_38]
    simp only [lR_1 S, lS_1 S, l_rdI S, l_wrI S, ltd, mm_ite, mm_msI, mm_mwI, mm_none, mm_some, nn_s, e_X12_send_80 S, ih]
def m_send (x1 : Int64) (x3 : Int32) (v : MV) : Option (Int32 × MV) := (if (v.1 0) = 5 then
    some (((-1)), v)
  else
    (if x3 < 1 then
      some (((-1)), v)
    else
      (if 8 < x3 then
        some (((-1)), v)
      else
        (if ((v.1 2) + x3) ≤ 300 then
          lt (x3 - 1) fun x_1 =>
          m_send_38 FU x1 x_1 v
        else
          some (((-1)), v)))))
set_option maxHeartbeats 4000000 in
theorem e_X12_send {m0 : Nat} {h : AH} (S : MSh m0 h) (x1 : Int64) (x3 : Int32) (v : MV) : f_X12_send m0 x1 x3 (mput h m0 v) = mm h m0 (m_send x1 x3 v) := by
  unfold f_X12_send m_send
  simp only [l_rdI S, ltd, mm_ite, mm_none, mm_some, nn_s, e_X12_send_38 S]
-- X12_put
def m_put (x1 : Int32) (v : MV) : Option (Unit × MV) := msI v 3 (v.1 4) (x1 &&& 255) fun v_1 =>
  mwI v_1 4 ((v_1.1 4) + 1) fun v_2 =>
  some ((), v_2)
set_option maxHeartbeats 4000000 in
theorem e_X12_put {m0 : Nat} {h : AH} (S : MSh m0 h) (x1 : Int32) (v : MV) : f_X12_put m0 x1 (mput h m0 v) = mm h m0 (m_put x1 v) := by
  unfold f_X12_put m_put
  simp only [lR_3 S, lS_3 S, l_rdI S, l_wrI S, ltd, mm_ite, mm_msI, mm_mwI, mm_none, mm_some, nn_s]
-- X12_finish
def m_finish (v : MV) : Option (Unit × MV) := msI v 3 (v.1 61) (((v.1 4) - (v.1 61)) - 1) fun v_1 =>
  bdm (m_put 206 v_1) fun _ v_2 =>
  some ((), v_2)
set_option maxHeartbeats 4000000 in
theorem e_X12_finish {m0 : Nat} {h : AH} (S : MSh m0 h) (v : MV) : f_X12_finish m0 (mput h m0 v) = mm h m0 (m_finish  v) := by
  unfold f_X12_finish m_finish
  simp only [bd_mm, lR_3 S, lS_3 S, l_kg S, l_rdI S, ltd, mm_bdm, mm_ite, mm_msI, mm_none, mm_some, nn_s, e_X12_put S]
-- X12_begin
def m_begin (x1 : Int32) (x2 : Int32) (v : MV) : Option (Unit × MV) := bdm (m_put x1 v) fun _ v_1 =>
  bdm (m_put x2 v_1) fun _ v_2 =>
  mwI v_2 61 (v_2.1 4) fun v_3 =>
  bdm (m_put 0 v_3) fun _ v_4 =>
  some ((), v_4)
set_option maxHeartbeats 4000000 in
theorem e_X12_begin {m0 : Nat} {h : AH} (S : MSh m0 h) (x1 : Int32) (x2 : Int32) (v : MV) : f_X12_begin m0 x1 x2 (mput h m0 v) = mm h m0 (m_begin x1 x2 v) := by
  unfold f_X12_begin m_begin
  simp only [bd_mm, l_kg S, l_rdI S, l_wrI S, ltd, mm_bdm, mm_ite, mm_mwI, mm_none, mm_some, nn_s, e_X12_put S]
-- X12_method
def m_method (x1 : Int32) (x2 : Int32) (x3 : Int32) (v : MV) : Option (Unit × MV) := bdm (m_begin 1 x1 v) fun _ v_1 =>
  bdm (m_put x2 v_1) fun _ v_2 =>
  bdm (m_put x3 v_2) fun _ v_3 =>
  some ((), v_3)
set_option maxHeartbeats 4000000 in
theorem e_X12_method {m0 : Nat} {h : AH} (S : MSh m0 h) (x1 : Int32) (x2 : Int32) (x3 : Int32) (v : MV) : f_X12_method m0 x1 x2 x3 (mput h m0 v) = mm h m0 (m_method x1 x2 x3 v) := by
  unfold f_X12_method m_method
  simp only [bd_mm, l_kg S, ltd, mm_bdm, mm_ite, mm_none, mm_some, nn_s, e_X12_begin S, e_X12_put S]
-- X12_canTake
def m_canTake (x1 : Int32) (v : MV) : Option (Int32 × MV) := mrI v 20 x1 fun x_1 =>
  mrI v 37 x_1 fun x_2 =>
  (if x_2 = 0 then
    rz 0 (some (0, v))
  else
    mrI v 23 x1 fun x_3 =>
    (if x_3 = 0 then
      mrI v 36 x_1 fun x_4 =>
      (if x_4 = 0 then
        rz 1 (some (1, v))
      else
        bdm (m_held x_1 v) fun x_6 v_5 =>
        mrI v_5 36 x_1 fun x_7 =>
        (if x_7 ≤ x_6 then
          rz 0 (some (0, v_5))
        else
          rz 1 (some (1, v_5))))
    else
      rz 1 (some (1, v))))
set_option maxHeartbeats 4000000 in
theorem e_X12_canTake {m0 : Nat} {h : AH} (S : MSh m0 h) (x1 : Int32) (v : MV) : f_X12_canTake m0 x1 (mput h m0 v) = mm h m0 (m_canTake x1 v) := by
  unfold f_X12_canTake m_canTake
  simp only [bd_mm, lA_20 S, lA_23 S, lA_36 S, lA_37 S, lR_20 S, lR_23 S, lR_36 S, lR_37 S, l_kg S, ltd, mm_bdm, mm_ite, mm_mrI, mm_none, mm_rz, mm_some, nn_s, e_X12_held S]
-- X12_nextConsumer
def m_nextConsumer_41 (k9 : Int32 → Int32 → Int32 → MV → Option (Int32 × MV)) (x1 : Int32) (x3 : Int32) (s0 : Int32) (v : MV) : Option (Int32 × MV) := k9 x1 s0 (x3 + (-1)) v
set_option maxHeartbeats 4000000 in
theorem e_X12_nextConsumer_41 {m0 : Nat} {h : AH} (S : MSh m0 h) {k9 : Nat → Int32 → Int32 → Int32 → AH → Option (Int32 × AH)} {j9 : Int32 → Int32 → Int32 → MV → Option (Int32 × MV)} (c9 : ∀ (x1 : Int32) (x2 : Int32) (x3 : Int32) (v : MV), k9 m0 x1 x2 x3 (mput h m0 v) = mm h m0 (j9 x1 x2 x3 v)) (x1 : Int32) (x3 : Int32) (s0 : Int32) (v : MV) : f_X12_nextConsumer_41 k9 m0 x1 x3 s0 (mput h m0 v) = mm h m0 (m_nextConsumer_41 j9 x1 x3 s0 v) := by
  unfold f_X12_nextConsumer_41 m_nextConsumer_41
  simp only [ltd, mm_ite, mm_none, mm_some, nn_s, c9]
def m_nextConsumer_98 (k50 : Int32 → Int32 → Int32 → MV → Option (Int32 × MV)) (x1 : Int32) (x2 : Int32) (x3 : Int32) (v : MV) : Option (Int32 × MV) := k50 x1 x2 (x3 + 1) v
set_option maxHeartbeats 4000000 in
theorem e_X12_nextConsumer_98 {m0 : Nat} {h : AH} (S : MSh m0 h) {k50 : Nat → Int32 → Int32 → Int32 → AH → Option (Int32 × AH)} {j50 : Int32 → Int32 → Int32 → MV → Option (Int32 × MV)} (c50 : ∀ (x1 : Int32) (x2 : Int32) (x3 : Int32) (v : MV), k50 m0 x1 x2 x3 (mput h m0 v) = mm h m0 (j50 x1 x2 x3 v)) (x1 : Int32) (x2 : Int32) (x3 : Int32) (v : MV) : f_X12_nextConsumer_98 k50 m0 x1 x2 x3 (mput h m0 v) = mm h m0 (m_nextConsumer_98 j50 x1 x2 x3 v) := by
  unfold f_X12_nextConsumer_98 m_nextConsumer_98
  simp only [ltd, mm_ite, mm_none, mm_some, nn_s, c50]
def m_nextConsumer_50 : Nat → Int32 → Int32 → Int32 → MV → Option (Int32 × MV)
  | 0, _, _, _, _ => none
  | n + 1, x1, x2, x3, v => (if (v.1 17) ≤ x3 then
      some (x2, v)
    else
      mrI v 22 x3 fun x_1 =>
      mrI v 11 x1 fun x_2 =>
      (if x_1 = x_2 then
        bdm (m_canTake x3 v) fun x_4 v_3 =>
        (if x_4 = 0 then
          m_nextConsumer_98 (fun x1 x2 x3 v => m_nextConsumer_50 n x1 x2 x3 v) x1 x2 x3 v_3
        else
          mrI v_3 19 x3 fun x_5 =>
          mrI v_3 12 x1 fun x_6 =>
          (if x_5 ≤ x_6 then
            m_nextConsumer_98 (fun x1 x2 x3 v => m_nextConsumer_50 n x1 x2 x3 v) x1 x2 x3 v_3
          else
            some (x3, v_3)))
      else
        m_nextConsumer_98 (fun x1 x2 x3 v => m_nextConsumer_50 n x1 x2 x3 v) x1 x2 x3 v))
set_option maxHeartbeats 4000000 in
theorem e_X12_nextConsumer_50 {m0 : Nat} {h : AH} (S : MSh m0 h) : ∀ (n : Nat) (x1 : Int32) (x2 : Int32) (x3 : Int32) (v : MV), f_X12_nextConsumer_50 n m0 x1 x2 x3 (mput h m0 v) = mm h m0 (m_nextConsumer_50 n x1 x2 x3 v) := by
  intro n
  induction n with
  | zero => intros; rfl
  | succ n ih =>
    intro x1 x2 x3 v
    rw [f_X12_nextConsumer_50, m_nextConsumer_50]
    simp only [bd_mm, lA_11 S, lA_12 S, lA_19 S, lA_22 S, lR_11 S, lR_12 S, lR_19 S, lR_22 S, l_kg S, l_rdI S, ltd, mm_bdm, mm_ite, mm_mrI, mm_none, mm_some, nn_s, e_X12_canTake S, e_X12_nextConsumer_98 S (fun x1 x2 x3 v => ih x1 x2 x3 v), ih]
def m_nextConsumer_9 : Nat → Int32 → Int32 → Int32 → MV → Option (Int32 × MV)
  | 0, _, _, _, _ => none
  | n + 1, x1, x2, x3, v => (if x3 < 0 then
      m_nextConsumer_50 FU x1 x2 0 v
    else
      mrI v 22 x3 fun x_1 =>
      mrI v 11 x1 fun x_2 =>
      (if x_1 = x_2 then
        bdm (m_canTake x3 v) fun x_4 v_3 =>
        (if x_4 = 0 then
          m_nextConsumer_41 (fun x1 x2 x3 v => m_nextConsumer_9 n x1 x2 x3 v) x1 x3 x2 v_3
        else
          m_nextConsumer_41 (fun x1 x2 x3 v => m_nextConsumer_9 n x1 x2 x3 v) x1 x3 x3 v_3)
      else
        m_nextConsumer_41 (fun x1 x2 x3 v => m_nextConsumer_9 n x1 x2 x3 v) x1 x3 x2 v))
set_option maxHeartbeats 4000000 in
theorem e_X12_nextConsumer_9 {m0 : Nat} {h : AH} (S : MSh m0 h) : ∀ (n : Nat) (x1 : Int32) (x2 : Int32) (x3 : Int32) (v : MV), f_X12_nextConsumer_9 n m0 x1 x2 x3 (mput h m0 v) = mm h m0 (m_nextConsumer_9 n x1 x2 x3 v) := by
  intro n
  induction n with
  | zero => intros; rfl
  | succ n ih =>
    intro x1 x2 x3 v
    rw [f_X12_nextConsumer_9, m_nextConsumer_9]
    simp only [bd_mm, lA_11 S, lA_22 S, lR_11 S, lR_22 S, l_kg S, ltd, mm_bdm, mm_ite, mm_mrI, mm_none, mm_some, nn_s, e_X12_canTake S, e_X12_nextConsumer_41 S (fun x1 x2 x3 v => ih x1 x2 x3 v), e_X12_nextConsumer_50 S, ih]
def m_nextConsumer (x1 : Int32) (v : MV) : Option (Int32 × MV) := lt ((v.1 17) - 1) fun x_1 =>
  m_nextConsumer_9 FU x1 ((-1)) x_1 v
set_option maxHeartbeats 4000000 in
theorem e_X12_nextConsumer {m0 : Nat} {h : AH} (S : MSh m0 h) (x1 : Int32) (v : MV) : f_X12_nextConsumer m0 x1 (mput h m0 v) = mm h m0 (m_nextConsumer x1 v) := by
  unfold f_X12_nextConsumer m_nextConsumer
  simp only [l_rdI S, ltd, mm_ite, mm_none, mm_some, nn_s, e_X12_nextConsumer_9 S]
-- X12_putLetter
def m_putLetter_53 (v : MV) : Option (Unit × MV) := bdm (m_finish v) fun _ v_1 =>
  some ((), v_1)
set_option maxHeartbeats 4000000 in
theorem e_X12_putLetter_53 {m0 : Nat} {h : AH} (S : MSh m0 h) (v : MV) : f_X12_putLetter_53 m0 (mput h m0 v) = mm h m0 (m_putLetter_53  v) := by
  unfold f_X12_putLetter_53 m_putLetter_53
  simp only [bd_mm, l_kg S, ltd, mm_bdm, mm_ite, mm_none, mm_some, nn_s, e_X12_finish S]
def m_putLetter_30 : Nat → Int64 → Int32 → MV → Option (Unit × MV)
  | 0, _, _, _ => none
  | n + 1, x3, x5, v => (if x5 < 0 then
      m_putLetter_53  v
    else
      bdm (m_put ((x3 >>> ((8 * x5).toInt64 &&& 63)).toInt32) v) fun _ v_1 =>
      m_putLetter_30 n x3 (x5 + (-1)) v_1)
set_option maxHeartbeats 4000000 in
theorem e_X12_putLetter_30 {m0 : Nat} {h : AH} (S : MSh m0 h) : ∀ (n : Nat) (x3 : Int64) (x5 : Int32) (v : MV), f_X12_putLetter_30 n m0 x3 x5 (mput h m0 v) = mm h m0 (m_putLetter_30 n x3 x5 v) := by
  intro n
  induction n with
  | zero => intros; rfl
  | succ n ih =>
    intro x3 x5 v
    rw [f_X12_putLetter_30, m_putLetter_30]
    simp only [bd_mm, l_kg S, ltd, mm_bdm, mm_ite, mm_none, mm_some, nn_s, e_X12_put S, e_X12_putLetter_53 S, ih]
def m_putLetter (x1 : Int32) (x2 : Int32) (x3 : Int64) (v : MV) : Option (Unit × MV) := bdm (m_begin 2 x1 v) fun _ v_1 =>
  bdm (m_put x2 v_1) fun _ v_2 =>
  bdm (m_finish v_2) fun _ v_3 =>
  (if x2 ≤ 0 then
    some ((), v_3)
  else
    bdm (m_begin 3 x1 v_3) fun _ v_4 =>
    lt (x2 - 1) fun x_5 =>
    m_putLetter_30 FU x3 x_5 v_4)
set_option maxHeartbeats 4000000 in
theorem e_X12_putLetter {m0 : Nat} {h : AH} (S : MSh m0 h) (x1 : Int32) (x2 : Int32) (x3 : Int64) (v : MV) : f_X12_putLetter m0 x1 x2 x3 (mput h m0 v) = mm h m0 (m_putLetter x1 x2 x3 v) := by
  unfold f_X12_putLetter m_putLetter
  simp only [bd_mm, l_kg S, ltd, mm_bdm, mm_ite, mm_none, mm_some, nn_s, e_X12_begin S, e_X12_finish S, e_X12_put S, e_X12_putLetter_30 S]
-- X12_length
def m_length_4 : Nat → Int32 → Int64 → MV → Option (Int32 × MV)
  | 0, _, _, _ => none
  | n + 1, x2, x3, v => (if (lg_cmp x3 0) ≤ 0 then
      some (x2, v)
    else
      lt (x3 >>> ((8 : Int32).toInt64 &&& 63)) fun x_1 =>
      m_length_4 n (x2 + 1) x_1 v)
set_option maxHeartbeats 4000000 in
theorem e_X12_length_4 {m0 : Nat} {h : AH} (S : MSh m0 h) : ∀ (n : Nat) (x2 : Int32) (x3 : Int64) (v : MV), f_X12_length_4 n x2 x3 (mput h m0 v) = mm h m0 (m_length_4 n x2 x3 v) := by
  intro n
  induction n with
  | zero => intros; rfl
  | succ n ih =>
    intro x2 x3 v
    rw [f_X12_length_4, m_length_4]
    simp only [ltd, mm_ite, mm_none, mm_some, nn_s, ih]
def m_length (x0 : Int64) (v : MV) : Option (Int32 × MV) := m_length_4 FU 0 x0 v
set_option maxHeartbeats 4000000 in
theorem e_X12_length {m0 : Nat} {h : AH} (S : MSh m0 h) (x0 : Int64) (v : MV) : f_X12_length x0 (mput h m0 v) = mm h m0 (m_length x0 v) := by
  unfold f_X12_length m_length
  simp only [ltd, mm_ite, mm_none, mm_some, nn_s, e_X12_length_4 S]
-- X12_putName
def m_putName_15 : Nat → Int64 → Int32 → MV → Option (Unit × MV)
  | 0, _, _, _ => none
  | n + 1, x1, x4, v => (if x4 < 0 then
      some ((), v)
    else
      bdm (m_put ((x1 >>> ((8 * x4).toInt64 &&& 63)).toInt32) v) fun _ v_1 =>
      m_putName_15 n x1 (x4 + (-1)) v_1)
set_option maxHeartbeats 4000000 in
theorem e_X12_putName_15 {m0 : Nat} {h : AH} (S : MSh m0 h) : ∀ (n : Nat) (x1 : Int64) (x4 : Int32) (v : MV), f_X12_putName_15 n m0 x1 x4 (mput h m0 v) = mm h m0 (m_putName_15 n x1 x4 v) := by
  intro n
  induction n with
  | zero => intros; rfl
  | succ n ih =>
    intro x1 x4 v
    rw [f_X12_putName_15, m_putName_15]
    simp only [bd_mm, l_kg S, ltd, mm_bdm, mm_ite, mm_none, mm_some, nn_s, e_X12_put S, ih]
def m_putName (x1 : Int64) (v : MV) : Option (Unit × MV) := bdm (m_length x1 v) fun x_2 v_1 =>
  bdm (m_put x_2 v_1) fun _ v_3 =>
  lt (x_2 - 1) fun x_4 =>
  m_putName_15 FU x1 x_4 v_3
set_option maxHeartbeats 4000000 in
theorem e_X12_putName {m0 : Nat} {h : AH} (S : MSh m0 h) (x1 : Int64) (v : MV) : f_X12_putName m0 x1 (mput h m0 v) = mm h m0 (m_putName x1 v) := by
  unfold f_X12_putName m_putName
  simp only [bd_mm, l_kg S, ltd, mm_bdm, mm_ite, mm_none, mm_some, nn_s, e_X12_length S, e_X12_put S, e_X12_putName_15 S]
-- X12_moveLetter
def m_moveLetter (x1 : Int32) (x2 : Int32) (v : MV) : Option (Unit × MV) := mrI v 26 x2 fun x_1 =>
  msI v 26 x1 x_1 fun v_2 =>
  mrI v_2 27 x2 fun x_3 =>
  msI v_2 27 x1 x_3 fun v_4 =>
  mrI v_4 28 x2 fun x_5 =>
  msI v_4 28 x1 x_5 fun v_6 =>
  mrI v_6 29 x2 fun x_7 =>
  msI v_6 29 x1 x_7 fun v_8 =>
  mrI v_8 30 x2 fun x_9 =>
  msZ v_8 30 x1 x_9 fun v_10 =>
  mrJ v_10 31 x2 fun x_11 =>
  msJ v_10 31 x1 x_11 fun v_12 =>
  mrJ v_12 32 x2 fun x_13 =>
  msJ v_12 32 x1 x_13 fun v_14 =>
  mrI v_14 33 x2 fun x_15 =>
  msI v_14 33 x1 x_15 fun v_16 =>
  mrJ v_16 34 x2 fun x_17 =>
  msJ v_16 34 x1 x_17 fun v_18 =>
  some ((), v_18)
set_option maxHeartbeats 4000000 in
theorem e_X12_moveLetter {m0 : Nat} {h : AH} (S : MSh m0 h) (x1 : Int32) (x2 : Int32) (v : MV) : f_X12_moveLetter m0 x1 x2 (mput h m0 v) = mm h m0 (m_moveLetter x1 x2 v) := by
  unfold f_X12_moveLetter m_moveLetter
  simp only [lA_26 S, lA_27 S, lA_28 S, lA_29 S, lA_30 S, lA_31 S, lA_32 S, lA_33 S, lA_34 S, lR_26 S, lR_27 S, lR_28 S, lR_29 S, lR_30 S, lR_31 S, lR_32 S, lR_33 S, lR_34 S, lS_26 S, lS_27 S, lS_28 S, lS_29 S, lS_30 S, lS_31 S, lS_32 S, lS_33 S, lS_34 S, ltd, mm_ite, mm_mrI, mm_mrJ, mm_msI, mm_msJ, mm_msZ, mm_none, mm_some, nn_s]
-- X12_removeLetter
def m_removeLetter_12 : Nat → Int32 → MV → Option (Unit × MV)
  | 0, _, _ => none
  | n + 1, x2, v => (if (v.1 24) ≤ x2 then
      some ((), v)
    else
      bdm (m_moveLetter x2 (x2 + 1) v) fun _ v_1 =>
      m_removeLetter_12 n (x2 + 1) v_1)
set_option maxHeartbeats 4000000 in
theorem e_X12_removeLetter_12 {m0 : Nat} {h : AH} (S : MSh m0 h) : ∀ (n : Nat) (x2 : Int32) (v : MV), f_X12_removeLetter_12 n m0 x2 (mput h m0 v) = mm h m0 (m_removeLetter_12 n x2 v) := by
  intro n
  induction n with
  | zero => intros; rfl
  | succ n ih =>
    intro x2 v
    rw [f_X12_removeLetter_12, m_removeLetter_12]
    simp only [bd_mm, l_kg S, l_rdI S, ltd, mm_bdm, mm_ite, mm_none, mm_some, nn_s, e_X12_moveLetter S, ih]
def m_removeLetter (x1 : Int32) (v : MV) : Option (Unit × MV) := mwI v 24 ((v.1 24) - 1) fun v_1 =>
  m_removeLetter_12 FU x1 v_1
set_option maxHeartbeats 4000000 in
theorem e_X12_removeLetter {m0 : Nat} {h : AH} (S : MSh m0 h) (x1 : Int32) (v : MV) : f_X12_removeLetter m0 x1 (mput h m0 v) = mm h m0 (m_removeLetter x1 v) := by
  unfold f_X12_removeLetter m_removeLetter
  simp only [l_rdI S, l_wrI S, ltd, mm_ite, mm_mwI, mm_none, mm_some, nn_s, e_X12_removeLetter_12 S]
-- X12_take
def m_take (x1 : Int32) (x2 : Int32) (x3 : Int32) (v : MV) : Option (Unit × MV) := (if x3 = 0 then
    msI v 28 x1 x2 fun v_1 =>
    mrI v_1 38 x2 fun x_2 =>
    msI v_1 29 x1 x_2 fun v_3 =>
    some ((), v_3)
  else
    bdm (m_removeLetter x1 v) fun _ v_4 =>
    some ((), v_4))
set_option maxHeartbeats 4000000 in
theorem e_X12_take {m0 : Nat} {h : AH} (S : MSh m0 h) (x1 : Int32) (x2 : Int32) (x3 : Int32) (v : MV) : f_X12_take m0 x1 x2 x3 (mput h m0 v) = mm h m0 (m_take x1 x2 x3 v) := by
  unfold f_X12_take m_take
  simp only [bd_mm, lA_38 S, lR_28 S, lR_29 S, lR_38 S, lS_28 S, lS_29 S, l_kg S, ltd, mm_bdm, mm_ite, mm_mrI, mm_msI, mm_none, mm_some, nn_s, e_X12_removeLetter S]
-- X12_putShort
def m_putShort (x1 : Int32) (v : MV) : Option (Unit × MV) := bdm (m_put (x1 >>> ((8 : Int32) &&& 31)) v) fun _ v_1 =>
  bdm (m_put x1 v_1) fun _ v_2 =>
  some ((), v_2)
set_option maxHeartbeats 4000000 in
theorem e_X12_putShort {m0 : Nat} {h : AH} (S : MSh m0 h) (x1 : Int32) (v : MV) : f_X12_putShort m0 x1 (mput h m0 v) = mm h m0 (m_putShort x1 v) := by
  unfold f_X12_putShort m_putShort
  simp only [bd_mm, l_kg S, ltd, mm_bdm, mm_ite, mm_none, mm_some, nn_s, e_X12_put S]
-- X12_tell
def m_tell_25 (x1 : Int32) (s0 : Int32) (v : MV) : Option (Unit × MV) := bdm (m_put s0 v) fun _ v_1 =>
  mrJ v_1 31 x1 fun x_2 =>
  bdm (m_putName x_2 v_1) fun _ v_3 =>
  mrJ v_3 32 x1 fun x_4 =>
  bdm (m_putName x_4 v_3) fun _ v_5 =>
  some ((), v_5)
set_option maxHeartbeats 4000000 in
theorem e_X12_tell_25 {m0 : Nat} {h : AH} (S : MSh m0 h) (x1 : Int32) (s0 : Int32) (v : MV) : f_X12_tell_25 m0 x1 s0 (some m0) (mput h m0 v) = mm h m0 (m_tell_25 x1 s0 v) := by
  unfold f_X12_tell_25 m_tell_25
  simp only [bd_mm, lA_31 S, lA_32 S, lR_31 S, lR_32 S, l_kg S, ltd, mm_bdm, mm_ite, mm_mrJ, mm_none, mm_some, nn_s, e_X12_put S, e_X12_putName S]
def m_tell (x1 : Int32) (x2 : Int32) (v : MV) : Option (Unit × MV) := mrI v 38 x2 fun x_1 =>
  bdm (m_putShort x_1 v) fun _ v_2 =>
  mrI v_2 30 x1 fun x_3 =>
  (if x_3 = 0 then
    m_tell_25 x1 0 v_2
  else
    m_tell_25 x1 1 v_2)
set_option maxHeartbeats 4000000 in
theorem e_X12_tell {m0 : Nat} {h : AH} (S : MSh m0 h) (x1 : Int32) (x2 : Int32) (v : MV) : f_X12_tell m0 x1 x2 (mput h m0 v) = mm h m0 (m_tell x1 x2 v) := by
  unfold f_X12_tell m_tell
  simp only [bd_mm, lA_30 S, lA_38 S, lR_30 S, lR_38 S, l_kg S, ltd, mm_bdm, mm_ite, mm_mrI, mm_none, mm_some, nn_s, e_X12_putShort S, e_X12_tell_25 S]
-- X12_deliver
def m_deliver_39 (x1 : Int32) (x2 : Int32) (x3 : Int32) (v : MV) : Option (Int32 × MV) := mrI v 20 x3 fun x_1 =>
  mrI v 19 x3 fun x_2 =>
  msI v 12 x1 x_2 fun v_3 =>
  mrI v_3 38 x_1 fun x_4 =>
  msI v_3 38 x_1 (x_4 + 1) fun v_5 =>
  bdm (m_method x_1 60 60 v_5) fun _ v_6 =>
  mrJ v_6 21 x3 fun x_7 =>
  bdm (m_putName x_7 v_6) fun _ v_8 =>
  bdm (m_tell x2 x_1 v_8) fun _ v_9 =>
  bdm (m_finish v_9) fun _ v_10 =>
  mrI v_10 33 x2 fun x_11 =>
  mrJ v_10 34 x2 fun x_12 =>
  bdm (m_putLetter x_1 x_11 x_12 v_10) fun _ v_13 =>
  mrI v_13 23 x3 fun x_14 =>
  bdm (m_take x2 x_1 x_14 v_13) fun _ v_15 =>
  rz 1 (some (1, v_15))
set_option maxHeartbeats 4000000 in
theorem e_X12_deliver_39 {m0 : Nat} {h : AH} (S : MSh m0 h) (x1 : Int32) (x2 : Int32) (x3 : Int32) (v : MV) : f_X12_deliver_39 m0 x1 x2 x3 (mput h m0 v) = mm h m0 (m_deliver_39 x1 x2 x3 v) := by
  unfold f_X12_deliver_39 m_deliver_39
  simp only [bd_mm, lA_19 S, lA_20 S, lA_21 S, lA_23 S, lA_33 S, lA_34 S, lA_38 S, lR_12 S, lR_19 S, lR_20 S, lR_21 S, lR_23 S, lR_33 S, lR_34 S, lR_38 S, lS_12 S, lS_38 S, l_kg S, ltd, mm_bdm, mm_ite, mm_mrI, mm_mrJ, mm_msI, mm_none, mm_rz, mm_some, nn_s, e_X12_finish S, e_X12_method S, e_X12_putLetter S, e_X12_putName S, e_X12_take S, e_X12_tell S]
def m_deliver_34 (k2 : Int32 → MV → Option (Int32 × MV)) (x1 : Int32) (x2 : Int32) (s0 : Int32) (v : MV) : Option (Int32 × MV) := (if s0 < 0 then
    k2 (x1 + 1) v
  else
    m_deliver_39 x1 x2 s0 v)
set_option maxHeartbeats 4000000 in
theorem e_X12_deliver_34 {m0 : Nat} {h : AH} (S : MSh m0 h) {k2 : Nat → Int32 → AH → Option (Int32 × AH)} {j2 : Int32 → MV → Option (Int32 × MV)} (c2 : ∀ (x1 : Int32) (v : MV), k2 m0 x1 (mput h m0 v) = mm h m0 (j2 x1 v)) (x1 : Int32) (x2 : Int32) (s0 : Int32) (v : MV) : f_X12_deliver_34 k2 m0 x1 x2 s0 (mput h m0 v) = mm h m0 (m_deliver_34 j2 x1 x2 s0 v) := by
  unfold f_X12_deliver_34 m_deliver_34
  simp only [ltd, mm_ite, mm_none, mm_some, nn_s, e_X12_deliver_39 S, c2]
def m_deliver_2 : Nat → Int32 → MV → Option (Int32 × MV)
  | 0, _, _ => none
  | n + 1, x1, v => (if (v.1 8) ≤ x1 then
      rz 0 (some (0, v))
    else
      mrI v 11 x1 fun x_1 =>
      bdm (m_firstOf x_1 v) fun x_3 v_2 =>
      (if 0 ≤ x_3 then
        bdm (m_nextConsumer x1 v_2) fun x_5 v_4 =>
        m_deliver_34 (fun x1 v => m_deliver_2 n x1 v) x1 x_3 x_5 v_4
      else
        m_deliver_34 (fun x1 v => m_deliver_2 n x1 v) x1 x_3 ((-1)) v_2))
set_option maxHeartbeats 4000000 in
theorem e_X12_deliver_2 {m0 : Nat} {h : AH} (S : MSh m0 h) : ∀ (n : Nat) (x1 : Int32) (v : MV), f_X12_deliver_2 n m0 x1 (mput h m0 v) = mm h m0 (m_deliver_2 n x1 v) := by
  intro n
  induction n with
  | zero => intros; rfl
  | succ n ih =>
    intro x1 v
    rw [f_X12_deliver_2, m_deliver_2]
    simp only [bd_mm, lA_11 S, lR_11 S, l_kg S, l_rdI S, ltd, mm_bdm, mm_ite, mm_mrI, mm_none, mm_rz, mm_some, nn_s, e_X12_deliver_34 S (fun x1 v => ih x1 v), e_X12_firstOf S, e_X12_nextConsumer S, ih]
def m_deliver (v : MV) : Option (Int32 × MV) := m_deliver_2 FU 0 v
set_option maxHeartbeats 4000000 in
theorem e_X12_deliver {m0 : Nat} {h : AH} (S : MSh m0 h) (v : MV) : f_X12_deliver m0 (mput h m0 v) = mm h m0 (m_deliver  v) := by
  unfold f_X12_deliver m_deliver
  simp only [ltd, mm_ite, mm_none, mm_some, nn_s, e_X12_deliver_2 S]
-- X12_drop
def m_drop_12 : Nat → Int32 → Int32 → MV → Option (Unit × MV)
  | 0, _, _, _ => none
  | n + 1, x1, x2, v => (if (v.1 2) ≤ x2 then
      some ((), v)
    else
      mrI v 1 (x2 + x1) fun x_1 =>
      msI v 1 x2 x_1 fun v_2 =>
      m_drop_12 n x1 (x2 + 1) v_2)
set_option maxHeartbeats 4000000 in
theorem e_X12_drop_12 {m0 : Nat} {h : AH} (S : MSh m0 h) : ∀ (n : Nat) (x1 : Int32) (x2 : Int32) (v : MV), f_X12_drop_12 n m0 x1 x2 (mput h m0 v) = mm h m0 (m_drop_12 n x1 x2 v) := by
  intro n
  induction n with
  | zero => intros; rfl
  | succ n ih =>
    intro x1 x2 v
    rw [f_X12_drop_12, m_drop_12]
    simp only [lA_1 S, lR_1 S, lS_1 S, l_rdI S, ltd, mm_ite, mm_mrI, mm_msI, mm_none, mm_some, nn_s, ih]
def m_drop (x1 : Int32) (v : MV) : Option (Unit × MV) := mwI v 2 ((v.1 2) - x1) fun v_1 =>
  m_drop_12 FU x1 0 v_1
set_option maxHeartbeats 4000000 in
theorem e_X12_drop {m0 : Nat} {h : AH} (S : MSh m0 h) (x1 : Int32) (v : MV) : f_X12_drop m0 x1 (mput h m0 v) = mm h m0 (m_drop x1 v) := by
  unfold f_X12_drop m_drop
  simp only [l_rdI S, l_wrI S, ltd, mm_ite, mm_mwI, mm_none, mm_some, nn_s, e_X12_drop_12 S]
-- X12_exchangeOf
def m_exchangeOf_2 : Nat → Int64 → Int32 → MV → Option (Int32 × MV)
  | 0, _, _, _ => none
  | n + 1, x1, x3, v => (if (v.1 5) ≤ x3 then
      some (((-1)), v)
    else
      mrJ v 6 x3 fun x_1 =>
      (if (lg_cmp x_1 x1) = 0 then
        some (x3, v)
      else
        m_exchangeOf_2 n x1 (x3 + 1) v))
set_option maxHeartbeats 4000000 in
theorem e_X12_exchangeOf_2 {m0 : Nat} {h : AH} (S : MSh m0 h) : ∀ (n : Nat) (x1 : Int64) (x3 : Int32) (v : MV), f_X12_exchangeOf_2 n m0 x1 x3 (mput h m0 v) = mm h m0 (m_exchangeOf_2 n x1 x3 v) := by
  intro n
  induction n with
  | zero => intros; rfl
  | succ n ih =>
    intro x1 x3 v
    rw [f_X12_exchangeOf_2, m_exchangeOf_2]
    simp only [lA_6 S, lR_6 S, l_rdI S, ltd, mm_ite, mm_mrJ, mm_none, mm_some, nn_s, ih]
def m_exchangeOf (x1 : Int64) (v : MV) : Option (Int32 × MV) := m_exchangeOf_2 FU x1 0 v
set_option maxHeartbeats 4000000 in
theorem e_X12_exchangeOf {m0 : Nat} {h : AH} (S : MSh m0 h) (x1 : Int64) (v : MV) : f_X12_exchangeOf m0 x1 (mput h m0 v) = mm h m0 (m_exchangeOf x1 v) := by
  unfold f_X12_exchangeOf m_exchangeOf
  simp only [ltd, mm_ite, mm_none, mm_some, nn_s, e_X12_exchangeOf_2 S]
-- X12_fitsAt
def m_fitsAt_86 (x1 : Int32) (x2 : Int32) (v : MV) : Option (Int32 × MV) := mrI v 60 (((11 * (x2 + 1)) + x1) + 1) fun x_1 =>
  (if x_1 = 0 then
    rz 0 (some (0, v))
  else
    rz 1 (some (1, v)))
set_option maxHeartbeats 4000000 in
theorem e_X12_fitsAt_86 {m0 : Nat} {h : AH} (S : MSh m0 h) (x1 : Int32) (x2 : Int32) (v : MV) : f_X12_fitsAt_86 m0 x1 x2 (mput h m0 v) = mm h m0 (m_fitsAt_86 x1 x2 v) := by
  unfold f_X12_fitsAt_86 m_fitsAt_86
  simp only [lA_60 S, lR_60 S, ltd, mm_ite, mm_mrI, mm_none, mm_rz, mm_some, nn_s]
def m_fitsAt (x1 : Int32) (x2 : Int32) (x3 : Int32) (v : MV) : Option (Int32 × MV) := mrJ v 59 x2 fun x_1 =>
  (if (lg_cmp x_1 291) = 0 then
    mrI v 60 ((11 * (x2 + 1)) + x1) fun x_3 =>
    (if x_3 = 0 then
      (if x3 ≤ x1 then
        rz 0 (some (0, v))
      else
        mrI v 60 (((11 * x2) + x1) + 1) fun x_4 =>
        (if x_4 = 0 then
          rz 0 (some (0, v))
        else
          rz 1 (some (1, v))))
    else
      rz 1 (some (1, v)))
  else
    (if x3 ≤ x1 then
      rz 0 (some (0, v))
    else
      (if (lg_cmp x_1 298) = 0 then
        m_fitsAt_86 x1 x2 v
      else
        mrJ v 58 x1 fun x_2 =>
        (if (lg_cmp x_1 x_2) = 0 then
          m_fitsAt_86 x1 x2 v
        else
          rz 0 (some (0, v))))))
set_option maxHeartbeats 4000000 in
theorem e_X12_fitsAt {m0 : Nat} {h : AH} (S : MSh m0 h) (x1 : Int32) (x2 : Int32) (x3 : Int32) (v : MV) : f_X12_fitsAt m0 x1 x2 x3 (mput h m0 v) = mm h m0 (m_fitsAt x1 x2 x3 v) := by
  unfold f_X12_fitsAt m_fitsAt
  simp only [lA_58 S, lA_59 S, lA_60 S, lR_58 S, lR_59 S, lR_60 S, ltd, mm_ite, mm_mrI, mm_mrJ, mm_none, mm_rz, mm_some, nn_s, e_X12_fitsAt_86 S]
-- X12_split
def m_split_63 (k14 : Int64 → Nat → Int32 → Int32 → MV → Option (Int32 × MV)) (x0 : Int64) (r2 : Nat) (x3 : Int32) (x4 : Int32) (v : MV) : Option (Int32 × MV) := k14 x0 r2 x3 (x4 + (-1)) v
set_option maxHeartbeats 4000000 in
theorem e_X12_split_63 {m0 : Nat} {h : AH} (S : MSh m0 h) {k14 : Int64 → Option Nat → Int32 → Int32 → AH → Option (Int32 × AH)} {j14 : Int64 → Nat → Int32 → Int32 → MV → Option (Int32 × MV)} (c14 : ∀ (x0 : Int64) (r2 : Nat) (x3 : Int32) (x4 : Int32) (v : MV), (r2 = 58 ∨ r2 = 59) → k14 x0 (some (m0 + ax r2)) x3 x4 (mput h m0 v) = mm h m0 (j14 x0 r2 x3 x4 v)) (x0 : Int64) (r2 : Nat) (x3 : Int32) (x4 : Int32) (v : MV) (hrr2 : r2 = 58 ∨ r2 = 59 ) : f_X12_split_63 k14 x0 (some (m0 + ax r2)) x3 x4 (mput h m0 v) = mm h m0 (m_split_63 j14 x0 r2 x3 x4 v) := by
  unfold f_X12_split_63 m_split_63
  rcases hrr2 with rfl | rfl <;> simp only [ltd, mm_ite, mm_none, mm_some, nn_s, c14, true_or, or_true, lA_58 S, lA_59 S, lS_58 S, lS_59 S]
def m_split_14 : Nat → Int64 → Nat → Int32 → Int32 → MV → Option (Int32 × MV)
  | 0, _, _, _, _, _ => none
  | n + 1, x0, r2, x3, x4, v => (if x4 < 0 then
      some ((x3 + 1), v)
    else
      lt ((x0 >>> ((8 * x4).toInt64 &&& 63)) &&& 255) fun x_1 =>
      (if (lg_cmp x_1 46) = 0 then
        msJ v r2 (x3 + 1) 1 fun v_4 =>
        m_split_63 (fun x0 r2 x3 x4 v => m_split_14 n x0 r2 x3 x4 v) x0 r2 (x3 + 1) x4 v_4
      else
        mrJ v r2 x3 fun x_2 =>
        msJ v r2 x3 ((x_2 <<< ((8 : Int32).toInt64 &&& 63)) ||| x_1) fun v_3 =>
        m_split_63 (fun x0 r2 x3 x4 v => m_split_14 n x0 r2 x3 x4 v) x0 r2 x3 x4 v_3))
set_option maxHeartbeats 4000000 in
theorem e_X12_split_14 {m0 : Nat} {h : AH} (S : MSh m0 h) : ∀ (n : Nat) (x0 : Int64) (r2 : Nat) (x3 : Int32) (x4 : Int32) (v : MV) (hrr2 : r2 = 58 ∨ r2 = 59 ), f_X12_split_14 n x0 (some (m0 + ax r2)) x3 x4 (mput h m0 v) = mm h m0 (m_split_14 n x0 r2 x3 x4 v) := by
  intro n
  induction n with
  | zero => intros; rfl
  | succ n ih =>
    intro x0 r2 x3 x4 v hrr2
    rw [f_X12_split_14, m_split_14]
    rcases hrr2 with rfl | rfl <;> simp only [ltd, mm_ite, mm_mrJ, mm_msJ, mm_none, mm_some, nn_s, e_X12_split_63 S (fun x0 r2 x3 x4 v hr => ih x0 r2 x3 x4 v hr), true_or, or_true, lA_58 S, lA_59 S, lS_58 S, lS_59 S, ih]
def m_split (x0 : Int64) (r2 : Nat) (v : MV) : Option (Int32 × MV) := msJ v r2 0 1 fun v_1 =>
  bdm (m_length x0 v_1) fun x_3 v_2 =>
  lt (x_3 - 1) fun x_4 =>
  m_split_14 FU x0 r2 0 x_4 v_2
set_option maxHeartbeats 4000000 in
theorem e_X12_split {m0 : Nat} {h : AH} (S : MSh m0 h) (x0 : Int64) (r2 : Nat) (v : MV) (hrr2 : r2 = 58 ∨ r2 = 59 ) : f_X12_split x0 (some (m0 + ax r2)) (mput h m0 v) = mm h m0 (m_split x0 r2 v) := by
  unfold f_X12_split m_split
  rcases hrr2 with rfl | rfl <;> simp only [bd_mm, ltd, mm_bdm, mm_ite, mm_msJ, mm_none, mm_some, nn_s, e_X12_length S, e_X12_split_14 S, true_or, or_true, lA_58 S, lA_59 S, lS_58 S, lS_59 S]

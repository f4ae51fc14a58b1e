/-! printed by wip/whole/gen/lower.py -/
-- X12_fits
def m_fits_82 (k24 : Int32 → Int32 → Int32 → MV → Option (Int32 × MV)) (k33 : Int32 → Int32 → Int32 → Int32 → MV → Option (Int32 × MV)) (x5 : Int32) (x6 : Int32) (x7 : Int32) (x8 : Int32) (s0 : Int32) (s1 : Int32) (v : MV) : Option (Int32 × MV) := msZ v 60 s1 s0 fun v_1 =>
  k33 x5 x6 x7 (x8 + (-1)) v_1
set_option maxHeartbeats 4000000 in
theorem e_X12_fits_82 {m0 : Nat} {h : AH} (S : MSh m0 h) {k24 : Nat → Int32 → Int32 → Int32 → AH → Option (Int32 × AH)} {j24 : Int32 → Int32 → Int32 → MV → Option (Int32 × MV)} (c24 : ∀ (x5 : Int32) (x6 : Int32) (x7 : Int32) (v : MV), k24 m0 x5 x6 x7 (mput h m0 v) = mm h m0 (j24 x5 x6 x7 v)) {k33 : Nat → Int32 → Int32 → Int32 → Int32 → AH → Option (Int32 × AH)} {j33 : Int32 → Int32 → Int32 → Int32 → MV → Option (Int32 × MV)} (c33 : ∀ (x5 : Int32) (x6 : Int32) (x7 : Int32) (x8 : Int32) (v : MV), k33 m0 x5 x6 x7 x8 (mput h m0 v) = mm h m0 (j33 x5 x6 x7 x8 v)) (x5 : Int32) (x6 : Int32) (x7 : Int32) (x8 : Int32) (s0 : Int32) (s1 : Int32) (v : MV) : f_X12_fits_82 k24 k33 m0 x5 x6 x7 x8 s0 s1 (some (m0 + ax 60)) (mput h m0 v) = mm h m0 (m_fits_82 j24 j33 x5 x6 x7 x8 s0 s1 v) := by
  unfold f_X12_fits_82 m_fits_82
  simp only [lS_60 S, ltd, mm_ite, mm_msZ, mm_none, mm_some, nn_s, c24, c33]
def m_fits_89 (k24 : Int32 → Int32 → Int32 → MV → Option (Int32 × MV)) (x5 : Int32) (x6 : Int32) (x7 : Int32) (v : MV) : Option (Int32 × MV) := k24 x5 x6 (x7 + (-1)) v
set_option maxHeartbeats 4000000 in
theorem e_X12_fits_89 {m0 : Nat} {h : AH} (S : MSh m0 h) {k24 : Nat → Int32 → Int32 → Int32 → AH → Option (Int32 × AH)} {j24 : Int32 → Int32 → Int32 → MV → Option (Int32 × MV)} (c24 : ∀ (x5 : Int32) (x6 : Int32) (x7 : Int32) (v : MV), k24 m0 x5 x6 x7 (mput h m0 v) = mm h m0 (j24 x5 x6 x7 v)) (x5 : Int32) (x6 : Int32) (x7 : Int32) (v : MV) : f_X12_fits_89 k24 m0 x5 x6 x7 (mput h m0 v) = mm h m0 (m_fits_89 j24 x5 x6 x7 v) := by
  unfold f_X12_fits_89 m_fits_89
  simp only [ltd, mm_ite, mm_none, mm_some, nn_s, c24]
def m_fits_33 (k24 : Int32 → Int32 → Int32 → MV → Option (Int32 × MV)) : Nat → Int32 → Int32 → Int32 → Int32 → MV → Option (Int32 × MV)
  | 0, _, _, _, _, _ => none
  | n + 1, x5, x6, x7, x8, v => (if x8 < 0 then
      m_fits_89 k24 x5 x6 x7 v
    else
      (if x7 = x6 then
        (if x8 = x5 then
          m_fits_82 k24 (fun x5 x6 x7 x8 v => m_fits_33 k24 n x5 x6 x7 x8 v) x5 x6 x7 x8 1 ((11 * x7) + x8) v
        else
          m_fits_82 k24 (fun x5 x6 x7 x8 v => m_fits_33 k24 n x5 x6 x7 x8 v) x5 x6 x7 x8 0 ((11 * x7) + x8) v)
      else
        bdm (m_fitsAt x8 x7 x5 v) fun x_2 v_1 =>
        m_fits_82 k24 (fun x5 x6 x7 x8 v => m_fits_33 k24 n x5 x6 x7 x8 v) x5 x6 x7 x8 x_2 ((11 * x7) + x8) v_1))
set_option maxHeartbeats 4000000 in
theorem e_X12_fits_33 {m0 : Nat} {h : AH} (S : MSh m0 h) {k24 : Nat → Int32 → Int32 → Int32 → AH → Option (Int32 × AH)} {j24 : Int32 → Int32 → Int32 → MV → Option (Int32 × MV)} (c24 : ∀ (x5 : Int32) (x6 : Int32) (x7 : Int32) (v : MV), k24 m0 x5 x6 x7 (mput h m0 v) = mm h m0 (j24 x5 x6 x7 v)) : ∀ (n : Nat) (x5 : Int32) (x6 : Int32) (x7 : Int32) (x8 : Int32) (v : MV), f_X12_fits_33 k24 n m0 x5 x6 x7 x8 (mput h m0 v) = mm h m0 (m_fits_33 j24 n x5 x6 x7 x8 v) := by
  intro n
  induction n with
  | zero => intros; rfl
  | succ n ih =>
    intro x5 x6 x7 x8 v
    rw [f_X12_fits_33, m_fits_33]
    simp only [bd_mm, lR_60 S, l_kg S, ltd, mm_bdm, mm_ite, mm_none, mm_some, nn_s, e_X12_fitsAt S, e_X12_fits_82 S (c24) (fun x5 x6 x7 x8 v => ih x5 x6 x7 x8 v), e_X12_fits_89 S (c24), c24, ih]
def m_fits_95 (v : MV) : Option (Int32 × MV) := mrI v 60 0 fun x_1 =>
  rz x_1 (some (x_1, v))
set_option maxHeartbeats 4000000 in
theorem e_X12_fits_95 {m0 : Nat} {h : AH} (S : MSh m0 h) (v : MV) : f_X12_fits_95 m0 (mput h m0 v) = mm h m0 (m_fits_95  v) := by
  unfold f_X12_fits_95 m_fits_95
  simp only [lA_60 S, lR_60 S, ltd, mm_ite, mm_mrI, mm_none, mm_rz, mm_some, nn_s]
def m_fits_24 : Nat → Int32 → Int32 → Int32 → MV → Option (Int32 × MV)
  | 0, _, _, _, _ => none
  | n + 1, x5, x6, x7, v => (if x7 < 0 then
      m_fits_95  v
    else
      m_fits_33 (fun x5 x6 x7 v => m_fits_24 n x5 x6 x7 v) FU x5 x6 x7 x5 v)
set_option maxHeartbeats 4000000 in
theorem e_X12_fits_24 {m0 : Nat} {h : AH} (S : MSh m0 h) : ∀ (n : Nat) (x5 : Int32) (x6 : Int32) (x7 : Int32) (v : MV), f_X12_fits_24 n m0 x5 x6 x7 (mput h m0 v) = mm h m0 (m_fits_24 n x5 x6 x7 v) := by
  intro n
  induction n with
  | zero => intros; rfl
  | succ n ih =>
    intro x5 x6 x7 v
    rw [f_X12_fits_24, m_fits_24]
    simp only [ltd, mm_ite, mm_none, mm_some, nn_s, e_X12_fits_33 S (fun x5 x6 x7 v => ih x5 x6 x7 v), e_X12_fits_95 S, ih]
def m_fits (x1 : Int64) (x3 : Int64) (v : MV) : Option (Int32 × MV) := bdm (m_split x1 58 v) fun x_2 v_1 =>
  bdm (m_split x3 59 v_1) fun x_4 v_3 =>
  m_fits_24 FU x_2 x_4 x_4 v_3
set_option maxHeartbeats 4000000 in
theorem e_X12_fits {m0 : Nat} {h : AH} (S : MSh m0 h) (x1 : Int64) (x3 : Int64) (v : MV) : f_X12_fits m0 x1 x3 (mput h m0 v) = mm h m0 (m_fits x1 x3 v) := by
  unfold f_X12_fits m_fits
  simp only [bd_mm, lR_58 S, lR_59 S, ltd, mm_bdm, mm_ite, mm_none, mm_some, nn_s, or_true, true_or, e_X12_fits_24 S, e_X12_split S]
-- X12_reaches
def m_reaches_150 (k33 : Int32 → Int32 → Int64 → Int32 → Int32 → MV → Option (Int32 × MV)) (x1 : Int32) (x2 : Int32) (x3 : Int64) (x6 : Int32) (s0 : Int32) (v : MV) : Option (Int32 × MV) := k33 x1 x2 x3 s0 (x6 + 1) v
set_option maxHeartbeats 4000000 in
theorem e_X12_reaches_150 {m0 : Nat} {h : AH} (S : MSh m0 h) {k33 : Nat → Int32 → Int32 → Int64 → Int32 → Int32 → AH → Option (Int32 × AH)} {j33 : Int32 → Int32 → Int64 → Int32 → Int32 → MV → Option (Int32 × MV)} (c33 : ∀ (x1 : Int32) (x2 : Int32) (x3 : Int64) (x5 : Int32) (x6 : Int32) (v : MV), k33 m0 x1 x2 x3 x5 x6 (mput h m0 v) = mm h m0 (j33 x1 x2 x3 x5 x6 v)) (x1 : Int32) (x2 : Int32) (x3 : Int64) (x6 : Int32) (s0 : Int32) (v : MV) : f_X12_reaches_150 k33 m0 x1 x2 x3 x6 s0 (mput h m0 v) = mm h m0 (m_reaches_150 j33 x1 x2 x3 x6 s0 v) := by
  unfold f_X12_reaches_150 m_reaches_150
  simp only [ltd, mm_ite, mm_none, mm_some, nn_s, c33]
def m_reaches_124 (k33 : Int32 → Int32 → Int64 → Int32 → Int32 → MV → Option (Int32 × MV)) (x1 : Int32) (x2 : Int32) (x3 : Int64) (x6 : Int32) (x8 : Int32) (v : MV) : Option (Int32 × MV) := (if x8 = 2 then
    mrJ v 16 x6 fun x_1 =>
    bdm (m_fits x3 x_1 v) fun x_3 v_2 =>
    (if x_3 = 0 then
      m_reaches_150 k33 x1 x2 x3 x6 0 v_2
    else
      m_reaches_150 k33 x1 x2 x3 x6 1 v_2)
  else
    m_reaches_150 k33 x1 x2 x3 x6 0 v)
set_option maxHeartbeats 4000000 in
theorem e_X12_reaches_124 {m0 : Nat} {h : AH} (S : MSh m0 h) {k33 : Nat → Int32 → Int32 → Int64 → Int32 → Int32 → AH → Option (Int32 × AH)} {j33 : Int32 → Int32 → Int64 → Int32 → Int32 → MV → Option (Int32 × MV)} (c33 : ∀ (x1 : Int32) (x2 : Int32) (x3 : Int64) (x5 : Int32) (x6 : Int32) (v : MV), k33 m0 x1 x2 x3 x5 x6 (mput h m0 v) = mm h m0 (j33 x1 x2 x3 x5 x6 v)) (x1 : Int32) (x2 : Int32) (x3 : Int64) (x6 : Int32) (x8 : Int32) (v : MV) : f_X12_reaches_124 k33 m0 x1 x2 x3 x6 x8 (mput h m0 v) = mm h m0 (m_reaches_124 j33 x1 x2 x3 x6 x8 v) := by
  unfold f_X12_reaches_124 m_reaches_124
  simp only [bd_mm, lA_16 S, lR_16 S, l_kg S, ltd, mm_bdm, mm_ite, mm_mrJ, mm_none, mm_some, nn_s, e_X12_fits S, e_X12_reaches_150 S (c33), c33]
def m_reaches_81 (k33 : Int32 → Int32 → Int64 → Int32 → Int32 → MV → Option (Int32 × MV)) (x1 : Int32) (x2 : Int32) (x3 : Int64) (x5 : Int32) (x6 : Int32) (s0 : Int32) (v : MV) : Option (Int32 × MV) := mrI v 7 x2 fun x_1 =>
  (if x5 = 0 then
    (if s0 = 0 then
      m_reaches_150 k33 x1 x2 x3 x6 0 v
    else
      (if x_1 = 1 then
        m_reaches_150 k33 x1 x2 x3 x6 1 v
      else
        (if x_1 = 0 then
          mrJ v 16 x6 fun x_2 =>
          (if (lg_cmp x_2 x3) = 0 then
            m_reaches_150 k33 x1 x2 x3 x6 1 v
          else
            m_reaches_124 k33 x1 x2 x3 x6 x_1 v)
        else
          m_reaches_124 k33 x1 x2 x3 x6 x_1 v)))
  else
    m_reaches_150 k33 x1 x2 x3 x6 1 v)
set_option maxHeartbeats 4000000 in
theorem e_X12_reaches_81 {m0 : Nat} {h : AH} (S : MSh m0 h) {k33 : Nat → Int32 → Int32 → Int64 → Int32 → Int32 → AH → Option (Int32 × AH)} {j33 : Int32 → Int32 → Int64 → Int32 → Int32 → MV → Option (Int32 × MV)} (c33 : ∀ (x1 : Int32) (x2 : Int32) (x3 : Int64) (x5 : Int32) (x6 : Int32) (v : MV), k33 m0 x1 x2 x3 x5 x6 (mput h m0 v) = mm h m0 (j33 x1 x2 x3 x5 x6 v)) (x1 : Int32) (x2 : Int32) (x3 : Int64) (x5 : Int32) (x6 : Int32) (s0 : Int32) (v : MV) : f_X12_reaches_81 k33 m0 x1 x2 x3 x5 x6 s0 (mput h m0 v) = mm h m0 (m_reaches_81 j33 x1 x2 x3 x5 x6 s0 v) := by
  unfold f_X12_reaches_81 m_reaches_81
  simp only [lA_16 S, lA_7 S, lR_16 S, lR_7 S, ltd, mm_ite, mm_mrI, mm_mrJ, mm_none, mm_some, nn_s, e_X12_reaches_124 S (c33), e_X12_reaches_150 S (c33), c33]
def m_reaches_33 : Nat → Int32 → Int32 → Int64 → Int32 → Int32 → MV → Option (Int32 × MV)
  | 0, _, _, _, _, _, _ => none
  | n + 1, x1, x2, x3, x5, x6, v => (if (v.1 13) ≤ x6 then
      rz x5 (some (x5, v))
    else
      mrJ v 14 x6 fun x_1 =>
      mrJ v 10 x1 fun x_2 =>
      (if (lg_cmp x_1 x_2) = 0 then
        mrJ v 15 x6 fun x_3 =>
        mrJ v 6 x2 fun x_4 =>
        (if (lg_cmp x_3 x_4) = 0 then
          m_reaches_81 (fun x1 x2 x3 x5 x6 v => m_reaches_33 n x1 x2 x3 x5 x6 v) x1 x2 x3 x5 x6 1 v
        else
          m_reaches_81 (fun x1 x2 x3 x5 x6 v => m_reaches_33 n x1 x2 x3 x5 x6 v) x1 x2 x3 x5 x6 0 v)
      else
        m_reaches_81 (fun x1 x2 x3 x5 x6 v => m_reaches_33 n x1 x2 x3 x5 x6 v) x1 x2 x3 x5 x6 0 v))
set_option maxHeartbeats 4000000 in
theorem e_X12_reaches_33 {m0 : Nat} {h : AH} (S : MSh m0 h) : ∀ (n : Nat) (x1 : Int32) (x2 : Int32) (x3 : Int64) (x5 : Int32) (x6 : Int32) (v : MV), f_X12_reaches_33 n m0 x1 x2 x3 x5 x6 (mput h m0 v) = mm h m0 (m_reaches_33 n x1 x2 x3 x5 x6 v) := by
  intro n
  induction n with
  | zero => intros; rfl
  | succ n ih =>
    intro x1 x2 x3 x5 x6 v
    rw [f_X12_reaches_33, m_reaches_33]
    simp only [lA_10 S, lA_14 S, lA_15 S, lA_6 S, lR_10 S, lR_14 S, lR_15 S, lR_6 S, l_rdI S, ltd, mm_ite, mm_mrJ, mm_none, mm_rz, mm_some, nn_s, e_X12_reaches_81 S (fun x1 x2 x3 x5 x6 v => ih x1 x2 x3 x5 x6 v), ih]
def m_reaches (x1 : Int32) (x2 : Int32) (x3 : Int64) (v : MV) : Option (Int32 × MV) := (if 0 ≤ x2 then
    (if x2 = 0 then
      mrJ v 10 x1 fun x_1 =>
      (if (lg_cmp x_1 x3) = 0 then
        rz 1 (some (1, v))
      else
        rz 0 (some (0, v)))
    else
      m_reaches_33 FU x1 x2 x3 0 0 v)
  else
    rz 0 (some (0, v)))
set_option maxHeartbeats 4000000 in
theorem e_X12_reaches {m0 : Nat} {h : AH} (S : MSh m0 h) (x1 : Int32) (x2 : Int32) (x3 : Int64) (v : MV) : f_X12_reaches m0 x1 x2 x3 (mput h m0 v) = mm h m0 (m_reaches x1 x2 x3 v) := by
  unfold f_X12_reaches m_reaches
  simp only [lA_10 S, lR_10 S, ltd, mm_ite, mm_mrJ, mm_none, mm_rz, mm_some, nn_s, e_X12_reaches_33 S]
-- X12_isThere
def m_isThere_31 (k4 : Int32 → Int32 → Int32 → MV → Option (Int32 × MV)) (x1 : Int32) (x3 : Int32) (s0 : Int32) (v : MV) : Option (Int32 × MV) := k4 x1 s0 (x3 + 1) v
set_option maxHeartbeats 4000000 in
theorem e_X12_isThere_31 {m0 : Nat} {h : AH} (S : MSh m0 h) {k4 : Nat → Int32 → Int32 → Int32 → AH → Option (Int32 × AH)} {j4 : Int32 → Int32 → Int32 → MV → Option (Int32 × MV)} (c4 : ∀ (x1 : Int32) (x2 : Int32) (x3 : Int32) (v : MV), k4 m0 x1 x2 x3 (mput h m0 v) = mm h m0 (j4 x1 x2 x3 v)) (x1 : Int32) (x3 : Int32) (s0 : Int32) (v : MV) : f_X12_isThere_31 k4 m0 x1 x3 s0 (mput h m0 v) = mm h m0 (m_isThere_31 j4 x1 x3 s0 v) := by
  unfold f_X12_isThere_31 m_isThere_31
  simp only [ltd, mm_ite, mm_none, mm_some, nn_s, c4]
def m_isThere_4 : Nat → Int32 → Int32 → Int32 → MV → Option (Int32 × MV)
  | 0, _, _, _, _ => none
  | n + 1, x1, x2, x3, v => (if (v.1 8) ≤ x3 then
      rz x2 (some (x2, v))
    else
      (if x2 = 0 then
        mrI v 11 x3 fun x_1 =>
        (if x_1 = x1 then
          m_isThere_31 (fun x1 x2 x3 v => m_isThere_4 n x1 x2 x3 v) x1 x3 1 v
        else
          m_isThere_31 (fun x1 x2 x3 v => m_isThere_4 n x1 x2 x3 v) x1 x3 0 v)
      else
        m_isThere_31 (fun x1 x2 x3 v => m_isThere_4 n x1 x2 x3 v) x1 x3 1 v))
set_option maxHeartbeats 4000000 in
theorem e_X12_isThere_4 {m0 : Nat} {h : AH} (S : MSh m0 h) : ∀ (n : Nat) (x1 : Int32) (x2 : Int32) (x3 : Int32) (v : MV), f_X12_isThere_4 n m0 x1 x2 x3 (mput h m0 v) = mm h m0 (m_isThere_4 n x1 x2 x3 v) := by
  intro n
  induction n with
  | zero => intros; rfl
  | succ n ih =>
    intro x1 x2 x3 v
    rw [f_X12_isThere_4, m_isThere_4]
    simp only [lA_11 S, lR_11 S, l_rdI S, ltd, mm_ite, mm_mrI, mm_none, mm_rz, mm_some, nn_s, e_X12_isThere_31 S (fun x1 x2 x3 v => ih x1 x2 x3 v), ih]
def m_isThere (x1 : Int32) (v : MV) : Option (Int32 × MV) := m_isThere_4 FU x1 0 0 v
set_option maxHeartbeats 4000000 in
theorem e_X12_isThere {m0 : Nat} {h : AH} (S : MSh m0 h) (x1 : Int32) (v : MV) : f_X12_isThere m0 x1 (mput h m0 v) = mm h m0 (m_isThere x1 v) := by
  unfold f_X12_isThere m_isThere
  simp only [ltd, mm_ite, mm_none, mm_some, nn_s, e_X12_isThere_4 S]
-- X12_goesBack
def m_goesBack (x1 : Int32) (v : MV) : Option (Int32 × MV) := mrI v 27 x1 fun x_1 =>
  bdm (m_isThere x_1 v) fun x_3 v_2 =>
  (if x_3 = 0 then
    bdm (m_removeLetter x1 v_2) fun _ v_6 =>
    rz 1 (some (1, v_6))
  else
    msI v_2 28 x1 0 fun v_4 =>
    msZ v_4 30 x1 1 fun v_5 =>
    rz 0 (some (0, v_5)))
set_option maxHeartbeats 4000000 in
theorem e_X12_goesBack {m0 : Nat} {h : AH} (S : MSh m0 h) (x1 : Int32) (v : MV) : f_X12_goesBack m0 x1 (mput h m0 v) = mm h m0 (m_goesBack x1 v) := by
  unfold f_X12_goesBack m_goesBack
  simp only [bd_mm, lA_27 S, lR_27 S, lR_28 S, lR_30 S, lS_28 S, lS_30 S, l_kg S, ltd, mm_bdm, mm_ite, mm_mrI, mm_msI, mm_msZ, mm_none, mm_rz, mm_some, nn_s, e_X12_isThere S, e_X12_removeLetter S]
-- X12_allBack
def m_allBack_2 : Nat → Int32 → Int32 → MV → Option (Unit × MV)
  | 0, _, _, _ => none
  | n + 1, x1, x2, v => (if (v.1 24) ≤ x2 then
      some ((), v)
    else
      mrI v 28 x2 fun x_1 =>
      (if x_1 = x1 then
        bdm (m_goesBack x2 v) fun x_4 v_3 =>
        (if x_4 = 0 then
          lt (x2 + 1) fun x_5 =>
          m_allBack_2 n x1 x_5 v_3
        else
          lt (x2 + 0) fun x_6 =>
          m_allBack_2 n x1 x_6 v_3)
      else
        lt (x2 + 1) fun x_2 =>
        m_allBack_2 n x1 x_2 v))
set_option maxHeartbeats 4000000 in
theorem e_X12_allBack_2 {m0 : Nat} {h : AH} (S : MSh m0 h) : ∀ (n : Nat) (x1 : Int32) (x2 : Int32) (v : MV), f_X12_allBack_2 n m0 x1 x2 (mput h m0 v) = mm h m0 (m_allBack_2 n x1 x2 v) := by
  intro n
  induction n with
  | zero => intros; rfl
  | succ n ih =>
    intro x1 x2 v
    rw [f_X12_allBack_2, m_allBack_2]
    simp only [bd_mm, lA_28 S, lR_28 S, l_kg S, l_rdI S, ltd, mm_bdm, mm_ite, mm_mrI, mm_none, mm_some, nn_s, e_X12_goesBack S, ih]
def m_allBack (x1 : Int32) (v : MV) : Option (Unit × MV) := m_allBack_2 FU x1 0 v
set_option maxHeartbeats 4000000 in
theorem e_X12_allBack {m0 : Nat} {h : AH} (S : MSh m0 h) (x1 : Int32) (v : MV) : f_X12_allBack m0 x1 (mput h m0 v) = mm h m0 (m_allBack x1 v) := by
  unfold f_X12_allBack m_allBack
  simp only [ltd, mm_ite, mm_none, mm_some, nn_s, e_X12_allBack_2 S]
-- X12_removeConsumer
def m_removeConsumer_12 : Nat → Int32 → MV → Option (Unit × MV)
  | 0, _, _ => none
  | n + 1, x2, v => (if (v.1 17) ≤ x2 then
      some ((), v)
    else
      mrI v 19 (x2 + 1) fun x_1 =>
      msI v 19 x2 x_1 fun v_2 =>
      mrI v_2 20 (x2 + 1) fun x_3 =>
      msI v_2 20 x2 x_3 fun v_4 =>
      mrJ v_4 21 (x2 + 1) fun x_5 =>
      msJ v_4 21 x2 x_5 fun v_6 =>
      mrI v_6 22 (x2 + 1) fun x_7 =>
      msI v_6 22 x2 x_7 fun v_8 =>
      mrI v_8 23 (x2 + 1) fun x_9 =>
      msZ v_8 23 x2 x_9 fun v_10 =>
      m_removeConsumer_12 n (x2 + 1) v_10)
set_option maxHeartbeats 4000000 in
theorem e_X12_removeConsumer_12 {m0 : Nat} {h : AH} (S : MSh m0 h) : ∀ (n : Nat) (x2 : Int32) (v : MV), f_X12_removeConsumer_12 n m0 x2 (mput h m0 v) = mm h m0 (m_removeConsumer_12 n x2 v) := by
  intro n
  induction n with
  | zero => intros; rfl
  | succ n ih =>
    intro x2 v
    rw [f_X12_removeConsumer_12, m_removeConsumer_12]
    simp only [lA_19 S, lA_20 S, lA_21 S, lA_22 S, lA_23 S, lR_19 S, lR_20 S, lR_21 S, lR_22 S, lR_23 S, lS_19 S, lS_20 S, lS_21 S, lS_22 S, lS_23 S, l_rdI S, ltd, mm_ite, mm_mrI, mm_mrJ, mm_msI, mm_msJ, mm_msZ, mm_none, mm_some, nn_s, ih]
def m_removeConsumer (x1 : Int32) (v : MV) : Option (Unit × MV) := mwI v 17 ((v.1 17) - 1) fun v_1 =>
  m_removeConsumer_12 FU x1 v_1
set_option maxHeartbeats 4000000 in
theorem e_X12_removeConsumer {m0 : Nat} {h : AH} (S : MSh m0 h) (x1 : Int32) (v : MV) : f_X12_removeConsumer m0 x1 (mput h m0 v) = mm h m0 (m_removeConsumer x1 v) := by
  unfold f_X12_removeConsumer m_removeConsumer
  simp only [l_rdI S, l_wrI S, ltd, mm_ite, mm_mwI, mm_none, mm_some, nn_s, e_X12_removeConsumer_12 S]
-- X12_endChannel
def m_endChannel_33 (k14 : Int32 → Int32 → MV → Option (Unit × MV)) (x1 : Int32) (x3 : Int32) (v : MV) : Option (Unit × MV) := k14 x1 (x3 + (-1)) v
set_option maxHeartbeats 4000000 in
theorem e_X12_endChannel_33 {m0 : Nat} {h : AH} (S : MSh m0 h) {k14 : Nat → Int32 → Int32 → AH → Option (Unit × AH)} {j14 : Int32 → Int32 → MV → Option (Unit × MV)} (c14 : ∀ (x1 : Int32) (x3 : Int32) (v : MV), k14 m0 x1 x3 (mput h m0 v) = mm h m0 (j14 x1 x3 v)) (x1 : Int32) (x3 : Int32) (v : MV) : f_X12_endChannel_33 k14 m0 x1 x3 (mput h m0 v) = mm h m0 (m_endChannel_33 j14 x1 x3 v) := by
  unfold f_X12_endChannel_33 m_endChannel_33
  simp only [ltd, mm_ite, mm_none, mm_some, nn_s, c14]
def m_endChannel_39 (x1 : Int32) (v : MV) : Option (Unit × MV) := bdm (m_allBack x1 v) fun _ v_1 =>
  msZ v_1 39 x1 0 fun v_2 =>
  msI v_2 47 x1 0 fun v_3 =>
  msI v_3 40 x1 0 fun v_4 =>
  some ((), v_4)
set_option maxHeartbeats 4000000 in
theorem e_X12_endChannel_39 {m0 : Nat} {h : AH} (S : MSh m0 h) (x1 : Int32) (v : MV) : f_X12_endChannel_39 m0 x1 (mput h m0 v) = mm h m0 (m_endChannel_39 x1 v) := by
  unfold f_X12_endChannel_39 m_endChannel_39
  simp only [bd_mm, lR_39 S, lR_40 S, lR_47 S, lS_39 S, lS_40 S, lS_47 S, l_kg S, ltd, mm_bdm, mm_ite, mm_msI, mm_msZ, mm_none, mm_some, nn_s, e_X12_allBack S]
def m_endChannel_14 : Nat → Int32 → Int32 → MV → Option (Unit × MV)
  | 0, _, _, _ => none
  | n + 1, x1, x3, v => (if x3 < 0 then
      m_endChannel_39 x1 v
    else
      mrI v 20 x3 fun x_1 =>
      (if x_1 = x1 then
        bdm (m_removeConsumer x3 v) fun _ v_2 =>
        m_endChannel_33 (fun x1 x3 v => m_endChannel_14 n x1 x3 v) x1 x3 v_2
      else
        m_endChannel_33 (fun x1 x3 v => m_endChannel_14 n x1 x3 v) x1 x3 v))
set_option maxHeartbeats 4000000 in
theorem e_X12_endChannel_14 {m0 : Nat} {h : AH} (S : MSh m0 h) : ∀ (n : Nat) (x1 : Int32) (x3 : Int32) (v : MV), f_X12_endChannel_14 n m0 x1 x3 (mput h m0 v) = mm h m0 (m_endChannel_14 n x1 x3 v) := by
  intro n
  induction n with
  | zero => intros; rfl
  | succ n ih =>
    intro x1 x3 v
    rw [f_X12_endChannel_14, m_endChannel_14]
    simp only [bd_mm, lA_20 S, lR_20 S, l_kg S, ltd, mm_bdm, mm_ite, mm_mrI, mm_none, mm_some, nn_s, e_X12_endChannel_33 S (fun x1 x3 v => ih x1 x3 v), e_X12_endChannel_39 S, e_X12_removeConsumer S, ih]
def m_endChannel (x1 : Int32) (x2 : Int32) (v : MV) : Option (Unit × MV) := msI v 35 x1 x2 fun v_1 =>
  lt ((v_1.1 17) - 1) fun x_2 =>
  m_endChannel_14 FU x1 x_2 v_1
set_option maxHeartbeats 4000000 in
theorem e_X12_endChannel {m0 : Nat} {h : AH} (S : MSh m0 h) (x1 : Int32) (x2 : Int32) (v : MV) : f_X12_endChannel m0 x1 x2 (mput h m0 v) = mm h m0 (m_endChannel x1 x2 v) := by
  unfold f_X12_endChannel m_endChannel
  simp only [lR_35 S, lS_35 S, l_rdI S, ltd, mm_ite, mm_msI, mm_none, mm_some, nn_s, e_X12_endChannel_14 S]
-- X12_soft
def m_soft (x1 : Int32) (x2 : Int32) (v : MV) : Option (Unit × MV) := bdm (m_method x1 20 40 v) fun _ v_1 =>
  bdm (m_putShort x2 v_1) fun _ v_2 =>
  bdm (m_finish v_2) fun _ v_3 =>
  bdm (m_endChannel x1 2 v_3) fun _ v_4 =>
  some ((), v_4)
set_option maxHeartbeats 4000000 in
theorem e_X12_soft {m0 : Nat} {h : AH} (S : MSh m0 h) (x1 : Int32) (x2 : Int32) (v : MV) : f_X12_soft m0 x1 x2 (mput h m0 v) = mm h m0 (m_soft x1 x2 v) := by
  unfold f_X12_soft m_soft
  simp only [bd_mm, l_kg S, ltd, mm_bdm, mm_ite, mm_none, mm_some, nn_s, e_X12_endChannel S, e_X12_finish S, e_X12_method S, e_X12_putShort S]
-- X12_route
def m_route_42 (k13 : Int32 → Int64 → Int64 → Int32 → Int32 → Int64 → Int32 → Int32 → Int32 → MV → Option (Int32 × MV)) (x1 : Int32) (x2 : Int64) (x4 : Int64) (x6 : Int32) (x7 : Int32) (x8 : Int64) (x10 : Int32) (x12 : Int32) (s0 : Int32) (s1 : Int32) (v : MV) : Option (Int32 × MV) := lt (s1 + s0) fun x_1 =>
  k13 x1 x2 x4 x6 x7 x8 x10 x_1 (x12 + 1) v
set_option maxHeartbeats 4000000 in
theorem e_X12_route_42 {m0 : Nat} {h : AH} (S : MSh m0 h) {k13 : Nat → Int32 → Int64 → Int64 → Int32 → Int32 → Int64 → Int32 → Int32 → Int32 → AH → Option (Int32 × AH)} {j13 : Int32 → Int64 → Int64 → Int32 → Int32 → Int64 → Int32 → Int32 → Int32 → MV → Option (Int32 × MV)} (c13 : ∀ (x1 : Int32) (x2 : Int64) (x4 : Int64) (x6 : Int32) (x7 : Int32) (x8 : Int64) (x10 : Int32) (x11 : Int32) (x12 : Int32) (v : MV), k13 m0 x1 x2 x4 x6 x7 x8 x10 x11 x12 (mput h m0 v) = mm h m0 (j13 x1 x2 x4 x6 x7 x8 x10 x11 x12 v)) (x1 : Int32) (x2 : Int64) (x4 : Int64) (x6 : Int32) (x7 : Int32) (x8 : Int64) (x10 : Int32) (x12 : Int32) (s0 : Int32) (s1 : Int32) (v : MV) : f_X12_route_42 k13 m0 x1 x2 x4 x6 x7 x8 x10 x12 s0 s1 (mput h m0 v) = mm h m0 (m_route_42 j13 x1 x2 x4 x6 x7 x8 x10 x12 s0 s1 v) := by
  unfold f_X12_route_42 m_route_42
  simp only [ltd, mm_ite, mm_none, mm_some, nn_s, c13]
def m_route_220 (k76 : Int32 → Int64 → Int64 → Int32 → Int32 → Int64 → Int32 → Int32 → Int32 → MV → Option (Int32 × MV)) (x1 : Int32) (x2 : Int64) (x4 : Int64) (x6 : Int32) (x7 : Int32) (x8 : Int64) (x10 : Int32) (x11 : Int32) (x12 : Int32) (v : MV) : Option (Int32 × MV) := k76 x1 x2 x4 x6 x7 x8 x10 x11 (x12 + 1) v
set_option maxHeartbeats 4000000 in
theorem e_X12_route_220 {m0 : Nat} {h : AH} (S : MSh m0 h) {k76 : Nat → Int32 → Int64 → Int64 → Int32 → Int32 → Int64 → Int32 → Int32 → Int32 → AH → Option (Int32 × AH)} {j76 : Int32 → Int64 → Int64 → Int32 → Int32 → Int64 → Int32 → Int32 → Int32 → MV → Option (Int32 × MV)} (c76 : ∀ (x1 : Int32) (x2 : Int64) (x4 : Int64) (x6 : Int32) (x7 : Int32) (x8 : Int64) (x10 : Int32) (x11 : Int32) (x12 : Int32) (v : MV), k76 m0 x1 x2 x4 x6 x7 x8 x10 x11 x12 (mput h m0 v) = mm h m0 (j76 x1 x2 x4 x6 x7 x8 x10 x11 x12 v)) (x1 : Int32) (x2 : Int64) (x4 : Int64) (x6 : Int32) (x7 : Int32) (x8 : Int64) (x10 : Int32) (x11 : Int32) (x12 : Int32) (v : MV) : f_X12_route_220 k76 m0 x1 x2 x4 x6 x7 x8 x10 x11 x12 (mput h m0 v) = mm h m0 (m_route_220 j76 x1 x2 x4 x6 x7 x8 x10 x11 x12 v) := by
  unfold f_X12_route_220 m_route_220
  simp only [ltd, mm_ite, mm_none, mm_some, nn_s, c76]
def m_route_226 (x1 : Int32) (x2 : Int64) (x4 : Int64) (x6 : Int32) (x7 : Int32) (x8 : Int64) (x11 : Int32) (v : MV) : Option (Int32 × MV) := (if x11 = 0 then
    (if x6 = 0 then
      rz 1 (some (1, v))
    else
      bdm (m_method x1 60 50 v) fun _ v_1 =>
      bdm (m_putShort 312 v_1) fun _ v_2 =>
      bdm (m_putName x2 v_2) fun _ v_3 =>
      bdm (m_putName x4 v_3) fun _ v_4 =>
      bdm (m_finish v_4) fun _ v_5 =>
      bdm (m_putLetter x1 x7 x8 v_5) fun _ v_6 =>
      rz 1 (some (1, v_6)))
  else
    rz 1 (some (1, v)))
set_option maxHeartbeats 4000000 in
theorem e_X12_route_226 {m0 : Nat} {h : AH} (S : MSh m0 h) (x1 : Int32) (x2 : Int64) (x4 : Int64) (x6 : Int32) (x7 : Int32) (x8 : Int64) (x11 : Int32) (v : MV) : f_X12_route_226 m0 x1 x2 x4 x6 x7 x8 x11 (mput h m0 v) = mm h m0 (m_route_226 x1 x2 x4 x6 x7 x8 x11 v) := by
  unfold f_X12_route_226 m_route_226
  simp only [bd_mm, l_kg S, ltd, mm_bdm, mm_ite, mm_none, mm_rz, mm_some, nn_s, e_X12_finish S, e_X12_method S, e_X12_putLetter S, e_X12_putName S, e_X12_putShort S]
def m_route_76 : Nat → Int32 → Int64 → Int64 → Int32 → Int32 → Int64 → Int32 → Int32 → Int32 → MV → Option (Int32 × MV)
  | 0, _, _, _, _, _, _, _, _, _, _ => none
  | n + 1, x1, x2, x4, x6, x7, x8, x10, x11, x12, v => (if (v.1 8) ≤ x12 then
      m_route_226 x1 x2 x4 x6 x7 x8 x11 v
    else
      bdm (m_reaches x12 x10 x4 v) fun x_2 v_1 =>
      (if x_2 = 0 then
        m_route_220 (fun x1 x2 x4 x6 x7 x8 x10 x11 x12 v => m_route_76 n x1 x2 x4 x6 x7 x8 x10 x11 x12 v) x1 x2 x4 x6 x7 x8 x10 x11 x12 v_1
      else
        mwI v_1 25 ((v_1.1 25) + 1) fun v_3 =>
        msI v_3 26 (v_3.1 24) (v_3.1 25) fun v_4 =>
        mrI v_4 11 x12 fun x_5 =>
        msI v_4 27 (v_4.1 24) x_5 fun v_6 =>
        msI v_6 28 (v_6.1 24) 0 fun v_7 =>
        msI v_7 29 (v_7.1 24) 0 fun v_8 =>
        msZ v_8 30 (v_8.1 24) 0 fun v_9 =>
        msJ v_9 31 (v_9.1 24) x2 fun v_10 =>
        msJ v_10 32 (v_10.1 24) x4 fun v_11 =>
        msI v_11 33 (v_11.1 24) x7 fun v_12 =>
        msJ v_12 34 (v_12.1 24) x8 fun v_13 =>
        mwI v_13 24 ((v_13.1 24) + 1) fun v_14 =>
        m_route_220 (fun x1 x2 x4 x6 x7 x8 x10 x11 x12 v => m_route_76 n x1 x2 x4 x6 x7 x8 x10 x11 x12 v) x1 x2 x4 x6 x7 x8 x10 x11 x12 v_14))
set_option maxHeartbeats 4000000 in
theorem e_X12_route_76 {m0 : Nat} {h : AH} (S : MSh m0 h) : ∀ (n : Nat) (x1 : Int32) (x2 : Int64) (x4 : Int64) (x6 : Int32) (x7 : Int32) (x8 : Int64) (x10 : Int32) (x11 : Int32) (x12 : Int32) (v : MV), f_X12_route_76 n m0 x1 x2 x4 x6 x7 x8 x10 x11 x12 (mput h m0 v) = mm h m0 (m_route_76 n x1 x2 x4 x6 x7 x8 x10 x11 x12 v) := by
  intro n
  induction n with
  | zero => intros; rfl
  | succ n ih =>
    intro x1 x2 x4 x6 x7 x8 x10 x11 x12 v
    rw [f_X12_route_76, m_route_76]
    simp only [bd_mm, lA_11 S, lR_11 S, lR_26 S, lR_27 S, lR_28 S, lR_29 S, lR_30 S, lR_31 S, lR_32 S, lR_33 S, lR_34 S, lS_26 S, lS_27 S, lS_28 S, lS_29 S, lS_30 S, lS_31 S, lS_32 S, lS_33 S, lS_34 S, l_kg S, l_rdI S, l_wrI S, ltd, mm_bdm, mm_ite, mm_mrI, mm_msI, mm_msJ, mm_msZ, mm_mwI, mm_none, mm_some, nn_s, e_X12_reaches S, e_X12_route_220 S (fun x1 x2 x4 x6 x7 x8 x10 x11 x12 v => ih x1 x2 x4 x6 x7 x8 x10 x11 x12 v), e_X12_route_226 S, ih]
def m_route_51 (x1 : Int32) (x2 : Int64) (x4 : Int64) (x6 : Int32) (x7 : Int32) (x8 : Int64) (x10 : Int32) (x11 : Int32) (v : MV) : Option (Int32 × MV) := (if ((v.1 24) + x11) ≤ 24 then
    m_route_76 FU x1 x2 x4 x6 x7 x8 x10 x11 0 v
  else
    bdm (m_soft x1 506 v) fun _ v_1 =>
    rz 0 (some (0, v_1)))
set_option maxHeartbeats 4000000 in
theorem e_X12_route_51 {m0 : Nat} {h : AH} (S : MSh m0 h) (x1 : Int32) (x2 : Int64) (x4 : Int64) (x6 : Int32) (x7 : Int32) (x8 : Int64) (x10 : Int32) (x11 : Int32) (v : MV) : f_X12_route_51 m0 x1 x2 x4 x6 x7 x8 x10 x11 (mput h m0 v) = mm h m0 (m_route_51 x1 x2 x4 x6 x7 x8 x10 x11 v) := by
  unfold f_X12_route_51 m_route_51
  simp only [bd_mm, l_kg S, l_rdI S, ltd, mm_bdm, mm_ite, mm_none, mm_rz, mm_some, nn_s, e_X12_route_76 S, e_X12_soft S]
def m_route_13 : Nat → Int32 → Int64 → Int64 → Int32 → Int32 → Int64 → Int32 → Int32 → Int32 → MV → Option (Int32 × MV)
  | 0, _, _, _, _, _, _, _, _, _, _ => none
  | n + 1, x1, x2, x4, x6, x7, x8, x10, x11, x12, v => (if (v.1 8) ≤ x12 then
      m_route_51 x1 x2 x4 x6 x7 x8 x10 x11 v
    else
      bdm (m_reaches x12 x10 x4 v) fun x_2 v_1 =>
      (if x_2 = 0 then
        m_route_42 (fun x1 x2 x4 x6 x7 x8 x10 x11 x12 v => m_route_13 n x1 x2 x4 x6 x7 x8 x10 x11 x12 v) x1 x2 x4 x6 x7 x8 x10 x12 0 x11 v_1
      else
        m_route_42 (fun x1 x2 x4 x6 x7 x8 x10 x11 x12 v => m_route_13 n x1 x2 x4 x6 x7 x8 x10 x11 x12 v) x1 x2 x4 x6 x7 x8 x10 x12 1 x11 v_1))
set_option maxHeartbeats 4000000 in
theorem e_X12_route_13 {m0 : Nat} {h : AH} (S : MSh m0 h) : ∀ (n : Nat) (x1 : Int32) (x2 : Int64) (x4 : Int64) (x6 : Int32) (x7 : Int32) (x8 : Int64) (x10 : Int32) (x11 : Int32) (x12 : Int32) (v : MV), f_X12_route_13 n m0 x1 x2 x4 x6 x7 x8 x10 x11 x12 (mput h m0 v) = mm h m0 (m_route_13 n x1 x2 x4 x6 x7 x8 x10 x11 x12 v) := by
  intro n
  induction n with
  | zero => intros; rfl
  | succ n ih =>
    intro x1 x2 x4 x6 x7 x8 x10 x11 x12 v
    rw [f_X12_route_13, m_route_13]
    simp only [bd_mm, l_kg S, l_rdI S, ltd, mm_bdm, mm_ite, mm_none, mm_some, nn_s, e_X12_reaches S, e_X12_route_42 S (fun x1 x2 x4 x6 x7 x8 x10 x11 x12 v => ih x1 x2 x4 x6 x7 x8 x10 x11 x12 v), e_X12_route_51 S, ih]
def m_route (x1 : Int32) (x2 : Int64) (x4 : Int64) (x6 : Int32) (x7 : Int32) (x8 : Int64) (v : MV) : Option (Int32 × MV) := bdm (m_exchangeOf x2 v) fun x_2 v_1 =>
  m_route_13 FU x1 x2 x4 x6 x7 x8 x_2 0 0 v_1
set_option maxHeartbeats 4000000 in
theorem e_X12_route {m0 : Nat} {h : AH} (S : MSh m0 h) (x1 : Int32) (x2 : Int64) (x4 : Int64) (x6 : Int32) (x7 : Int32) (x8 : Int64) (v : MV) : f_X12_route m0 x1 x2 x4 x6 x7 x8 (mput h m0 v) = mm h m0 (m_route x1 x2 x4 x6 x7 x8 v) := by
  unfold f_X12_route m_route
  simp only [bd_mm, l_kg S, ltd, mm_bdm, mm_ite, mm_none, mm_some, nn_s, e_X12_exchangeOf S, e_X12_route_13 S]
-- X12_complete
def m_complete (x1 : Int32) (v : MV) : Option (Unit × MV) := msI v 40 x1 0 fun v_1 =>
  mrI v_1 39 x1 fun x_2 =>
  (if x_2 = 0 then
    mrJ v_1 41 x1 fun x_20 =>
    mrJ v_1 42 x1 fun x_21 =>
    mrI v_1 43 x1 fun x_22 =>
    mrI v_1 44 x1 fun x_23 =>
    mrJ v_1 46 x1 fun x_24 =>
    bdm (m_route x1 x_20 x_21 x_22 x_23 x_24 v_1) fun x_26 v_25 =>
    some ((), v_25)
  else
    mrI v_1 47 x1 fun x_3 =>
    (if x_3 = 12 then
      bdm (m_soft x1 506 v_1) fun _ v_19 =>
      some ((), v_19)
    else
      mrI v_1 47 x1 fun x_4 =>
      lt ((12 * x1) + x_4) fun x_5 =>
      msI v_1 48 x_5 0 fun v_6 =>
      mrJ v_6 41 x1 fun x_7 =>
      msJ v_6 49 x_5 x_7 fun v_8 =>
      mrJ v_8 42 x1 fun x_9 =>
      msJ v_8 50 x_5 x_9 fun v_10 =>
      mrI v_10 43 x1 fun x_11 =>
      msZ v_10 51 x_5 x_11 fun v_12 =>
      mrI v_12 44 x1 fun x_13 =>
      msI v_12 52 x_5 x_13 fun v_14 =>
      mrJ v_14 46 x1 fun x_15 =>
      msJ v_14 53 x_5 x_15 fun v_16 =>
      mrI v_16 47 x1 fun x_17 =>
      msI v_16 47 x1 (x_17 + 1) fun v_18 =>
      some ((), v_18)))
set_option maxHeartbeats 4000000 in
theorem e_X12_complete {m0 : Nat} {h : AH} (S : MSh m0 h) (x1 : Int32) (v : MV) : f_X12_complete m0 x1 (mput h m0 v) = mm h m0 (m_complete x1 v) := by
  unfold f_X12_complete m_complete
  simp only [bd_mm, lA_39 S, lA_41 S, lA_42 S, lA_43 S, lA_44 S, lA_46 S, lA_47 S, lR_39 S, lR_40 S, lR_41 S, lR_42 S, lR_43 S, lR_44 S, lR_46 S, lR_47 S, lR_48 S, lR_49 S, lR_50 S, lR_51 S, lR_52 S, lR_53 S, lS_40 S, lS_47 S, lS_48 S, lS_49 S, lS_50 S, lS_51 S, lS_52 S, lS_53 S, l_kg S, ltd, mm_bdm, mm_ite, mm_mrI, mm_mrJ, mm_msI, mm_msJ, mm_msZ, mm_none, mm_some, nn_s, e_X12_route S, e_X12_soft S]
-- X12_shut
def m_shut_33 (k12 : Int32 → MV → Option (Unit × MV)) (x1 : Int32) (v : MV) : Option (Unit × MV) := msI v 35 x1 0 fun v_1 =>
  k12 (x1 + 1) v_1
set_option maxHeartbeats 4000000 in
theorem e_X12_shut_33 {m0 : Nat} {h : AH} (S : MSh m0 h) {k12 : Nat → Int32 → AH → Option (Unit × AH)} {j12 : Int32 → MV → Option (Unit × MV)} (c12 : ∀ (x1 : Int32) (v : MV), k12 m0 x1 (mput h m0 v) = mm h m0 (j12 x1 v)) (x1 : Int32) (v : MV) : f_X12_shut_33 k12 m0 x1 (mput h m0 v) = mm h m0 (m_shut_33 j12 x1 v) := by
  unfold f_X12_shut_33 m_shut_33
  simp only [lR_35 S, lS_35 S, ltd, mm_ite, mm_msI, mm_none, mm_some, nn_s, c12]
def m_shut_12 : Nat → Int32 → MV → Option (Unit × MV)
  | 0, _, _ => none
  | n + 1, x1, v => (if 4 ≤ x1 then
      some ((), v)
    else
      mrI v 35 x1 fun x_1 =>
      (if x_1 = 1 then
        bdm (m_endChannel x1 0 v) fun _ v_2 =>
        m_shut_33 (fun x1 v => m_shut_12 n x1 v) x1 v_2
      else
        m_shut_33 (fun x1 v => m_shut_12 n x1 v) x1 v))
set_option maxHeartbeats 4000000 in
theorem e_X12_shut_12 {m0 : Nat} {h : AH} (S : MSh m0 h) : ∀ (n : Nat) (x1 : Int32) (v : MV), f_X12_shut_12 n m0 x1 (mput h m0 v) = mm h m0 (m_shut_12 n x1 v) := by
  intro n
  induction n with
  | zero => intros; rfl
  | succ n ih =>
    intro x1 v
    rw [f_X12_shut_12, m_shut_12]
    simp only [bd_mm, lA_35 S, lR_35 S, l_kg S, ltd, mm_bdm, mm_ite, mm_mrI, mm_none, mm_some, nn_s, e_X12_endChannel S, e_X12_shut_33 S (fun x1 v => ih x1 v), ih]
def m_shut (v : MV) : Option (Unit × MV) := mwI v 0 5 fun v_1 =>
  mwI v_1 2 0 fun v_2 =>
  m_shut_12 FU 1 v_2
set_option maxHeartbeats 4000000 in
theorem e_X12_shut {m0 : Nat} {h : AH} (S : MSh m0 h) (v : MV) : f_X12_shut m0 (mput h m0 v) = mm h m0 (m_shut  v) := by
  unfold f_X12_shut m_shut
  simp only [l_wrI S, ltd, mm_ite, mm_mwI, mm_none, mm_some, nn_s, e_X12_shut_12 S]
-- X12_hard
def m_hard (x1 : Int32) (v : MV) : Option (Unit × MV) := bdm (m_method 0 10 50 v) fun _ v_1 =>
  bdm (m_putShort x1 v_1) fun _ v_2 =>
  bdm (m_finish v_2) fun _ v_3 =>
  bdm (m_shut v_3) fun _ v_4 =>
  some ((), v_4)
set_option maxHeartbeats 4000000 in
theorem e_X12_hard {m0 : Nat} {h : AH} (S : MSh m0 h) (x1 : Int32) (v : MV) : f_X12_hard m0 x1 (mput h m0 v) = mm h m0 (m_hard x1 v) := by
  unfold f_X12_hard m_hard
  simp only [bd_mm, l_kg S, ltd, mm_bdm, mm_ite, mm_none, mm_some, nn_s, e_X12_finish S, e_X12_method S, e_X12_putShort S, e_X12_shut S]
-- X12_body
def m_body_34 (v : MV) : Option (Unit × MV) := bdm (m_hard 501 v) fun _ v_1 =>
  some ((), v_1)
set_option maxHeartbeats 4000000 in
theorem e_X12_body_34 {m0 : Nat} {h : AH} (S : MSh m0 h) (v : MV) : f_X12_body_34 m0 (mput h m0 v) = mm h m0 (m_body_34  v) := by
  unfold f_X12_body_34 m_body_34
  simp only [bd_mm, l_kg S, ltd, mm_bdm, mm_ite, mm_none, mm_some, nn_s, e_X12_hard S]
def m_body_84 (x1 : Int32) (v : MV) : Option (Unit × MV) := mrI v 45 x1 fun x_1 =>
  msI v 45 x1 (x_1 - ((v.1 56) - (v.1 55))) fun v_2 =>
  mrI v_2 45 x1 fun x_3 =>
  (if x_3 = 0 then
    bdm (m_complete x1 v_2) fun _ v_4 =>
    some ((), v_4)
  else
    some ((), v_2))
set_option maxHeartbeats 4000000 in
theorem e_X12_body_84 {m0 : Nat} {h : AH} (S : MSh m0 h) (x1 : Int32) (v : MV) : f_X12_body_84 m0 x1 (mput h m0 v) = mm h m0 (m_body_84 x1 v) := by
  unfold f_X12_body_84 m_body_84
  simp only [bd_mm, lA_45 S, lR_45 S, lS_45 S, l_kg S, l_rdI S, ltd, mm_bdm, mm_ite, mm_mrI, mm_msI, mm_none, mm_some, nn_s, e_X12_complete S]
def m_body_47 : Nat → Int32 → Int32 → MV → Option (Unit × MV)
  | 0, _, _, _ => none
  | n + 1, x1, x2, v => (if (v.1 56) ≤ x2 then
      m_body_84 x1 v
    else
      mrJ v 46 x1 fun x_1 =>
      mrI v 1 x2 fun x_2 =>
      msJ v 46 x1 ((x_1 <<< ((8 : Int32).toInt64 &&& 63)) ||| x_2.toInt64) fun v_3 =>
      m_body_47 n x1 (x2 + 1) v_3)
set_option maxHeartbeats 4000000 in
theorem e_X12_body_47 {m0 : Nat} {h : AH} (S : MSh m0 h) : ∀ (n : Nat) (x1 : Int32) (x2 : Int32) (v : MV), f_X12_body_47 n m0 x1 x2 (mput h m0 v) = mm h m0 (m_body_47 n x1 x2 v) := by
  intro n
  induction n with
  | zero => intros; rfl
  | succ n ih =>
    intro x1 x2 v
    rw [f_X12_body_47, m_body_47]
    simp only [lA_1 S, lA_46 S, lR_1 S, lR_46 S, lS_46 S, l_rdI S, ltd, mm_ite, mm_mrI, mm_mrJ, mm_msJ, mm_none, mm_some, nn_s, e_X12_body_84 S, ih]
def m_body (v : MV) : Option (Unit × MV) := lt (v.1 54) fun x_1 =>
  (if (v.1 56) = (v.1 55) then
    m_body_34  v
  else
    mrI v 45 x_1 fun x_2 =>
    (if ((v.1 56) - (v.1 55)) ≤ x_2 then
      lt (v.1 55) fun x_3 =>
      m_body_47 FU x_1 x_3 v
    else
      m_body_34  v))
set_option maxHeartbeats 4000000 in
theorem e_X12_body {m0 : Nat} {h : AH} (S : MSh m0 h) (v : MV) : f_X12_body m0 (mput h m0 v) = mm h m0 (m_body  v) := by
  unfold f_X12_body m_body
  simp only [lA_45 S, lR_45 S, l_rdI S, ltd, mm_ite, mm_mrI, mm_none, mm_some, nn_s, e_X12_body_34 S, e_X12_body_47 S]
-- X12_isJust
def m_isJust_18 (v : MV) : Option (Int32 × MV) := bdm (m_hard 501 v) fun _ v_1 =>
  rz 0 (some (0, v_1))
set_option maxHeartbeats 4000000 in
theorem e_X12_isJust_18 {m0 : Nat} {h : AH} (S : MSh m0 h) (v : MV) : f_X12_isJust_18 m0 (mput h m0 v) = mm h m0 (m_isJust_18  v) := by
  unfold f_X12_isJust_18 m_isJust_18
  simp only [bd_mm, l_kg S, ltd, mm_bdm, mm_ite, mm_none, mm_rz, mm_some, nn_s, e_X12_hard S]
def m_isJust (v : MV) : Option (Int32 × MV) := (if (v.1 57) = 0 then
    (if (v.1 55) = (v.1 56) then
      rz 1 (some (1, v))
    else
      m_isJust_18  v)
  else
    m_isJust_18  v)
set_option maxHeartbeats 4000000 in
theorem e_X12_isJust {m0 : Nat} {h : AH} (S : MSh m0 h) (v : MV) : f_X12_isJust m0 (mput h m0 v) = mm h m0 (m_isJust  v) := by
  unfold f_X12_isJust m_isJust
  simp only [l_rdI S, ltd, mm_ite, mm_none, mm_rz, mm_some, nn_s, e_X12_isJust_18 S]
-- X12_next
def m_next (v : MV) : Option (Int32 × MV) := (if (v.1 55) < (v.1 56) then
    mwI v 55 ((v.1 55) + 1) fun v_1 =>
    mrI v_1 1 ((v_1.1 55) - 1) fun x_2 =>
    some (x_2, v_1)
  else
    mwZ v 57 1 fun v_3 =>
    some (0, v_3))
set_option maxHeartbeats 4000000 in
theorem e_X12_next {m0 : Nat} {h : AH} (S : MSh m0 h) (v : MV) : f_X12_next m0 (mput h m0 v) = mm h m0 (m_next  v) := by
  unfold f_X12_next m_next
  simp only [lA_1 S, lR_1 S, l_rdI S, l_wrI S, l_wrZ S, ltd, mm_ite, mm_mrI, mm_mwI, mm_mwZ, mm_none, mm_some, nn_s]
-- X12_say
def m_say (x1 : Int32) (x2 : Int32) (x3 : Int32) (v : MV) : Option (Unit × MV) := bdm (m_method x1 x2 x3 v) fun _ v_1 =>
  bdm (m_finish v_1) fun _ v_2 =>
  some ((), v_2)
set_option maxHeartbeats 4000000 in
theorem e_X12_say {m0 : Nat} {h : AH} (S : MSh m0 h) (x1 : Int32) (x2 : Int32) (x3 : Int32) (v : MV) : f_X12_say m0 x1 x2 x3 (mput h m0 v) = mm h m0 (m_say x1 x2 x3 v) := by
  unfold f_X12_say m_say
  simp only [bd_mm, l_kg S, ltd, mm_bdm, mm_ite, mm_none, mm_some, nn_s, e_X12_finish S, e_X12_method S]
-- X12_channelMethod
def m_channelMethod_94 (x2 : Int32) (x3 : Int32) (s0 : Int32) (s1 : Int32) (v : MV) : Option (Unit × MV) := msZ v 37 s1 s0 fun v_1 =>
  bdm (m_method x2 20 21 v_1) fun _ v_2 =>
  bdm (m_put x3 v_2) fun _ v_3 =>
  bdm (m_finish v_3) fun _ v_4 =>
  some ((), v_4)
set_option maxHeartbeats 4000000 in
theorem e_X12_channelMethod_94 {m0 : Nat} {h : AH} (S : MSh m0 h) (x2 : Int32) (x3 : Int32) (s0 : Int32) (s1 : Int32) (v : MV) : f_X12_channelMethod_94 m0 x2 x3 s0 s1 (some (m0 + ax 37)) (mput h m0 v) = mm h m0 (m_channelMethod_94 x2 x3 s0 s1 v) := by
  unfold f_X12_channelMethod_94 m_channelMethod_94
  simp only [bd_mm, lS_37 S, l_kg S, ltd, mm_bdm, mm_ite, mm_msZ, mm_none, mm_some, nn_s, e_X12_finish S, e_X12_method S, e_X12_put S]
def m_channelMethod_19 (x1 : Int32) (x2 : Int32) (s0 : Int32) (v : MV) : Option (Unit × MV) := bdm (m_isJust v) fun x_2 v_1 =>
  (if x_2 = 0 then
    some ((), v_1)
  else
    (if x1 = 10 then
      msI v_1 35 x2 1 fun v_5 =>
      msI v_5 36 x2 0 fun v_6 =>
      msZ v_6 37 x2 1 fun v_7 =>
      msI v_7 38 x2 0 fun v_8 =>
      bdm (m_say x2 20 11 v_8) fun _ v_9 =>
      some ((), v_9)
    else
      (if x1 = 20 then
        (if s0 = 0 then
          m_channelMethod_94 x2 s0 0 x2 v_1
        else
          m_channelMethod_94 x2 s0 1 x2 v_1)
      else
        bdm (m_endChannel x2 0 v_1) fun _ v_3 =>
        bdm (m_say x2 20 41 v_3) fun _ v_4 =>
        some ((), v_4))))
set_option maxHeartbeats 4000000 in
theorem e_X12_channelMethod_19 {m0 : Nat} {h : AH} (S : MSh m0 h) (x1 : Int32) (x2 : Int32) (s0 : Int32) (v : MV) : f_X12_channelMethod_19 m0 x1 x2 s0 (mput h m0 v) = mm h m0 (m_channelMethod_19 x1 x2 s0 v) := by
  unfold f_X12_channelMethod_19 m_channelMethod_19
  simp only [bd_mm, lR_35 S, lR_36 S, lR_37 S, lR_38 S, lS_35 S, lS_36 S, lS_37 S, lS_38 S, l_kg S, ltd, mm_bdm, mm_ite, mm_msI, mm_msZ, mm_none, mm_some, nn_s, e_X12_channelMethod_94 S, e_X12_endChannel S, e_X12_isJust S, e_X12_say S]
def m_channelMethod (x1 : Int32) (v : MV) : Option (Unit × MV) := lt (v.1 54) fun x_1 =>
  (if x1 = 20 then
    bdm (m_next v) fun x_3 v_2 =>
    m_channelMethod_19 x1 x_1 x_3 v_2
  else
    m_channelMethod_19 x1 x_1 0 v)
set_option maxHeartbeats 4000000 in
theorem e_X12_channelMethod {m0 : Nat} {h : AH} (S : MSh m0 h) (x1 : Int32) (v : MV) : f_X12_channelMethod m0 x1 (mput h m0 v) = mm h m0 (m_channelMethod x1 v) := by
  unfold f_X12_channelMethod m_channelMethod
  simp only [bd_mm, l_kg S, l_rdI S, ltd, mm_bdm, mm_ite, mm_none, mm_some, nn_s, e_X12_channelMethod_19 S, e_X12_next S]
-- X12_hasBindings
def m_hasBindings_35 (k5 : Int64 → Int32 → Int32 → MV → Option (Int32 × MV)) (x1 : Int64) (x4 : Int32) (s0 : Int32) (v : MV) : Option (Int32 × MV) := k5 x1 s0 (x4 + 1) v
set_option maxHeartbeats 4000000 in
theorem e_X12_hasBindings_35 {m0 : Nat} {h : AH} (S : MSh m0 h) {k5 : Nat → Int64 → Int32 → Int32 → AH → Option (Int32 × AH)} {j5 : Int64 → Int32 → Int32 → MV → Option (Int32 × MV)} (c5 : ∀ (x1 : Int64) (x3 : Int32) (x4 : Int32) (v : MV), k5 m0 x1 x3 x4 (mput h m0 v) = mm h m0 (j5 x1 x3 x4 v)) (x1 : Int64) (x4 : Int32) (s0 : Int32) (v : MV) : f_X12_hasBindings_35 k5 m0 x1 x4 s0 (mput h m0 v) = mm h m0 (m_hasBindings_35 j5 x1 x4 s0 v) := by
  unfold f_X12_hasBindings_35 m_hasBindings_35
  simp only [ltd, mm_ite, mm_none, mm_some, nn_s, c5]
def m_hasBindings_5 : Nat → Int64 → Int32 → Int32 → MV → Option (Int32 × MV)
  | 0, _, _, _, _ => none
  | n + 1, x1, x3, x4, v => (if (v.1 13) ≤ x4 then
      rz x3 (some (x3, v))
    else
      (if x3 = 0 then
        mrJ v 15 x4 fun x_1 =>
        (if (lg_cmp x_1 x1) = 0 then
          m_hasBindings_35 (fun x1 x3 x4 v => m_hasBindings_5 n x1 x3 x4 v) x1 x4 1 v
        else
          m_hasBindings_35 (fun x1 x3 x4 v => m_hasBindings_5 n x1 x3 x4 v) x1 x4 0 v)
      else
        m_hasBindings_35 (fun x1 x3 x4 v => m_hasBindings_5 n x1 x3 x4 v) x1 x4 1 v))
set_option maxHeartbeats 4000000 in
theorem e_X12_hasBindings_5 {m0 : Nat} {h : AH} (S : MSh m0 h) : ∀ (n : Nat) (x1 : Int64) (x3 : Int32) (x4 : Int32) (v : MV), f_X12_hasBindings_5 n m0 x1 x3 x4 (mput h m0 v) = mm h m0 (m_hasBindings_5 n x1 x3 x4 v) := by
  intro n
  induction n with
  | zero => intros; rfl
  | succ n ih =>
    intro x1 x3 x4 v
    rw [f_X12_hasBindings_5, m_hasBindings_5]
    simp only [lA_15 S, lR_15 S, l_rdI S, ltd, mm_ite, mm_mrJ, mm_none, mm_rz, mm_some, nn_s, e_X12_hasBindings_35 S (fun x1 x3 x4 v => ih x1 x3 x4 v), ih]
def m_hasBindings (x1 : Int64) (v : MV) : Option (Int32 × MV) := m_hasBindings_5 FU x1 0 0 v
set_option maxHeartbeats 4000000 in
theorem e_X12_hasBindings {m0 : Nat} {h : AH} (S : MSh m0 h) (x1 : Int64) (v : MV) : f_X12_hasBindings m0 x1 (mput h m0 v) = mm h m0 (m_hasBindings x1 v) := by
  unfold f_X12_hasBindings m_hasBindings
  simp only [ltd, mm_ite, mm_none, mm_some, nn_s, e_X12_hasBindings_5 S]
-- X12_nextName
def m_nextName_78 (k32 : Int32 → Int64 → Int32 → MV → Option (Int64 × MV)) (x1 : Int32) (x2 : Int64) (x4 : Int32) (x5 : Int32) (s0 : Int32) (v : MV) : Option (Int64 × MV) := mwZ v 57 s0 fun v_1 =>
  lt ((x2 <<< ((8 : Int32).toInt64 &&& 63)) ||| x5.toInt64) fun x_2 =>
  k32 x1 x_2 (x4 + 1) v_1
set_option maxHeartbeats 4000000 in
theorem e_X12_nextName_78 {m0 : Nat} {h : AH} (S : MSh m0 h) {k32 : Nat → Int32 → Int64 → Int32 → AH → Option (Int64 × AH)} {j32 : Int32 → Int64 → Int32 → MV → Option (Int64 × MV)} (c32 : ∀ (x1 : Int32) (x2 : Int64) (x4 : Int32) (v : MV), k32 m0 x1 x2 x4 (mput h m0 v) = mm h m0 (j32 x1 x2 x4 v)) (x1 : Int32) (x2 : Int64) (x4 : Int32) (x5 : Int32) (s0 : Int32) (v : MV) : f_X12_nextName_78 k32 m0 x1 x2 x4 x5 s0 (some m0) (mput h m0 v) = mm h m0 (m_nextName_78 j32 x1 x2 x4 x5 s0 v) := by
  unfold f_X12_nextName_78 m_nextName_78
  simp only [l_wrZ S, ltd, mm_ite, mm_mwZ, mm_none, mm_some, nn_s, c32]
def m_nextName_96 (x2 : Int64) (v : MV) : Option (Int64 × MV) := some (x2, v)
set_option maxHeartbeats 4000000 in
theorem e_X12_nextName_96 {m0 : Nat} {h : AH} (S : MSh m0 h) (x2 : Int64) (v : MV) : f_X12_nextName_96 x2 (mput h m0 v) = mm h m0 (m_nextName_96 x2 v) := by
  unfold f_X12_nextName_96 m_nextName_96
  simp only [ltd, mm_ite, mm_none, mm_some, nn_s]
def m_nextName_32 : Nat → Int32 → Int64 → Int32 → MV → Option (Int64 × MV)
  | 0, _, _, _, _ => none
  | n + 1, x1, x2, x4, v => (if x1 ≤ x4 then
      m_nextName_96 x2 v
    else
      (if (v.1 57) = 0 then
        bdm (m_next v) fun x_2 v_1 =>
        (if (v_1.1 57) = 0 then
          (if x_2 < 33 then
            m_nextName_78 (fun x1 x2 x4 v => m_nextName_32 n x1 x2 x4 v) x1 x2 x4 x_2 1 v_1
          else
            (if x_2 ≤ 126 then
              m_nextName_78 (fun x1 x2 x4 v => m_nextName_32 n x1 x2 x4 v) x1 x2 x4 x_2 0 v_1
            else
              m_nextName_78 (fun x1 x2 x4 v => m_nextName_32 n x1 x2 x4 v) x1 x2 x4 x_2 1 v_1))
        else
          m_nextName_78 (fun x1 x2 x4 v => m_nextName_32 n x1 x2 x4 v) x1 x2 x4 x_2 1 v_1)
      else
        m_nextName_96 x2 v))
set_option maxHeartbeats 4000000 in
theorem e_X12_nextName_32 {m0 : Nat} {h : AH} (S : MSh m0 h) : ∀ (n : Nat) (x1 : Int32) (x2 : Int64) (x4 : Int32) (v : MV), f_X12_nextName_32 n m0 x1 x2 x4 (mput h m0 v) = mm h m0 (m_nextName_32 n x1 x2 x4 v) := by
  intro n
  induction n with
  | zero => intros; rfl
  | succ n ih =>
    intro x1 x2 x4 v
    rw [f_X12_nextName_32, m_nextName_32]
    simp only [bd_mm, l_kg S, l_rdI S, ltd, mm_bdm, mm_ite, mm_none, mm_some, nn_s, e_X12_next S, e_X12_nextName_78 S (fun x1 x2 x4 v => ih x1 x2 x4 v), e_X12_nextName_96 S, ih]
def m_nextName_24 (x1 : Int32) (s0 : Int32) (v : MV) : Option (Int64 × MV) := mwZ v 57 s0 fun v_1 =>
  m_nextName_32 FU x1 0 0 v_1
set_option maxHeartbeats 4000000 in
theorem e_X12_nextName_24 {m0 : Nat} {h : AH} (S : MSh m0 h) (x1 : Int32) (s0 : Int32) (v : MV) : f_X12_nextName_24 m0 x1 s0 (some m0) (mput h m0 v) = mm h m0 (m_nextName_24 x1 s0 v) := by
  unfold f_X12_nextName_24 m_nextName_24
  simp only [l_wrZ S, ltd, mm_ite, mm_mwZ, mm_none, mm_some, nn_s, e_X12_nextName_32 S]
def m_nextName (v : MV) : Option (Int64 × MV) := bdm (m_next v) fun x_2 v_1 =>
  (if (v_1.1 57) = 0 then
    (if x_2 ≤ 8 then
      m_nextName_24 x_2 0 v_1
    else
      m_nextName_24 x_2 1 v_1)
  else
    m_nextName_24 x_2 1 v_1)
set_option maxHeartbeats 4000000 in
theorem e_X12_nextName {m0 : Nat} {h : AH} (S : MSh m0 h) (v : MV) : f_X12_nextName m0 (mput h m0 v) = mm h m0 (m_nextName  v) := by
  unfold f_X12_nextName m_nextName
  simp only [bd_mm, l_kg S, l_rdI S, ltd, mm_bdm, mm_ite, mm_none, mm_some, nn_s, e_X12_next S, e_X12_nextName_24 S]

/-! printed by wip/whole/gen/lower.py: the reference over its own fields and arrays -/
/-- the reference's fields (ints), its arrays of ints and truths, its arrays of longs, by the fields' numbers -/
abbrev MV : Type := (Nat → Int32) × (Nat → Nat → Int32) × (Nat → Nat → Int64)
/-- an array's place behind the object, the field of a place, lengths, kinds -/
def ax : Nat → Nat := fun k => match k with
  | 1 => 1
  | 3 => 2
  | 6 => 3
  | 7 => 4
  | 10 => 5
  | 11 => 6
  | 12 => 7
  | 14 => 8
  | 15 => 9
  | 16 => 10
  | 19 => 11
  | 20 => 12
  | 21 => 13
  | 22 => 14
  | 23 => 15
  | 26 => 16
  | 27 => 17
  | 28 => 18
  | 29 => 19
  | 30 => 20
  | 31 => 21
  | 32 => 22
  | 33 => 23
  | 34 => 24
  | 35 => 25
  | 36 => 26
  | 37 => 27
  | 38 => 28
  | 39 => 29
  | 40 => 30
  | 41 => 31
  | 42 => 32
  | 43 => 33
  | 44 => 34
  | 45 => 35
  | 46 => 36
  | 47 => 37
  | 48 => 38
  | 49 => 39
  | 50 => 40
  | 51 => 41
  | 52 => 42
  | 53 => 43
  | 58 => 44
  | 59 => 45
  | 60 => 46
  | _ => 0
def xa : Nat → Nat := fun k => match k with
  | 1 => 1
  | 2 => 3
  | 3 => 6
  | 4 => 7
  | 5 => 10
  | 6 => 11
  | 7 => 12
  | 8 => 14
  | 9 => 15
  | 10 => 16
  | 11 => 19
  | 12 => 20
  | 13 => 21
  | 14 => 22
  | 15 => 23
  | 16 => 26
  | 17 => 27
  | 18 => 28
  | 19 => 29
  | 20 => 30
  | 21 => 31
  | 22 => 32
  | 23 => 33
  | 24 => 34
  | 25 => 35
  | 26 => 36
  | 27 => 37
  | 28 => 38
  | 29 => 39
  | 30 => 40
  | 31 => 41
  | 32 => 42
  | 33 => 43
  | 34 => 44
  | 35 => 45
  | 36 => 46
  | 37 => 47
  | 38 => 48
  | 39 => 49
  | 40 => 50
  | 41 => 51
  | 42 => 52
  | 43 => 53
  | 44 => 58
  | 45 => 59
  | 46 => 60
  | _ => 0
def alen : Nat → Nat := fun k => match k with
  | 1 => 320
  | 3 => 8192
  | 6 => 6
  | 7 => 6
  | 10 => 5
  | 11 => 5
  | 12 => 5
  | 14 => 12
  | 15 => 12
  | 16 => 12
  | 19 => 6
  | 20 => 6
  | 21 => 6
  | 22 => 6
  | 23 => 6
  | 26 => 24
  | 27 => 24
  | 28 => 24
  | 29 => 24
  | 30 => 24
  | 31 => 24
  | 32 => 24
  | 33 => 24
  | 34 => 24
  | 35 => 4
  | 36 => 4
  | 37 => 4
  | 38 => 4
  | 39 => 4
  | 40 => 4
  | 41 => 4
  | 42 => 4
  | 43 => 4
  | 44 => 4
  | 45 => 4
  | 46 => 4
  | 47 => 4
  | 48 => 48
  | 49 => 48
  | 50 => 48
  | 51 => 48
  | 52 => 48
  | 53 => 48
  | 58 => 10
  | 59 => 10
  | 60 => 110
  | _ => 0
def akind : Nat → Nat := fun k => match k with
  | 1 => 100
  | 3 => 100
  | 6 => 101
  | 7 => 100
  | 10 => 101
  | 11 => 100
  | 12 => 100
  | 14 => 101
  | 15 => 101
  | 16 => 101
  | 19 => 100
  | 20 => 100
  | 21 => 101
  | 22 => 100
  | 23 => 102
  | 26 => 100
  | 27 => 100
  | 28 => 100
  | 29 => 100
  | 30 => 102
  | 31 => 101
  | 32 => 101
  | 33 => 100
  | 34 => 101
  | 35 => 100
  | 36 => 100
  | 37 => 102
  | 38 => 100
  | 39 => 102
  | 40 => 100
  | 41 => 101
  | 42 => 101
  | 43 => 102
  | 44 => 100
  | 45 => 100
  | 46 => 101
  | 47 => 100
  | 48 => 100
  | 49 => 101
  | 50 => 101
  | 51 => 102
  | 52 => 100
  | 53 => 101
  | 58 => 101
  | 59 => 101
  | 60 => 102
  | _ => 0
def aks : List Nat := [1, 3, 6, 7, 10, 11, 12, 14, 15, 16, 19, 20, 21, 22, 23, 26, 27, 28, 29, 30, 31, 32, 33, 34, 35, 36, 37, 38, 39, 40, 41, 42, 43, 44, 45, 46, 47, 48, 49, 50, 51, 52, 53, 58, 59, 60]
def mput (h : AH) (m0 : Nat) (v : MV) : AH := (hz h, hs h, kd h, ln h, (fun b => if b = m0 then v.1 else if m0 < b ∧ b ≤ m0 + 46 then v.2.1 (xa (b - m0)) else gI h b), (fun b => if m0 < b ∧ b ≤ m0 + 46 then v.2.2 (xa (b - m0)) else gJ h b), gR h)
def MSh (m0 : Nat) (h : AH) : Prop := kd h m0 = 13 ∧ ∀ k ∈ aks, gR h m0 k = some (m0 + ax k) ∧ kd h (m0 + ax k) = akind k ∧ ln h (m0 + ax k) = alen k
def mm {α : Type} (h : AH) (m0 : Nat) (o : Option (α × MV)) : Option (α × AH) := match o with
  | none => none
  | some q => some (q.1, mput h m0 q.2)
section MWords
variable {β : Type}
def mwI (v : MV) (k : Nat) (x : Int32) (F : MV → Option β) : Option β := F (upd v.1 k x, v.2.1, v.2.2)
def mwZ (v : MV) (k : Nat) (x : Int32) (F : MV → Option β) : Option β := if x = 0 ∨ x = 1 then F (upd v.1 k x, v.2.1, v.2.2) else none
def mrI (v : MV) (k : Nat) (i : Int32) (F : Int32 → Option β) : Option β := if inb i (alen k) = true then F (v.2.1 k i.toNatClampNeg) else none
def mrJ (v : MV) (k : Nat) (i : Int32) (F : Int64 → Option β) : Option β := if inb i (alen k) = true then F (v.2.2 k i.toNatClampNeg) else none
def msI (v : MV) (k : Nat) (i x : Int32) (F : MV → Option β) : Option β := if inb i (alen k) = true then F (v.1, rw1 v.2.1 k (upd (v.2.1 k) i.toNatClampNeg x), v.2.2) else none
def msZ (v : MV) (k : Nat) (i x : Int32) (F : MV → Option β) : Option β := if inb i (alen k) = true ∧ (x = 0 ∨ x = 1) then F (v.1, rw1 v.2.1 k (upd (v.2.1 k) i.toNatClampNeg x), v.2.2) else none
def msJ (v : MV) (k : Nat) (i : Int32) (x : Int64) (F : MV → Option β) : Option β := if inb i (alen k) = true then F (v.1, v.2.1, rw1 v.2.2 k (vp_updL (v.2.2 k) i.toNatClampNeg x)) else none
def bdm {α : Type} (x : Option (α × MV)) (F : α → MV → Option β) : Option β := match x with
  | none => none
  | some q => F q.1 q.2
end MWords
section MLaws
variable {α β : Type} {h : AH} {m0 : Nat} {v : MV}
theorem mm_some {x : α} : mm h m0 (some (x, v)) = some (x, mput h m0 v) := rfl
theorem mm_none : mm (α := α) h m0 none = none := rfl
theorem mm_ite {c : Prop} {_ : Decidable c} {A B : Option (α × MV)} : mm h m0 (if c then A else B) = if c then mm h m0 A else mm h m0 B := by split <;> rfl
theorem mm_mwI {k : Nat} {x : Int32} {F : MV → Option (α × MV)} : mm h m0 (mwI v k x F) = mwI v k x (fun v => mm h m0 (F v)) := rfl
theorem mm_mwZ {k : Nat} {x : Int32} {F : MV → Option (α × MV)} : mm h m0 (mwZ v k x F) = mwZ v k x (fun v => mm h m0 (F v)) := by unfold mwZ; split <;> rfl
theorem mm_mrI {k : Nat} {i : Int32} {F : Int32 → Option (α × MV)} : mm h m0 (mrI v k i F) = mrI v k i (fun x => mm h m0 (F x)) := by unfold mrI; split <;> rfl
theorem mm_mrJ {k : Nat} {i : Int32} {F : Int64 → Option (α × MV)} : mm h m0 (mrJ v k i F) = mrJ v k i (fun x => mm h m0 (F x)) := by unfold mrJ; split <;> rfl
theorem mm_msI {k : Nat} {i x : Int32} {F : MV → Option (α × MV)} : mm h m0 (msI v k i x F) = msI v k i x (fun v => mm h m0 (F v)) := by unfold msI; split <;> rfl
theorem mm_msZ {k : Nat} {i x : Int32} {F : MV → Option (α × MV)} : mm h m0 (msZ v k i x F) = msZ v k i x (fun v => mm h m0 (F v)) := by unfold msZ; split <;> rfl
theorem mm_msJ {k : Nat} {i : Int32} {x : Int64} {F : MV → Option (α × MV)} : mm h m0 (msJ v k i x F) = msJ v k i x (fun v => mm h m0 (F v)) := by unfold msJ; split <;> rfl
theorem mm_bdm {o : Option (β × MV)} {F : β → MV → Option (α × MV)} : mm h m0 (bdm o F) = bdm o (fun x v => mm h m0 (F x v)) := by cases o <;> rfl
theorem bd_mm {o : Option (β × MV)} {F : β → AH → Option (α × AH)} : bd (mm h m0 o) F = bdm o (fun x v => F x (mput h m0 v)) := by cases o <;> rfl
theorem mm_lt {γ : Type} {x : γ} {F : γ → Option (α × MV)} : mm h m0 (lt x F) = lt x (fun x => mm h m0 (F x)) := rfl
theorem mm_nz {z : Int32} {X : Option (α × MV)} : mm h m0 (nz z X) = nz z (mm h m0 X) := by unfold nz; split <;> rfl
theorem mm_rz {x : Int32} {X : Option (α × MV)} : mm h m0 (rz x X) = rz x (mm h m0 X) := by unfold rz; split <;> rfl
theorem ltd {γ : Type} {x : γ} {F : γ → Option β} : lt x F = F x := rfl
theorem nn_s {a : Nat} {F : Nat → Option β} : nn (some a) F = F a := rfl
theorem l_kg (S : MSh m0 h) {X : Option β} : kg (mput h m0 v) m0 13 X = X := by unfold kg; exact if_pos S.1
theorem l_rdI (S : MSh m0 h) {k : Nat} {F : Int32 → Option β} : rdI (mput h m0 v) m0 13 k F = F (v.1 k) := by
  unfold rdI
  rw [if_pos (show kd (mput h m0 v) m0 = 13 from S.1)]
  congr 1
  simp [gI, mput]
theorem p_wI {g : Nat → Int32} : wI (mput h m0 v) m0 g = mput h m0 (g, v.2.1, v.2.2) := by
  unfold wI mput
  simp only [hz, hs, kd, ln, gI, gJ, gR]
  congr 5
  funext b
  by_cases e : b = m0
  · simp [rw1, e]
  · simp [rw1, e]
theorem p_row {h : AH} {m0 : Nat} {v : MV} : gI (mput h m0 v) m0 = v.1 := by simp [gI, mput]
theorem l_wrI (S : MSh m0 h) {k : Nat} {x : Int32} {F : AH → Option β} : wrI (mput h m0 v) m0 13 k x F = mwI v k x (fun v => F (mput h m0 v)) := by
  unfold wrI
  rw [if_pos (show kd (mput h m0 v) m0 = 13 from S.1), sI, p_wI, p_row]
  rfl
theorem l_wrZ (S : MSh m0 h) {k : Nat} {x : Int32} {F : AH → Option β} : wrZ (mput h m0 v) m0 13 k x F = mwZ v k x (fun v => F (mput h m0 v)) := by
  unfold wrZ mwZ
  rw [sI, p_wI, p_row]
  by_cases c : x = 0 ∨ x = 1
  · rw [if_pos ⟨S.1, c⟩, if_pos c]
  · rw [if_neg (fun z => c z.2), if_neg c]
theorem ax_ok : ∀ k, k ∈ aks → 0 < ax k ∧ ax k ≤ 46 ∧ xa (ax k) = k := by decide
theorem xa_inj0 : ∀ j, j < 46 → ax (xa (j + 1)) = j + 1 := by decide
theorem xa_inj : ∀ j, 0 < j → j ≤ 46 → ax (xa j) = j := fun j h1 h2 => by
  obtain ⟨i, rfl⟩ : ∃ i, j = i + 1 := ⟨j - 1, by omega⟩
  exact xa_inj0 i (by omega)
theorem a_rowI {k : Nat} (hk : k ∈ aks) : gI (mput h m0 v) (m0 + ax k) = v.2.1 k := by
  obtain ⟨h1, h2, h3⟩ := ax_ok k hk
  have e1 : ¬ m0 + ax k = m0 := by omega
  have e2 : m0 < m0 + ax k ∧ m0 + ax k ≤ m0 + 46 := by omega
  simp only [gI, mput]
  rw [if_neg e1, if_pos e2, Nat.add_sub_cancel_left, h3]
theorem a_rowJ {k : Nat} (hk : k ∈ aks) : gJ (mput h m0 v) (m0 + ax k) = v.2.2 k := by
  obtain ⟨h1, h2, h3⟩ := ax_ok k hk
  have e2 : m0 < m0 + ax k ∧ m0 + ax k ≤ m0 + 46 := by omega
  simp only [gJ, mput]
  rw [if_pos e2, Nat.add_sub_cancel_left, h3]
theorem a_wI {k : Nat} (hk : k ∈ aks) {g : Nat → Int32} : wI (mput h m0 v) (m0 + ax k) g = mput h m0 (v.1, rw1 v.2.1 k g, v.2.2) := by
  obtain ⟨h1, h2, h3⟩ := ax_ok k hk
  unfold wI
  have e : rw1 (gI (mput h m0 v)) (m0 + ax k) g = gI (mput h m0 (v.1, rw1 v.2.1 k g, v.2.2)) := by
    funext b
    by_cases c : b = m0 + ax k
    · subst c
      rw [rw1_s, a_rowI hk]
      exact (rw1_s _ _ _).symm
    · rw [rw1_n _ _ c]
      simp only [gI, mput]
      split
      · rfl
      · split
        · rename_i c1 c2
          rw [rw1_n]
          intro z
          have := xa_inj (b - m0) (by omega) (by omega)
          rw [z] at this
          omega
        · rfl
  rw [e]
  rfl
theorem a_wJ {k : Nat} (hk : k ∈ aks) {g : Nat → Int64} : wJ (mput h m0 v) (m0 + ax k) g = mput h m0 (v.1, v.2.1, rw1 v.2.2 k g) := by
  obtain ⟨h1, h2, h3⟩ := ax_ok k hk
  unfold wJ
  have e : rw1 (gJ (mput h m0 v)) (m0 + ax k) g = gJ (mput h m0 (v.1, v.2.1, rw1 v.2.2 k g)) := by
    funext b
    by_cases c : b = m0 + ax k
    · subst c
      rw [rw1_s, a_rowJ hk]
      exact (rw1_s _ _ _).symm
    · rw [rw1_n _ _ c]
      simp only [gJ, mput]
      split
      · rename_i c2
        rw [rw1_n]
        intro z
        have := xa_inj (b - m0) (by omega) (by omega)
        rw [z] at this
        omega
      · rfl
  rw [e]
  rfl
theorem l_rdR (S : MSh m0 h) {k : Nat} (hk : k ∈ aks) {F : Option Nat → Option β} : rdR (mput h m0 v) m0 13 k F = F (some (m0 + ax k)) := by
  unfold rdR
  rw [if_pos (show kd (mput h m0 v) m0 = 13 from S.1), show gR (mput h m0 v) m0 k = some (m0 + ax k) from (S.2 k hk).1]
theorem g_arI (S : MSh m0 h) {k : Nat} (hk : k ∈ aks) (ht : akind k = 100) {i : Int32} {F : Int32 → Option β} : arI (mput h m0 v) (m0 + ax k) i F = mrI v k i F := by
  unfold arI mrI
  have e1 : kd (mput h m0 v) (m0 + ax k) = 100 := (S.2 k hk).2.1.trans ht
  have e2 : ln (mput h m0 v) (m0 + ax k) = alen k := (S.2 k hk).2.2
  rw [e1, e2, a_rowI hk]
  simp only [true_and]
theorem g_arZ (S : MSh m0 h) {k : Nat} (hk : k ∈ aks) (ht : akind k = 102) {i : Int32} {F : Int32 → Option β} : arZ (mput h m0 v) (m0 + ax k) i F = mrI v k i F := by
  unfold arZ mrI
  have e1 : kd (mput h m0 v) (m0 + ax k) = 102 := (S.2 k hk).2.1.trans ht
  have e2 : ln (mput h m0 v) (m0 + ax k) = alen k := (S.2 k hk).2.2
  rw [e1, e2, a_rowI hk]
  simp only [true_and]
theorem g_arJ (S : MSh m0 h) {k : Nat} (hk : k ∈ aks) (ht : akind k = 101) {i : Int32} {F : Int64 → Option β} : arJ (mput h m0 v) (m0 + ax k) i F = mrJ v k i F := by
  unfold arJ mrJ
  have e1 : kd (mput h m0 v) (m0 + ax k) = 101 := (S.2 k hk).2.1.trans ht
  have e2 : ln (mput h m0 v) (m0 + ax k) = alen k := (S.2 k hk).2.2
  rw [e1, e2, a_rowJ hk]
  simp only [true_and]
theorem g_asI (S : MSh m0 h) {k : Nat} (hk : k ∈ aks) (ht : akind k = 100) {i x : Int32} {F : AH → Option β} : asI (mput h m0 v) (m0 + ax k) i x F = msI v k i x (fun v => F (mput h m0 v)) := by
  unfold asI msI
  have e1 : kd (mput h m0 v) (m0 + ax k) = 100 := (S.2 k hk).2.1.trans ht
  have e2 : ln (mput h m0 v) (m0 + ax k) = alen k := (S.2 k hk).2.2
  rw [e1, e2, sI, a_rowI hk, a_wI hk]
  simp only [true_and]
theorem g_asZ (S : MSh m0 h) {k : Nat} (hk : k ∈ aks) (ht : akind k = 102) {i x : Int32} {F : AH → Option β} : asZ (mput h m0 v) (m0 + ax k) i x F = msZ v k i x (fun v => F (mput h m0 v)) := by
  unfold asZ msZ
  have e1 : kd (mput h m0 v) (m0 + ax k) = 102 := (S.2 k hk).2.1.trans ht
  have e2 : ln (mput h m0 v) (m0 + ax k) = alen k := (S.2 k hk).2.2
  rw [e1, e2, sI, a_rowI hk, a_wI hk]
  simp only [true_and]
theorem g_asJ (S : MSh m0 h) {k : Nat} (hk : k ∈ aks) (ht : akind k = 101) {i : Int32} {x : Int64} {F : AH → Option β} : asJ (mput h m0 v) (m0 + ax k) i x F = msJ v k i x (fun v => F (mput h m0 v)) := by
  unfold asJ msJ
  have e1 : kd (mput h m0 v) (m0 + ax k) = 101 := (S.2 k hk).2.1.trans ht
  have e2 : ln (mput h m0 v) (m0 + ax k) = alen k := (S.2 k hk).2.2
  rw [e1, e2, sJ, a_rowJ hk, a_wJ hk]
  simp only [true_and]
theorem lR_1 (S : MSh m0 h) {F : Option Nat → Option β} : rdR (mput h m0 v) m0 13 1 F = F (some (m0 + ax 1)) := l_rdR S (by decide)
theorem lA_1 (S : MSh m0 h) {i : Int32} {F : Int32 → Option β} : arI (mput h m0 v) (m0 + ax 1) i F = mrI v 1 i F := g_arI S (by decide) rfl
theorem lS_1 (S : MSh m0 h) {i : Int32} {x : Int32} {F : AH → Option β} : asI (mput h m0 v) (m0 + ax 1) i x F = msI v 1 i x (fun v => F (mput h m0 v)) := g_asI S (by decide) rfl
theorem lR_3 (S : MSh m0 h) {F : Option Nat → Option β} : rdR (mput h m0 v) m0 13 3 F = F (some (m0 + ax 3)) := l_rdR S (by decide)
theorem lA_3 (S : MSh m0 h) {i : Int32} {F : Int32 → Option β} : arI (mput h m0 v) (m0 + ax 3) i F = mrI v 3 i F := g_arI S (by decide) rfl
theorem lS_3 (S : MSh m0 h) {i : Int32} {x : Int32} {F : AH → Option β} : asI (mput h m0 v) (m0 + ax 3) i x F = msI v 3 i x (fun v => F (mput h m0 v)) := g_asI S (by decide) rfl
theorem lR_6 (S : MSh m0 h) {F : Option Nat → Option β} : rdR (mput h m0 v) m0 13 6 F = F (some (m0 + ax 6)) := l_rdR S (by decide)
theorem lA_6 (S : MSh m0 h) {i : Int32} {F : Int64 → Option β} : arJ (mput h m0 v) (m0 + ax 6) i F = mrJ v 6 i F := g_arJ S (by decide) rfl
theorem lS_6 (S : MSh m0 h) {i : Int32} {x : Int64} {F : AH → Option β} : asJ (mput h m0 v) (m0 + ax 6) i x F = msJ v 6 i x (fun v => F (mput h m0 v)) := g_asJ S (by decide) rfl
theorem lR_7 (S : MSh m0 h) {F : Option Nat → Option β} : rdR (mput h m0 v) m0 13 7 F = F (some (m0 + ax 7)) := l_rdR S (by decide)
theorem lA_7 (S : MSh m0 h) {i : Int32} {F : Int32 → Option β} : arI (mput h m0 v) (m0 + ax 7) i F = mrI v 7 i F := g_arI S (by decide) rfl
theorem lS_7 (S : MSh m0 h) {i : Int32} {x : Int32} {F : AH → Option β} : asI (mput h m0 v) (m0 + ax 7) i x F = msI v 7 i x (fun v => F (mput h m0 v)) := g_asI S (by decide) rfl
theorem lR_10 (S : MSh m0 h) {F : Option Nat → Option β} : rdR (mput h m0 v) m0 13 10 F = F (some (m0 + ax 10)) := l_rdR S (by decide)
theorem lA_10 (S : MSh m0 h) {i : Int32} {F : Int64 → Option β} : arJ (mput h m0 v) (m0 + ax 10) i F = mrJ v 10 i F := g_arJ S (by decide) rfl
theorem lS_10 (S : MSh m0 h) {i : Int32} {x : Int64} {F : AH → Option β} : asJ (mput h m0 v) (m0 + ax 10) i x F = msJ v 10 i x (fun v => F (mput h m0 v)) := g_asJ S (by decide) rfl
theorem lR_11 (S : MSh m0 h) {F : Option Nat → Option β} : rdR (mput h m0 v) m0 13 11 F = F (some (m0 + ax 11)) := l_rdR S (by decide)
theorem lA_11 (S : MSh m0 h) {i : Int32} {F : Int32 → Option β} : arI (mput h m0 v) (m0 + ax 11) i F = mrI v 11 i F := g_arI S (by decide) rfl
theorem lS_11 (S : MSh m0 h) {i : Int32} {x : Int32} {F : AH → Option β} : asI (mput h m0 v) (m0 + ax 11) i x F = msI v 11 i x (fun v => F (mput h m0 v)) := g_asI S (by decide) rfl
theorem lR_12 (S : MSh m0 h) {F : Option Nat → Option β} : rdR (mput h m0 v) m0 13 12 F = F (some (m0 + ax 12)) := l_rdR S (by decide)
theorem lA_12 (S : MSh m0 h) {i : Int32} {F : Int32 → Option β} : arI (mput h m0 v) (m0 + ax 12) i F = mrI v 12 i F := g_arI S (by decide) rfl
theorem lS_12 (S : MSh m0 h) {i : Int32} {x : Int32} {F : AH → Option β} : asI (mput h m0 v) (m0 + ax 12) i x F = msI v 12 i x (fun v => F (mput h m0 v)) := g_asI S (by decide) rfl
theorem lR_14 (S : MSh m0 h) {F : Option Nat → Option β} : rdR (mput h m0 v) m0 13 14 F = F (some (m0 + ax 14)) := l_rdR S (by decide)
theorem lA_14 (S : MSh m0 h) {i : Int32} {F : Int64 → Option β} : arJ (mput h m0 v) (m0 + ax 14) i F = mrJ v 14 i F := g_arJ S (by decide) rfl
theorem lS_14 (S : MSh m0 h) {i : Int32} {x : Int64} {F : AH → Option β} : asJ (mput h m0 v) (m0 + ax 14) i x F = msJ v 14 i x (fun v => F (mput h m0 v)) := g_asJ S (by decide) rfl
theorem lR_15 (S : MSh m0 h) {F : Option Nat → Option β} : rdR (mput h m0 v) m0 13 15 F = F (some (m0 + ax 15)) := l_rdR S (by decide)
theorem lA_15 (S : MSh m0 h) {i : Int32} {F : Int64 → Option β} : arJ (mput h m0 v) (m0 + ax 15) i F = mrJ v 15 i F := g_arJ S (by decide) rfl
theorem lS_15 (S : MSh m0 h) {i : Int32} {x : Int64} {F : AH → Option β} : asJ (mput h m0 v) (m0 + ax 15) i x F = msJ v 15 i x (fun v => F (mput h m0 v)) := g_asJ S (by decide) rfl
theorem lR_16 (S : MSh m0 h) {F : Option Nat → Option β} : rdR (mput h m0 v) m0 13 16 F = F (some (m0 + ax 16)) := l_rdR S (by decide)
theorem lA_16 (S : MSh m0 h) {i : Int32} {F : Int64 → Option β} : arJ (mput h m0 v) (m0 + ax 16) i F = mrJ v 16 i F := g_arJ S (by decide) rfl
theorem lS_16 (S : MSh m0 h) {i : Int32} {x : Int64} {F : AH → Option β} : asJ (mput h m0 v) (m0 + ax 16) i x F = msJ v 16 i x (fun v => F (mput h m0 v)) := g_asJ S (by decide) rfl
theorem lR_19 (S : MSh m0 h) {F : Option Nat → Option β} : rdR (mput h m0 v) m0 13 19 F = F (some (m0 + ax 19)) := l_rdR S (by decide)
theorem lA_19 (S : MSh m0 h) {i : Int32} {F : Int32 → Option β} : arI (mput h m0 v) (m0 + ax 19) i F = mrI v 19 i F := g_arI S (by decide) rfl
theorem lS_19 (S : MSh m0 h) {i : Int32} {x : Int32} {F : AH → Option β} : asI (mput h m0 v) (m0 + ax 19) i x F = msI v 19 i x (fun v => F (mput h m0 v)) := g_asI S (by decide) rfl
theorem lR_20 (S : MSh m0 h) {F : Option Nat → Option β} : rdR (mput h m0 v) m0 13 20 F = F (some (m0 + ax 20)) := l_rdR S (by decide)
theorem lA_20 (S : MSh m0 h) {i : Int32} {F : Int32 → Option β} : arI (mput h m0 v) (m0 + ax 20) i F = mrI v 20 i F := g_arI S (by decide) rfl
theorem lS_20 (S : MSh m0 h) {i : Int32} {x : Int32} {F : AH → Option β} : asI (mput h m0 v) (m0 + ax 20) i x F = msI v 20 i x (fun v => F (mput h m0 v)) := g_asI S (by decide) rfl
theorem lR_21 (S : MSh m0 h) {F : Option Nat → Option β} : rdR (mput h m0 v) m0 13 21 F = F (some (m0 + ax 21)) := l_rdR S (by decide)
theorem lA_21 (S : MSh m0 h) {i : Int32} {F : Int64 → Option β} : arJ (mput h m0 v) (m0 + ax 21) i F = mrJ v 21 i F := g_arJ S (by decide) rfl
theorem lS_21 (S : MSh m0 h) {i : Int32} {x : Int64} {F : AH → Option β} : asJ (mput h m0 v) (m0 + ax 21) i x F = msJ v 21 i x (fun v => F (mput h m0 v)) := g_asJ S (by decide) rfl
theorem lR_22 (S : MSh m0 h) {F : Option Nat → Option β} : rdR (mput h m0 v) m0 13 22 F = F (some (m0 + ax 22)) := l_rdR S (by decide)
theorem lA_22 (S : MSh m0 h) {i : Int32} {F : Int32 → Option β} : arI (mput h m0 v) (m0 + ax 22) i F = mrI v 22 i F := g_arI S (by decide) rfl
theorem lS_22 (S : MSh m0 h) {i : Int32} {x : Int32} {F : AH → Option β} : asI (mput h m0 v) (m0 + ax 22) i x F = msI v 22 i x (fun v => F (mput h m0 v)) := g_asI S (by decide) rfl
theorem lR_23 (S : MSh m0 h) {F : Option Nat → Option β} : rdR (mput h m0 v) m0 13 23 F = F (some (m0 + ax 23)) := l_rdR S (by decide)
theorem lA_23 (S : MSh m0 h) {i : Int32} {F : Int32 → Option β} : arZ (mput h m0 v) (m0 + ax 23) i F = mrI v 23 i F := g_arZ S (by decide) rfl
theorem lS_23 (S : MSh m0 h) {i : Int32} {x : Int32} {F : AH → Option β} : asZ (mput h m0 v) (m0 + ax 23) i x F = msZ v 23 i x (fun v => F (mput h m0 v)) := g_asZ S (by decide) rfl
theorem lR_26 (S : MSh m0 h) {F : Option Nat → Option β} : rdR (mput h m0 v) m0 13 26 F = F (some (m0 + ax 26)) := l_rdR S (by decide)
theorem lA_26 (S : MSh m0 h) {i : Int32} {F : Int32 → Option β} : arI (mput h m0 v) (m0 + ax 26) i F = mrI v 26 i F := g_arI S (by decide) rfl
theorem lS_26 (S : MSh m0 h) {i : Int32} {x : Int32} {F : AH → Option β} : asI (mput h m0 v) (m0 + ax 26) i x F = msI v 26 i x (fun v => F (mput h m0 v)) := g_asI S (by decide) rfl
theorem lR_27 (S : MSh m0 h) {F : Option Nat → Option β} : rdR (mput h m0 v) m0 13 27 F = F (some (m0 + ax 27)) := l_rdR S (by decide)
theorem lA_27 (S : MSh m0 h) {i : Int32} {F : Int32 → Option β} : arI (mput h m0 v) (m0 + ax 27) i F = mrI v 27 i F := g_arI S (by decide) rfl
theorem lS_27 (S : MSh m0 h) {i : Int32} {x : Int32} {F : AH → Option β} : asI (mput h m0 v) (m0 + ax 27) i x F = msI v 27 i x (fun v => F (mput h m0 v)) := g_asI S (by decide) rfl
theorem lR_28 (S : MSh m0 h) {F : Option Nat → Option β} : rdR (mput h m0 v) m0 13 28 F = F (some (m0 + ax 28)) := l_rdR S (by decide)
theorem lA_28 (S : MSh m0 h) {i : Int32} {F : Int32 → Option β} : arI (mput h m0 v) (m0 + ax 28) i F = mrI v 28 i F := g_arI S (by decide) rfl
theorem lS_28 (S : MSh m0 h) {i : Int32} {x : Int32} {F : AH → Option β} : asI (mput h m0 v) (m0 + ax 28) i x F = msI v 28 i x (fun v => F (mput h m0 v)) := g_asI S (by decide) rfl
theorem lR_29 (S : MSh m0 h) {F : Option Nat → Option β} : rdR (mput h m0 v) m0 13 29 F = F (some (m0 + ax 29)) := l_rdR S (by decide)
theorem lA_29 (S : MSh m0 h) {i : Int32} {F : Int32 → Option β} : arI (mput h m0 v) (m0 + ax 29) i F = mrI v 29 i F := g_arI S (by decide) rfl
theorem lS_29 (S : MSh m0 h) {i : Int32} {x : Int32} {F : AH → Option β} : asI (mput h m0 v) (m0 + ax 29) i x F = msI v 29 i x (fun v => F (mput h m0 v)) := g_asI S (by decide) rfl
theorem lR_30 (S : MSh m0 h) {F : Option Nat → Option β} : rdR (mput h m0 v) m0 13 30 F = F (some (m0 + ax 30)) := l_rdR S (by decide)
theorem lA_30 (S : MSh m0 h) {i : Int32} {F : Int32 → Option β} : arZ (mput h m0 v) (m0 + ax 30) i F = mrI v 30 i F := g_arZ S (by decide) rfl
theorem lS_30 (S : MSh m0 h) {i : Int32} {x : Int32} {F : AH → Option β} : asZ (mput h m0 v) (m0 + ax 30) i x F = msZ v 30 i x (fun v => F (mput h m0 v)) := g_asZ S (by decide) rfl
theorem lR_31 (S : MSh m0 h) {F : Option Nat → Option β} : rdR (mput h m0 v) m0 13 31 F = F (some (m0 + ax 31)) := l_rdR S (by decide)
theorem lA_31 (S : MSh m0 h) {i : Int32} {F : Int64 → Option β} : arJ (mput h m0 v) (m0 + ax 31) i F = mrJ v 31 i F := g_arJ S (by decide) rfl
theorem lS_31 (S : MSh m0 h) {i : Int32} {x : Int64} {F : AH → Option β} : asJ (mput h m0 v) (m0 + ax 31) i x F = msJ v 31 i x (fun v => F (mput h m0 v)) := g_asJ S (by decide) rfl
theorem lR_32 (S : MSh m0 h) {F : Option Nat → Option β} : rdR (mput h m0 v) m0 13 32 F = F (some (m0 + ax 32)) := l_rdR S (by decide)
theorem lA_32 (S : MSh m0 h) {i : Int32} {F : Int64 → Option β} : arJ (mput h m0 v) (m0 + ax 32) i F = mrJ v 32 i F := g_arJ S (by decide) rfl
theorem lS_32 (S : MSh m0 h) {i : Int32} {x : Int64} {F : AH → Option β} : asJ (mput h m0 v) (m0 + ax 32) i x F = msJ v 32 i x (fun v => F (mput h m0 v)) := g_asJ S (by decide) rfl
theorem lR_33 (S : MSh m0 h) {F : Option Nat → Option β} : rdR (mput h m0 v) m0 13 33 F = F (some (m0 + ax 33)) := l_rdR S (by decide)
theorem lA_33 (S : MSh m0 h) {i : Int32} {F : Int32 → Option β} : arI (mput h m0 v) (m0 + ax 33) i F = mrI v 33 i F := g_arI S (by decide) rfl
theorem lS_33 (S : MSh m0 h) {i : Int32} {x : Int32} {F : AH → Option β} : asI (mput h m0 v) (m0 + ax 33) i x F = msI v 33 i x (fun v => F (mput h m0 v)) := g_asI S (by decide) rfl
theorem lR_34 (S : MSh m0 h) {F : Option Nat → Option β} : rdR (mput h m0 v) m0 13 34 F = F (some (m0 + ax 34)) := l_rdR S (by decide)
theorem lA_34 (S : MSh m0 h) {i : Int32} {F : Int64 → Option β} : arJ (mput h m0 v) (m0 + ax 34) i F = mrJ v 34 i F := g_arJ S (by decide) rfl
theorem lS_34 (S : MSh m0 h) {i : Int32} {x : Int64} {F : AH → Option β} : asJ (mput h m0 v) (m0 + ax 34) i x F = msJ v 34 i x (fun v => F (mput h m0 v)) := g_asJ S (by decide) rfl
theorem lR_35 (S : MSh m0 h) {F : Option Nat → Option β} : rdR (mput h m0 v) m0 13 35 F = F (some (m0 + ax 35)) := l_rdR S (by decide)
theorem lA_35 (S : MSh m0 h) {i : Int32} {F : Int32 → Option β} : arI (mput h m0 v) (m0 + ax 35) i F = mrI v 35 i F := g_arI S (by decide) rfl
theorem lS_35 (S : MSh m0 h) {i : Int32} {x : Int32} {F : AH → Option β} : asI (mput h m0 v) (m0 + ax 35) i x F = msI v 35 i x (fun v => F (mput h m0 v)) := g_asI S (by decide) rfl
theorem lR_36 (S : MSh m0 h) {F : Option Nat → Option β} : rdR (mput h m0 v) m0 13 36 F = F (some (m0 + ax 36)) := l_rdR S (by decide)
theorem lA_36 (S : MSh m0 h) {i : Int32} {F : Int32 → Option β} : arI (mput h m0 v) (m0 + ax 36) i F = mrI v 36 i F := g_arI S (by decide) rfl
theorem lS_36 (S : MSh m0 h) {i : Int32} {x : Int32} {F : AH → Option β} : asI (mput h m0 v) (m0 + ax 36) i x F = msI v 36 i x (fun v => F (mput h m0 v)) := g_asI S (by decide) rfl
theorem lR_37 (S : MSh m0 h) {F : Option Nat → Option β} : rdR (mput h m0 v) m0 13 37 F = F (some (m0 + ax 37)) := l_rdR S (by decide)
theorem lA_37 (S : MSh m0 h) {i : Int32} {F : Int32 → Option β} : arZ (mput h m0 v) (m0 + ax 37) i F = mrI v 37 i F := g_arZ S (by decide) rfl
theorem lS_37 (S : MSh m0 h) {i : Int32} {x : Int32} {F : AH → Option β} : asZ (mput h m0 v) (m0 + ax 37) i x F = msZ v 37 i x (fun v => F (mput h m0 v)) := g_asZ S (by decide) rfl
theorem lR_38 (S : MSh m0 h) {F : Option Nat → Option β} : rdR (mput h m0 v) m0 13 38 F = F (some (m0 + ax 38)) := l_rdR S (by decide)
theorem lA_38 (S : MSh m0 h) {i : Int32} {F : Int32 → Option β} : arI (mput h m0 v) (m0 + ax 38) i F = mrI v 38 i F := g_arI S (by decide) rfl
theorem lS_38 (S : MSh m0 h) {i : Int32} {x : Int32} {F : AH → Option β} : asI (mput h m0 v) (m0 + ax 38) i x F = msI v 38 i x (fun v => F (mput h m0 v)) := g_asI S (by decide) rfl
theorem lR_39 (S : MSh m0 h) {F : Option Nat → Option β} : rdR (mput h m0 v) m0 13 39 F = F (some (m0 + ax 39)) := l_rdR S (by decide)
theorem lA_39 (S : MSh m0 h) {i : Int32} {F : Int32 → Option β} : arZ (mput h m0 v) (m0 + ax 39) i F = mrI v 39 i F := g_arZ S (by decide) rfl
theorem lS_39 (S : MSh m0 h) {i : Int32} {x : Int32} {F : AH → Option β} : asZ (mput h m0 v) (m0 + ax 39) i x F = msZ v 39 i x (fun v => F (mput h m0 v)) := g_asZ S (by decide) rfl
theorem lR_40 (S : MSh m0 h) {F : Option Nat → Option β} : rdR (mput h m0 v) m0 13 40 F = F (some (m0 + ax 40)) := l_rdR S (by decide)
theorem lA_40 (S : MSh m0 h) {i : Int32} {F : Int32 → Option β} : arI (mput h m0 v) (m0 + ax 40) i F = mrI v 40 i F := g_arI S (by decide) rfl
theorem lS_40 (S : MSh m0 h) {i : Int32} {x : Int32} {F : AH → Option β} : asI (mput h m0 v) (m0 + ax 40) i x F = msI v 40 i x (fun v => F (mput h m0 v)) := g_asI S (by decide) rfl
theorem lR_41 (S : MSh m0 h) {F : Option Nat → Option β} : rdR (mput h m0 v) m0 13 41 F = F (some (m0 + ax 41)) := l_rdR S (by decide)
theorem lA_41 (S : MSh m0 h) {i : Int32} {F : Int64 → Option β} : arJ (mput h m0 v) (m0 + ax 41) i F = mrJ v 41 i F := g_arJ S (by decide) rfl
theorem lS_41 (S : MSh m0 h) {i : Int32} {x : Int64} {F : AH → Option β} : asJ (mput h m0 v) (m0 + ax 41) i x F = msJ v 41 i x (fun v => F (mput h m0 v)) := g_asJ S (by decide) rfl
theorem lR_42 (S : MSh m0 h) {F : Option Nat → Option β} : rdR (mput h m0 v) m0 13 42 F = F (some (m0 + ax 42)) := l_rdR S (by decide)
theorem lA_42 (S : MSh m0 h) {i : Int32} {F : Int64 → Option β} : arJ (mput h m0 v) (m0 + ax 42) i F = mrJ v 42 i F := g_arJ S (by decide) rfl
theorem lS_42 (S : MSh m0 h) {i : Int32} {x : Int64} {F : AH → Option β} : asJ (mput h m0 v) (m0 + ax 42) i x F = msJ v 42 i x (fun v => F (mput h m0 v)) := g_asJ S (by decide) rfl
theorem lR_43 (S : MSh m0 h) {F : Option Nat → Option β} : rdR (mput h m0 v) m0 13 43 F = F (some (m0 + ax 43)) := l_rdR S (by decide)
theorem lA_43 (S : MSh m0 h) {i : Int32} {F : Int32 → Option β} : arZ (mput h m0 v) (m0 + ax 43) i F = mrI v 43 i F := g_arZ S (by decide) rfl
theorem lS_43 (S : MSh m0 h) {i : Int32} {x : Int32} {F : AH → Option β} : asZ (mput h m0 v) (m0 + ax 43) i x F = msZ v 43 i x (fun v => F (mput h m0 v)) := g_asZ S (by decide) rfl
theorem lR_44 (S : MSh m0 h) {F : Option Nat → Option β} : rdR (mput h m0 v) m0 13 44 F = F (some (m0 + ax 44)) := l_rdR S (by decide)
theorem lA_44 (S : MSh m0 h) {i : Int32} {F : Int32 → Option β} : arI (mput h m0 v) (m0 + ax 44) i F = mrI v 44 i F := g_arI S (by decide) rfl
theorem lS_44 (S : MSh m0 h) {i : Int32} {x : Int32} {F : AH → Option β} : asI (mput h m0 v) (m0 + ax 44) i x F = msI v 44 i x (fun v => F (mput h m0 v)) := g_asI S (by decide) rfl
theorem lR_45 (S : MSh m0 h) {F : Option Nat → Option β} : rdR (mput h m0 v) m0 13 45 F = F (some (m0 + ax 45)) := l_rdR S (by decide)
theorem lA_45 (S : MSh m0 h) {i : Int32} {F : Int32 → Option β} : arI (mput h m0 v) (m0 + ax 45) i F = mrI v 45 i F := g_arI S (by decide) rfl
theorem lS_45 (S : MSh m0 h) {i : Int32} {x : Int32} {F : AH → Option β} : asI (mput h m0 v) (m0 + ax 45) i x F = msI v 45 i x (fun v => F (mput h m0 v)) := g_asI S (by decide) rfl
theorem lR_46 (S : MSh m0 h) {F : Option Nat → Option β} : rdR (mput h m0 v) m0 13 46 F = F (some (m0 + ax 46)) := l_rdR S (by decide)
theorem lA_46 (S : MSh m0 h) {i : Int32} {F : Int64 → Option β} : arJ (mput h m0 v) (m0 + ax 46) i F = mrJ v 46 i F := g_arJ S (by decide) rfl
theorem lS_46 (S : MSh m0 h) {i : Int32} {x : Int64} {F : AH → Option β} : asJ (mput h m0 v) (m0 + ax 46) i x F = msJ v 46 i x (fun v => F (mput h m0 v)) := g_asJ S (by decide) rfl
theorem lR_47 (S : MSh m0 h) {F : Option Nat → Option β} : rdR (mput h m0 v) m0 13 47 F = F (some (m0 + ax 47)) := l_rdR S (by decide)
theorem lA_47 (S : MSh m0 h) {i : Int32} {F : Int32 → Option β} : arI (mput h m0 v) (m0 + ax 47) i F = mrI v 47 i F := g_arI S (by decide) rfl
theorem lS_47 (S : MSh m0 h) {i : Int32} {x : Int32} {F : AH → Option β} : asI (mput h m0 v) (m0 + ax 47) i x F = msI v 47 i x (fun v => F (mput h m0 v)) := g_asI S (by decide) rfl
theorem lR_48 (S : MSh m0 h) {F : Option Nat → Option β} : rdR (mput h m0 v) m0 13 48 F = F (some (m0 + ax 48)) := l_rdR S (by decide)
theorem lA_48 (S : MSh m0 h) {i : Int32} {F : Int32 → Option β} : arI (mput h m0 v) (m0 + ax 48) i F = mrI v 48 i F := g_arI S (by decide) rfl
theorem lS_48 (S : MSh m0 h) {i : Int32} {x : Int32} {F : AH → Option β} : asI (mput h m0 v) (m0 + ax 48) i x F = msI v 48 i x (fun v => F (mput h m0 v)) := g_asI S (by decide) rfl
theorem lR_49 (S : MSh m0 h) {F : Option Nat → Option β} : rdR (mput h m0 v) m0 13 49 F = F (some (m0 + ax 49)) := l_rdR S (by decide)
theorem lA_49 (S : MSh m0 h) {i : Int32} {F : Int64 → Option β} : arJ (mput h m0 v) (m0 + ax 49) i F = mrJ v 49 i F := g_arJ S (by decide) rfl
theorem lS_49 (S : MSh m0 h) {i : Int32} {x : Int64} {F : AH → Option β} : asJ (mput h m0 v) (m0 + ax 49) i x F = msJ v 49 i x (fun v => F (mput h m0 v)) := g_asJ S (by decide) rfl
theorem lR_50 (S : MSh m0 h) {F : Option Nat → Option β} : rdR (mput h m0 v) m0 13 50 F = F (some (m0 + ax 50)) := l_rdR S (by decide)
theorem lA_50 (S : MSh m0 h) {i : Int32} {F : Int64 → Option β} : arJ (mput h m0 v) (m0 + ax 50) i F = mrJ v 50 i F := g_arJ S (by decide) rfl
theorem lS_50 (S : MSh m0 h) {i : Int32} {x : Int64} {F : AH → Option β} : asJ (mput h m0 v) (m0 + ax 50) i x F = msJ v 50 i x (fun v => F (mput h m0 v)) := g_asJ S (by decide) rfl
theorem lR_51 (S : MSh m0 h) {F : Option Nat → Option β} : rdR (mput h m0 v) m0 13 51 F = F (some (m0 + ax 51)) := l_rdR S (by decide)
theorem lA_51 (S : MSh m0 h) {i : Int32} {F : Int32 → Option β} : arZ (mput h m0 v) (m0 + ax 51) i F = mrI v 51 i F := g_arZ S (by decide) rfl
theorem lS_51 (S : MSh m0 h) {i : Int32} {x : Int32} {F : AH → Option β} : asZ (mput h m0 v) (m0 + ax 51) i x F = msZ v 51 i x (fun v => F (mput h m0 v)) := g_asZ S (by decide) rfl
theorem lR_52 (S : MSh m0 h) {F : Option Nat → Option β} : rdR (mput h m0 v) m0 13 52 F = F (some (m0 + ax 52)) := l_rdR S (by decide)
theorem lA_52 (S : MSh m0 h) {i : Int32} {F : Int32 → Option β} : arI (mput h m0 v) (m0 + ax 52) i F = mrI v 52 i F := g_arI S (by decide) rfl
theorem lS_52 (S : MSh m0 h) {i : Int32} {x : Int32} {F : AH → Option β} : asI (mput h m0 v) (m0 + ax 52) i x F = msI v 52 i x (fun v => F (mput h m0 v)) := g_asI S (by decide) rfl
theorem lR_53 (S : MSh m0 h) {F : Option Nat → Option β} : rdR (mput h m0 v) m0 13 53 F = F (some (m0 + ax 53)) := l_rdR S (by decide)
theorem lA_53 (S : MSh m0 h) {i : Int32} {F : Int64 → Option β} : arJ (mput h m0 v) (m0 + ax 53) i F = mrJ v 53 i F := g_arJ S (by decide) rfl
theorem lS_53 (S : MSh m0 h) {i : Int32} {x : Int64} {F : AH → Option β} : asJ (mput h m0 v) (m0 + ax 53) i x F = msJ v 53 i x (fun v => F (mput h m0 v)) := g_asJ S (by decide) rfl
theorem lR_58 (S : MSh m0 h) {F : Option Nat → Option β} : rdR (mput h m0 v) m0 13 58 F = F (some (m0 + ax 58)) := l_rdR S (by decide)
theorem lA_58 (S : MSh m0 h) {i : Int32} {F : Int64 → Option β} : arJ (mput h m0 v) (m0 + ax 58) i F = mrJ v 58 i F := g_arJ S (by decide) rfl
theorem lS_58 (S : MSh m0 h) {i : Int32} {x : Int64} {F : AH → Option β} : asJ (mput h m0 v) (m0 + ax 58) i x F = msJ v 58 i x (fun v => F (mput h m0 v)) := g_asJ S (by decide) rfl
theorem lR_59 (S : MSh m0 h) {F : Option Nat → Option β} : rdR (mput h m0 v) m0 13 59 F = F (some (m0 + ax 59)) := l_rdR S (by decide)
theorem lA_59 (S : MSh m0 h) {i : Int32} {F : Int64 → Option β} : arJ (mput h m0 v) (m0 + ax 59) i F = mrJ v 59 i F := g_arJ S (by decide) rfl
theorem lS_59 (S : MSh m0 h) {i : Int32} {x : Int64} {F : AH → Option β} : asJ (mput h m0 v) (m0 + ax 59) i x F = msJ v 59 i x (fun v => F (mput h m0 v)) := g_asJ S (by decide) rfl
theorem lR_60 (S : MSh m0 h) {F : Option Nat → Option β} : rdR (mput h m0 v) m0 13 60 F = F (some (m0 + ax 60)) := l_rdR S (by decide)
theorem lA_60 (S : MSh m0 h) {i : Int32} {F : Int32 → Option β} : arZ (mput h m0 v) (m0 + ax 60) i F = mrI v 60 i F := g_arZ S (by decide) rfl
theorem lS_60 (S : MSh m0 h) {i : Int32} {x : Int32} {F : AH → Option β} : asZ (mput h m0 v) (m0 + ax 60) i x F = msZ v 60 i x (fun v => F (mput h m0 v)) := g_asZ S (by decide) rfl
end MLaws

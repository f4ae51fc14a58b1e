/-! ===== one step ===== -/
section Sp
variable {t : Nat} {h h' h1 h2 : AH} {v v' : MV} {G G' : GH} {F A : List Nat}
/-- what the inbox would drop is never less than nothing -/
def HI (h : AH) : Prop := ∃ k, k ≤ 400 ∧ gI h 5 2 = nI k
def LV (v : MV) : Prop := ∃ l, l ≤ 5 ∧ v.1 0 = nI l
theorem cn_any (a : Al h v G t) (x : Int32) : ∃ y, f_X11_channelNumbered 4 x h = some (y, h) := by
  by_cases c1 : x < 1
  · exact ⟨none, by unfold f_X11_channelNumbered; rw [if_pos c1]⟩
  · by_cases c3 : x ≤ 3
    · have e1 : ¬ x.toInt < 1 := fun z => c1 (Int32.lt_iff_toInt_lt.mpr z)
      have e3 : x.toInt ≤ 3 := Int32.le_iff_toInt_le.mp c3
      have e : x.toInt = 1 ∨ x.toInt = 2 ∨ x.toInt = 3 := by omega
      rcases e with z | z | z
      · rw [show x = nI 1 from Int32.toInt_inj.mp z]; exact ⟨_, cn_ok a (by decide)⟩
      · rw [show x = nI 2 from Int32.toInt_inj.mp z]; exact ⟨_, cn_ok a (by decide)⟩
      · rw [show x = nI 3 from Int32.toInt_inj.mp z]; exact ⟨_, cn_ok a (by decide)⟩
    · exact ⟨none, by unfold f_X11_channelNumbered; rw [if_neg c1, if_neg c3]⟩
theorem Al.inb (a : Al h v G t) (c : Ci h h' [5, 6]) (f : Fr v v' F A) (hF : ∀ k ∈ F, k ∈ [2, 54, 55, 56, 57]) (hA : ∀ k ∈ A, k ∈ [1]) (i : IR h' v') : Al h' v' G t := by
  have hF' : ∀ k ∈ F, k ∈ oF := fun k z => by
    have := hF k z
    simp only [List.mem_cons, List.not_mem_nil, or_false] at this
    rcases this with e | e | e | e | e <;> subst e <;> decide
  have hA' : ∀ k ∈ A, k ∈ oA := fun k z => by
    have := hA k z
    simp only [List.mem_cons, List.not_mem_nil, or_false] at this
    subst this; decide
  obtain ⟨s1, s2, s3, s4⟩ := a.st
  refine St.al ⟨c.wh s1, ?_, s3.fr c.lf f (by decide) (by decide) (fun z => absurd (hF _ z) (by decide)) (fun z => absurd (hA _ z) (by decide)), s4.fr0 c (by decide) ⟨a.2.2.2.2.1, a.2.2.2.2.2.2.1, s3.kk.1, s3.kk.2⟩ f hF' hA'⟩ i
  rw [c.I (by decide), f.1 0 (fun z => absurd (hF _ z) (by decide))]
  exact s2
theorem wI_id {a : Nat} {g : Nat → Int32} (e : g = gI h a) : wI h a g = h := by
  have z : rw1 (gI h) a g = gI h := by
    funext b
    unfold rw1
    split
    · rename_i y; rw [e, y]
    · rfl
  exact congrArg (fun y => ((hz h, hs h, kd h, ln h, y, gJ h, gR h) : AH)) z
theorem sI_id {a k : Nat} {x : Int32} (e : x = gI h a k) : sI h a k x = h := by
  refine wI_id ?_
  funext j
  unfold upd
  split
  · rename_i y; rw [e, y]
  · rfl
theorem drop5 (i : IR h v) (z : v.1 2 = 0) (H : HI h) : f_X6_dropHandled 5 h = some ((), h) := by
  obtain ⟨i1, i2, i3, i4, i5, i6, i7⟩ := i
  obtain ⟨k, k1, k2⟩ := H
  unfold f_X6_dropHandled
  rw [rdI_e i1, rdI_e i1, i6, z, k2]
  by_cases c : 0 < k
  · rw [if_pos (show (0 : Int32) < nI k from nI_lt (a := 0) c (by omega))]
  · obtain rfl : k = 0 := by omega
    rw [if_neg (by decide), rdR_e i1, rdI_e i1, rdR_e i1, rdI_e i1, rdI_e i1, i2, nn_s, nn_s, k2, i6, z]
    unfold cpI
    rw [if_pos ⟨i3, i3, by decide, by decide, by decide, by rw [i4]; decide, by rw [i4]; decide⟩]
    have e : wI h 6 (va_cpy (gI h 6) (gI h 6) (nI 0).toNatClampNeg (0 : Int32).toNatClampNeg (0 - nI 0).toNatClampNeg) = h := wI_id (by
      funext j
      unfold va_cpy
      rw [if_neg]
      rintro ⟨-, y⟩
      have e1 : (0 - nI 0).toNatClampNeg = 0 := by decide
      have e2 : (0 : Int32).toNatClampNeg = 0 := by decide
      omega)
    rw [e]
    dsimp only
    rw [rdI_e i1, rdI_e i1, wrI_e i1, k2, i6, z, sI_id (by rw [i6, z]; decide)]
theorem drop_2 (i : IR h v) (e : f_X6_dropHandled 5 h = some ((), h')) : gI h' 5 2 = gI h 5 2 := by
  obtain ⟨i1, i2, i3, i4, i5, i6, i7⟩ := i
  unfold f_X6_dropHandled at e
  rw [rdI_e i1, rdI_e i1] at e
  split at e
  · cases e; rfl
  · rw [rdR_e i1, rdI_e i1, rdR_e i1, rdI_e i1, rdI_e i1, i2, nn_s, nn_s] at e
    unfold cpI at e
    split at e
    · dsimp only at e
      rw [rdI_e (by exact i1), rdI_e (by exact i1), wrI_e (by exact i1)] at e
      cases e
      rw [gI_sI, if_neg (by simp)]
      rfl
    · cases e
theorem da_no (a : Al h v G t) (n : v.1 0 ≠ 4) : f_X11_deliverAll 4 h = some ((), h) := by
  unfold f_X11_deliverAll
  rw [rdI_e a.1.2.1.1.1, a.2.2.1, if_neg n]
theorem sm_k4 {e : Int32} (z : f_X11_settleMistake 4 e h = some ((), h')) (k : kd h' 4 = 12) : kd h 4 = 12 := by
  unfold f_X11_settleMistake at z
  split at z
  · cases z; exact k
  · unfold rdR at z
    split at z
    · assumption
    · cases z
/-- the line is shut for what came -/
theorem hardS (a : Al h v G t) (H : HI h) (hl : (outL v).length < 500) : ∃ h' v' G', f_X11_step_82 4 501 h = some (1, h') ∧ m_hard 501 v = some ((), v') ∧ Al h' v' G' t ∧ HI h' ∧ LV v' ∧ RmQ h v h' v' 72 8 := by
  obtain ⟨h', v', G', z1, z2, z3, z4, z5, z6, z7, z8, z9⟩ := hard_ok (k := 501) (c := 0) a (by decide) (by decide) (.inr ⟨rfl, cn_any a _⟩) (by omega)
  obtain ⟨-, t2, t3⟩ := z5
  have H' : HI h' := by
    obtain ⟨k, k1, k2⟩ := H
    exact ⟨k, k1, by rw [z4]; exact k2⟩
  refine ⟨h', v', G', ?_, z2, z3, H', ⟨5, by decide, z9⟩, ⟨by omega, by omega, by omega⟩⟩
  unfold f_X11_step_82
  rw [kg_e a.1.2.1.1.1, show (501 : Int32) = nI 501 from rfl, z1, bd_s, inE z3, drop5 z3.2.2.2.2 z8 H', bd_s, kg_e z3.1.2.1.1.1, da_no z3 (by rw [z9]; decide), bd_s]
theorem look66 (i : IR h v) (H : HI h) {z : Int32} (e : f_X6_lookForFrame_66 5 h = some (z, h')) : HI h' := by
  obtain ⟨i1, i2, i3, i4, i5, i6, i7⟩ := i
  have c1 : v.1 2 = nI (cN v 2) := i5.1
  have hc := i5.2
  unfold f_X6_lookForFrame_66 at e
  rw [rdI_e i1, i6, c1] at e
  by_cases c : cN v 2 < 3
  · rw [if_pos (show nI (cN v 2) < (3 : Int32) from nI_lt (b := 3) c (by omega))] at e
    cases e; exact H
  · obtain ⟨y, b, hb, hp⟩ := i7 2 (by omega)
    have ar : ∀ {g : AH} {β : Type} {F : Int32 → Option β}, kd g 6 = 100 → ln g 6 = 300 → gI g 6 = gI h 6 → arI g 6 2 F = F (nI b) := fun k l q => by
      rw [show (2 : Int32) = nI 2 from rfl, arI_e k (by rw [l]; exact inb_nI (by decide) (by decide)), show (nI 2).toNatClampNeg = 2 by decide, q, y, hp]
    rw [if_neg (show ¬ nI (cN v 2) < (3 : Int32) from nI_nlt (b := 3) (by omega) (by omega)), rdI_e i1, rdR_e i1, i2, nn_s, ar i3 i4 rfl] at e
    split at e
    · rw [wrI_e i1, rdR_e (by exact i1), gR_sI, i2, nn_s, ar (g := sI h 5 3 3) i3 i4 (by rw [gI_sIn (by decide)]), wrI_e (by exact i1), rdI_e (by exact i1), wrI_e (by exact i1), wrZ_e (by exact i1) (.inl rfl), rdR_e (by exact i1), rdI_e (by exact i1), gR_sI, gR_sI, gR_sI, gR_sI, i2, nn_s] at e
      have fin : HI (sI (sI (sI (sI h 5 3 3) 5 4 (3 + nI b)) 5 2 (gI (sI (sI h 5 3 3) 5 4 (3 + nI b)) 5 4 + 1)) 5 5 0) := by
        refine ⟨b + 4, by omega, ?_⟩
        rw [gI_sI, if_neg (by simp), gI_sI, if_pos ⟨rfl, rfl⟩, gI_sI, if_pos ⟨rfl, rfl⟩, show (3 : Int32) = nI 3 from rfl, nI_add, nI_1]
        congr 1; omega
      unfold arI at e
      split at e
      · dsimp only at e
        split at e
        · cases e; exact fin
        · cases e; exact fin
      · cases e
    · cases e; exact H
theorem lookHI (i : IR h v) (H : HI h) {z : Int32} (e : f_X6_lookForFrame 5 h = some (z, h')) : HI h' := by
  have q45 : f_X6_lookForFrame_45 5 h = some (z, h') → HI h' := fun e => by
    unfold f_X6_lookForFrame_45 at e
    rw [rdI_e i.1] at e
    split at e
    · exact look66 i H e
    · rw [rdR_e i.1, i.2.1, nn_s] at e
      unfold arI at e
      split at e
      · dsimp only at e
        split at e
        · exact look66 i H e
        · cases e; exact H
      · cases e
  have q27 : f_X6_lookForFrame_27 5 h = some (z, h') → HI h' := fun e => by
    unfold f_X6_lookForFrame_27 at e
    rw [rdI_e i.1] at e
    split at e
    · exact q45 e
    · rw [rdR_e i.1, i.2.1, nn_s] at e
      unfold arI at e
      split at e
      · dsimp only at e
        split at e
        · cases e; exact H
        · exact q45 e
      · cases e
  unfold f_X6_lookForFrame at e
  rw [rdI_e i.1] at e
  split at e
  · exact q27 e
  · rw [rdR_e i.1, i.2.1, nn_s] at e
    unfold arI at e
    by_cases k2 : kd h 6 = 100 ∧ inb 0 (ln h 6) = true
    · rw [if_pos k2] at e
      dsimp only at e
      split at e
      · cases e; exact H
      · rw [rdR_e i.1, i.2.1, nn_s, if_pos k2] at e
        split at e
        · cases e; exact H
        · exact q27 e
    · rw [if_neg k2] at e
      cases e
end Sp

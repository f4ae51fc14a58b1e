/-! printed by wip/whole/gen/shift.py: the shifting loops -/
set_option maxHeartbeats 1000000 in
theorem b_loop (v : MV) (w : Nat → Int32) (n a : Nat) (hw : w 13 = nI n) (hn : n < 12) : ∀ (d i f : Nat), i + d = n → a ≤ i → d < f → m_removeBinding_12 f (nI i) (SV v w [] [14, 15, 16] a i) = some ((), SV v w [] [14, 15, 16] a n) := by
  intro d
  induction d with
  | zero =>
    intro i f hi _ hf
    obtain ⟨g, rfl⟩ : ∃ g, f = g + 1 := ⟨f - 1, by omega⟩
    obtain rfl : i = n := by omega
    rw [m_removeBinding_12, if_pos (by show w 13 ≤ _; rw [hw]; exact Int32.le_refl _)]
  | succ d ih =>
    intro i f hi ha hf
    obtain ⟨g, rfl⟩ : ∃ g, f = g + 1 := ⟨f - 1, by omega⟩
    rw [m_removeBinding_12, if_neg (by show ¬ w 13 ≤ _; rw [hw]; exact nI_ge (by omega) (by omega))]
    have b0 : inb (nI i) 12 = true := inb_nI (by omega) (by decide)
    have b1 : inb (nI (i + 1)) 12 = true := inb_nI (by omega) (by decide)
    have c0 : (nI i).toNatClampNeg = i := nI_clamp (by omega)
    have c1 : (nI (i + 1)).toNatClampNeg = i + 1 := nI_clamp (by omega)
    have e : ((SV v w [] [14, 15, 16] a i).1, (SV v w [] [14, 15, 16] a i).2.1, rw1 (rw1 (rw1 ((SV v w [] [14, 15, 16] a i).2.2) 14 (sh (v.2.2 14) a (i + 1))) 15 (sh (v.2.2 15) a (i + 1))) 16 (sh (v.2.2 16) a (i + 1))) = SV v w [] [14, 15, 16] a (i + 1) := by
      unfold SV
      refine Prod.ext rfl (Prod.ext ?_ ?_)
      · rfl
      · funext k
        unfold rw1
        by_cases e16 : k = 16
        · subst e16; simp
        · skip
          by_cases e15 : k = 15
          · subst e15; simp
          · skip
            by_cases e14 : k = 14
            · subst e14; simp
            · skip
              simp [e14, e15, e16]
    simp only [nI_1, mrI, mrJ, msI, msJ, msZ, show alen 14 = 12 from rfl, show alen 15 = 12 from rfl, show alen 16 = 12 from rfl, b0, b1, c0, c1, if_true, rw1_s, rw1_n _ _ (show (15 : Nat) ≠ 14 by decide), rw1_n _ _ (show (16 : Nat) ≠ 14 by decide), rw1_n _ _ (show (16 : Nat) ≠ 15 by decide), SV_J v w [] [14, 15, 16] a i (k := 14) (by decide), SV_J v w [] [14, 15, 16] a i (k := 15) (by decide), SV_J v w [] [14, 15, 16] a i (k := 16) (by decide), sh_hi (v.2.2 14) (a := a) (i := i) (j := i + 1) (by omega), sh_hi (v.2.2 15) (a := a) (i := i) (j := i + 1) (by omega), sh_hi (v.2.2 16) (a := a) (i := i) (j := i + 1) (by omega), sh_stepL (v.2.2 14) ha, sh_stepL (v.2.2 15) ha, sh_stepL (v.2.2 16) ha]
    rw [e]
    exact ih (i + 1) g (by omega) (by omega) (by omega)
set_option maxHeartbeats 1000000 in
theorem c_loop (v : MV) (w : Nat → Int32) (n a : Nat) (hw : w 17 = nI n) (hn : n < 6) (hz23 : ∀ j, v.2.1 23 j = 0 ∨ v.2.1 23 j = 1) : ∀ (d i f : Nat), i + d = n → a ≤ i → d < f → m_removeConsumer_12 f (nI i) (SV v w [19, 20, 22, 23] [21] a i) = some ((), SV v w [19, 20, 22, 23] [21] a n) := by
  intro d
  induction d with
  | zero =>
    intro i f hi _ hf
    obtain ⟨g, rfl⟩ : ∃ g, f = g + 1 := ⟨f - 1, by omega⟩
    obtain rfl : i = n := by omega
    rw [m_removeConsumer_12, if_pos (by show w 17 ≤ _; rw [hw]; exact Int32.le_refl _)]
  | succ d ih =>
    intro i f hi ha hf
    obtain ⟨g, rfl⟩ : ∃ g, f = g + 1 := ⟨f - 1, by omega⟩
    rw [m_removeConsumer_12, if_neg (by show ¬ w 17 ≤ _; rw [hw]; exact nI_ge (by omega) (by omega))]
    have b0 : inb (nI i) 6 = true := inb_nI (by omega) (by decide)
    have b1 : inb (nI (i + 1)) 6 = true := inb_nI (by omega) (by decide)
    have c0 : (nI i).toNatClampNeg = i := nI_clamp (by omega)
    have c1 : (nI (i + 1)).toNatClampNeg = i + 1 := nI_clamp (by omega)
    have e : ((SV v w [19, 20, 22, 23] [21] a i).1, rw1 (rw1 (rw1 (rw1 ((SV v w [19, 20, 22, 23] [21] a i).2.1) 19 (sh (v.2.1 19) a (i + 1))) 20 (sh (v.2.1 20) a (i + 1))) 22 (sh (v.2.1 22) a (i + 1))) 23 (sh (v.2.1 23) a (i + 1)), rw1 ((SV v w [19, 20, 22, 23] [21] a i).2.2) 21 (sh (v.2.2 21) a (i + 1))) = SV v w [19, 20, 22, 23] [21] a (i + 1) := by
      unfold SV
      refine Prod.ext rfl (Prod.ext ?_ ?_)
      · funext k
        unfold rw1
        by_cases e23 : k = 23
        · subst e23; simp
        · skip
          by_cases e22 : k = 22
          · subst e22; simp
          · skip
            by_cases e20 : k = 20
            · subst e20; simp
            · skip
              by_cases e19 : k = 19
              · subst e19; simp
              · skip
                simp [e19, e20, e22, e23]
      · funext k
        unfold rw1
        by_cases e21 : k = 21
        · subst e21; simp
        · skip
          simp [e21]
    simp only [nI_1, mrI, mrJ, msI, msJ, msZ, show alen 19 = 6 from rfl, show alen 20 = 6 from rfl, show alen 21 = 6 from rfl, show alen 22 = 6 from rfl, show alen 23 = 6 from rfl, b0, b1, c0, c1, if_true, rw1_s, rw1_n _ _ (show (20 : Nat) ≠ 19 by decide), rw1_n _ _ (show (22 : Nat) ≠ 19 by decide), rw1_n _ _ (show (23 : Nat) ≠ 19 by decide), rw1_n _ _ (show (22 : Nat) ≠ 20 by decide), rw1_n _ _ (show (23 : Nat) ≠ 20 by decide), rw1_n _ _ (show (23 : Nat) ≠ 22 by decide), SV_I v w [19, 20, 22, 23] [21] a i (k := 19) (by decide), SV_I v w [19, 20, 22, 23] [21] a i (k := 20) (by decide), SV_J v w [19, 20, 22, 23] [21] a i (k := 21) (by decide), SV_I v w [19, 20, 22, 23] [21] a i (k := 22) (by decide), SV_I v w [19, 20, 22, 23] [21] a i (k := 23) (by decide), sh_hi (v.2.1 19) (a := a) (i := i) (j := i + 1) (by omega), sh_hi (v.2.1 20) (a := a) (i := i) (j := i + 1) (by omega), sh_hi (v.2.2 21) (a := a) (i := i) (j := i + 1) (by omega), sh_hi (v.2.1 22) (a := a) (i := i) (j := i + 1) (by omega), sh_hi (v.2.1 23) (a := a) (i := i) (j := i + 1) (by omega), sh_stepI (v.2.1 19) ha, sh_stepI (v.2.1 20) ha, sh_stepL (v.2.2 21) ha, sh_stepI (v.2.1 22) ha, sh_stepI (v.2.1 23) ha, true_and, if_pos (hz23 (i + 1))]
    rw [e]
    exact ih (i + 1) g (by omega) (by omega) (by omega)
set_option maxHeartbeats 1000000 in
theorem x_loop (v : MV) (w : Nat → Int32) (n a : Nat) (hw : w 5 = nI n) (hn : n < 6) : ∀ (d i f : Nat), i + d = n → a ≤ i → d < f → m_removeExchange_50 f (nI i) (SV v w [7] [6] a i) = some ((), SV v w [7] [6] a n) := by
  intro d
  induction d with
  | zero =>
    intro i f hi _ hf
    obtain ⟨g, rfl⟩ : ∃ g, f = g + 1 := ⟨f - 1, by omega⟩
    obtain rfl : i = n := by omega
    rw [m_removeExchange_50, if_pos (by show w 5 ≤ _; rw [hw]; exact Int32.le_refl _)]
  | succ d ih =>
    intro i f hi ha hf
    obtain ⟨g, rfl⟩ : ∃ g, f = g + 1 := ⟨f - 1, by omega⟩
    rw [m_removeExchange_50, if_neg (by show ¬ w 5 ≤ _; rw [hw]; exact nI_ge (by omega) (by omega))]
    have b0 : inb (nI i) 6 = true := inb_nI (by omega) (by decide)
    have b1 : inb (nI (i + 1)) 6 = true := inb_nI (by omega) (by decide)
    have c0 : (nI i).toNatClampNeg = i := nI_clamp (by omega)
    have c1 : (nI (i + 1)).toNatClampNeg = i + 1 := nI_clamp (by omega)
    have e : ((SV v w [7] [6] a i).1, rw1 ((SV v w [7] [6] a i).2.1) 7 (sh (v.2.1 7) a (i + 1)), rw1 ((SV v w [7] [6] a i).2.2) 6 (sh (v.2.2 6) a (i + 1))) = SV v w [7] [6] a (i + 1) := by
      unfold SV
      refine Prod.ext rfl (Prod.ext ?_ ?_)
      · funext k
        unfold rw1
        by_cases e7 : k = 7
        · subst e7; simp
        · skip
          simp [e7]
      · funext k
        unfold rw1
        by_cases e6 : k = 6
        · subst e6; simp
        · skip
          simp [e6]
    simp only [nI_1, mrI, mrJ, msI, msJ, msZ, show alen 6 = 6 from rfl, show alen 7 = 6 from rfl, b0, b1, c0, c1, if_true, rw1_s, SV_J v w [7] [6] a i (k := 6) (by decide), SV_I v w [7] [6] a i (k := 7) (by decide), sh_hi (v.2.2 6) (a := a) (i := i) (j := i + 1) (by omega), sh_hi (v.2.1 7) (a := a) (i := i) (j := i + 1) (by omega), sh_stepL (v.2.2 6) ha, sh_stepI (v.2.1 7) ha]
    rw [e]
    exact ih (i + 1) g (by omega) (by omega) (by omega)
set_option maxHeartbeats 1000000 in
theorem q_loop (v : MV) (w : Nat → Int32) (n a : Nat) (hw : w 8 = nI n) (hn : n < 5) : ∀ (d i f : Nat), i + d = n → a ≤ i → d < f → m_removeQueue_87 f (nI i) (SV v w [11, 12] [10] a i) = some ((), SV v w [11, 12] [10] a n) := by
  intro d
  induction d with
  | zero =>
    intro i f hi _ hf
    obtain ⟨g, rfl⟩ : ∃ g, f = g + 1 := ⟨f - 1, by omega⟩
    obtain rfl : i = n := by omega
    rw [m_removeQueue_87, if_pos (by show w 8 ≤ _; rw [hw]; exact Int32.le_refl _)]
  | succ d ih =>
    intro i f hi ha hf
    obtain ⟨g, rfl⟩ : ∃ g, f = g + 1 := ⟨f - 1, by omega⟩
    rw [m_removeQueue_87, if_neg (by show ¬ w 8 ≤ _; rw [hw]; exact nI_ge (by omega) (by omega))]
    have b0 : inb (nI i) 5 = true := inb_nI (by omega) (by decide)
    have b1 : inb (nI (i + 1)) 5 = true := inb_nI (by omega) (by decide)
    have c0 : (nI i).toNatClampNeg = i := nI_clamp (by omega)
    have c1 : (nI (i + 1)).toNatClampNeg = i + 1 := nI_clamp (by omega)
    have e : ((SV v w [11, 12] [10] a i).1, rw1 (rw1 ((SV v w [11, 12] [10] a i).2.1) 11 (sh (v.2.1 11) a (i + 1))) 12 (sh (v.2.1 12) a (i + 1)), rw1 ((SV v w [11, 12] [10] a i).2.2) 10 (sh (v.2.2 10) a (i + 1))) = SV v w [11, 12] [10] a (i + 1) := by
      unfold SV
      refine Prod.ext rfl (Prod.ext ?_ ?_)
      · funext k
        unfold rw1
        by_cases e12 : k = 12
        · subst e12; simp
        · skip
          by_cases e11 : k = 11
          · subst e11; simp
          · skip
            simp [e11, e12]
      · funext k
        unfold rw1
        by_cases e10 : k = 10
        · subst e10; simp
        · skip
          simp [e10]
    simp only [nI_1, mrI, mrJ, msI, msJ, msZ, show alen 10 = 5 from rfl, show alen 11 = 5 from rfl, show alen 12 = 5 from rfl, b0, b1, c0, c1, if_true, rw1_s, rw1_n _ _ (show (12 : Nat) ≠ 11 by decide), SV_J v w [11, 12] [10] a i (k := 10) (by decide), SV_I v w [11, 12] [10] a i (k := 11) (by decide), SV_I v w [11, 12] [10] a i (k := 12) (by decide), sh_hi (v.2.2 10) (a := a) (i := i) (j := i + 1) (by omega), sh_hi (v.2.1 11) (a := a) (i := i) (j := i + 1) (by omega), sh_hi (v.2.1 12) (a := a) (i := i) (j := i + 1) (by omega), sh_stepL (v.2.2 10) ha, sh_stepI (v.2.1 11) ha, sh_stepI (v.2.1 12) ha]
    rw [e]
    exact ih (i + 1) g (by omega) (by omega) (by omega)
set_option maxHeartbeats 1000000 in
theorem l_loop_mv (v : MV) (w : Nat → Int32) (a i : Nat) (hi : i + 1 < 24) (ha : a ≤ i) (hz30 : ∀ j, v.2.1 30 j = 0 ∨ v.2.1 30 j = 1) : m_moveLetter (nI i) (nI i + 1) (SV v w [26, 27, 28, 29, 30, 33] [31, 32, 34] a i) = some ((), SV v w [26, 27, 28, 29, 30, 33] [31, 32, 34] a (i + 1)) := by
  have b0 : inb (nI i) 24 = true := inb_nI (by omega) (by decide)
  have b1 : inb (nI (i + 1)) 24 = true := inb_nI (by omega) (by decide)
  have c0 : (nI i).toNatClampNeg = i := nI_clamp (by omega)
  have c1 : (nI (i + 1)).toNatClampNeg = i + 1 := nI_clamp (by omega)
  have e : ((SV v w [26, 27, 28, 29, 30, 33] [31, 32, 34] a i).1, rw1 (rw1 (rw1 (rw1 (rw1 (rw1 ((SV v w [26, 27, 28, 29, 30, 33] [31, 32, 34] a i).2.1) 26 (sh (v.2.1 26) a (i + 1))) 27 (sh (v.2.1 27) a (i + 1))) 28 (sh (v.2.1 28) a (i + 1))) 29 (sh (v.2.1 29) a (i + 1))) 30 (sh (v.2.1 30) a (i + 1))) 33 (sh (v.2.1 33) a (i + 1)), rw1 (rw1 (rw1 ((SV v w [26, 27, 28, 29, 30, 33] [31, 32, 34] a i).2.2) 31 (sh (v.2.2 31) a (i + 1))) 32 (sh (v.2.2 32) a (i + 1))) 34 (sh (v.2.2 34) a (i + 1))) = SV v w [26, 27, 28, 29, 30, 33] [31, 32, 34] a (i + 1) := by
    unfold SV
    refine Prod.ext rfl (Prod.ext ?_ ?_)
    · funext k
      unfold rw1
      by_cases e33 : k = 33
      · subst e33; simp
      · skip
        by_cases e30 : k = 30
        · subst e30; simp
        · skip
          by_cases e29 : k = 29
          · subst e29; simp
          · skip
            by_cases e28 : k = 28
            · subst e28; simp
            · skip
              by_cases e27 : k = 27
              · subst e27; simp
              · skip
                by_cases e26 : k = 26
                · subst e26; simp
                · skip
                  simp [e26, e27, e28, e29, e30, e33]
    · funext k
      unfold rw1
      by_cases e34 : k = 34
      · subst e34; simp
      · skip
        by_cases e32 : k = 32
        · subst e32; simp
        · skip
          by_cases e31 : k = 31
          · subst e31; simp
          · skip
            simp [e31, e32, e34]
  unfold m_moveLetter
  simp only [nI_1, mrI, mrJ, msI, msJ, msZ, show alen 26 = 24 from rfl, show alen 27 = 24 from rfl, show alen 28 = 24 from rfl, show alen 29 = 24 from rfl, show alen 30 = 24 from rfl, show alen 31 = 24 from rfl, show alen 32 = 24 from rfl, show alen 33 = 24 from rfl, show alen 34 = 24 from rfl, b0, b1, c0, c1, if_true, rw1_s, rw1_n _ _ (show (27 : Nat) ≠ 26 by decide), rw1_n _ _ (show (28 : Nat) ≠ 26 by decide), rw1_n _ _ (show (29 : Nat) ≠ 26 by decide), rw1_n _ _ (show (30 : Nat) ≠ 26 by decide), rw1_n _ _ (show (33 : Nat) ≠ 26 by decide), rw1_n _ _ (show (28 : Nat) ≠ 27 by decide), rw1_n _ _ (show (29 : Nat) ≠ 27 by decide), rw1_n _ _ (show (30 : Nat) ≠ 27 by decide), rw1_n _ _ (show (33 : Nat) ≠ 27 by decide), rw1_n _ _ (show (29 : Nat) ≠ 28 by decide), rw1_n _ _ (show (30 : Nat) ≠ 28 by decide), rw1_n _ _ (show (33 : Nat) ≠ 28 by decide), rw1_n _ _ (show (30 : Nat) ≠ 29 by decide), rw1_n _ _ (show (33 : Nat) ≠ 29 by decide), rw1_n _ _ (show (33 : Nat) ≠ 30 by decide), rw1_n _ _ (show (32 : Nat) ≠ 31 by decide), rw1_n _ _ (show (34 : Nat) ≠ 31 by decide), rw1_n _ _ (show (34 : Nat) ≠ 32 by decide), SV_I v w [26, 27, 28, 29, 30, 33] [31, 32, 34] a i (k := 26) (by decide), SV_I v w [26, 27, 28, 29, 30, 33] [31, 32, 34] a i (k := 27) (by decide), SV_I v w [26, 27, 28, 29, 30, 33] [31, 32, 34] a i (k := 28) (by decide), SV_I v w [26, 27, 28, 29, 30, 33] [31, 32, 34] a i (k := 29) (by decide), SV_I v w [26, 27, 28, 29, 30, 33] [31, 32, 34] a i (k := 30) (by decide), SV_J v w [26, 27, 28, 29, 30, 33] [31, 32, 34] a i (k := 31) (by decide), SV_J v w [26, 27, 28, 29, 30, 33] [31, 32, 34] a i (k := 32) (by decide), SV_I v w [26, 27, 28, 29, 30, 33] [31, 32, 34] a i (k := 33) (by decide), SV_J v w [26, 27, 28, 29, 30, 33] [31, 32, 34] a i (k := 34) (by decide), sh_hi (v.2.1 26) (a := a) (i := i) (j := i + 1) (by omega), sh_hi (v.2.1 27) (a := a) (i := i) (j := i + 1) (by omega), sh_hi (v.2.1 28) (a := a) (i := i) (j := i + 1) (by omega), sh_hi (v.2.1 29) (a := a) (i := i) (j := i + 1) (by omega), sh_hi (v.2.1 30) (a := a) (i := i) (j := i + 1) (by omega), sh_hi (v.2.2 31) (a := a) (i := i) (j := i + 1) (by omega), sh_hi (v.2.2 32) (a := a) (i := i) (j := i + 1) (by omega), sh_hi (v.2.1 33) (a := a) (i := i) (j := i + 1) (by omega), sh_hi (v.2.2 34) (a := a) (i := i) (j := i + 1) (by omega), sh_stepI (v.2.1 26) ha, sh_stepI (v.2.1 27) ha, sh_stepI (v.2.1 28) ha, sh_stepI (v.2.1 29) ha, sh_stepI (v.2.1 30) ha, sh_stepL (v.2.2 31) ha, sh_stepL (v.2.2 32) ha, sh_stepI (v.2.1 33) ha, sh_stepL (v.2.2 34) ha, true_and, if_pos (hz30 (i + 1))]
  rw [e]
theorem l_loop (v : MV) (w : Nat → Int32) (n a : Nat) (hw : w 24 = nI n) (hn : n < 24) (hz30 : ∀ j, v.2.1 30 j = 0 ∨ v.2.1 30 j = 1) : ∀ (d i f : Nat), i + d = n → a ≤ i → d < f → m_removeLetter_12 f (nI i) (SV v w [26, 27, 28, 29, 30, 33] [31, 32, 34] a i) = some ((), SV v w [26, 27, 28, 29, 30, 33] [31, 32, 34] a n) := by
  intro d
  induction d with
  | zero =>
    intro i f hi _ hf
    obtain ⟨g, rfl⟩ : ∃ g, f = g + 1 := ⟨f - 1, by omega⟩
    obtain rfl : i = n := by omega
    rw [m_removeLetter_12, if_pos (by show w 24 ≤ _; rw [hw]; exact Int32.le_refl _)]
  | succ d ih =>
    intro i f hi ha hf
    obtain ⟨g, rfl⟩ : ∃ g, f = g + 1 := ⟨f - 1, by omega⟩
    rw [m_removeLetter_12, if_neg (by show ¬ w 24 ≤ _; rw [hw]; exact nI_ge (by omega) (by omega)), l_loop_mv v w a i (by omega) ha hz30, bdm_s, nI_1]
    exact ih (i + 1) g (by omega) (by omega) (by omega)

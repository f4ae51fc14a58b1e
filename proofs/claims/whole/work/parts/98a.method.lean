/-! ===== which method; which frame ===== -/
section Md
variable {t t' : Nat} {h h' h1 : AH} {v v' w : MV} {c d : Nat} {G G' : GH}
def isM (p q : Nat) : Bool := decide ((p = 20 ∧ (q = 20 ∨ q = 40)) ∨ (p = 40 ∧ (q = 10 ∨ q = 20)) ∨ (p = 50 ∧ 10 ≤ q ∧ q ≤ 50 ∧ q % 10 = 0) ∨ (p = 60 ∧ ((10 ≤ q ∧ q ≤ 40 ∧ q % 10 = 0) ∨ (70 ≤ q ∧ q ≤ 90 ∧ q % 10 = 0) ∨ q = 110 ∨ q = 120)) ∨ (p = 90 ∧ (q = 10 ∨ q = 20 ∨ q = 30)))
theorem rem10 {q : Nat} (hq : q < 256) : (nI q - nI q / 10 * 10) = nI (q % 10) := pk_rem (d := 10) (by omega) (by decide) (by decide)
theorem nz10 {β : Type} {X : Option β} : nz 10 X = X := if_neg (by decide)
theorem eq8 {q k : Nat} (hq : q < 256) (hk : k < 256) : (nI q = nI k) = (q = k) := propext (bN8 hq hk)
theorem lt8 {q k : Nat} (hq : q < 256) (hk : k < 256) : (nI q < nI k) = (q < k) := propext ⟨fun y => by
  rcases Nat.lt_or_ge q k with z | z
  · exact z
  · exact absurd y (nI_nlt z (by omega)), fun y => nI_lt y (by omega)⟩
theorem isM_ok {p q : Nat} (hp : p < 256) (hq : q < 256) : m_isMethod (nI p) (nI q) v = some (bit (isM p q), v) := by
  unfold m_isMethod m_isMethod_132 m_isMethod_151
  simp only [nz10, rem10 hq, rz_1, rz_0]
  rw [show (20 : Int32) = nI 20 from rfl, show (40 : Int32) = nI 40 from rfl, show (50 : Int32) = nI 50 from rfl, show (60 : Int32) = nI 60 from rfl, show (90 : Int32) = nI 90 from rfl, show (10 : Int32) = nI 10 from rfl, show (30 : Int32) = nI 30 from rfl, show (70 : Int32) = nI 70 from rfl, show (110 : Int32) = nI 110 from rfl, show (120 : Int32) = nI 120 from rfl, show (0 : Int32) = nI 0 from rfl]
  simp only [eq8 hp (show 20 < 256 by decide), eq8 hp (show 40 < 256 by decide), eq8 hp (show 50 < 256 by decide), eq8 hp (show 60 < 256 by decide), eq8 hp (show 90 < 256 by decide), eq8 hq (show 20 < 256 by decide), eq8 hq (show 40 < 256 by decide), eq8 hq (show 10 < 256 by decide), eq8 hq (show 30 < 256 by decide), eq8 hq (show 110 < 256 by decide), eq8 hq (show 120 < 256 by decide), lt8 hq (show 10 < 256 by decide), lt8 hq (show 70 < 256 by decide), lt8 (show 50 < 256 by decide) hq, lt8 (show 40 < 256 by decide) hq, lt8 (show 90 < 256 by decide) hq, eq8 (show q % 10 < 256 by omega) (show 0 < 256 by decide)]
  have t1 : ((p = 20 ∧ (q = 20 ∨ q = 40)) ∨ (p = 40 ∧ (q = 10 ∨ q = 20)) ∨ (p = 50 ∧ 10 ≤ q ∧ q ≤ 50 ∧ q % 10 = 0) ∨ (p = 60 ∧ ((10 ≤ q ∧ q ≤ 40 ∧ q % 10 = 0) ∨ (70 ≤ q ∧ q ≤ 90 ∧ q % 10 = 0) ∨ q = 110 ∨ q = 120)) ∨ (p = 90 ∧ (q = 10 ∨ q = 20 ∨ q = 30))) → some ((1 : Int32), v) = some (bit (isM p q), v) := fun z => by
    have : isM p q = true := decide_eq_true z
    rw [this]; rfl
  have t0 : ¬ ((p = 20 ∧ (q = 20 ∨ q = 40)) ∨ (p = 40 ∧ (q = 10 ∨ q = 20)) ∨ (p = 50 ∧ 10 ≤ q ∧ q ≤ 50 ∧ q % 10 = 0) ∨ (p = 60 ∧ ((10 ≤ q ∧ q ≤ 40 ∧ q % 10 = 0) ∨ (70 ≤ q ∧ q ≤ 90 ∧ q % 10 = 0) ∨ q = 110 ∨ q = 120)) ∨ (p = 90 ∧ (q = 10 ∨ q = 20 ∨ q = 30))) → some (nI 0, v) = some (bit (isM p q), v) := fun z => by
    have : isM p q = false := decide_eq_false z
    rw [this]; rfl
  by_cases c1 : p = 20
  · rw [if_pos c1]
    by_cases c2 : q = 20
    · rw [if_pos c2]
      exact t1 (by omega)
    · rw [if_neg c2]
      by_cases c3 : q = 40
      · rw [if_pos c3]
        exact t1 (by omega)
      · rw [if_neg c3]
        exact t0 (by omega)
  · rw [if_neg c1]
    by_cases c4 : p = 40
    · rw [if_pos c4]
      by_cases c5 : q = 10
      · rw [if_pos c5]
        exact t1 (by omega)
      · rw [if_neg c5]
        by_cases c6 : q = 20
        · rw [if_pos c6]
          exact t1 (by omega)
        · rw [if_neg c6]
          exact t0 (by omega)
    · rw [if_neg c4]
      by_cases c7 : p = 50
      · rw [if_pos c7]
        by_cases c8 : q < 10
        · rw [if_pos c8]
          exact t0 (by omega)
        · rw [if_neg c8]
          by_cases c9 : 50 < q
          · rw [if_pos c9]
            exact t0 (by omega)
          · rw [if_neg c9]
            by_cases c10 : q % 10 = 0
            · rw [if_pos c10]
              exact t1 (by omega)
            · rw [if_neg c10]
              exact t0 (by omega)
      · rw [if_neg c7]
        by_cases c11 : p = 60
        · rw [if_pos c11]
          by_cases c12 : q < 10
          · rw [if_pos c12]
            by_cases c13 : q < 70
            · rw [if_pos c13]
              by_cases c14 : q = 110
              · rw [if_pos c14]
                exact t1 (by omega)
              · rw [if_neg c14]
                by_cases c15 : q = 120
                · rw [if_pos c15]
                  exact t1 (by omega)
                · rw [if_neg c15]
                  exact t0 (by omega)
            · rw [if_neg c13]
              by_cases c16 : 90 < q
              · rw [if_pos c16]
                by_cases c17 : q = 110
                · rw [if_pos c17]
                  exact t1 (by omega)
                · rw [if_neg c17]
                  by_cases c18 : q = 120
                  · rw [if_pos c18]
                    exact t1 (by omega)
                  · rw [if_neg c18]
                    exact t0 (by omega)
              · rw [if_neg c16]
                by_cases c19 : q % 10 = 0
                · rw [if_pos c19]
                  exact t1 (by omega)
                · rw [if_neg c19]
                  by_cases c20 : q = 110
                  · rw [if_pos c20]
                    exact t1 (by omega)
                  · rw [if_neg c20]
                    by_cases c21 : q = 120
                    · rw [if_pos c21]
                      exact t1 (by omega)
                    · rw [if_neg c21]
                      exact t0 (by omega)
          · rw [if_neg c12]
            by_cases c22 : 40 < q
            · rw [if_pos c22]
              by_cases c23 : q < 70
              · rw [if_pos c23]
                by_cases c24 : q = 110
                · rw [if_pos c24]
                  exact t1 (by omega)
                · rw [if_neg c24]
                  by_cases c25 : q = 120
                  · rw [if_pos c25]
                    exact t1 (by omega)
                  · rw [if_neg c25]
                    exact t0 (by omega)
              · rw [if_neg c23]
                by_cases c26 : 90 < q
                · rw [if_pos c26]
                  by_cases c27 : q = 110
                  · rw [if_pos c27]
                    exact t1 (by omega)
                  · rw [if_neg c27]
                    by_cases c28 : q = 120
                    · rw [if_pos c28]
                      exact t1 (by omega)
                    · rw [if_neg c28]
                      exact t0 (by omega)
                · rw [if_neg c26]
                  by_cases c29 : q % 10 = 0
                  · rw [if_pos c29]
                    exact t1 (by omega)
                  · rw [if_neg c29]
                    by_cases c30 : q = 110
                    · rw [if_pos c30]
                      exact t1 (by omega)
                    · rw [if_neg c30]
                      by_cases c31 : q = 120
                      · rw [if_pos c31]
                        exact t1 (by omega)
                      · rw [if_neg c31]
                        exact t0 (by omega)
            · rw [if_neg c22]
              by_cases c32 : q % 10 = 0
              · rw [if_pos c32]
                exact t1 (by omega)
              · rw [if_neg c32]
                by_cases c33 : q < 70
                · rw [if_pos c33]
                  by_cases c34 : q = 110
                  · rw [if_pos c34]
                    exact t1 (by omega)
                  · rw [if_neg c34]
                    by_cases c35 : q = 120
                    · rw [if_pos c35]
                      exact t1 (by omega)
                    · rw [if_neg c35]
                      exact t0 (by omega)
                · rw [if_neg c33]
                  by_cases c36 : 90 < q
                  · rw [if_pos c36]
                    by_cases c37 : q = 110
                    · rw [if_pos c37]
                      exact t1 (by omega)
                    · rw [if_neg c37]
                      by_cases c38 : q = 120
                      · rw [if_pos c38]
                        exact t1 (by omega)
                      · rw [if_neg c38]
                        exact t0 (by omega)
                  · rw [if_neg c36]
                    by_cases c39 : q % 10 = 0
                    · rw [if_pos c39]
                      exact t1 (by omega)
                    · rw [if_neg c39]
                      by_cases c40 : q = 110
                      · rw [if_pos c40]
                        exact t1 (by omega)
                      · rw [if_neg c40]
                        by_cases c41 : q = 120
                        · rw [if_pos c41]
                          exact t1 (by omega)
                        · rw [if_neg c41]
                          exact t0 (by omega)
        · rw [if_neg c11]
          by_cases c42 : p = 90
          · rw [if_pos c42]
            by_cases c43 : q = 10
            · rw [if_pos c43]
              exact t1 (by omega)
            · rw [if_neg c43]
              by_cases c44 : q = 20
              · rw [if_pos c44]
                exact t1 (by omega)
              · rw [if_neg c44]
                by_cases c45 : q = 30
                · rw [if_pos c45]
                  exact t1 (by omega)
                · rw [if_neg c45]
                  exact t0 (by omega)
          · rw [if_neg c42]
            exact t0 (by omega)
end Md

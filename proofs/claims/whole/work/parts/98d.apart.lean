/-! ===== the class's deeds keep apart from the reference's rows ===== -/
def na (a : Nat) : Prop := ¬ (26 ≤ a ∧ a ≤ 72)
def nr (r : Option Nat) : Prop := ∀ b, r = some b → na b
/-- rows stand, and no cell of the class leads to one -/
def RP (h : AH) : Prop := MSh 26 h ∧ 69 ≤ hz h ∧ ∀ a, na a → ∀ k, nr (gR h a k)
/-- two runs, with the rows filled by v and without -/
def E2 {α : Type} (P : α → Prop) (v : MV) (X Y : Option (α × AH)) : Prop := (X = none ∧ Y = none) ∨ ∃ x h', Y = some (x, h') ∧ X = some (x, mput h' 26 v) ∧ RP h' ∧ P x
section Apart
variable {α β : Type} {P : α → Prop} {v : MV} {h : AH} {a b c k : Nat}
theorem nr_n : nr none := fun _ z => by cases z
theorem nr_s (z : na a) : nr (some a) := fun _ y => by cases y; exact z
theorem ax_le : ∀ k ∈ aks, 1 ≤ ax k ∧ ax k ≤ 46 := by decide
theorem mp_gI (z : na a) : gI (mput h 26 v) a = gI h a := by
  unfold na at z
  show (if a = 26 then _ else if 26 < a ∧ a ≤ 26 + 46 then _ else gI h a) = _
  rw [if_neg (by omega), if_neg (by omega)]
theorem mp_gJ (z : na a) : gJ (mput h 26 v) a = gJ h a := by
  unfold na at z
  show (if 26 < a ∧ a ≤ 26 + 46 then _ else gJ h a) = _
  rw [if_neg (by omega)]
theorem mp_wI {g : Nat → Int32} (z : na a) : wI (mput h 26 v) a g = mput (wI h a g) 26 v := by
  unfold na at z
  have e : (rw1 (gI (mput h 26 v)) a g) = gI (mput (wI h a g) 26 v) := by
    funext y
    show (if y = a then g else (if y = 26 then v.1 else if 26 < y ∧ y ≤ 26 + 46 then v.2.1 (xa (y - 26)) else gI h y)) = (if y = 26 then v.1 else if 26 < y ∧ y ≤ 26 + 46 then v.2.1 (xa (y - 26)) else (if y = a then g else gI h y))
    by_cases q : y = a
    · rw [if_pos q, if_neg (by omega), if_neg (by omega), if_pos q]
    · rw [if_neg q, if_neg q]
  show (hz h, hs h, kd h, ln h, rw1 (gI (mput h 26 v)) a g, _, gR h) = (hz h, hs h, kd h, ln h, gI (mput (wI h a g) 26 v), _, gR h)
  rw [e]
  rfl
theorem mp_wJ {g : Nat → Int64} (z : na a) : wJ (mput h 26 v) a g = mput (wJ h a g) 26 v := by
  unfold na at z
  have e : (rw1 (gJ (mput h 26 v)) a g) = gJ (mput (wJ h a g) 26 v) := by
    funext y
    show (if y = a then g else (if 26 < y ∧ y ≤ 26 + 46 then v.2.2 (xa (y - 26)) else gJ h y)) = (if 26 < y ∧ y ≤ 26 + 46 then v.2.2 (xa (y - 26)) else (if y = a then g else gJ h y))
    by_cases q : y = a
    · rw [if_pos q, if_neg (by omega), if_pos q]
    · rw [if_neg q, if_neg q]
  show (hz h, hs h, kd h, ln h, _, rw1 (gJ (mput h 26 v)) a g, gR h) = (hz h, hs h, kd h, ln h, _, gJ (mput (wJ h a g) 26 v), gR h)
  rw [e]
  rfl
theorem mp_wR {g : Nat → Option Nat} : wR (mput h 26 v) a g = mput (wR h a g) 26 v := rfl
theorem RP.wI {g : Nat → Int32} (R : RP h) : RP (wI h a g) := R
theorem RP.wJ {g : Nat → Int64} (R : RP h) : RP (wJ h a g) := R
theorem RP.wR {g : Nat → Option Nat} (R : RP h) (z : na a) (q : ∀ k, nr (g k)) : RP (wR h a g) := by
  obtain ⟨⟨r0, r1⟩, r2, r3⟩ := R
  refine ⟨⟨r0, fun k hk => ⟨?_, (r1 k hk).2⟩⟩, r2, fun b hb k => ?_⟩
  · show (if 26 = a then g else gR h 26) k = _
    unfold na at z
    rw [if_neg (by omega)]
    exact (r1 k hk).1
  · show nr ((if b = a then g else gR h b) k)
    by_cases y : b = a
    · rw [if_pos y]; exact q k
    · rw [if_neg y]; exact r3 b hb k
theorem mp_al {n s : Nat} (R : RP h) : al (mput h 26 v) c n s = mput (al h c n s) 26 v := by
  have r := R.2.1
  have e : gI (al (mput h 26 v) c n s) = gI (mput (al h c n s) 26 v) := by
    funext y
    show (if y = hz h + 4 then (fun _ => 0) else (if y = 26 then v.1 else if 26 < y ∧ y ≤ 26 + 46 then v.2.1 (xa (y - 26)) else gI h y)) = (if y = 26 then v.1 else if 26 < y ∧ y ≤ 26 + 46 then v.2.1 (xa (y - 26)) else (if y = hz h + 4 then (fun _ => 0) else gI h y))
    by_cases q : y = hz h + 4
    · rw [if_pos q, if_neg (by omega), if_neg (by omega), if_pos q]
    · rw [if_neg q, if_neg q]
  have e' : gJ (al (mput h 26 v) c n s) = gJ (mput (al h c n s) 26 v) := by
    funext y
    show (if y = hz h + 4 then (fun _ => 0) else (if 26 < y ∧ y ≤ 26 + 46 then v.2.2 (xa (y - 26)) else gJ h y)) = (if 26 < y ∧ y ≤ 26 + 46 then v.2.2 (xa (y - 26)) else (if y = hz h + 4 then (fun _ => 0) else gJ h y))
    by_cases q : y = hz h + 4
    · rw [if_pos q, if_neg (by omega), if_pos q]
    · rw [if_neg q, if_neg q]
  show (hz h + 1, hs h + s, _, _, gI (al (mput h 26 v) c n s), gJ (al (mput h 26 v) c n s), _) = (hz h + 1, hs h + s, _, _, gI (mput (al h c n s) 26 v), gJ (mput (al h c n s) 26 v), _)
  rw [e, e']
  rfl
theorem RP.al {n s : Nat} (R : RP h) : RP (al h c n s) := by
  obtain ⟨⟨r0, r1⟩, r2, r3⟩ := R
  refine ⟨⟨?_, fun k hk => ?_⟩, Nat.le_succ_of_le r2, fun b hb k => ?_⟩
  · show (if 26 = hz h + 4 then c else kd h 26) = 13
    rw [if_neg (by omega)]; exact r0
  · obtain ⟨q1, q2⟩ := ax_le k hk
    obtain ⟨p1, p2, p3⟩ := r1 k hk
    refine ⟨?_, ?_, ?_⟩
    · show (if 26 = hz h + 4 then (fun _ => none) else gR h 26) k = _
      rw [if_neg (by omega)]; exact p1
    · show (if 26 + ax k = hz h + 4 then c else kd h (26 + ax k)) = _
      rw [if_neg (by omega)]; exact p2
    · show (if 26 + ax k = hz h + 4 then n else ln h (26 + ax k)) = _
      rw [if_neg (by omega)]; exact p3
  · show nr ((if b = hz h + 4 then (fun _ => none) else gR h b) k)
    by_cases y : b = hz h + 4
    · rw [if_pos y]; exact nr_n
    · rw [if_neg y]; exact r3 b hb k
theorem RP.new (R : RP h) : na (hz h + 4) := by
  have := R.2.1
  unfold na
  omega
theorem q_s {x : α} (R : RP h) (p : P x) : E2 P v (some (x, mput h 26 v)) (some (x, h)) := .inr ⟨x, h, rfl, rfl, R, p⟩
theorem q_n : E2 P v none none := .inl ⟨rfl, rfl⟩
theorem q_if {d : Prop} [Decidable d] {X Y X' Y' : Option (α × AH)} (p : E2 P v X Y) (q : E2 P v X' Y') : E2 P v (if d then X else X') (if d then Y else Y') := by
  by_cases z : d
  · rw [if_pos z, if_pos z]; exact p
  · rw [if_neg z, if_neg z]; exact q
theorem q_ifn {d d' : Prop} [Decidable d] [Decidable d'] {X Y : Option (α × AH)} (e : d = d') (p : d' → E2 P v X Y) : E2 P v (if d then X else none) (if d' then Y else none) := by
  subst e
  by_cases z : d
  · rw [if_pos z, if_pos z]; exact p z
  · rw [if_neg z, if_neg z]; exact q_n
theorem q_rdI {F G : Int32 → Option (α × AH)} (z : na a) (p : ∀ x, E2 P v (F x) (G x)) : E2 P v (rdI (mput h 26 v) a c k F) (rdI h a c k G) := by
  unfold rdI
  refine q_ifn rfl fun _ => ?_
  rw [mp_gI z]; exact p _
theorem q_rdJ {F G : Int64 → Option (α × AH)} (z : na a) (p : ∀ x, E2 P v (F x) (G x)) : E2 P v (rdJ (mput h 26 v) a c k F) (rdJ h a c k G) := by
  unfold rdJ
  refine q_ifn rfl fun _ => ?_
  rw [mp_gJ z]; exact p _
theorem q_rdR {F G : Option Nat → Option (α × AH)} (R : RP h) (z : na a) (p : ∀ x, nr x → E2 P v (F x) (G x)) : E2 P v (rdR (mput h 26 v) a c k F) (rdR h a c k G) := by
  unfold rdR
  exact q_ifn rfl fun _ => p _ (R.2.2 a z k)
theorem q_arI {i : Int32} {F G : Int32 → Option (α × AH)} (z : na a) (p : ∀ x, E2 P v (F x) (G x)) : E2 P v (arI (mput h 26 v) a i F) (arI h a i G) := by
  unfold arI
  refine q_ifn rfl fun _ => ?_
  rw [mp_gI z]; exact p _
theorem q_arJ {i : Int32} {F G : Int64 → Option (α × AH)} (z : na a) (p : ∀ x, E2 P v (F x) (G x)) : E2 P v (arJ (mput h 26 v) a i F) (arJ h a i G) := by
  unfold arJ
  refine q_ifn rfl fun _ => ?_
  rw [mp_gJ z]; exact p _
theorem q_arO {i : Int32} {F G : Option Nat → Option (α × AH)} (R : RP h) (z : na a) (p : ∀ x, nr x → E2 P v (F x) (G x)) : E2 P v (arO (mput h 26 v) a i F) (arO h a i G) := by
  unfold arO
  exact q_ifn rfl fun _ => p _ (R.2.2 a z _)
theorem q_arC {i : Int32} {F G : Option Nat → Option (α × AH)} (R : RP h) (z : na a) (p : ∀ x, nr x → E2 P v (F x) (G x)) : E2 P v (arC (mput h 26 v) a i F) (arC h a i G) := by
  unfold arC
  exact q_ifn rfl fun _ => p _ (R.2.2 a z _)
theorem q_wrI {x : Int32} {F G : AH → Option (α × AH)} (R : RP h) (z : na a) (p : ∀ h, RP h → E2 P v (F (mput h 26 v)) (G h)) : E2 P v (wrI (mput h 26 v) a c k x F) (wrI h a c k x G) := by
  unfold wrI sI
  refine q_ifn rfl fun _ => ?_
  rw [mp_gI z, mp_wI z]; exact p _ R.wI
theorem q_wrZ {x : Int32} {F G : AH → Option (α × AH)} (R : RP h) (z : na a) (p : ∀ h, RP h → E2 P v (F (mput h 26 v)) (G h)) : E2 P v (wrZ (mput h 26 v) a c k x F) (wrZ h a c k x G) := by
  unfold wrZ sI
  refine q_ifn rfl fun _ => ?_
  rw [mp_gI z, mp_wI z]; exact p _ R.wI
theorem q_wrJ {x : Int64} {F G : AH → Option (α × AH)} (R : RP h) (z : na a) (p : ∀ h, RP h → E2 P v (F (mput h 26 v)) (G h)) : E2 P v (wrJ (mput h 26 v) a c k x F) (wrJ h a c k x G) := by
  unfold wrJ sJ
  refine q_ifn rfl fun _ => ?_
  rw [mp_gJ z, mp_wJ z]; exact p _ R.wJ
theorem up_nr {r : Option Nat} (R : RP h) (z : na a) (y : nr r) : ∀ j, nr (va_up (gR h a) k r j) := by
  intro j
  unfold va_up
  split
  · exact y
  · exact R.2.2 a z j
theorem q_wrR {r : Option Nat} {F G : AH → Option (α × AH)} (R : RP h) (z : na a) (y : nr r) (p : ∀ h, RP h → E2 P v (F (mput h 26 v)) (G h)) : E2 P v (wrR (mput h 26 v) a c k r F) (wrR h a c k r G) := by
  unfold wrR
  exact q_ifn rfl fun _ => p (sR h a k r) (R.wR z (up_nr R z y))
theorem q_asI {i x : Int32} {F G : AH → Option (α × AH)} (R : RP h) (z : na a) (p : ∀ h, RP h → E2 P v (F (mput h 26 v)) (G h)) : E2 P v (asI (mput h 26 v) a i x F) (asI h a i x G) := by
  unfold asI sI
  refine q_ifn rfl fun _ => ?_
  rw [mp_gI z, mp_wI z]; exact p _ R.wI
theorem q_asJ {i : Int32} {x : Int64} {F G : AH → Option (α × AH)} (R : RP h) (z : na a) (p : ∀ h, RP h → E2 P v (F (mput h 26 v)) (G h)) : E2 P v (asJ (mput h 26 v) a i x F) (asJ h a i x G) := by
  unfold asJ sJ
  refine q_ifn rfl fun _ => ?_
  rw [mp_gJ z, mp_wJ z]; exact p _ R.wJ
theorem q_asO {i : Int32} {r : Option Nat} {F G : AH → Option (α × AH)} (R : RP h) (z : na a) (y : nr r) (p : ∀ h, RP h → E2 P v (F (mput h 26 v)) (G h)) : E2 P v (asO (mput h 26 v) a i r F) (asO h a i r G) := by
  unfold asO
  exact q_ifn rfl fun _ => p (sR h a i.toNatClampNeg r) (R.wR z (up_nr R z y))
theorem q_asC {i : Int32} {r : Option Nat} {F G : AH → Option (α × AH)} (R : RP h) (z : na a) (y : nr r) (p : ∀ h, RP h → E2 P v (F (mput h 26 v)) (G h)) : E2 P v (asC (mput h 26 v) a i r F) (asC h a i r G) := by
  unfold asC
  exact q_ifn rfl fun _ => p (sR h a i.toNatClampNeg r) (R.wR z (up_nr R z y))
theorem q_nn {r : Option Nat} {F G : Nat → Option (α × AH)} (z : nr r) (p : ∀ a, na a → E2 P v (F a) (G a)) : E2 P v (nn r F) (nn r G) := by
  cases r with
  | none => exact q_n
  | some a => exact p a (z a rfl)
theorem q_nb {r : Option Nat} {X Y : Option (α × AH)} {F G : Nat → Option (α × AH)} (z : nr r) (q : E2 P v X Y) (p : ∀ a, na a → E2 P v (F a) (G a)) : E2 P v (nb r X F) (nb r Y G) := by
  cases r with
  | none => exact q
  | some a => exact p a (z a rfl)
theorem q_kg {X Y : Option (α × AH)} (q : E2 P v X Y) : E2 P v (kg (mput h 26 v) a c X) (kg h a c Y) := by
  unfold kg
  exact q_ifn rfl fun _ => q
theorem q_ckc {r : Option Nat} {X Y : Option (α × AH)} (q : E2 P v X Y) : E2 P v (ckc (mput h 26 v) r c X) (ckc h r c Y) := by
  cases r with
  | none => exact q
  | some a => exact q_ifn rfl fun _ => q
theorem q_aq {r s : Option Nat} {X Y X' Y' : Option (α × AH)} (q : E2 P v X Y) (q' : E2 P v X' Y') : E2 P v (aq r s X X') (aq r s Y Y') := by
  unfold aq
  exact q_if q (q_if q' q_n)
theorem q_rz {x : Int32} {X Y : Option (α × AH)} (q : E2 P v X Y) : E2 P v (rz x X) (rz x Y) := q_if q q_n
theorem q_nz {x : Int32} {X Y : Option (α × AH)} (q : E2 P v X Y) : E2 P v (nz x X) (nz x Y) := q_if q_n q |> fun z => z
theorem q_lt {x : β} {F G : β → Option (α × AH)} (q : E2 P v (F x) (G x)) : E2 P v (lt x F) (lt x G) := q
theorem q_aln {F G : Int32 → Option (α × AH)} (p : ∀ x, E2 P v (F x) (G x)) : E2 P v (aln (mput h 26 v) a F) (aln h a G) := by
  unfold aln
  exact q_if (p _) (q_if (p _) q_n)
theorem q_arG {i : Int32} {F G : Int32 → Option (α × AH)} (p : ∀ x, E2 P v (F x) (G x)) : E2 P v (arG i F) (arG i G) := by
  unfold arG
  exact q_if (p _) q_n
theorem q_nwO {F G : Nat → AH → Option (α × AH)} (R : RP h) (p : ∀ a, na a → ∀ h, RP h → E2 P v (F a (mput h 26 v)) (G a h)) : E2 P v (nwO (mput h 26 v) c F) (nwO h c G) := by
  unfold nwO
  rw [mp_al R]
  exact p _ R.new _ R.al
theorem q_nwA {n : Int32} {F G : Nat → AH → Option (α × AH)} (R : RP h) (p : ∀ a, na a → ∀ h, RP h → E2 P v (F a (mput h 26 v)) (G a h)) : E2 P v (nwA (mput h 26 v) c n F) (nwA h c n G) := by
  unfold nwA
  refine q_ifn rfl fun _ => ?_
  rw [mp_al R]
  exact p _ R.new _ R.al
theorem q_cpI {s d n : Int32} {F G : AH → Option (α × AH)} (R : RP h) (z : na a) (y : na b) (p : ∀ h, RP h → E2 P v (F (mput h 26 v)) (G h)) : E2 P v (cpI (mput h 26 v) a s b d n F) (cpI h a s b d n G) := by
  unfold cpI
  refine q_ifn rfl fun _ => ?_
  rw [mp_gI z, mp_gI y, mp_wI y]; exact p _ R.wI
theorem q_cpO {s d n : Int32} {F G : AH → Option (α × AH)} (R : RP h) (z : na a) (y : na b) (p : ∀ h, RP h → E2 P v (F (mput h 26 v)) (G h)) : E2 P v (cpO (mput h 26 v) a s b d n F) (cpO h a s b d n G) := by
  unfold cpO
  refine q_ifn rfl fun _ => p _ (R.wR y fun k => ?_)
  unfold va_cpy
  split
  · exact R.2.2 a z _
  · exact R.2.2 b y _
theorem q_bd {Q : β → Prop} {X Y : Option (β × AH)} {F G : β → AH → Option (α × AH)} (q : E2 Q v X Y) (p : ∀ x, Q x → ∀ h, RP h → E2 P v (F x (mput h 26 v)) (G x h)) : E2 P v (bd X F) (bd Y G) := by
  rcases q with ⟨q1, q2⟩ | ⟨x, h', q1, q2, q3, q4⟩
  · rw [q1, q2]; exact q_n
  · rw [q1, q2]; exact p x q4 h' q3
end Apart

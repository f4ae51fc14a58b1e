/-! ===== the law's loop ===== -/
section Lw
variable {t : Nat} {h : AH} {v : MV} {G : GH} {Ω : Om}
theorem comb {P : Int32 → Prop} {X Y : Option (Int32 × AH)} {m : Option (Int32 × MV)} (e : E2 P v X Y) (s : SP t h v Y m) : ∃ x h1 v1 G1, X = some (x, mput h1 26 v) ∧ m = some (x, v1) ∧ RP h1 ∧ Al h1 v1 G1 (t + 124) ∧ HI h1 ∧ LV v1 ∧ RmS h v h1 v1 136 := by
  obtain ⟨x, h1, v1, G1, s1, s2, s3, s4, s5, s6⟩ := s
  rcases e with ⟨e1, e2⟩ | ⟨x', h', e1, e2, e3, e4⟩
  · rw [s1] at e2; cases e2
  · rw [s1] at e1
    injection e1 with e1
    injection e1 with e1 e1'
    subst e1
    subst e1'
    exact ⟨x, h1, v1, G1, e2, s2, e3, s3, s4, s5, s6⟩
theorem arX_e {β : Type} {i : Nat} {F : Int32 → Option β} (hi : i < oN Ω) (hN : oN Ω ≤ 2048) : arX Ω (nI i) F = F (oX Ω i) := by
  unfold arX
  rw [if_pos (inb_nI hi (by omega)), nI_clamp (by omega)]
theorem law_c {N k : Nat} (hN : N ≤ 2048) (hk : k ≤ 512) : (nI N - 4 < nI (4 * k)) ↔ N < 4 * k + 4 := by
  by_cases c : 4 ≤ N
  · rw [show (4 : Int32) = nI 4 from rfl, pk_sub c]
    constructor
    · intro z
      by_cases y : N < 4 * k + 4
      · exact y
      · exact absurd z (nI_nlt (by omega) (by omega))
    · intro z
      exact nI_lt (by omega) (by omega)
  · refine ⟨fun _ => by omega, fun _ => Int32.lt_iff_toInt_lt.mpr ?_⟩
    rw [nI_toInt (n := 4 * k) (by omega)]
    have e : N = 0 ∨ N = 1 ∨ N = 2 ∨ N = 3 := by omega
    have n0 : (nI 0 - 4).toInt = -4 := by decide
    have n1 : (nI 1 - 4).toInt = -3 := by decide
    have n2 : (nI 2 - 4).toInt = -2 := by decide
    have n3 : (nI 3 - 4).toInt = -1 := by decide
    rcases e with e | e | e | e <;> subst e <;> omega
theorem na4 : na 4 := by unfold na; omega
theorem law_l (hN : oN Ω ≤ 2048) {Z S : Nat} : ∀ (d k f : Nat) (h : AH) (v : MV) (G : GH), k + d = 512 → d < f → Al h v G (124 * k) → HI h → LV v → RP h → hz h + 24 * KP v ≤ Z + 136 * k → hs h + 2400 * KP v ≤ S + 13600 * k → ∃ h', f_L_law_18 Ω f (some 4) (some 26) (nI (4 * k)) (mput h 26 v) = some (1, h') ∧ hz h' ≤ Z + 69632 ∧ hs h' ≤ S + 6963200 := by
  intro d
  induction d with
  | zero =>
    intro k f h v G hk hf a H L R b1 b2
    obtain ⟨g, rfl⟩ : ∃ g, f = g + 1 := ⟨f - 1, by omega⟩
    rw [f_L_law_18, if_pos ((law_c hN (by omega)).mpr (by omega)), rz_1]
    refine ⟨_, rfl, ?_, ?_⟩
    · show hz h ≤ _; omega
    · show hs h ≤ _; omega
  | succ d ih =>
    intro k f h v G hk hf a H L R b1 b2
    obtain ⟨g, rfl⟩ : ∃ g, f = g + 1 := ⟨f - 1, by omega⟩
    rw [f_L_law_18]
    by_cases c : oN Ω < 4 * k + 4
    · rw [if_pos ((law_c hN (by omega)).mpr c), rz_1]
      refine ⟨_, rfl, ?_, ?_⟩
      · show hz h ≤ _; omega
      · show hs h ≤ _; omega
    rw [if_neg (fun z => c ((law_c hN (by omega)).mp z)), arX_e (by omega) hN]
    have k4 : kd (mput h 26 v) 4 = 12 := a.1.2.1.1.1
    have hh : 27 ≤ hz h := by have := R.2.1; omega
    have p1 : nI (4 * k) + 1 = nI (4 * k + 1) := by rw [show (1 : Int32) = nI 1 from rfl, nI_add]
    have p2 : nI (4 * k) + 2 = nI (4 * k + 2) := by rw [show (2 : Int32) = nI 2 from rfl, nI_add]
    have p3 : nI (4 * k) + 3 = nI (4 * k + 3) := by rw [show (3 : Int32) = nI 3 from rfl, nI_add]
    have p4 : nI (4 * k) + 4 = nI (4 * (k + 1)) := by rw [show (4 : Int32) = nI 4 from rfl, nI_add]; congr 1
    have go : ∀ {h1 : AH} {v1 : MV} {G1 : GH}, RP h1 → Al h1 v1 G1 (124 * k + 124) → HI h1 → LV v1 → RmS h v h1 v1 136 → ∃ h', f_L_law_274 Ω (fun r1 r2 x3 h => f_L_law_18 Ω g r1 r2 x3 h) (some 4) (some 26) (nI (4 * k)) (mput h1 26 v1) = some (1, h') ∧ hz h' ≤ Z + 69632 ∧ hs h' ≤ S + 6963200 := by
      intro h1 v1 G1 R1 A1 H1 L1 r1
      obtain ⟨r1, r2⟩ := r1
      unfold f_L_law_274
      dsimp only
      rw [p4]
      have e1 : 136 * (k + 1) = 136 * k + 136 := Nat.mul_succ 136 k
      have e2 : 13600 * (k + 1) = 13600 * k + 13600 := Nat.mul_succ 13600 k
      have e3 : 124 * (k + 1) = 124 * k + 124 := Nat.mul_succ 124 k
      have A2 := A1
      rw [← e3] at A2
      clear A1 p1 p2 p3 p4 k4
      have b3 : hz h1 + 24 * KP v1 ≤ Z + 136 * (k + 1) := by rw [e1]; omega
      have b4 : hs h1 + 2400 * KP v1 ≤ S + 13600 * (k + 1) := by
        rw [e2, ← Nat.add_assoc]
        exact Nat.le_trans r2 (Nat.add_le_add_right b2 13600)
      exact ih (k + 1) g h1 v1 G1 (by omega) (by omega) A2 H1 L1 R1 b3 b4
    have ht : 124 * k + 126 < 65536 := by omega
    by_cases c0 : (oX Ω (4 * k) &&& 7) = 0
    · rw [if_pos c0]
      obtain ⟨x, h1, v1, G1, y1, y2, y3, y4, y5, y6, y7⟩ := comb (q_X11_send (v := v) (x1 := ((((oX Ω (4 * k + 1)).toInt64 <<< ((32 : Int32).toInt64 &&& 63)) ||| ((oX Ω (4 * k + 2)).toInt64 &&& 4294967295)))) (x3 := oX Ω (4 * k + 3)) R na4) (sendA a H L ((((oX Ω (4 * k + 1)).toInt64 <<< ((32 : Int32).toInt64 &&& 63)) ||| ((oX Ω (4 * k + 2)).toInt64 &&& 4294967295))) (oX Ω (4 * k + 3)))
      have y8 := e_X12_send y3.1 ((((oX Ω (4 * k + 1)).toInt64 <<< ((32 : Int32).toInt64 &&& 63)) ||| ((oX Ω (4 * k + 2)).toInt64 &&& 4294967295))) (oX Ω (4 * k + 3)) v
      rw [y2] at y8
      rw [p1, p2, p3]
      rw [arX_e (by omega) hN, arX_e (by omega) hN, arX_e (by omega) hN, nn_s, kg_e k4, y1, bd_s, arX_e (by omega) hN, arX_e (by omega) hN, arX_e (by omega) hN, nn_s, l_kg y3.1, y8]
      show ∃ h', (if x = x then f_L_law_274 Ω _ (some 4) (some 26) (nI (4 * k)) (mput h1 26 v1) else _) = some (1, h') ∧ _
      rw [if_pos rfl]
      exact go y3 y4 y5 y6 y7
    rw [if_neg c0]
    by_cases c1 : (oX Ω (4 * k) &&& 7) = 1
    · rw [if_pos c1]
      obtain ⟨x, h1, v1, G1, y1, y2, y3, y4, y5, y6, y7⟩ := comb (q_X11_step (v := v)  R na4) (stepC a H L hh ht)
      have y8 := e_X12_step y3.1  v
      rw [y2] at y8
      rw [nn_s, kg_e k4, y1, bd_s, nn_s, l_kg y3.1, y8]
      show ∃ h', (if x = x then f_L_law_274 Ω _ (some 4) (some 26) (nI (4 * k)) (mput h1 26 v1) else _) = some (1, h') ∧ _
      rw [if_pos rfl]
      exact go y3 y4 y5 y6 y7
    rw [if_neg c1]
    by_cases c2 : (oX Ω (4 * k) &&& 7) = 2
    · rw [if_pos c2]
      obtain ⟨x, h1, v1, G1, y1, y2, y3, y4, y5, y6, y7⟩ := comb (q_X11_ready (v := v)  R na4) (readyA a H L )
      have y8 := e_X12_ready y3.1  v
      rw [y2] at y8
      rw [nn_s, kg_e k4, y1, bd_s, nn_s, l_kg y3.1, y8]
      show ∃ h', (if x = x then f_L_law_274 Ω _ (some 4) (some 26) (nI (4 * k)) (mput h1 26 v1) else _) = some (1, h') ∧ _
      rw [if_pos rfl]
      exact go y3 y4 y5 y6 y7
    rw [if_neg c2]
    by_cases c3 : (oX Ω (4 * k) &&& 7) = 3
    · rw [if_pos c3]
      obtain ⟨x, h1, v1, G1, y1, y2, y3, y4, y5, y6, y7⟩ := comb (q_X11_receive (v := v)  R na4) (receiveA a H L )
      have y8 := e_X12_receive y3.1  v
      rw [y2] at y8
      rw [nn_s, kg_e k4, y1, bd_s, nn_s, l_kg y3.1, y8]
      show ∃ h', (if x = x then f_L_law_274 Ω _ (some 4) (some 26) (nI (4 * k)) (mput h1 26 v1) else _) = some (1, h') ∧ _
      rw [if_pos rfl]
      exact go y3 y4 y5 y6 y7
    rw [if_neg c3]
    by_cases c4 : (oX Ω (4 * k) &&& 7) = 4
    · rw [if_pos c4]
      obtain ⟨x, h1, v1, G1, y1, y2, y3, y4, y5, y6, y7⟩ := comb (q_X11_line (v := v)  R na4) (lineA a H L )
      have y8 := e_X12_line y3.1  v
      rw [y2] at y8
      rw [nn_s, kg_e k4, y1, bd_s, nn_s, l_kg y3.1, y8]
      show ∃ h', (if x = x then f_L_law_274 Ω _ (some 4) (some 26) (nI (4 * k)) (mput h1 26 v1) else _) = some (1, h') ∧ _
      rw [if_pos rfl]
      exact go y3 y4 y5 y6 y7
    rw [if_neg c4]
    by_cases c5 : (oX Ω (4 * k) &&& 7) = 5
    · rw [if_pos c5]
      obtain ⟨x, h1, v1, G1, y1, y2, y3, y4, y5, y6, y7⟩ := comb (q_X11_connect (v := v)  R na4) (connectA a H L )
      have y8 := e_X12_connect y3.1  v
      rw [y2] at y8
      rw [nn_s, kg_e k4, y1, bd_s, nn_s, l_kg y3.1, y8]
      show ∃ h', (if x = x then f_L_law_274 Ω _ (some 4) (some 26) (nI (4 * k)) (mput h1 26 v1) else _) = some (1, h') ∧ _
      rw [if_pos rfl]
      exact go y3 y4 y5 y6 y7
    rw [if_neg c5]
    by_cases c6 : (oX Ω (4 * k) &&& 7) = 6
    · rw [if_pos c6]
      obtain ⟨x, h1, v1, G1, y1, y2, y3, y4, y5, y6, y7⟩ := comb (q_X11_channel (v := v) (x1 := oX Ω (4 * k + 1)) (x2 := oX Ω (4 * k + 2)) R na4) (channelA a H L (oX Ω (4 * k + 1)) (oX Ω (4 * k + 2)))
      have y8 := e_X12_channel y3.1 (oX Ω (4 * k + 1)) (oX Ω (4 * k + 2)) v
      rw [y2] at y8
      rw [p1, p2]
      rw [arX_e (by omega) hN, arX_e (by omega) hN, nn_s, kg_e k4, y1, bd_s, arX_e (by omega) hN, arX_e (by omega) hN, nn_s, l_kg y3.1, y8]
      show ∃ h', (if x = x then f_L_law_274 Ω _ (some 4) (some 26) (nI (4 * k)) (mput h1 26 v1) else _) = some (1, h') ∧ _
      rw [if_pos rfl]
      exact go y3 y4 y5 y6 y7
    rw [if_neg c6]
    by_cases c7 : (oX Ω (4 * k) &&& 7) = 7
    · rw [if_pos c7]
      obtain ⟨x, h1, v1, G1, y1, y2, y3, y4, y5, y6, y7⟩ := comb (q_X11_queue (v := v) (x1 := oX Ω (4 * k + 1)) (x2 := oX Ω (4 * k + 2)) R na4) (queueA a H L (oX Ω (4 * k + 1)) (oX Ω (4 * k + 2)))
      have y8 := e_X12_queue y3.1 (oX Ω (4 * k + 1)) (oX Ω (4 * k + 2)) v
      rw [y2] at y8
      rw [p1, p2]
      rw [arX_e (by omega) hN, arX_e (by omega) hN, nn_s, kg_e k4, y1, bd_s, arX_e (by omega) hN, arX_e (by omega) hN, nn_s, l_kg y3.1, y8]
      show ∃ h', (if x = x then f_L_law_274 Ω _ (some 4) (some 26) (nI (4 * k)) (mput h1 26 v1) else _) = some (1, h') ∧ _
      rw [if_pos rfl]
      exact go y3 y4 y5 y6 y7
    rw [if_neg c7]
    exact go R (a.mono (by omega)) H L ⟨by omega, by omega⟩
end Lw

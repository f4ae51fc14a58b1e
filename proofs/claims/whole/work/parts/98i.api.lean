/-! ===== the other calls ===== -/
section Ap
variable {t : Nat} {h h' : AH} {v v' : MV} {G G' : GH}
theorem HI.ci {X : List Nat} (H : HI h) (c : Ci h h' X) (h5 : 5 ∉ X) : HI h' := by
  obtain ⟨k, k1, k2⟩ := H
  exact ⟨k, k1, by rw [c.I h5]; exact k2⟩
theorem lineA (a : Al h v G t) (H : HI h) (L : LV v) : SP t h v (f_X11_line 4 h) (m_line v) := by
  unfold f_X11_line m_line
  rw [rdI_e a.1.2.1.1.1, a.2.2.1]
  exact SP.stay a H L
theorem readyA (a : Al h v G t) (H : HI h) (L : LV v) : SP t h v (f_X11_ready 4 h) (m_ready v) := by
  obtain ⟨o1, o2, o3⟩ := out4 a
  unfold f_X11_ready m_ready
  rw [rdR_e a.1.2.1.1.1, a.1.2.1.1.2.2.1, nn_s, rdI_e a.2.2.2.1.kk.1, o3, o1]
  exact SP.stay a H L
theorem connectA (a : Al h v G t) (H : HI h) (L : LV v) : SP t h v (f_X11_connect 4 h) (m_connect v) := by
  unfold f_X11_connect m_connect
  rw [rdI_e a.1.2.1.1.1, a.2.2.1]
  by_cases e5 : v.1 0 = 5
  · rw [if_pos e5, if_pos e5, wrI_e a.1.2.1.1.1, mwI_e, rz_1, rz_1]
    have kp : KP (mset v 0 0) = KP v := KP_fr (v := v) (v' := mset v 0 0) Fr.upd (by simp)
    have q : hz (sI h 4 4 0) = hz h := rfl
    have q' : hs (sI h 4 4 0) = hs h := rfl
    exact ⟨1, _, _, G, rfl, rfl, a.line.mono (by omega), H.ci (X := [4]) (Ci.fI (by simp)) (by decide), ⟨0, by decide, ms_s⟩, by omega, by omega⟩
  · rw [if_neg e5, if_neg e5, rz_0, rz_0]
    exact SP.stay a H L
theorem receiveA (a : Al h v G t) (H : HI h) (L : LV v) : SP t h v (f_X11_receive 4 h) (m_receive v) := by
  obtain ⟨x, h', v', x1, x2, x3, x4, x5, x6⟩ := recv_ok a.2.2.2.1
  unfold f_X11_receive
  rw [ouE a, x1, bd_s, x2]
  have A : Al h' v' G t := a.ou x3 (x5.mono (by simp)) (x6.mono (by simp) (by simp))
  have kp : KP v' = KP v := KP_fr x6 (by simp)
  have q := x5.1
  have q' := x5.2.1
  obtain ⟨l, l1, l2⟩ := L
  exact ⟨x, h', v', G, rfl, rfl, A.mono (by omega), H.ci x5 (by decide), ⟨l, l1, by rw [x6.1 0 (by decide)]; exact l2⟩, by omega, by omega⟩
theorem add_2 (x : Int64) : ∀ (f : Nat) (k : Int32) (h h' : AH), kd h 5 = 7 → gR h 5 1 = some 6 → f_X6_add_5 f 5 x k h = some ((), h') → gI h' 5 2 = gI h 5 2 := by
  intro f
  induction f with
  | zero => intro k h h' _ _ e; cases e
  | succ f ih =>
    intro k h h' k5 r5 e
    rw [f_X6_add_5] at e
    split at e
    · cases e; rfl
    · rw [rdI_e k5, rdR_e k5, r5, nn_s] at e
      have go : ∀ {z : Int32}, (if z ≤ gI h 5 0 then some ((), h) else rdR h 5 7 1 fun r_5 => rdI h 5 7 0 fun x_6 => nn r_5 fun a_7 => asI h a_7 x_6 ((((x.toUInt64 >>> ((8 * k).toInt64.toUInt64 &&& Int64.toUInt64 63)).toInt64).toInt32) &&& 255) fun h_8 => rdI h_8 5 7 0 fun x_9 => wrI h_8 5 7 0 (x_9 + 1) fun h_10 => f_X6_add_5 f 5 x (k + (-1)) h_10) = some ((), h') → gI h' 5 2 = gI h 5 2 := fun {z} e => by
        split at e
        · cases e; rfl
        · rw [rdR_e k5, rdI_e k5, r5, nn_s] at e
          unfold asI at e
          split at e
          · dsimp only at e
            rw [rdI_e (by exact k5), wrI_e (by exact k5)] at e
            have q := ih _ _ _ (by exact k5) (by exact r5) e
            rw [q, gI_sI, if_neg (by simp), gI_sIn (by decide)]
          · cases e
      unfold aln at e
      split at e
      · exact go e
      · split at e
        · exact go e
        · cases e
theorem sendA (a : Al h v G t) (H : HI h) (L : LV v) (x : Int64) (n : Int32) : SP t h v (f_X11_send 4 x n h) (m_send x n v) := by
  have i := a.2.2.2.2
  have k4 := a.1.2.1.1.1
  obtain ⟨i1, i2, i3, i4, i5, i6, i7⟩ := a.2.2.2.2
  have c1 : v.1 2 = nI (cN v 2) := i5.1
  have hc := i5.2
  unfold f_X11_send m_send
  rw [rdI_e k4, a.2.2.1]
  by_cases e5 : v.1 0 = 5
  · rw [if_pos e5, if_pos e5]; exact SP.stay a H L
  rw [if_neg e5, if_neg e5]
  by_cases n1 : n < 1
  · rw [if_pos n1, if_pos n1]; exact SP.stay a H L
  rw [if_neg n1, if_neg n1]
  by_cases n8 : 8 < n
  · rw [if_pos n8, if_pos n8]; exact SP.stay a H L
  rw [if_neg n8, if_neg n8, rdR_e k4, a.1.2.1.1.2.1, nn_s, rdI_e i1, i6]
  obtain ⟨k, k1, rfl⟩ : ∃ k, k ≤ 8 ∧ n = nI k := by
    have e1 : ¬ n.toInt < 1 := fun z => n1 (Int32.lt_iff_toInt_lt.mpr z)
    have e8 : ¬ 8 < n.toInt := fun z => n8 (Int32.lt_iff_toInt_lt.mpr z)
    refine ⟨n.toInt.toNat, by omega, Int32.toInt_inj.mp ?_⟩
    rw [nI_toInt (by omega)]
    omega
  rw [c1, nI_add]
  by_cases c3 : cN v 2 + k ≤ 300
  · have d : nI (cN v 2 + k) ≤ (300 : Int32) := nI_le (b := 300) c3 (by decide)
    rw [if_pos d, if_pos d, rdR_e k4, a.1.2.1.1.2.1, nn_s, kg_e i1, ltd]
    unfold f_X6_add
    rw [ltd]
    obtain ⟨ha, va, y1, y2, y3, y4, y5⟩ := send_l x k FU h v k1 (by unfold FU; omega) i c3
    have A := a.inb y4 y5 (by decide) (by decide) y3
    rw [y1, bd_s, rdR_e A.1.2.1.1.1, A.1.2.1.1.2.1, nn_s, rdI_e y3.1, y3.2.2.2.2.2.1, y2]
    have kp : KP va = KP v := KP_fr y5 (by decide)
    have q := y4.1
    have q' := y4.2.1
    obtain ⟨l, l1, l2⟩ := L
    obtain ⟨j, j1, j2⟩ := H
    exact ⟨_, ha, va, G, rfl, rfl, A.mono (by omega), ⟨j, j1, by rw [add_2 x _ _ _ _ i1 i2 y1]; exact j2⟩, ⟨l, l1, by rw [y5.1 0 (by decide)]; exact l2⟩, by omega, by omega⟩
  · have d : ¬ nI (cN v 2 + k) ≤ (300 : Int32) := nI_ge (a := 300) (by omega) (by omega)
    rw [if_neg d, if_neg d]
    exact SP.stay a H L
end Ap

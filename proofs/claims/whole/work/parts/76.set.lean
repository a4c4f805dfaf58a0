theorem p_isSetting {v1 v2 : Int} (hv1 : inR v1) (hv2 : inR v2) (M : Mem) : f_X10_isSetting v1 v2 M = some (if (0 ≤ v1 ∧ v1 < 6) ∧ zR0 v1.toNat ≤ v2 ∧ v2 ≤ zR1 v1.toNat then 1 else 0, M) := by
  have key : ∀ a b : Int, (0 ≤ v1 ∧ v1 < 6) → zR0 v1.toNat = a → zR1 v1.toNat = b → (if a ≤ v2 ∧ v2 ≤ b then (1 : Int) else 0) = if (0 ≤ v1 ∧ v1 < 6) ∧ zR0 v1.toNat ≤ v2 ∧ v2 ≤ zR1 v1.toNat then 1 else 0 := by
    intro a b h e1 e2
    rw [e1, e2]
    exact ite_c ⟨fun q => ⟨h, q⟩, fun q => q.2⟩ _ _
  unfold f_X10_isSetting f_X10_isSetting_b36 f_X10_isSetting_b87 f_X10_isSetting_b88
  rw [if_pos hv1]
  by_cases e0 : v1 = 0
  · rw [if_pos e0, p_in hv2 (by decide) (by decide), zbS, bit01, key 1 30 (by omega) (by rw [e0]; rfl) (by rw [e0]; rfl)]
  rw [if_neg e0]
  by_cases e1 : v1 = 1
  · rw [if_pos e1, p_in hv2 (by decide) (by decide), zbS, bit01, key 1 60 (by omega) (by rw [e1]; rfl) (by rw [e1]; rfl)]
  rw [if_neg e1]
  by_cases e2 : v1 = 2
  · rw [if_pos e2, p_in hv2 (by decide) (by decide), zbS, bit01, key 1 90 (by omega) (by rw [e2]; rfl) (by rw [e2]; rfl)]
  rw [if_neg e2]
  by_cases e3 : v1 = 3
  · rw [if_pos e3, p_in hv2 (by decide) (by decide), zbS, bit01, key 0 16 (by omega) (by rw [e3]; rfl) (by rw [e3]; rfl)]
  rw [if_neg e3]
  by_cases e4 : v1 = 4
  · rw [if_pos e4, p_in hv2 (by decide) (by decide), zbS, bit01, key 1 30 (by omega) (by rw [e4]; rfl) (by rw [e4]; rfl)]
  rw [if_neg e4]
  by_cases e5 : v1 = 5
  · rw [← key 0 100 (by omega) (by rw [e5]; rfl) (by rw [e5]; rfl), if_pos e5, p_in hv2 (by decide) (by decide), zbS, bitR, bit0]
    by_cases q : 0 ≤ v2 ∧ v2 ≤ 100
    · rw [if_pos q, if_pos q, if_pos (Or.inr rfl)]
    · rw [if_neg q, if_neg q, if_pos (Or.inl rfl)]
  rw [if_neg e5, if_pos (Or.inl rfl), if_neg (fun q => by omega)]
theorem zR_in : ∀ j, j < 6 → inR (zR0 j) ∧ inR (zR1 j) := by decide
theorem c_set {v1 v2 : Int} (hv1 : inR v1) (hv2 : inR v2) : CallOK (f_X9_set v1 v2) (f_X10_set v1 v2) := by
  intro B M Q I hB
  have hS := I.2.1.1
  have W := I.2.1.2.1
  have g := p_isSetting hv1 hv2 Q
  by_cases c1 : 0 ≤ v1 ∧ v1 ≤ 5
  · have h6 : 0 ≤ v1 ∧ v1 < 6 := by omega
    have hz := zR_in v1.toNat (by omega)
    by_cases c2 : zR0 v1.toNat ≤ v2 ∧ v2 ≤ zR1 v1.toNat
    · rw [if_pos ⟨h6, c2⟩] at g
      have a0 : M 2 v1.toNat = enc false (Q 216 (856 + v1).toNat) := hS.1.num h6.1 h6.2
      simp only [enc, Bool.false_eq_true, if_false] at a0
      have hb : 0 ≤ Q 216 (856 + v1).toNat ∧ Q 216 (856 + v1).toNat ≤ 100 := by
        have hc : v1 = 0 ∨ v1 = 1 ∨ v1 = 2 ∨ v1 = 3 ∨ v1 = 4 ∨ v1 = 5 := by omega
        rcases hc with rfl | rfl | rfl | rfl | rfl | rfl
        · have h := WF1_len W.1; exact (show 0 ≤ Q 216 856 ∧ Q 216 856 ≤ 100 by omega)
        · have h := WF1_life W.1; exact (show 0 ≤ Q 216 857 ∧ Q 216 857 ≤ 100 by omega)
        · have h := WF1_marg W.1; exact (show 0 ≤ Q 216 858 ∧ Q 216 858 ≤ 100 by omega)
        · have h := WF1_drov W.1; exact (show 0 ≤ Q 216 859 ∧ Q 216 859 ≤ 100 by omega)
        · have h := WF1_pst W.1; exact (show 0 ≤ Q 216 860 ∧ Q 216 860 ≤ 100 by omega)
        · have h := WF1_warm W.1; exact (show 0 ≤ Q 216 861 ∧ Q 216 861 ≤ 100 by omega)
      by_cases c3 : Q 216 (856 + v1).toNat = v2
      · refine call_no I (x := -5) ?_ ?_
        · unfold f_X9_set
          rw [q_in hv1 (by decide) (by decide), zbS, bitR, bit0, if_pos c1, if_pos h6, q_in hv2 hz.1 hz.2, zbS, bitR, bit0, if_pos c2, zltS, a0, if_pos (by omega), if_pos hv2, if_pos c3]
        · unfold f_X10_set f_X10_set_b23 f_X10_put
          rw [g, zbS, if_pos (by decide), if_neg (by decide), if_pos (by omega), zltS, if_pos (by omega), if_pos hv2, if_pos c3, zbS]
      · obtain ⟨M1, Q1, s1, s2, I1, hr, kc, km⟩ := x_store I
        have W1 := I1.2.1.2.1
        have hw : WF B (up (Q1 216) (856 + v1).toNat v2) := c_setrow W1 h6 c2
        refine ⟨Q 216 (856 + v1).toNat, wr M1 2 v1.toNat v2, wr Q1 216 (856 + v1).toNat v2, ?_, ?_, c_put1 I1 (ST0.num_w I1.2.1.1.1 h6.1 h6.2 rfl) hw (Kp_wr Kp_id (by decide)) (wr_ne (by decide)) (by omega), fun y hy => by rw [wr_ne (by omega), kc y (by omega)], fun y hy => by rw [wr_ne (by omega), km.1 y (by omega) (by omega)]⟩
        · unfold f_X9_set
          rw [q_in hv1 (by decide) (by decide), zbS, bitR, bit0, if_pos c1, if_pos h6, q_in hv2 hz.1 hz.2, zbS, bitR, bit0, if_pos c2, zltS, a0, if_pos (by omega), if_pos hv2, if_neg c3, s1, zbS, zltS]
        · unfold f_X10_set f_X10_set_b23 f_X10_put
          rw [g, zbS, if_pos (by decide), if_neg (by decide), if_pos (by omega), zltS, if_pos (by omega), if_pos hv2, if_neg c3, s2, zbS, zltS, zbS]
    · rw [if_neg (fun q => c2 q.2)] at g
      refine call_no I (x := -2) ?_ ?_
      · unfold f_X9_set
        rw [q_in hv1 (by decide) (by decide), zbS, bitR, bit0, if_pos c1, if_pos h6, q_in hv2 hz.1 hz.2, zbS, bitR, bit0, if_neg c2]
      · unfold f_X10_set f_X10_set_b23
        rw [g, zbS, if_pos (by decide), if_pos rfl]
  · rw [if_neg (fun q => c1 ⟨q.1.1, by omega⟩)] at g
    refine call_no I (x := -2) ?_ ?_
    · unfold f_X9_set
      rw [q_in hv1 (by decide) (by decide), zbS, bitR, bit0, if_neg c1]
    · unfold f_X10_set f_X10_set_b23
      rw [g, zbS, if_pos (by decide), if_pos rfl]
theorem WF2_d {r r' : Row} (hn : 0 ≤ r 863) (h : ∀ j, (j < 416 ∧ (32 ≤ j ∨ j % 4 = 2)) ∨ j = 862 ∨ j = 863 → r' j = r j) (W : WF2 r) : WF2 r' := by
  obtain ⟨u1, u2, u3, rk, u4⟩ := W
  refine ⟨fun p y p0 p1 y0 y1 => ?_, fun p y p0 p1 y0 y1 => ?_, fun p y p0 p1 y0 y1 => ?_, ⟨rk, fun p y p0 p1 y0 y1 => ?_⟩⟩
  · rw [h _ (by omega), h _ (by omega), h _ (by omega)]; exact u1 p y p0 p1 y0 y1
  · rw [h _ (by omega), h _ (by omega)]; exact u2 p y p0 p1 y0 y1
  · rw [h _ (by omega)] at p0; rw [h _ (by omega), h _ (by omega)]; exact u3 p y p0 p1 y0 y1
  · rw [h _ (by omega)]; exact u4 p y p0 p1 y0 y1
theorem c_setRoom {v1 v2 : Int} (hv1 : inR v1) (hv2 : inR v2) : CallOK (f_X9_setRoom v1 v2) (f_X10_setRoom v1 v2) := by
  intro B M Q I hB
  obtain ⟨g1, g2⟩ := isP I hv1
  have hS := I.2.1.1
  have W := I.2.1.2.1
  have hn := WF1_n W.1
  by_cases c1 : 0 ≤ v1 ∧ v1 < Q 216 863
  · have hp : 0 ≤ v1 ∧ v1 < 8 := by omega
    have hb := WF1_room W.1 hp.1 hp.2
    have a1 : M 6 v1.toNat = enc false (Q 216 ((0 + 4 * v1) + 1).toNat) := hS.1.room hp.1 hp.2
    have a3 : M 7 v1.toNat = cntAt (Q 216) v1 16 := hS.2 v1 hp.1 hp.2
    simp only [enc, Bool.false_eq_true, if_false] at a1
    have hc := cntAt_b (Q 216) v1 16
    by_cases c2 : 1 ≤ v2 ∧ v2 ≤ 16
    · by_cases c4 : cntAt (Q 216) v1 16 ≤ v2
      · by_cases c3 : Q 216 ((0 + 4 * v1) + 1).toNat = v2
        · refine call_no I (x := -5) ?_ ?_
          · unfold f_X9_setRoom
            rw [g1, zbS, bitR, bit0, if_pos c1, q_in hv2 (by decide) (by decide), zbS, bitR, bit0, if_pos c2, if_pos hp, a3, if_pos (by omega), if_pos hv2, if_pos c4, zltS, a1, if_pos (by omega), if_pos c3]
          · unfold f_X10_setRoom f_X10_roomOf
            rw [g2, zbS, bitR, bit0, if_pos c1, p_in hv2 (by decide) (by decide), zbS, bitR, bit0, if_pos c2, p_shardsIn W.1 hv1, zbS, if_pos (by omega), if_pos hv2, if_pos c4, if_pos (by omega), zbS, if_pos (by omega), if_pos c3]
        · obtain ⟨M1, Q1, s1, s2, I1, hr, kc, km⟩ := x_store I
          have W1 := I1.2.1.2.1
          have hw : WF B (up (Q1 216) ((0 + 4 * v1) + 1).toNat v2) := ⟨WF1_room_w W1.1 hp.1 hp.2 (by omega), WF2_d (by have := WF1_n W1.1; omega) (fun j hj => up_ne (by omega)) W1.2.1, WF3_c (WF1_nr W1.1).1 (fun j j1 j2 j3 j4 => up_ne (by omega)) W1.2.2⟩
          refine ⟨Q 216 ((0 + 4 * v1) + 1).toNat, wr M1 6 v1.toNat v2, wr Q1 216 ((0 + 4 * v1) + 1).toNat v2, ?_, ?_, c_put1 I1 (ST0.room_w I1.2.1.1.1 hp.1 hp.2 rfl) hw (Kp_wr Kp_id (by decide)) (wr_ne (by decide)) (by omega), fun y hy => by rw [wr_ne (by omega), kc y (by omega)], fun y hy => by rw [wr_ne (by omega), km.1 y (by omega) (by omega)]⟩
          · unfold f_X9_setRoom
            rw [g1, zbS, bitR, bit0, if_pos c1, q_in hv2 (by decide) (by decide), zbS, bitR, bit0, if_pos c2, if_pos hp, a3, if_pos (by omega), if_pos hv2, if_pos c4, zltS, a1, if_pos (by omega), if_neg c3, s1, zbS, zltS]
          · unfold f_X10_setRoom f_X10_roomOf
            rw [g2, zbS, bitR, bit0, if_pos c1, p_in hv2 (by decide) (by decide), zbS, bitR, bit0, if_pos c2, p_shardsIn W.1 hv1, zbS, if_pos (by omega), if_pos hv2, if_pos c4, if_pos (by omega), zbS, if_pos (by omega), if_neg c3, s2, zbS, if_pos (by omega), zltS]
      · refine call_no I (x := -4) ?_ ?_
        · unfold f_X9_setRoom
          rw [g1, zbS, bitR, bit0, if_pos c1, q_in hv2 (by decide) (by decide), zbS, bitR, bit0, if_pos c2, if_pos hp, a3, if_pos (by omega), if_pos hv2, if_neg c4]
        · unfold f_X10_setRoom
          rw [g2, zbS, bitR, bit0, if_pos c1, p_in hv2 (by decide) (by decide), zbS, bitR, bit0, if_pos c2, p_shardsIn W.1 hv1, zbS, if_pos (by omega), if_pos hv2, if_neg c4]
    · refine call_no I (x := -2) ?_ ?_
      · unfold f_X9_setRoom
        rw [g1, zbS, bitR, bit0, if_pos c1, q_in hv2 (by decide) (by decide), zbS, bitR, bit0, if_neg c2]
      · unfold f_X10_setRoom
        rw [g2, zbS, bitR, bit0, if_pos c1, p_in hv2 (by decide) (by decide), zbS, bitR, bit0, if_neg c2]
  · refine call_no I (x := -1) ?_ ?_
    · unfold f_X9_setRoom
      rw [g1, zbS, bitR, bit0, if_neg c1]
    · unfold f_X10_setRoom
      rw [g2, zbS, bitR, bit0, if_neg c1]

theorem WF3_e {r r' : Row} (h : ∀ j, (448 ≤ j ∧ j < 464) ∨ (726 ≤ j ∧ j < 756) ∨ j = 865 ∨ j = 866 ∨ j = 869 ∨ j = 870 → r' j = r j) (hn : 0 ≤ r 865) (W : WF3 r) : WF3 r' := by
  obtain ⟨t1, t2, t3, t4⟩ := W
  refine ⟨?_, ?_, ?_, fun i i0 i1 => ?_⟩
  · rw [h 866 (by omega), t1]; exact sumN_congr (fun i hi => (h _ (by omega)).symm)
  · rw [h 869 (by omega), t2]; exact sumN_congr (fun i hi => (h _ (by omega)).symm)
  · rw [h 870 (by omega), t3]; exact sumN_congr (fun i hi => (h _ (by omega)).symm)
  · rw [h 865 (by omega)] at i0
    rw [h _ (by omega), h _ (by omega)]
    exact t4 i i0 i1
theorem WF1_np_w {B : Int} {r : Row} (W : WF1 B r) (h : r 863 < 8) : WF1 B (up r 863 (r 863 + 1)) := by
  have hn := WF1_n W
  intro j hj
  rw [up_eq]
  by_cases e : j = 863
  · rw [e, up_eq]
    exact (show 1 ≤ r 863 + 1 ∧ r 863 + 1 ≤ 8 by omega)
  · rw [up_ne e]
    exact okV_mono (by omega) (Int.le_refl _) (W j hj)
/-- one pasture more -/
def addF (r : Row) (v1 v2 v3 : Int) : Row := up (up (up (up r (0 + 4 * r 863).toNat v1) ((0 + 4 * r 863) + 1).toNat v2) ((0 + 4 * r 863) + 2).toNat v3) 863 (r 863 + 1)
theorem addF_o {r : Row} (hn : 1 ≤ r 863 ∧ r 863 < 8) {v1 v2 v3 : Int} {j : Nat} (h1 : j ≠ (0 + 4 * r 863).toNat) (h2 : j ≠ ((0 + 4 * r 863) + 1).toNat) (h3 : j ≠ ((0 + 4 * r 863) + 2).toNat) (h4 : j ≠ 863) : addF r v1 v2 v3 j = r j := by
  unfold addF
  rw [up_ne h4, up_ne h3, up_ne h2, up_ne h1]
theorem addF_wf {B : Int} {r : Row} (W : WF B r) (h8 : r 863 < 8) {v1 v2 v3 : Int} (h1 : 0 ≤ v1 ∧ v1 ≤ 90) (h2 : 0 ≤ v2 ∧ v2 ≤ 16) (h3 : 0 ≤ v3 ∧ v3 ≤ 1) : WF B (addF r v1 v2 v3) := by
  have hn := WF1_n W.1
  have hb : 0 ≤ r 863 ∧ r 863 < 8 := by omega
  have w1 := WF1_lat_w W.1 hb.1 hb.2 h1
  have w2 := WF1_room_w w1 hb.1 hb.2 h2
  have w3 := WF1_inn_w w2 hb.1 hb.2 h3
  have e0 : (up (up (up r (0 + 4 * r 863).toNat v1) ((0 + 4 * r 863) + 1).toNat v2) ((0 + 4 * r 863) + 2).toNat v3) 863 = r 863 := by rw [up_ne (by omega), up_ne (by omega), up_ne (by omega)]
  have w4 := WF1_np_w w3 (by rw [e0]; exact h8)
  rw [e0] at w4
  have e1 : addF r v1 v2 v3 863 = r 863 + 1 := up_eq _ _ _
  have hno : ∀ j, 32 ≤ j → j ≠ 863 → addF r v1 v2 v3 j = r j := fun j q1 q2 => addF_o (by omega) (by omega) (by omega) (by omega) q2
  obtain ⟨u1, u2, u3, rk, u4⟩ := W.2.1
  refine ⟨w4, ⟨fun q y q0 q1 y0 y1 => ?_, fun q y q0 q1 y0 y1 => ?_, fun q y q0 q1 y0 y1 => ?_, ⟨rk, fun q y q0 q1 y0 y1 => ?_⟩⟩, WF3_e (fun j h => hno j (by omega) (by omega)) (WF1_nr W.1).1 W.2.2⟩
  · rw [hno _ (by omega) (by omega), hno _ (by omega) (by omega), hno _ (by omega) (by omega)]
    exact u1 q y q0 q1 y0 y1
  · rw [hno (32 + 16 * q + y).toNat (by omega) (by omega)]
    by_cases e : q = r 863
    · intro _
      exact u2 q y q0 q1 y0 y1 (u3 q y (by omega) q1 y0 y1).1
    · rw [addF_o (by omega) (by omega) (by omega) (by omega) (by omega)]
      exact u2 q y q0 q1 y0 y1
  · rw [e1] at q0
    rw [hno (160 + 16 * q + y).toNat (by omega) (by omega), addF_o (by omega) (by omega) (by omega) (by omega) (by omega)]
    exact u3 q y (by omega) q1 y0 y1
  · rw [hno _ (by omega) (by omega)]
    exact u4 q y q0 q1 y0 y1
theorem c_addPasture {v1 v2 v3 : Int} (hv1 : inR v1) (hv2 : inR v2) (hv3 : v3 = 0 ∨ v3 = 1) : CallOK (f_X9_addPasture v1 v2 v3) (f_X10_addPasture v1 v2 v3) := by
  intro B M Q I hB
  have hS := I.2.1.1
  have W := I.2.1.2.1
  have hn := WF1_n W.1
  have r3 : inR v3 := by rcases hv3 with h | h <;> rw [h] <;> decide
  have a0 : M 4 0 = Q 216 863 := hS.1.np
  by_cases c1 : 0 ≤ v1 ∧ v1 ≤ 90
  · by_cases c2 : 1 ≤ v2 ∧ v2 ≤ 16
    · by_cases c3 : Q 216 863 < 8
      · obtain ⟨M1, Q1, s1, s2, I1, hr, kc, km⟩ := x_store I
        have W1 := I1.2.1.2.1
        have e3 : Q1 216 863 = Q 216 863 := hr 863 (by decide)
        have a1 : M1 4 0 = Q1 216 863 := I1.2.1.1.1.np
        have hb : 0 ≤ Q1 216 863 ∧ Q1 216 863 < 8 := by omega
        have hb1 : 1 ≤ Q1 216 863 ∧ Q1 216 863 < 8 := by omega
        have t0 := ST0.lat_w (v := v1) (w := v1) I1.2.1.1.1 hb.1 hb.2 rfl
        have t1 := ST0.room_w (v := v2) (w := v2) t0 hb.1 hb.2 rfl
        have t2 := ST0.inn_w (v := v3) (w := v3) t1 hb.1 hb.2 rfl
        have t3 : ST0 (wr (wr (wr (wr M1 5 (Q1 216 863).toNat v1) 6 (Q1 216 863).toNat v2) 9 (Q1 216 863).toNat v3) 4 0 (Q1 216 863 + 1)) 1 (addF (Q1 216) v1 v2 v3) := ST0.np_w t2 (Q1 216 863 + 1)
        have hw : WF B (addF (Q1 216) v1 v2 v3) := addF_wf W1 hb.2 c1 (by omega) (by omega)
        have hno : ∀ j, 32 ≤ j → j ≠ 863 → addF (Q1 216) v1 v2 v3 j = Q1 216 j := fun j q1 q2 => addF_o hb1 (by omega) (by omega) (by omega) q2
        have K : Kp 1 28 M1 (wr (wr (wr (wr M1 5 (Q1 216 863).toNat v1) 6 (Q1 216 863).toNat v2) 9 (Q1 216 863).toNat v3) 4 0 (Q1 216 863 + 1)) := Kp_wr (Kp_wr (Kp_wr (Kp_wr Kp_id (by decide)) (by decide)) (by decide)) (by decide)
        refine ⟨Q1 216 863, wr (wr (wr (wr M1 5 (Q1 216 863).toNat v1) 6 (Q1 216 863).toNat v2) 9 (Q1 216 863).toNat v3) 4 0 (Q1 216 863 + 1), ml Q1 216 (addF (Q1 216) v1 v2 v3), ?_, ?_, Inv2_op I1 (by omega) (ST_w I1.2.1.1 t3 (by rw [wr_ne (by decide), wr_ne (by decide), wr_ne (by decide), wr_ne (by decide)]) (fun i hi => hno _ (by omega) (by omega))) (WF_B hw (by omega)) (show addF (Q1 216) v1 v2 v3 862 ≤ 9999 by rw [hno 862 (by omega) (by omega)]; exact I1.2.1.2.2) (ml_eq _ _ _) (fun j h1 _ => hno j (by omega) (by omega)) (fun y hy => K y (by omega)) (by rw [K 210 (by omega)]) (fun j _ => by rw [ml_ne (by decide)]) (ml_ne (by decide)), fun y hy => by rw [K y (by omega), kc y (by omega)], fun y hy => by rw [ml_ne (by omega), km.1 y (by omega) (by omega)]⟩
        · unfold f_X9_addPasture f_X2_found
          rw [q_in hv1 (by decide) (by decide), zbS, bitR, bit0, if_pos c1, q_in hv2 (by decide) (by decide), zbS, bitR, bit0, if_pos c2, a0, if_pos (by omega), if_pos c3, s1, zbS, zltS, a1, if_pos hb, zltS, zltS, if_pos hv3, zltS, zltS, zbS, wr_ne (show 4 ≠ 4 + 5 by decide), wr_ne (show 4 ≠ 4 + 2 by decide), wr_ne (show 4 ≠ 4 + 1 by decide), a1]
        · have f1 : ∀ f : Row, ml Q1 216 f 216 = f := fun f => ml_eq _ _ _
          have f3 : (up (up (up (Q1 216) (0 + 4 * Q1 216 863).toNat v1) ((0 + 4 * Q1 216 863) + 1).toNat v2) ((0 + 4 * Q1 216 863) + 2).toNat v3) 863 = Q1 216 863 := by rw [up_ne (by omega), up_ne (by omega), up_ne (by omega)]
          have hb100 : f_X10_addPasture_b100 (Q1 216 863) v3 ((0 + (4 * Q1 216 863)) + 2) (wr (wr Q1 216 (0 + (4 * Q1 216 863)).toNat v1) 216 ((0 + (4 * Q1 216 863)) + 1).toNat v2) = some (Q1 216 863, ml Q1 216 (addF (Q1 216) v1 v2 v3)) := by
            unfold f_X10_addPasture_b100 addF
            rw [if_pos (by omega), zltS, zltS, wr_as Q1, wr_as (ml Q1 216 _), f1, ml_ml, wr_as (ml Q1 216 _), f1, ml_ml, wr_as (ml Q1 216 _), f1, ml_ml, f3]
          unfold f_X10_addPasture
          rw [p_in hv1 (by decide) (by decide), zbS, bitR, bit0, if_pos c1, p_in hv2 (by decide) (by decide), zbS, bitR, bit0, if_pos c2, if_pos (by omega), if_neg (by omega), s2, zbS, zltS, if_pos (by omega), zltS, if_pos (by omega), zltS, if_pos r3]
          rcases hv3 with h | h
          · rw [h] at hb100 ⊢
            rw [if_pos rfl]
            exact hb100
          · rw [h] at hb100 ⊢
            rw [if_neg (by decide)]
            exact hb100
      · refine call_no I (x := -3) ?_ ?_
        · unfold f_X9_addPasture
          rw [q_in hv1 (by decide) (by decide), zbS, bitR, bit0, if_pos c1, q_in hv2 (by decide) (by decide), zbS, bitR, bit0, if_pos c2, a0, if_pos (by omega), if_neg c3]
        · unfold f_X10_addPasture
          rw [p_in hv1 (by decide) (by decide), zbS, bitR, bit0, if_pos c1, p_in hv2 (by decide) (by decide), zbS, bitR, bit0, if_pos c2, if_pos (by omega), if_pos (by omega)]
    · refine call_no I (x := -2) ?_ ?_
      · unfold f_X9_addPasture f_X9_addPasture_b20
        rw [q_in hv1 (by decide) (by decide), zbS, bitR, bit0, if_pos c1, q_in hv2 (by decide) (by decide), zbS, bitR, bit0, if_neg c2]
      · unfold f_X10_addPasture f_X10_addPasture_b20
        rw [p_in hv1 (by decide) (by decide), zbS, bitR, bit0, if_pos c1, p_in hv2 (by decide) (by decide), zbS, bitR, bit0, if_neg c2]
  · refine call_no I (x := -2) ?_ ?_
    · unfold f_X9_addPasture f_X9_addPasture_b20
      rw [q_in hv1 (by decide) (by decide), zbS, bitR, bit0, if_neg c1]
    · unfold f_X10_addPasture f_X10_addPasture_b20
      rw [p_in hv1 (by decide) (by decide), zbS, bitR, bit0, if_neg c1]

theorem c_addWolf {v1 v2 : Int} (hv1 : inR v1) (hv2 : inR v2) : CallOK (f_X9_addWolf v1 v2) (f_X10_addWolf v1 v2) := by
  intro B M Q I hB
  obtain ⟨g1, g2⟩ := isP I hv1
  have hS := I.2.1.1
  have W := I.2.1.2.1
  have hn := WF1_n W.1
  have hw := WF1_nw W.1
  have a0 : M 19 0 = Q 216 864 := hS.1.nw
  by_cases c1 : 0 ≤ v1 ∧ v1 < Q 216 863
  · by_cases c2 : 1 ≤ v2 ∧ v2 ≤ 7
    · by_cases c3 : Q 216 864 < 3
      · obtain ⟨M1, Q1, s1, s2, I1, hr, kc, km⟩ := x_store I
        have W1 := I1.2.1.2.1
        have e1 : Q1 216 864 = Q 216 864 := hr 864 (by decide)
        have e3 : Q1 216 863 = Q 216 863 := hr 863 (by decide)
        have a1 : M1 19 0 = Q1 216 864 := I1.2.1.1.1.nw
        have h3 : 0 ≤ Q1 216 864 ∧ Q1 216 864 < 3 := by omega
        have s0 := ST0.wat_w (v := v1) I1.2.1.1.1 h3.1 h3.2 rfl
        have s3 := ST0.wstr_w (v := v2) s0 h3.1 h3.2 rfl
        have s4 := ST0.nw_w s3 (Q1 216 864 + 1)
        have w0 : WF1 B (up (Q1 216) (720 + 2 * Q1 216 864).toNat v1) := WF1_wat_w W1.1 h3.1 h3.2 (by omega)
        have w1 := WF1_wst_w w0 h3.1 h3.2 (v := v2) (by omega)
        have w2 : WF1 B (up (up (up (Q1 216) (720 + 2 * Q1 216 864).toNat v1) ((720 + 2 * Q1 216 864) + 1).toNat v2) 864 (Q1 216 864 + 1)) := WF1_up w1 (by decide) (show 0 ≤ Q1 216 864 + 1 ∧ Q1 216 864 + 1 ≤ 3 by omega)
        have hno : ∀ j, (j < 720 ∨ 726 ≤ j) → j ≠ 864 → (up (up (up (Q1 216) (720 + 2 * Q1 216 864).toNat v1) ((720 + 2 * Q1 216 864) + 1).toNat v2) 864 (Q1 216 864 + 1)) j = Q1 216 j := fun j h1 h2 => by rw [up_ne h2, up_ne (by omega), up_ne (by omega)]
        have hwf : WF B (up (up (up (Q1 216) (720 + 2 * Q1 216 864).toNat v1) ((720 + 2 * Q1 216 864) + 1).toNat v2) 864 (Q1 216 864 + 1)) := ⟨w2, WF2_c (by omega) (fun j hj => hno j (by omega) (by omega)) W1.2.1, WF3_c (WF1_nr W1.1).1 (fun j j1 j2 j3 j4 => hno j (by omega) j4) W1.2.2⟩
        have K : Kp 1 28 M1 (wr (wr (wr M1 20 (Q1 216 864).toNat v1) 21 (Q1 216 864).toNat v2) 19 0 (Q1 216 864 + 1)) := Kp_wr (Kp_wr (Kp_wr Kp_id (by decide)) (by decide)) (by decide)
        refine ⟨Q1 216 864, wr (wr (wr M1 20 (Q1 216 864).toNat v1) 21 (Q1 216 864).toNat v2) 19 0 (Q1 216 864 + 1), ml Q1 216 (up (up (up (Q1 216) (720 + 2 * Q1 216 864).toNat v1) ((720 + 2 * Q1 216 864) + 1).toNat v2) 864 (Q1 216 864 + 1)), ?_, ?_, Inv2_op I1 (by omega) (ST_w I1.2.1.1 s4 (by rw [wr_ne (by decide), wr_ne (by decide), wr_ne (by decide)]) (fun i hi => hno _ (by omega) (by omega))) (WF_B hwf (by omega)) (by rw [hno 862 (by omega) (by omega)]; exact I1.2.1.2.2) (ml_eq _ _ _) (fun j h1 _ => hno j (by omega) (by omega)) (fun y hy => K y (by omega)) (by rw [K 210 (by omega)]) (fun j _ => by rw [ml_ne (by decide)]) (ml_ne (by decide)), fun y hy => by rw [K y (by omega), kc y (by omega)], fun y hy => by rw [ml_ne (by omega), km.1 y (by omega) (by omega)]⟩
        · unfold f_X9_addWolf f_X3_join
          rw [g1, zbS, bitR, bit0, if_pos c1, q_in hv2 (by decide) (by decide), zbS, bitR, bit0, if_pos c2, a0, if_pos (by omega), if_pos c3, s1, zbS, zltS, a1, if_pos h3, zltS, zltS, zltS, zbS, wr_ne (show 19 ≠ 19 + 2 by decide), wr_ne (show 19 ≠ 19 + 1 by decide), a1]
        · unfold f_X10_addWolf
          have f1 : ∀ f : Row, ml Q1 216 f 216 = f := fun f => ml_eq _ _ _
          have f2 : (up (Q1 216) (720 + 2 * Q1 216 864).toNat v1) 864 = Q1 216 864 := up_ne (by omega)
          have f3 : (up (up (Q1 216) (720 + 2 * Q1 216 864).toNat v1) ((720 + 2 * Q1 216 864) + 1).toNat v2) 864 = Q1 216 864 := by rw [up_ne (by omega), f2]
          rw [g2, zbS, bitR, bit0, if_pos c1, p_in hv2 (by decide) (by decide), zbS, bitR, bit0, if_pos c2, if_pos (by omega), if_neg (by omega), s2, zbS, if_pos (by omega), zltS, wr_as Q1, f1, f2, if_pos (by omega), zltS, wr_as (ml Q1 216 _), f1, ml_ml, zltS, f1, f3, wr_as (ml Q1 216 _), f1, ml_ml, f1, up_eq, show Q1 216 864 + 1 - 1 = Q1 216 864 by omega]
      · refine call_no I (x := -3) ?_ ?_
        · unfold f_X9_addWolf
          rw [g1, zbS, bitR, bit0, if_pos c1, q_in hv2 (by decide) (by decide), zbS, bitR, bit0, if_pos c2, a0, if_pos (by omega), if_neg c3]
        · unfold f_X10_addWolf
          rw [g2, zbS, bitR, bit0, if_pos c1, p_in hv2 (by decide) (by decide), zbS, bitR, bit0, if_pos c2, if_pos (by omega), if_pos (by omega)]
    · refine call_no I (x := -2) ?_ ?_
      · unfold f_X9_addWolf
        rw [g1, zbS, bitR, bit0, if_pos c1, q_in hv2 (by decide) (by decide), zbS, bitR, bit0, if_neg c2]
      · unfold f_X10_addWolf
        rw [g2, zbS, bitR, bit0, if_pos c1, p_in hv2 (by decide) (by decide), zbS, bitR, bit0, if_neg c2]
  · refine call_no I (x := -1) ?_ ?_
    · unfold f_X9_addWolf
      rw [g1, zbS, bitR, bit0, if_neg c1]
    · unfold f_X10_addWolf
      rw [g2, zbS, bitR, bit0, if_neg c1]

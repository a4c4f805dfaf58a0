theorem c_driveWolf : CallOK f_X9_driveWolf f_X10_driveWolf := by
  intro B M Q I hB
  have hS := I.2.1.1
  have W := I.2.1.2.1
  have hw := WF1_nw W.1
  have a0 : M 19 0 = Q 216 864 := hS.1.nw
  by_cases c1 : 1 ≤ Q 216 864
  · obtain ⟨M1, Q1, s1, s2, I1, hr, kc, km⟩ := x_store I
    have W1 := I1.2.1.2.1
    have e1 : Q1 216 864 = Q 216 864 := hr 864 (by decide)
    have a1 : M1 19 0 = Q1 216 864 := I1.2.1.1.1.nw
    have hwf : WF B (up (Q1 216) 864 (Q1 216 864 - 1)) := ⟨WF1_up W1.1 (by decide) (show 0 ≤ Q1 216 864 - 1 ∧ Q1 216 864 - 1 ≤ 3 by omega), WF2_c (by have := WF1_n W1.1; omega) (fun j hj => up_ne (by omega)) W1.2.1, WF3_c (WF1_nr W1.1).1 (fun j j1 j2 j3 j4 => up_ne (by omega)) W1.2.2⟩
    refine ⟨Q1 216 864 - 1, wr M1 19 0 (Q1 216 864 - 1), wr Q1 216 864 (Q1 216 864 - 1), ?_, ?_, c_put1 I1 (ST0.nw_w I1.2.1.1.1 _) hwf (Kp_wr Kp_id (by decide)) (wr_ne (by decide)) (by decide), fun y hy => by rw [wr_ne (by omega), kc y (by omega)], fun y hy => by rw [wr_ne (by omega), km.1 y (by omega) (by omega)]⟩
    · unfold f_X9_driveWolf
      rw [a0, if_pos (by omega), if_pos c1, s1, zbS, zltS, a1, wr_eq, up_eq]
    · unfold f_X10_driveWolf
      rw [if_pos (by omega), if_neg (by omega), s2, zbS, zltS, wr_eq, up_eq]
  · refine call_no I (x := -5) ?_ ?_
    · unfold f_X9_driveWolf
      rw [a0, if_pos (by omega), if_neg c1]
    · unfold f_X10_driveWolf
      rw [if_pos (by omega), if_pos (by omega)]
theorem c_cut {v1 : Int} (hv : inR v1) : CallOK (f_X9_cut v1) (f_X10_cut v1) := by
  intro B M Q I hB
  have hS := I.2.1.1
  have W := I.2.1.2.1
  have hw := WF1_nw W.1
  have hn := WF1_n W.1
  have a0 : M 19 0 = Q 216 864 := hS.1.nw
  have g1 : f_X9_isWithin v1 0 (M 19 0 - 1) M = some (if 0 ≤ v1 ∧ v1 ≤ Q 216 864 - 1 then 1 else 0, M) := by
    rw [a0]
    exact q_in hv (by decide) (by omega) M
  have g2 : f_X10_in v1 0 (Q 216 864 - 1) Q = some (if 0 ≤ v1 ∧ v1 ≤ Q 216 864 - 1 then 1 else 0, Q) := p_in hv (by decide) (by omega) Q
  by_cases c1 : 0 ≤ v1 ∧ v1 ≤ Q 216 864 - 1
  · have hv3 : 0 ≤ v1 ∧ v1 < 3 := by omega
    have hat := WF1_wat W.1 hv3.1 hv3.2
    have hp : 0 ≤ Q 216 (720 + 2 * v1).toNat ∧ Q 216 (720 + 2 * v1).toNat < 8 := by omega
    have hi := WF1_inn W.1 hp.1 hp.2
    have a1 : M 20 v1.toNat = enc false (Q 216 (720 + 2 * v1).toNat) := hS.1.wat hv3.1 hv3.2
    have a2 : M 9 (Q 216 (720 + 2 * v1).toNat).toNat = enc false (Q 216 ((0 + 4 * Q 216 (720 + 2 * v1).toNat) + 2).toNat) := hS.1.inn hp.1 hp.2
    simp only [enc, Bool.false_eq_true, if_false] at a1 a2
    have g3 := q_countIn (k := 11) (b := 1) rfl hS.1 hp (WF1_trk8 W.1 hp.1 hp.2)
    have g4 := p_tracksIn (M := Q) hp (WF1_trk8 W.1 hp.1 hp.2)
    have htb := trkIn_b (r := Q 216) (p := Q 216 (720 + 2 * v1).toNat) 16
    have g5 : f_X7_tracksInReach 1 v1 M = some (cutN (Q 216) (Q 216 (720 + 2 * v1).toNat), M) := by
      unfold f_X7_tracksInReach f_X7_tracksInReach_b34 cutN
      rw [if_pos hv3, zltS, show 1 + 19 = 20 from rfl, a1, if_pos hp, show 1 + 8 = 9 from rfl, a2, if_pos (by omega)]
      by_cases e : Q 216 ((0 + 4 * Q 216 (720 + 2 * v1).toNat) + 2).toNat = 1
      · rw [if_neg (by omega), if_pos e]
      · rw [if_pos (by omega), if_neg e, show 1 + 10 = 11 from rfl, g3, zbS]
    have hcb : 0 ≤ cutN (Q 216) (Q 216 (720 + 2 * v1).toNat) ∧ cutN (Q 216) (Q 216 (720 + 2 * v1).toNat) ≤ 16 := by
      unfold cutN
      split <;> omega
    by_cases c2 : 1 ≤ cutN (Q 216) (Q 216 (720 + 2 * v1).toNat)
    · have hno : ¬ Q 216 ((0 + 4 * Q 216 (720 + 2 * v1).toNat) + 2).toNat = 1 := fun q => by
        unfold cutN at c2
        rw [if_pos q] at c2
        omega
      have hct : cutN (Q 216) (Q 216 (720 + 2 * v1).toNat) = trkIn (Q 216) (Q 216 (720 + 2 * v1).toNat) 16 := by
        unfold cutN
        rw [if_neg hno]
      obtain ⟨M1, Q1, s1, s2, I1, hr, kc, km⟩ := x_store I
      have W1 := I1.2.1.2.1
      have e1 : Q1 216 (720 + 2 * v1).toNat = Q 216 (720 + 2 * v1).toNat := hr _ (by omega)
      obtain ⟨M', i1, i2, i3⟩ := q_letCut I1.2.1.1 W1 hv3
      rw [e1] at i1 i2
      have j1 := p_cutIn W1 hp
      refine ⟨cutN (Q1 216) (Q 216 (720 + 2 * v1).toNat), M', ml Q1 216 (cutF (Q1 216) (Q 216 (720 + 2 * v1).toNat)), ?_, ?_, Inv2_op I1 (by omega) i2 (WF_B (cutF_wf W1 hp) (by omega)) (by rw [cutF_o hp (by omega) (by omega)]; exact I1.2.1.2.2) (ml_eq _ _ _) (fun j h1 _ => cutF_o hp (by omega) (by omega)) (fun y hy => i3 y (by omega)) (by rw [i3 210 (by omega)]) (fun j _ => by rw [ml_ne (by decide)]) (ml_ne (by decide)), fun y hy => by rw [i3 y (by omega), kc y (by omega)], fun y hy => by rw [ml_ne (by omega), km.1 y (by omega) (by omega)]⟩
      · unfold f_X9_cut
        rw [g1, zbS, bitR, bit0, if_pos c1, g5, zbS, if_pos (by omega), if_pos c2, s1, zbS, i1, zbS]
      · unfold f_X10_cut
        rw [g2, zbS, bitR, bit0, if_pos c1, if_pos (by omega), zltS, p_hasInn W.1 hp.1 hp.2, zbS, bitR, bit0, if_neg hno, g4, zbS, if_pos (by omega), if_neg (by omega), s2, zbS, j1, zbS]
    · refine call_no I (x := -5) ?_ ?_
      · unfold f_X9_cut
        rw [g1, zbS, bitR, bit0, if_pos c1, g5, zbS, if_pos (by omega), if_neg c2]
      · unfold f_X10_cut f_X10_cut_b49
        rw [g2, zbS, bitR, bit0, if_pos c1, if_pos (by omega), zltS, p_hasInn W.1 hp.1 hp.2, zbS, bitR, bit0]
        by_cases e : Q 216 ((0 + 4 * Q 216 (720 + 2 * v1).toNat) + 2).toNat = 1
        · rw [if_pos e]
        · unfold cutN at c2
          rw [if_neg e] at c2
          rw [if_neg e, g4, zbS, if_pos (by omega), if_pos (by omega)]
  · refine call_no I (x := -1) ?_ ?_
    · unfold f_X9_cut
      rw [g1, zbS, bitR, bit0, if_neg c1]
    · unfold f_X10_cut
      rw [g2, zbS, bitR, bit0, if_neg c1]

theorem c_track {v1 v2 v3 : Int} (hv1 : inR v1) (hv2 : inR v2) (hv3 : inR v3) : CallOK (f_X9_track v1 v2 v3) (f_X10_track v1 v2 v3) := by
  intro B M Q I hB
  obtain ⟨g1, g2⟩ := isP I hv1
  have hS := I.2.1.1
  have W := I.2.1.2.1
  have hn := WF1_n W.1
  by_cases c1 : 0 ≤ v1 ∧ v1 < Q 216 863
  · have hp : 0 ≤ v1 ∧ v1 < 8 := by omega
    by_cases c2 : 0 ≤ v2 ∧ v2 < 16
    · have hb := WF1_trk8 W.1 hp.1 hp.2 v2 c2.1 c2.2
      have hpo := WF1_post W.1 hp.1 hp.2 c2.1 c2.2
      have a1 : M 12 (v1 * 16 + v2).toNat = enc true (Q 216 (160 + (v1 * 16 + v2)).toNat) := hS.1.lead (p := v1 * 16 + v2) (by omega) (by omega)
      have a2 : M 13 (v1 * 16 + v2).toNat = enc false (Q 216 (288 + (v1 * 16 + v2)).toNat) := hS.1.left (p := v1 * 16 + v2) (by omega) (by omega)
      have a3 : M 10 (v1 * 16 + v2).toNat = enc true (Q 216 (32 + (v1 * 16 + v2)).toNat) := hS.1.post (p := v1 * 16 + v2) (by omega) (by omega)
      simp only [enc, Bool.false_eq_true, if_false, if_true] at a1 a2 a3
      rw [show (160 + (v1 * 16 + v2)).toNat = (160 + 16 * v1 + v2).toNat by omega] at a1
      rw [show (288 + (v1 * 16 + v2)).toNat = (288 + 16 * v1 + v2).toNat by omega] at a2
      rw [show (32 + (v1 * 16 + v2)).toNat = (32 + 16 * v1 + v2).toNat by omega] at a3
      have g3 := q_isAt (k := 11) (b := 1) rfl hS.1 hp c2 hb
      by_cases c3 : 0 ≤ v3 ∧ v3 ≤ 2
      · refine call_no I (x := if v3 = 0 then (if Q 216 (160 + 16 * v1 + v2).toNat = 0 then -5 else Q 216 (160 + 16 * v1 + v2).toNat - 1) else if v3 = 1 then (if Q 216 (160 + 16 * v1 + v2).toNat = 0 then -5 else Q 216 (288 + 16 * v1 + v2).toNat) else (if Q 216 (32 + 16 * v1 + v2).toNat = 0 then -5 else Q 216 (32 + 16 * v1 + v2).toNat - 1)) ?_ ?_
        · unfold f_X9_track f_X9_track_b97
          rw [g1, zbS, bitR, bit0, if_pos c1, q_isShard hv2, zbS, bitR, bit0, if_pos c2, if_pos hv3]
          by_cases e0 : v3 = 0
          · rw [if_pos e0, if_pos e0, q_cell, zbS, if_pos (by omega), a1]
          rw [if_neg e0, if_neg e0]
          by_cases e1 : v3 = 1
          · rw [if_pos e1, if_pos e1, g3, zbS, bitR, bit0]
            by_cases e5 : Q 216 (160 + 16 * v1 + v2).toNat = 0
            · rw [if_neg (by omega), if_pos e5]
            · rw [if_pos (by omega), if_neg e5, q_cell, zbS, if_pos (by omega), a2]
          rw [if_neg e1, if_neg e1, if_pos (by omega), q_cell, zbS, if_pos (by omega), a3]
        · unfold f_X10_track f_X10_track_b62 f_X10_track_b99
          rw [g2, zbS, bitR, bit0, if_pos c1, p_isShard hv2, zbS, bitR, bit0, if_pos c2, p_in hv3 (by decide) (by decide), zbS, bitR, bit0, if_pos c3, if_pos hv3]
          by_cases e0 : v3 = 0
          · rw [if_neg (by omega), if_pos e0, p_at, zbS, if_pos (by omega), if_pos (by omega)]
            by_cases e5 : Q 216 (160 + 16 * v1 + v2).toNat = 0
            · rw [if_pos e5, if_pos e5]
            · rw [if_neg e5, if_neg e5, if_pos hv3, if_neg (by omega)]
          rw [if_neg e0]
          by_cases e1 : v3 = 1
          · rw [if_neg (by omega), if_pos e1, p_at, zbS, if_pos (by omega), if_pos (by omega)]
            by_cases e5 : Q 216 (160 + 16 * v1 + v2).toNat = 0
            · rw [if_pos e5, if_pos e5]
            · rw [if_neg e5, if_neg e5, if_pos hv3, if_pos e1, p_at, zbS, if_pos (by omega)]
          rw [if_neg e1, if_pos (by omega), p_at, zbS, if_pos (by omega), if_pos (by omega)]
          by_cases e5 : Q 216 (32 + 16 * v1 + v2).toNat = 0
          · rw [if_pos e5, if_pos e5]
          · rw [if_neg e5, if_neg e5, if_pos hv3, if_neg (by omega)]
      · refine call_no I (x := -2) ?_ ?_
        · unfold f_X9_track
          rw [g1, zbS, bitR, bit0, if_pos c1, q_isShard hv2, zbS, bitR, bit0, if_pos c2, if_pos hv3, if_neg (by omega), if_neg (by omega), if_neg (by omega)]
        · unfold f_X10_track
          rw [g2, zbS, bitR, bit0, if_pos c1, p_isShard hv2, zbS, bitR, bit0, if_pos c2, p_in hv3 (by decide) (by decide), zbS, bitR, bit0, if_neg c3]
    · refine call_no I (x := -1) ?_ ?_
      · unfold f_X9_track f_X9_track_b15
        rw [g1, zbS, bitR, bit0, if_pos c1, q_isShard hv2, zbS, bitR, bit0, if_neg c2]
      · unfold f_X10_track f_X10_track_b15
        rw [g2, zbS, bitR, bit0, if_pos c1, p_isShard hv2, zbS, bitR, bit0, if_neg c2]
  · refine call_no I (x := -1) ?_ ?_
    · unfold f_X9_track f_X9_track_b15
      rw [g1, zbS, bitR, bit0, if_neg c1]
    · unfold f_X10_track f_X10_track_b15
      rw [g2, zbS, bitR, bit0, if_neg c1]

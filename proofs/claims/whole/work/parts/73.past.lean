theorem c_pasture {v1 v2 : Int} (hv1 : inR v1) (hv2 : inR v2) : CallOK (f_X9_pasture v1 v2) (f_X10_pasture v1 v2) := by
  intro B M Q I hB
  obtain ⟨g1, g2⟩ := isP I hv1
  have hS := I.2.1.1
  have W := I.2.1.2.1
  have hn := WF1_n W.1
  have hw := WF1_nw W.1
  by_cases c1 : 0 ≤ v1 ∧ v1 < Q 216 863
  · have hp : 0 ≤ v1 ∧ v1 < 8 := by omega
    obtain ⟨Nw, hNw⟩ : ∃ N : Nat, Q 216 864 = N := ⟨(Q 216 864).toNat, by omega⟩
    have hi := WF1_inn W.1 hp.1 hp.2
    have hz := slatF_b W.1
    have a0 : M 5 v1.toNat = enc false (Q 216 (0 + 4 * v1).toNat) := hS.1.lat hp.1 hp.2
    have a1 : M 6 v1.toNat = enc false (Q 216 ((0 + 4 * v1) + 1).toNat) := hS.1.room hp.1 hp.2
    have a2 : M 9 v1.toNat = enc false (Q 216 ((0 + 4 * v1) + 2).toNat) := hS.1.inn hp.1 hp.2
    have a8 : M 8 v1.toNat = enc false (Q 216 ((0 + 4 * v1) + 3).toNat) := hS.1.sent hp.1 hp.2
    have a3 : M 7 v1.toNat = cntAt (Q 216) v1 16 := hS.2 v1 hp.1 hp.2
    simp only [enc, Bool.false_eq_true, if_false] at a0 a1 a2 a8
    have k4 := q_countIn (k := 11) (b := 1) rfl hS.1 hp (WF1_trk8 W.1 hp.1 hp.2)
    have k5 := q_distance (k := 4) (b := 1) rfl hS.1 W.1 hp.1 hp.2 hz
    have k6 := q_heatIn (k := 14) (b := 1) rfl hS.1 W.1 hv1
    have k7 := q_wolvesIn (k := 19) (b := 1) rfl hS.1 W.1 hv1 hNw (by omega)
    refine call_no I (x := if v2 = 0 then Q 216 ((0 + 4 * v1) + 0).toNat else if v2 = 1 then Q 216 ((0 + 4 * v1) + 1).toNat else if v2 = 2 then Q 216 ((0 + 4 * v1) + 2).toNat else if v2 = 3 then cntAt (Q 216) v1 16 else if v2 = 4 then trkIn (Q 216) v1 16 else if v2 = 5 then disF (Q 216) v1 else if v2 = 6 then heatF (Q 216) v1 16 else if v2 = 7 then wolF (Q 216) v1 Nw else if v2 = 8 then Q 216 ((0 + 4 * v1) + 3).toNat else -2) ?_ ?_
    · unfold f_X9_pasture f_X9_pasture_b106
      rw [g1, zbS, bitR, bit0, if_pos c1, if_pos hv2]
      by_cases e0 : v2 = 0
      · rw [if_pos e0, if_pos e0, if_pos hp, a0, show 0 + 4 * v1 + 0 = 0 + 4 * v1 by omega]
      rw [if_neg e0, if_neg e0]
      by_cases e1 : v2 = 1
      · rw [if_pos e1, if_pos e1, if_pos hp, a1]
      rw [if_neg e1, if_neg e1]
      by_cases e2 : v2 = 2
      · rw [if_pos e2, if_pos e2, if_pos hp, a2, if_pos (by omega)]
        by_cases e : Q 216 ((0 + 4 * v1) + 2).toNat = 0
        · rw [if_pos e, e]
        · rw [if_neg e, show Q 216 ((0 + 4 * v1) + 2).toNat = 1 by omega]
      rw [if_neg e2, if_neg e2]
      by_cases e3 : v2 = 3
      · rw [if_pos e3, if_pos e3, if_pos hp, a3]
      rw [if_neg e3, if_neg e3]
      by_cases e4 : v2 = 4
      · rw [if_pos e4, if_pos e4, k4, zbS]
      rw [if_neg e4, if_neg e4]
      by_cases e5 : v2 = 5
      · rw [if_pos e5, if_pos e5, q_seasonLat hS.1 W.1, zbS, k5, zbS]
        rfl
      rw [if_neg e5, if_neg e5]
      by_cases e6 : v2 = 6
      · rw [if_pos e6, if_pos e6, k6, zbS]
      rw [if_neg e6, if_neg e6]
      by_cases e7 : v2 = 7
      · rw [if_pos e7, if_pos e7, k7, zbS]
      rw [if_neg e7, if_neg e7]
      by_cases e8 : v2 = 8
      · rw [if_pos e8, if_pos e8, if_pos hp, a8]
      rw [if_neg e8, if_neg e8]
    · unfold f_X10_pasture f_X10_pasture_b60
      rw [g2, zbS, bitR, bit0, if_pos c1, if_pos hv2]
      by_cases e0 : v2 = 0
      · rw [if_pos e0, if_pos e0, e0, if_pos (by omega)]
      rw [if_neg e0, if_neg e0]
      by_cases e1 : v2 = 1
      · rw [if_pos e1, if_pos e1, e1, if_pos (by omega)]
      rw [if_neg e1, if_neg e1]
      by_cases e2 : v2 = 2
      · rw [if_pos e2, if_pos e2, e2, if_pos (by omega)]
      rw [if_neg e2, if_neg e2]
      by_cases e3 : v2 = 3
      · rw [if_pos e3, if_pos e3, p_shardsIn W.1 hv1, zbS]
      rw [if_neg e3, if_neg e3]
      by_cases e4 : v2 = 4
      · rw [if_pos e4, if_pos e4, p_tracksIn hp (WF1_trk8 W.1 hp.1 hp.2), zbS]
      rw [if_neg e4, if_neg e4]
      by_cases e5 : v2 = 5
      · rw [if_pos e5, if_pos e5, p_distance W.1 hp.1 hp.2, zbS]
      rw [if_neg e5, if_neg e5]
      by_cases e6 : v2 = 6
      · rw [if_pos e6, if_pos e6, p_heatIn W.1 hv1, zbS]
      rw [if_neg e6, if_neg e6]
      by_cases e7 : v2 = 7
      · rw [if_pos e7, if_pos e7, p_wolvesIn W.1 hv1 hNw (by omega), zbS]
      rw [if_neg e7, if_neg e7]
      by_cases e8 : v2 = 8
      · rw [if_pos e8, if_pos e8, if_pos (by omega)]
      rw [if_neg e8, if_neg e8]
  · refine call_no I (x := -1) ?_ ?_
    · unfold f_X9_pasture
      rw [g1, zbS, bitR, bit0, if_neg c1]
    · unfold f_X10_pasture
      rw [g2, zbS, bitR, bit0, if_neg c1]

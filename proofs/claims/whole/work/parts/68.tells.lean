theorem isP {B : Int} {M Q : Mem} (I : Inv2 B M Q) {v : Int} (hv : inR v) : f_X9_isPasture v M = some (if 0 ≤ v ∧ v < Q 216 863 then 1 else 0, M) ∧ f_X10_isPasture v Q = some (if 0 ≤ v ∧ v < Q 216 863 then 1 else 0, Q) := by
  have hn := WF1_n I.2.1.2.1.1
  have hr : M 4 0 = Q 216 863 := I.2.1.1.1.np
  have h1 := q_isPasture (M := M) hv (by rw [hr]; exact hn)
  rw [hr] at h1
  exact ⟨h1, p_isPasture hv hn⟩
theorem c_value {v1 : Int} (hv1 : inR v1) : CallOK (f_X9_value v1) (f_X10_value v1) := by
  intro B M Q I hB
  have hS := I.2.1.1
  by_cases c2 : 0 ≤ v1 ∧ v1 < 256
  · have a1 : M 18 v1.toNat = enc false (Q 216 (464 + v1).toNat) := hS.1.vals c2.1 c2.2
    simp only [enc, Bool.false_eq_true, if_false] at a1
    refine call_no I (x := Q 216 (464 + v1).toNat) ?_ ?_
    · unfold f_X9_value f_X9_value_b23
      rw [q_isKey hv1, zbS, bitR, bit0, if_pos c2, if_pos c2, a1]
    · unfold f_X10_value f_X10_value_b21
      rw [p_isKey hv1, zbS, bitR, bit0, if_pos c2, if_pos (by omega)]
  · refine call_no I (x := -1) ?_ ?_
    · unfold f_X9_value f_X9_value_b23
      rw [q_isKey hv1, zbS, bitR, bit0, if_neg c2]
    · unfold f_X10_value f_X10_value_b21
      rw [p_isKey hv1, zbS, bitR, bit0, if_neg c2]
theorem c_reader {v1 v2 : Int} (hv1 : inR v1) (hv2 : inR v2) : CallOK (f_X9_reader v1 v2) (f_X10_reader v1 v2) := by
  intro B M Q I hB
  obtain ⟨g1, g2⟩ := isR I hv1
  have hnr := WF1_nr I.2.1.2.1.1
  have hS := I.2.1.1
  by_cases c1 : 0 ≤ v1 ∧ v1 < Q 216 865
  · have h6 : 0 ≤ v1 ∧ v1 < 6 := by omega
    have a0 : M 23 v1.toNat = enc false (Q 216 (726 + 5 * v1).toNat) := hS.1.home h6.1 h6.2
    have a1 : M 24 v1.toNat = enc false (Q 216 ((726 + 5 * v1) + 1).toNat) := hS.1.reqs h6.1 h6.2
    have a2 : M 25 v1.toNat = enc false (Q 216 ((726 + 5 * v1) + 2).toNat) := hS.1.hops h6.1 h6.2
    have a3 : M 26 v1.toNat = enc false (Q 216 ((726 + 5 * v1) + 3).toNat) := hS.1.cries h6.1 h6.2
    have a4 : M 27 v1.toNat = enc false (Q 216 ((726 + 5 * v1) + 4).toNat) := hS.1.most h6.1 h6.2
    simp only [enc, Bool.false_eq_true, if_false] at a0 a1 a2 a3 a4
    by_cases c3 : 0 ≤ v2 ∧ v2 ≤ 4
    · refine call_no I (x := Q 216 ((726 + 5 * v1) + v2).toNat) ?_ ?_
      · unfold f_X9_reader
        rw [g1, zbS, bitR, bit0, if_pos c1, if_pos hv2]
        by_cases e0 : v2 = 0
        · rw [if_pos e0, if_pos h6, a0, e0, show 726 + 5 * v1 + 0 = 726 + 5 * v1 by omega]
        · rw [if_neg e0]
          by_cases e1 : v2 = 1
          · rw [if_pos e1, if_pos h6, a1, e1]
          · rw [if_neg e1]
            by_cases e2 : v2 = 2
            · rw [if_pos e2, if_pos h6, a2, e2]
            · rw [if_neg e2]
              by_cases e3 : v2 = 3
              · rw [if_pos e3, if_pos h6, a3, e3]
              · rw [if_neg e3, if_pos (by omega), if_pos h6, a4, show v2 = 4 by omega]
      · unfold f_X10_reader f_X10_reader_b38
        rw [g2, zbS, bitR, bit0, if_pos c1, p_in hv2 (by decide) (by decide), zbS, bitR, bit0, if_pos c3, if_pos (by omega)]
    · refine call_no I (x := -2) ?_ ?_
      · unfold f_X9_reader
        rw [g1, zbS, bitR, bit0, if_pos c1, if_pos hv2, if_neg (by omega), if_neg (by omega), if_neg (by omega), if_neg (by omega), if_neg (by omega)]
      · unfold f_X10_reader f_X10_reader_b38
        rw [g2, zbS, bitR, bit0, if_pos c1, p_in hv2 (by decide) (by decide), zbS, bitR, bit0, if_neg c3]
  · refine call_no I (x := -1) ?_ ?_
    · unfold f_X9_reader
      rw [g1, zbS, bitR, bit0, if_neg c1]
    · unfold f_X10_reader
      rw [g2, zbS, bitR, bit0, if_neg c1]
theorem c_remembered {v1 v2 : Int} (hv1 : inR v1) (hv2 : inR v2) : CallOK (f_X9_remembered v1 v2) (f_X10_remembered v1 v2) := by
  intro B M Q I hB
  obtain ⟨g1, g2⟩ := isR I hv1
  have hnr := WF1_nr I.2.1.2.1.1
  have hS := I.2.1.1
  by_cases c1 : 0 ≤ v1 ∧ v1 < Q 216 865
  · by_cases c2 : 0 ≤ v2 ∧ v2 < 16
    · have a0 : M 28 (v1 * 16 + v2).toNat = enc false (Q 216 (756 + (v1 * 16 + v2)).toNat) := hS.1.mem (p := v1 * 16 + v2) (by omega) (by omega)
      simp only [enc, Bool.false_eq_true, if_false] at a0
      rw [show (756 + (v1 * 16 + v2)).toNat = (756 + 16 * v1 + v2).toNat by omega] at a0
      refine call_no I (x := Q 216 (756 + 16 * v1 + v2).toNat) ?_ ?_
      · unfold f_X9_remembered
        rw [g1, zbS, bitR, bit0, if_pos c1, q_isShard hv2, zbS, bitR, bit0, if_pos c2, q_cell, zbS, if_pos (by omega), a0]
      · unfold f_X10_remembered f_X10_remembered_b34
        rw [g2, zbS, bitR, bit0, if_pos c1, p_isShard hv2, zbS, bitR, bit0, if_pos c2, if_pos (by omega)]
    · refine call_no I (x := -1) ?_ ?_
      · unfold f_X9_remembered f_X9_remembered_b15
        rw [g1, zbS, bitR, bit0, if_pos c1, q_isShard hv2, zbS, bitR, bit0, if_neg c2]
      · unfold f_X10_remembered f_X10_remembered_b33 f_X10_remembered_b34
        rw [g2, zbS, bitR, bit0, if_pos c1, p_isShard hv2, zbS, bitR, bit0, if_neg c2]
  · refine call_no I (x := -1) ?_ ?_
    · unfold f_X9_remembered f_X9_remembered_b15
      rw [g1, zbS, bitR, bit0, if_neg c1]
    · unfold f_X10_remembered f_X10_remembered_b33 f_X10_remembered_b34
      rw [g2, zbS, bitR, bit0, if_neg c1]
theorem c_shard {v1 v2 : Int} (hv1 : inR v1) (hv2 : inR v2) : CallOK (f_X9_shard v1 v2) (f_X10_shard v1 v2) := by
  intro B M Q I hB
  have hS := I.2.1.1
  have W := I.2.1.2.1
  obtain ⟨N, hN, h8⟩ := nn_of W.1
  by_cases c1 : 0 ≤ v1 ∧ v1 < 16
  · have a0 : M 15 v1.toNat = enc false (Q 216 (416 + v1).toNat) := hS.1.at c1.1 c1.2
    have a1 : M 16 v1.toNat = enc false (Q 216 (432 + v1).toNat) := hS.1.heat c1.1 c1.2
    have a2 : M 17 v1.toNat = enc false (Q 216 (448 + v1).toNat) := hS.1.moves c1.1 c1.2
    simp only [enc, Bool.false_eq_true, if_false] at a0 a1 a2
    have g3 := q_countOf (k := 11) (b := 1) rfl hS.1 W.1 c1
    rw [trkOf_n W.2.1 hN h8 c1] at g3
    have g4 := q_place (k := 14) (b := 1) rfl hS.1 W.1 c1
    have g5 := q_best (k := 4) (b := 1) rfl hS W.1 c1 hN h8
    have g6 := q_sumOf (k := 14) (b := 1) (M := M) (r := Q 216) rfl hS.1 c1.1 c1.2
    refine call_no I (x := if v2 = 0 then Q 216 (416 + v1).toNat else if v2 = 1 then Q 216 (432 + v1).toNat else if v2 = 2 then Q 216 (448 + v1).toNat else if v2 = 3 then trkOf (Q 216) v1 N else if v2 = 4 then ordF (Q 216) v1 16 else if v2 = 5 then lokF (Q 216) v1 N else if v2 = 6 then valF (Q 216) v1 16 else -2) ?_ ?_
    · unfold f_X9_shard
      rw [q_isShard hv1, zbS, bitR, bit0, if_pos c1, if_pos hv2]
      by_cases e0 : v2 = 0
      · rw [if_pos e0, if_pos e0, if_pos c1, a0]
      rw [if_neg e0, if_neg e0]
      by_cases e1 : v2 = 1
      · rw [if_pos e1, if_pos e1, if_pos c1, a1]
      rw [if_neg e1, if_neg e1]
      by_cases e2 : v2 = 2
      · rw [if_pos e2, if_pos e2, if_pos c1, a2]
      rw [if_neg e2, if_neg e2]
      by_cases e3 : v2 = 3
      · rw [if_pos e3, if_pos e3, g3, zbS]
      rw [if_neg e3, if_neg e3]
      by_cases e4 : v2 = 4
      · rw [if_pos e4, if_pos e4, g4, zbS]
      rw [if_neg e4, if_neg e4]
      by_cases e5 : v2 = 5
      · rw [if_pos e5, if_pos e5, if_pos c1, q_seasonLat hS.1 W.1, zbS, a0, g5, zbS]
      rw [if_neg e5, if_neg e5]
      by_cases e6 : v2 = 6
      · rw [if_pos e6, if_pos e6, g6, zbS]
      rw [if_neg e6, if_neg e6]
    · unfold f_X10_shard
      rw [p_isShard hv1, zbS, bitR, bit0, if_pos c1, if_pos hv2]
      by_cases e0 : v2 = 0
      · rw [if_pos e0, if_pos e0, if_pos (by omega)]
      rw [if_neg e0, if_neg e0]
      by_cases e1 : v2 = 1
      · rw [if_pos e1, if_pos e1, if_pos (by omega)]
      rw [if_neg e1, if_neg e1]
      by_cases e2 : v2 = 2
      · rw [if_pos e2, if_pos e2, if_pos (by omega)]
      rw [if_neg e2, if_neg e2]
      by_cases e3 : v2 = 3
      · rw [if_pos e3, if_pos e3, p_tracksOf W.1 c1 hN h8, zbS]
      rw [if_neg e3, if_neg e3]
      by_cases e4 : v2 = 4
      · rw [if_pos e4, if_pos e4, p_orderOf W.1 c1, zbS]
      rw [if_neg e4, if_neg e4]
      by_cases e5 : v2 = 5
      · rw [if_pos e5, if_pos e5, p_looked W.1 c1 hN h8, zbS]
      rw [if_neg e5, if_neg e5]
      by_cases e6 : v2 = 6
      · rw [if_pos e6, if_pos e6, p_sumOf c1.1 c1.2, zbS]
      rw [if_neg e6, if_neg e6]
  · refine call_no I (x := -1) ?_ ?_
    · unfold f_X9_shard
      rw [q_isShard hv1, zbS, bitR, bit0, if_neg c1]
    · unfold f_X10_shard
      rw [p_isShard hv1, zbS, bitR, bit0, if_neg c1]

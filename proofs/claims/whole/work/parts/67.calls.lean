theorem Inv2_find {B : Int} {M Q M' Q' : Mem} (I : Inv2 B M Q) (k1 : Kp 206 4 M M') (k2 : Kq Q Q') : Inv2 (B + 1000) M' Q' :=
  Inv2_op I (by omega) (ST_kp I.2.1.1 k1 (by decide)) (WF_B I.2.1.2.1 (by omega)) I.2.1.2.2 (k2.1 216 (by decide) (by decide)) (fun _ _ _ => rfl) (fun y hy => k1 y (by omega)) (by rw [k1 210 (by omega)]) (fun j hj => k2.2 j (by omega)) (k2.1 217 (by decide) (by decide))
theorem c_movesIn {v1 : Int} (hv : inR v1) : CallOK (f_X9_movesIn v1) (f_X10_movesIn v1) := by
  intro B M Q I hB
  by_cases c1 : 0 ≤ v1 ∧ v1 < 16
  · have hd := I.2.1.2.2
    obtain ⟨x, M', r', i1, i2, i3, i4, i5⟩ := x_movesIn c1 I.2.1.1 I.2.1.2.1 rfl (by omega) ⟨I.1, by omega⟩
    refine ⟨x, M', ml Q 216 r', i1, i2, ?_, fun y hy => i3 y (by omega), fun y hy => ml_ne (by omega)⟩
    exact Inv2_op I (by omega) (ST_row (ST_kp I.2.1.1 i3 (by decide)) i4) (WF_B (WF_row I.2.1.2.1 i4) (by omega)) (by rw [i4 862 (by decide)]; exact hd) (ml_eq _ _ _) i5 (fun y hy => i3 y (by omega)) (by rw [i3 210 (by omega)]) (fun j _ => by rw [ml_ne (by decide)]) (ml_ne (by decide))
  · refine call_no I (x := -1) ?_ ?_
    · unfold f_X9_movesIn
      rw [q_isShard hv, zbS, bitR, bit0, if_neg c1]
    · unfold f_X10_movesIn
      rw [p_isShard hv, zbS, bitR, bit0, if_neg c1]
theorem c_reach {v1 v2 v3 : Int} (hv1 : inR v1) (hv2 : inR v2) (hv3 : inR v3) : CallOK (f_X9_reach v1 v2 v3) (f_X10_reach v1 v2 v3) := by
  intro B M Q I hB
  obtain ⟨g1, g2⟩ := isR I hv1
  have hnr := WF1_nr I.2.1.2.1.1
  by_cases c1 : 0 ≤ v1 ∧ v1 < Q 216 865
  · by_cases c2 : 0 ≤ v2 ∧ v2 < 256
    · have hx2 : v2.tdiv 16 = v2 / 16 := Int.tdiv_eq_ediv_of_nonneg c2.1
      obtain ⟨M', Q', A, S, k, f1, f2, ⟨⟨z1, z1'⟩, ⟨z2, z2'⟩, -, ⟨z4, z4'⟩, ⟨z5, z5', z5''⟩, z6, z7, -, -⟩, f4, f5⟩ := x_find I.2.1.2.1 I.2.1.2.1 (fun _ _ => rfl) I.2.1.1 rfl (i := v1) (h := v2.tdiv 16) (by omega) (by omega)
      have kM : ∀ y, 215 ≤ y → M' y = M y := fun y hy => f4 y (by omega)
      have kQ : ∀ y, y < 215 → Q' y = Q y := fun y hy => f5.1 y (by omega) (by omega)
      by_cases c3 : 0 ≤ v3 ∧ v3 ≤ 4
      · have hmod : ∀ x, x = (if v3 = 0 then M' 206 0 else if v3 = 1 then M' 206 1 else if v3 = 2 then pop A else if v3 = 3 then pop S else M' 206 4) → f_X10_reach v1 v2 v3 Q = some (x, Q') := by
          intro x hx
          unfold f_X10_reach f_X10_reach_b103
          rw [g2, zbS, bitR, bit0, if_pos c1, p_isKey hv2, zbS, bitR, bit0, if_pos c2, p_in hv3 (by decide) (by decide), zbS, bitR, bit0, if_pos c3, if_pos hv2, f2, zbS, if_pos hv3, hx]
          by_cases e0 : v3 = 0
          · rw [if_pos e0, if_pos e0, z5]
          · rw [if_neg e0, if_neg e0]
            by_cases e1 : v3 = 1
            · rw [if_pos e1, if_pos e1, z5']
            · rw [if_neg e1, if_neg e1]
              by_cases e2 : v3 = 2
              · rw [if_pos e2, if_pos e2, z2, p_bits z1, zbS]
              · rw [if_neg e2, if_neg e2]
                by_cases e3 : v3 = 3
                · rw [if_pos e3, if_pos e3, z2', p_bits z1', zbS]
                · rw [if_neg e3, if_neg e3, z5'']
                  rcases z6 with z6 | z6
                  · rw [z6, if_pos (by decide), if_pos rfl]
                  · rw [z6, if_pos (by decide), if_neg (by decide)]
        refine ⟨_, M', Q', ?_, hmod _ rfl, Inv2_find I f4 f5, kM, kQ⟩
        unfold f_X9_reach f_X9_reach_b115
        rw [g1, zbS, bitR, bit0, if_pos c1, q_isKey hv2, zbS, bitR, bit0, if_pos c2, if_pos hv2, f1, zbS, if_pos hv3]
        by_cases e0 : v3 = 0
        · rw [if_pos e0, if_pos e0]
        · rw [if_neg e0, if_neg e0]
          by_cases e1 : v3 = 1
          · rw [if_pos e1, if_pos e1]
          · rw [if_neg e1, if_neg e1]
            by_cases e2 : v3 = 2
            · rw [if_pos e2, if_pos e2, z4]
            · rw [if_neg e2, if_neg e2]
              by_cases e3 : v3 = 3
              · rw [if_pos e3, if_pos e3, z4']
              · rw [if_neg e3, if_neg e3, if_pos (by omega)]
                rcases z6 with z6 | z6
                · rw [z6, if_pos (by decide), if_pos rfl]
                · rw [z6, if_pos (by decide), if_neg (by decide)]
      · refine ⟨-2, M', Q, ?_, ?_, Inv2_find I f4 Kq_id, kM, fun _ _ => rfl⟩
        · unfold f_X9_reach
          rw [g1, zbS, bitR, bit0, if_pos c1, q_isKey hv2, zbS, bitR, bit0, if_pos c2, if_pos hv2, f1, zbS, if_pos hv3, if_neg (by omega), if_neg (by omega), if_neg (by omega), if_neg (by omega), if_neg (by omega)]
        · unfold f_X10_reach
          rw [g2, zbS, bitR, bit0, if_pos c1, p_isKey hv2, zbS, bitR, bit0, if_pos c2, p_in hv3 (by decide) (by decide), zbS, bitR, bit0, if_neg c3]
    · refine call_no I (x := -1) ?_ ?_
      · unfold f_X9_reach f_X9_reach_b15
        rw [g1, zbS, bitR, bit0, if_pos c1, q_isKey hv2, zbS, bitR, bit0, if_neg c2]
      · unfold f_X10_reach f_X10_reach_b15
        rw [g2, zbS, bitR, bit0, if_pos c1, p_isKey hv2, zbS, bitR, bit0, if_neg c2]
  · refine call_no I (x := -1) ?_ ?_
    · unfold f_X9_reach f_X9_reach_b15
      rw [g1, zbS, bitR, bit0, if_neg c1]
    · unfold f_X10_reach f_X10_reach_b15
      rw [g2, zbS, bitR, bit0, if_neg c1]
theorem c_way {v1 v2 v3 : Int} (hv1 : inR v1) (hv2 : inR v2) (hv3 : inR v3) : CallOK (f_X9_way v1 v2 v3) (f_X10_way v1 v2 v3) := by
  intro B M Q I hB
  obtain ⟨g1, g2⟩ := isR I hv1
  have hnr := WF1_nr I.2.1.2.1.1
  by_cases c1 : 0 ≤ v1 ∧ v1 < Q 216 865
  · by_cases c2 : 0 ≤ v2 ∧ v2 < 256
    · by_cases c3 : 0 ≤ v3
      · have hx2 : v2.tdiv 16 = v2 / 16 := Int.tdiv_eq_ediv_of_nonneg c2.1
        obtain ⟨M', Q', A, S, k, f1, f2, ⟨-, -, -, -, -, -, -, ⟨z8, z8', z8''⟩, z9⟩, f4, f5⟩ := x_find I.2.1.2.1 I.2.1.2.1 (fun _ _ => rfl) I.2.1.1 rfl (i := v1) (h := v2.tdiv 16) (by omega) (by omega)
        have kM : ∀ y, 215 ≤ y → M' y = M y := fun y hy => f4 y (by omega)
        have kQ : ∀ y, y < 215 → Q' y = Q y := fun y hy => f5.1 y (by omega) (by omega)
        by_cases c4 : (k : Int) + 1 ≤ v3
        · refine ⟨-5, M', Q', ?_, ?_, Inv2_find I f4 f5, kM, kQ⟩
          · unfold f_X9_way f_X9_way_b65
            rw [g1, zbS, bitR, bit0, if_pos c1, q_isKey hv2, zbS, bitR, bit0, if_pos c2, if_pos hv3, if_pos c3, if_pos hv2, f1, zbS, z8', if_pos (by omega), if_pos c4]
          · unfold f_X10_way f_X10_way_b52
            rw [g2, zbS, bitR, bit0, if_pos c1, p_isKey hv2, zbS, bitR, bit0, if_pos c2, if_pos hv3, if_pos c3, if_pos hv2, f2, zbS, z8, if_pos (by omega), if_pos c4]
        · refine ⟨M' 207 v3.toNat, M', Q', ?_, ?_, Inv2_find I f4 f5, kM, kQ⟩
          · unfold f_X9_way f_X9_way_b65
            rw [g1, zbS, bitR, bit0, if_pos c1, q_isKey hv2, zbS, bitR, bit0, if_pos c2, if_pos hv3, if_pos c3, if_pos hv2, f1, zbS, z8', if_pos (by omega), if_neg c4, if_pos (by omega)]
          · unfold f_X10_way f_X10_way_b52
            rw [g2, zbS, bitR, bit0, if_pos c1, p_isKey hv2, zbS, bitR, bit0, if_pos c2, if_pos hv3, if_pos c3, if_pos hv2, f2, zbS, z8, if_pos (by omega), if_neg c4, if_pos (by omega), z9 _ (by omega)]
      · refine call_no I (x := -2) ?_ ?_
        · unfold f_X9_way
          rw [g1, zbS, bitR, bit0, if_pos c1, q_isKey hv2, zbS, bitR, bit0, if_pos c2, if_pos hv3, if_neg c3]
        · unfold f_X10_way
          rw [g2, zbS, bitR, bit0, if_pos c1, p_isKey hv2, zbS, bitR, bit0, if_pos c2, if_pos hv3, if_neg c3]
    · refine call_no I (x := -1) ?_ ?_
      · unfold f_X9_way f_X9_way_b15
        rw [g1, zbS, bitR, bit0, if_pos c1, q_isKey hv2, zbS, bitR, bit0, if_neg c2]
      · unfold f_X10_way f_X10_way_b15
        rw [g2, zbS, bitR, bit0, if_pos c1, p_isKey hv2, zbS, bitR, bit0, if_neg c2]
  · refine call_no I (x := -1) ?_ ?_
    · unfold f_X9_way f_X9_way_b15
      rw [g1, zbS, bitR, bit0, if_neg c1]
    · unfold f_X10_way f_X10_way_b15
      rw [g2, zbS, bitR, bit0, if_neg c1]

theorem c_count {v1 : Int} (hv1 : inR v1) : CallOK (f_X9_count v1) (f_X10_count v1) := by
  intro B M Q I hB
  have hS := I.2.1.1
  have W := I.2.1.2.1
  obtain ⟨N, hN, h8⟩ := nn_of W.1
  obtain ⟨h, o, a1, -, -, -, a5, -⟩ := I.2.2.1
  obtain ⟨n, c, x1, x2⟩ := I.2.2.2.2
  have hr := WF1_nr W.1
  obtain ⟨R, hR⟩ : ∃ R : Nat, Q 216 865 = R := ⟨(Q 216 865).toNat, by omega⟩
  have hR6 : R ≤ 6 := by omega
  have b0 : M 1 0 = Q 216 862 := hS.1.day
  have b3 : M 4 0 = Q 216 863 := hS.1.np
  have b5 : M 19 0 = Q 216 864 := hS.1.nw
  have b6 : M 22 0 = Q 216 865 := hS.1.nr
  have b9 : M 1 1 = Q 216 867 := hS.1.cut
  have b10 : M 1 2 = Q 216 868 := hS.1.grown
  have k4 := q_inns (k := 4) (b := 1) rfl hS.1 W.1 hN h8
  have k7 := q_countAll (k := 11) (b := 1) rfl hS.1 W.1
  rw [trkAll_n W.2.1 hN h8] at k7
  have k8 : f_X9_sum 17 16 16 M = some (Q 216 866, M) := by
    have h1 : f_X9_sum 17 16 16 M = some (sumN 16 (M 17), M) := q_sum (c := 17) (n := 16) (L := 16) (by decide) (by decide)
    rw [h1, W.2.2.1]
    exact congrArg (fun t => some (t, M)) (sumN_congr (fun k hk => by
      have h2 : M 17 ((k : Int)).toNat = enc false (Q 216 (448 + (k : Int)).toNat) := hS.1.moves (p := (k : Int)) (by omega) (by omega)
      simpa [enc] using h2))
  have k11 : f_X9_sum 24 6 (M 22 0) M = some (Q 216 869, M) := by
    rw [b6, hR, q_sum (c := 24) (n := 6) (L := R) hR6 (by decide), W.2.2.2.1]
    refine congrArg (fun t => some (t, M)) ((sumN_congr (fun k hk => ?_)).trans (sumN_tail hR6 (fun k hk hk6 => ?_)).symm)
    · have h2 : M 24 ((k : Int)).toNat = enc false (Q 216 ((726 + 5 * (k : Int)) + 1).toNat) := hS.1.reqs (p := (k : Int)) (by omega) (by omega)
      simpa [enc] using h2
    · exact (W.2.2.2.2.2 k (by omega) (by omega)).1
  have k12 : f_X9_sum 26 6 (M 22 0) M = some (Q 216 870, M) := by
    rw [b6, hR, q_sum (c := 26) (n := 6) (L := R) hR6 (by decide), W.2.2.2.2.1]
    refine congrArg (fun t => some (t, M)) ((sumN_congr (fun k hk => ?_)).trans (sumN_tail hR6 (fun k hk hk6 => ?_)).symm)
    · have h2 : M 26 ((k : Int)).toNat = enc false (Q 216 ((726 + 5 * (k : Int)) + 3).toNat) := hS.1.cries (p := (k : Int)) (by omega) (by omega)
      simpa [enc] using h2
    · exact (W.2.2.2.2.2 k (by omega) (by omega)).2
  have hsb := seaF_b W.1
  refine call_no I (x := if v1 = 0 then Q 216 862 else (if v1 = 1 then seaF (Q 216) else (if v1 = 2 then slatF (Q 216) else (if v1 = 3 then Q 216 863 else (if v1 = 4 then innF (Q 216) N else (if v1 = 5 then Q 216 864 else (if v1 = 6 then Q 216 865 else (if v1 = 7 then trkAll (Q 216) N else (if v1 = 8 then Q 216 866 else (if v1 = 9 then Q 216 867 else (if v1 = 10 then Q 216 868 else (if v1 = 11 then Q 216 869 else (if v1 = 12 then Q 216 870 else (if v1 = 13 then (h : Int) else (if v1 = 14 then (n : Int) else -2))))))))))))))) ?_ ?_
  · unfold f_X9_count
    rw [if_pos hv1]
    by_cases e0 : v1 = 0
    · rw [if_pos e0, if_pos e0, b0]
    rw [if_neg e0, if_neg e0]
    by_cases e1 : v1 = 1
    · rw [if_pos e1, if_pos e1, q_season hS.1 W.1, zbS]
    rw [if_neg e1, if_neg e1]
    by_cases e2 : v1 = 2
    · rw [if_pos e2, if_pos e2, q_seasonLat hS.1 W.1, zbS]
    rw [if_neg e2, if_neg e2]
    by_cases e3 : v1 = 3
    · rw [if_pos e3, if_pos e3, b3]
    rw [if_neg e3, if_neg e3]
    by_cases e4 : v1 = 4
    · rw [if_pos e4, if_pos e4, k4, zbS]
    rw [if_neg e4, if_neg e4]
    by_cases e5 : v1 = 5
    · rw [if_pos e5, if_pos e5, b5]
    rw [if_neg e5, if_neg e5]
    by_cases e6 : v1 = 6
    · rw [if_pos e6, if_pos e6, b6]
    rw [if_neg e6, if_neg e6]
    by_cases e7 : v1 = 7
    · rw [if_pos e7, if_pos e7, k7, zbS]
    rw [if_neg e7, if_neg e7]
    by_cases e8 : v1 = 8
    · rw [if_pos e8, if_pos e8, k8, zbS]
    rw [if_neg e8, if_neg e8]
    by_cases e9 : v1 = 9
    · rw [if_pos e9, if_pos e9, b9]
    rw [if_neg e9, if_neg e9]
    by_cases e10 : v1 = 10
    · rw [if_pos e10, if_pos e10, b10]
    rw [if_neg e10, if_neg e10]
    by_cases e11 : v1 = 11
    · rw [if_pos e11, if_pos e11, k11, zbS]
    rw [if_neg e11, if_neg e11]
    by_cases e12 : v1 = 12
    · rw [if_pos e12, if_pos e12, k12, zbS]
    rw [if_neg e12, if_neg e12]
    by_cases e13 : v1 = 13
    · rw [if_pos e13, if_pos e13, a1]
    rw [if_neg e13, if_neg e13]
    by_cases e14 : v1 = 14
    · rw [if_pos e14, if_pos e14, x1.1]
    rw [if_neg e14, if_neg e14]
  · unfold f_X10_count
    rw [if_pos hv1]
    by_cases e0 : v1 = 0
    · rw [if_pos e0, if_pos e0]
    rw [if_neg e0, if_neg e0]
    by_cases e1 : v1 = 1
    · rw [if_pos e1, if_pos e1, p_season W.1, zbS]
    rw [if_neg e1, if_neg e1]
    by_cases e2 : v1 = 2
    · rw [if_pos e2, if_pos e2, p_season W.1, zbS, if_pos (by omega)]
      rfl
    rw [if_neg e2, if_neg e2]
    by_cases e3 : v1 = 3
    · rw [if_pos e3, if_pos e3]
    rw [if_neg e3, if_neg e3]
    by_cases e4 : v1 = 4
    · rw [if_pos e4, if_pos e4, p_inns W.1 hN h8, zbS]
    rw [if_neg e4, if_neg e4]
    by_cases e5 : v1 = 5
    · rw [if_pos e5, if_pos e5]
    rw [if_neg e5, if_neg e5]
    by_cases e6 : v1 = 6
    · rw [if_pos e6, if_pos e6]
    rw [if_neg e6, if_neg e6]
    by_cases e7 : v1 = 7
    · rw [if_pos e7, if_pos e7, p_tracks W.1 hN h8, zbS]
    rw [if_neg e7, if_neg e7]
    by_cases e8 : v1 = 8
    · rw [if_pos e8, if_pos e8]
    rw [if_neg e8, if_neg e8]
    by_cases e9 : v1 = 9
    · rw [if_pos e9, if_pos e9]
    rw [if_neg e9, if_neg e9]
    by_cases e10 : v1 = 10
    · rw [if_pos e10, if_pos e10]
    rw [if_neg e10, if_neg e10]
    by_cases e11 : v1 = 11
    · rw [if_pos e11, if_pos e11]
    rw [if_neg e11, if_neg e11]
    by_cases e12 : v1 = 12
    · rw [if_pos e12, if_pos e12]
    rw [if_neg e12, if_neg e12]
    by_cases e13 : v1 = 13
    · rw [if_pos e13, if_pos e13, a5]
    rw [if_neg e13, if_neg e13]
    by_cases e14 : v1 = 14
    · rw [if_pos e14, if_pos e14, x2.1]
    rw [if_neg e14, if_neg e14]

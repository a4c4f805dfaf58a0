/-! what is told, by the row alone -/
theorem sP {B : Int} {M : Mem} {r : Row} (hS : ST M 1 r) (W : WF B r) {v : Int} (hv : inR v) : f_X9_isPasture v M = some (if 0 ≤ v ∧ v < r 863 then 1 else 0, M) := by
  have hn := WF1_n W.1
  have hr : M 4 0 = r 863 := hS.1.np
  have h1 := q_isPasture (M := M) hv (by rw [hr]; exact hn)
  rw [hr] at h1
  exact h1
theorem sR {B : Int} {M : Mem} {r : Row} (hS : ST M 1 r) (W : WF B r) {v : Int} (hv : inR v) : f_X9_isReader v M = some (if 0 ≤ v ∧ v < r 865 then 1 else 0, M) := by
  have hn := WF1_nr W.1
  have hr : M 22 0 = r 865 := hS.1.nr
  have h1 := q_isReader (M := M) hv (by rw [hr]; exact hn)
  rw [hr] at h1
  exact h1
def rdV (r : Row) (v1 v2 : Int) : Int := r ((726 + 5 * v1) + v2).toNat
theorem t_reader {B : Int} {M : Mem} {r : Row} (hS : ST M 1 r) (W : WF B r) {v1 v2 : Int} (c1 : 0 ≤ v1 ∧ v1 < r 865) (c3 : 0 ≤ v2 ∧ v2 ≤ 4) : f_X9_reader v1 v2 M = some (rdV r v1 v2, M) := by
  have hnr := WF1_nr W.1
  have g1 := sR hS W (v := v1) ⟨by omega, by omega⟩
  have hv2 : inR v2 := ⟨by omega, by omega⟩
  have h6 : 0 ≤ v1 ∧ v1 < 6 := by omega
  have a0 : M 23 v1.toNat = enc false (r (726 + 5 * v1).toNat) := hS.1.home h6.1 h6.2
  have a1 : M 24 v1.toNat = enc false (r ((726 + 5 * v1) + 1).toNat) := hS.1.reqs h6.1 h6.2
  have a2 : M 25 v1.toNat = enc false (r ((726 + 5 * v1) + 2).toNat) := hS.1.hops h6.1 h6.2
  have a3 : M 26 v1.toNat = enc false (r ((726 + 5 * v1) + 3).toNat) := hS.1.cries h6.1 h6.2
  have a4 : M 27 v1.toNat = enc false (r ((726 + 5 * v1) + 4).toNat) := hS.1.most h6.1 h6.2
  simp only [enc, Bool.false_eq_true, if_false] at a0 a1 a2 a3 a4
  unfold f_X9_reader rdV
  rw [g1, zbS, bitR, bit0, if_pos c1, if_pos hv2]
  by_cases e0 : v2 = 0
  · rw [if_pos e0, if_pos h6, a0, e0, show 726 + 5 * v1 + 0 = 726 + 5 * v1 by omega]
  · rw [if_neg e0]
    by_cases e1 : v2 = 1
    · rw [if_pos e1, if_pos h6, a1, e1]
    · rw [if_neg e1]
      by_cases e2 : v2 = 2
      · rw [if_pos e2, if_pos h6, a2, e2]
      · rw [if_neg e2]
        by_cases e3 : v2 = 3
        · rw [if_pos e3, if_pos h6, a3, e3]
        · rw [if_neg e3, if_pos (by omega), if_pos h6, a4, show v2 = 4 by omega]
theorem t_remembered {B : Int} {M : Mem} {r : Row} (hS : ST M 1 r) (W : WF B r) {v1 v2 : Int} (c1 : 0 ≤ v1 ∧ v1 < r 865) (c2 : 0 ≤ v2 ∧ v2 < 16) : f_X9_remembered v1 v2 M = some (r (756 + 16 * v1 + v2).toNat, M) := by
  have hnr := WF1_nr W.1
  have g1 := sR hS W (v := v1) ⟨by omega, by omega⟩
  have a0 : M 28 (v1 * 16 + v2).toNat = enc false (r (756 + (v1 * 16 + v2)).toNat) := hS.1.mem (p := v1 * 16 + v2) (by omega) (by omega)
  simp only [enc, Bool.false_eq_true, if_false] at a0
  rw [show (756 + (v1 * 16 + v2)).toNat = (756 + 16 * v1 + v2).toNat by omega] at a0
  unfold f_X9_remembered
  rw [g1, zbS, bitR, bit0, if_pos c1, q_isShard ⟨by omega, by omega⟩, zbS, bitR, bit0, if_pos c2, q_cell, zbS, if_pos (by omega), a0]
theorem t_remembered_no {B : Int} {M : Mem} {r : Row} (hS : ST M 1 r) (W : WF B r) (h1 : 1 ≤ r 865) : f_X9_remembered 0 16 M = some (-1, M) := by
  have g1 := sR hS W (v := 0) (by decide)
  unfold f_X9_remembered f_X9_remembered_b15
  rw [g1, zbS, bitR, bit0, if_pos ⟨by omega, by omega⟩, q_isShard (by decide), zbS, bitR, bit0, if_neg (by omega)]
def shV (r : Row) (v1 v2 : Int) : Int := if v2 = 0 then r (416 + v1).toNat else if v2 = 1 then r (432 + v1).toNat else if v2 = 2 then r (448 + v1).toNat else if v2 = 3 then trkOf r v1 (r 863).toNat else if v2 = 4 then ordF r v1 16 else if v2 = 5 then lokF r v1 (r 863).toNat else if v2 = 6 then valF r v1 16 else -2
theorem t_shard {B : Int} {M : Mem} {r : Row} (hS : ST M 1 r) (W : WF B r) {v1 v2 : Int} (c1 : 0 ≤ v1 ∧ v1 < 16) (hv2 : inR v2) : f_X9_shard v1 v2 M = some (shV r v1 v2, M) := by
  have hn := WF1_n W.1
  have hN : r 863 = ((r 863).toNat : Nat) := by omega
  have h8 : (r 863).toNat ≤ 8 := by omega
  have a0 : M 15 v1.toNat = enc false (r (416 + v1).toNat) := hS.1.at c1.1 c1.2
  have a1 : M 16 v1.toNat = enc false (r (432 + v1).toNat) := hS.1.heat c1.1 c1.2
  have a2 : M 17 v1.toNat = enc false (r (448 + v1).toNat) := hS.1.moves c1.1 c1.2
  simp only [enc, Bool.false_eq_true, if_false] at a0 a1 a2
  have g3 := q_countOf (k := 11) (b := 1) rfl hS.1 W.1 c1
  rw [trkOf_n W.2.1 hN h8 c1] at g3
  have g4 := q_place (k := 14) (b := 1) rfl hS.1 W.1 c1
  have g5 := q_best (k := 4) (b := 1) rfl hS W.1 c1 hN h8
  have g6 := q_sumOf (k := 14) (b := 1) (M := M) (r := r) rfl hS.1 c1.1 c1.2
  unfold f_X9_shard shV
  rw [q_isShard ⟨by omega, by omega⟩, zbS, bitR, bit0, if_pos c1, if_pos hv2]
  by_cases e0 : v2 = 0
  · rw [if_pos e0, if_pos e0, if_pos c1, a0]
  rw [if_neg e0, if_neg e0]
  by_cases e1 : v2 = 1
  · rw [if_pos e1, if_pos e1, if_pos c1, a1]
  rw [if_neg e1, if_neg e1]
  by_cases e2 : v2 = 2
  · rw [if_pos e2, if_pos e2, if_pos c1, a2]
  rw [if_neg e2, if_neg e2]
  by_cases e3 : v2 = 3
  · rw [if_pos e3, if_pos e3, g3, zbS]
  rw [if_neg e3, if_neg e3]
  by_cases e4 : v2 = 4
  · rw [if_pos e4, if_pos e4, g4, zbS]
  rw [if_neg e4, if_neg e4]
  by_cases e5 : v2 = 5
  · rw [if_pos e5, if_pos e5, if_pos c1, q_seasonLat hS.1 W.1, zbS, a0, g5, zbS]
  rw [if_neg e5, if_neg e5]
  by_cases e6 : v2 = 6
  · rw [if_pos e6, if_pos e6, g6, zbS]
  rw [if_neg e6, if_neg e6]
theorem t_shard_no {M : Mem} : f_X9_shard 16 0 M = some (-1, M) := by
  unfold f_X9_shard
  rw [q_isShard (by decide), zbS, bitR, bit0, if_neg (by omega)]
def trV (r : Row) (v1 v2 v3 : Int) : Int := if v3 = 0 then (if r (160 + 16 * v1 + v2).toNat = 0 then -5 else r (160 + 16 * v1 + v2).toNat - 1) else if v3 = 1 then (if r (160 + 16 * v1 + v2).toNat = 0 then -5 else r (288 + 16 * v1 + v2).toNat) else (if r (32 + 16 * v1 + v2).toNat = 0 then -5 else r (32 + 16 * v1 + v2).toNat - 1)
theorem t_track {B : Int} {M : Mem} {r : Row} (hS : ST M 1 r) (W : WF B r) {v1 v2 v3 : Int} (c1 : 0 ≤ v1 ∧ v1 < r 863) (c2 : 0 ≤ v2 ∧ v2 < 16) (c3 : 0 ≤ v3 ∧ v3 ≤ 2) : f_X9_track v1 v2 v3 M = some (trV r v1 v2 v3, M) := by
  have hn := WF1_n W.1
  have g1 := sP hS W (v := v1) ⟨by omega, by omega⟩
  have hv3 : inR v3 := ⟨by omega, by omega⟩
  have hp : 0 ≤ v1 ∧ v1 < 8 := by omega
  have hb := WF1_trk8 W.1 hp.1 hp.2 v2 c2.1 c2.2
  have a1 : M 12 (v1 * 16 + v2).toNat = enc true (r (160 + (v1 * 16 + v2)).toNat) := hS.1.lead (p := v1 * 16 + v2) (by omega) (by omega)
  have a2 : M 13 (v1 * 16 + v2).toNat = enc false (r (288 + (v1 * 16 + v2)).toNat) := hS.1.left (p := v1 * 16 + v2) (by omega) (by omega)
  have a3 : M 10 (v1 * 16 + v2).toNat = enc true (r (32 + (v1 * 16 + v2)).toNat) := hS.1.post (p := v1 * 16 + v2) (by omega) (by omega)
  simp only [enc, Bool.false_eq_true, if_false, if_true] at a1 a2 a3
  rw [show (160 + (v1 * 16 + v2)).toNat = (160 + 16 * v1 + v2).toNat by omega] at a1
  rw [show (288 + (v1 * 16 + v2)).toNat = (288 + 16 * v1 + v2).toNat by omega] at a2
  rw [show (32 + (v1 * 16 + v2)).toNat = (32 + 16 * v1 + v2).toNat by omega] at a3
  have g3 := q_isAt (k := 11) (b := 1) rfl hS.1 hp c2 hb
  unfold f_X9_track f_X9_track_b97 trV
  rw [g1, zbS, bitR, bit0, if_pos c1, q_isShard ⟨by omega, by omega⟩, zbS, bitR, bit0, if_pos c2, if_pos hv3]
  by_cases e0 : v3 = 0
  · rw [if_pos e0, if_pos e0, q_cell, zbS, if_pos (by omega), a1]
  rw [if_neg e0, if_neg e0]
  by_cases e1 : v3 = 1
  · rw [if_pos e1, if_pos e1, g3, zbS, bitR, bit0]
    by_cases e5 : r (160 + 16 * v1 + v2).toNat = 0
    · rw [if_neg (by omega), if_pos e5]
    · rw [if_pos (by omega), if_neg e5, q_cell, zbS, if_pos (by omega), a2]
  rw [if_neg e1, if_neg e1, if_pos (by omega), q_cell, zbS, if_pos (by omega), a3]
def paV (r : Row) (v1 v2 : Int) : Int := if v2 = 0 then r ((0 + 4 * v1) + 0).toNat else if v2 = 1 then r ((0 + 4 * v1) + 1).toNat else if v2 = 2 then r ((0 + 4 * v1) + 2).toNat else if v2 = 3 then cntAt r v1 16 else if v2 = 4 then trkIn r v1 16 else if v2 = 5 then disF r v1 else if v2 = 6 then heatF r v1 16 else if v2 = 7 then wolF r v1 (r 864).toNat else if v2 = 8 then r ((0 + 4 * v1) + 3).toNat else -2
theorem t_pasture {B : Int} {M : Mem} {r : Row} (hS : ST M 1 r) (W : WF B r) {v1 v2 : Int} (c1 : 0 ≤ v1 ∧ v1 < r 863) (hv2 : inR v2) : f_X9_pasture v1 v2 M = some (paV r v1 v2, M) := by
  have hn := WF1_n W.1
  have hv1 : inR v1 := ⟨by omega, by omega⟩
  have g1 := sP hS W hv1
  have hw := WF1_nw W.1
  have hp : 0 ≤ v1 ∧ v1 < 8 := by omega
  have hNw : r 864 = ((r 864).toNat : Nat) := by omega
  have hi := WF1_inn W.1 hp.1 hp.2
  have hz := slatF_b W.1
  have a0 : M 5 v1.toNat = enc false (r (0 + 4 * v1).toNat) := hS.1.lat hp.1 hp.2
  have a1 : M 6 v1.toNat = enc false (r ((0 + 4 * v1) + 1).toNat) := hS.1.room hp.1 hp.2
  have a2 : M 9 v1.toNat = enc false (r ((0 + 4 * v1) + 2).toNat) := hS.1.inn hp.1 hp.2
  have a8 : M 8 v1.toNat = enc false (r ((0 + 4 * v1) + 3).toNat) := hS.1.sent hp.1 hp.2
  have a3 : M 7 v1.toNat = cntAt r v1 16 := hS.2 v1 hp.1 hp.2
  simp only [enc, Bool.false_eq_true, if_false] at a0 a1 a2 a8
  have k4 := q_countIn (k := 11) (b := 1) rfl hS.1 hp (WF1_trk8 W.1 hp.1 hp.2)
  have k5 := q_distance (k := 4) (b := 1) rfl hS.1 W.1 hp.1 hp.2 hz
  have k6 := q_heatIn (k := 14) (b := 1) rfl hS.1 W.1 hv1
  have k7 := q_wolvesIn (k := 19) (b := 1) rfl hS.1 W.1 hv1 hNw (by omega)
  unfold f_X9_pasture f_X9_pasture_b106 paV
  rw [g1, zbS, bitR, bit0, if_pos c1, if_pos hv2]
  by_cases e0 : v2 = 0
  · rw [if_pos e0, if_pos e0, if_pos hp, a0, show 0 + 4 * v1 + 0 = 0 + 4 * v1 by omega]
  rw [if_neg e0, if_neg e0]
  by_cases e1 : v2 = 1
  · rw [if_pos e1, if_pos e1, if_pos hp, a1]
  rw [if_neg e1, if_neg e1]
  by_cases e2 : v2 = 2
  · rw [if_pos e2, if_pos e2, if_pos hp, a2, if_pos (by omega)]
    by_cases e : r ((0 + 4 * v1) + 2).toNat = 0
    · rw [if_pos e, e]
    · rw [if_neg e, show r ((0 + 4 * v1) + 2).toNat = 1 by omega]
  rw [if_neg e2, if_neg e2]
  by_cases e3 : v2 = 3
  · rw [if_pos e3, if_pos e3, if_pos hp, a3]
  rw [if_neg e3, if_neg e3]
  by_cases e4 : v2 = 4
  · rw [if_pos e4, if_pos e4, k4, zbS]
  rw [if_neg e4, if_neg e4]
  by_cases e5 : v2 = 5
  · rw [if_pos e5, if_pos e5, q_seasonLat hS.1 W.1, zbS, k5, zbS]
    rfl
  rw [if_neg e5, if_neg e5]
  by_cases e6 : v2 = 6
  · rw [if_pos e6, if_pos e6, k6, zbS]
  rw [if_neg e6, if_neg e6]
  by_cases e7 : v2 = 7
  · rw [if_pos e7, if_pos e7, k7, zbS]
  rw [if_neg e7, if_neg e7]
  by_cases e8 : v2 = 8
  · rw [if_pos e8, if_pos e8, if_pos hp, a8]
  rw [if_neg e8, if_neg e8]
theorem t_pasture_no {B : Int} {M : Mem} {r : Row} (hS : ST M 1 r) (W : WF B r) : f_X9_pasture 8 0 M = some (-1, M) := by
  have hn := WF1_n W.1
  have g1 := sP hS W (v := 8) (by decide)
  unfold f_X9_pasture
  rw [g1, zbS, bitR, bit0, if_neg (by omega)]
theorem t_value_no {M : Mem} : f_X9_value 256 M = some (-1, M) := by
  unfold f_X9_value f_X9_value_b23
  rw [q_isKey (by decide), zbS, bitR, bit0, if_neg (by omega)]
theorem t_movesIn_no {M : Mem} : f_X9_movesIn 16 M = some (-1, M) := by
  unfold f_X9_movesIn
  rw [q_isShard (by decide), zbS, bitR, bit0, if_neg (by omega)]
theorem t_way_no {B : Int} {M : Mem} {r : Row} (hS : ST M 1 r) (W : WF B r) (h1 : 1 ≤ r 865) : f_X9_way 0 0 (-1) M = some (-2, M) := by
  have g1 := sR hS W (v := 0) (by decide)
  unfold f_X9_way
  rw [g1, zbS, bitR, bit0, if_pos ⟨by omega, by omega⟩, q_isKey (by decide), zbS, bitR, bit0, if_pos (by decide), if_pos (by decide), if_neg (by decide)]
def cnV (r : Row) (v1 : Int) : Int := if v1 = 0 then r 862 else (if v1 = 1 then seaF r else (if v1 = 2 then slatF r else (if v1 = 3 then r 863 else (if v1 = 4 then innF r (r 863).toNat else (if v1 = 5 then r 864 else (if v1 = 6 then r 865 else (if v1 = 7 then trkAll r (r 863).toNat else (if v1 = 8 then r 866 else (if v1 = 9 then r 867 else (if v1 = 10 then r 868 else (if v1 = 11 then r 869 else r 870)))))))))))
theorem t_count {B : Int} {M : Mem} {r : Row} (hS : ST M 1 r) (W : WF B r) {v1 : Int} (c1 : 0 ≤ v1 ∧ v1 ≤ 12) : f_X9_count v1 M = some (cnV r v1, M) := by
  have hn := WF1_n W.1
  have hv1 : inR v1 := ⟨by omega, by omega⟩
  have hN : r 863 = ((r 863).toNat : Nat) := by omega
  have h8 : (r 863).toNat ≤ 8 := by omega
  have hr := WF1_nr W.1
  obtain ⟨R, hR⟩ : ∃ R : Nat, r 865 = R := ⟨(r 865).toNat, by omega⟩
  have hR6 : R ≤ 6 := by omega
  have b0 : M 1 0 = r 862 := hS.1.day
  have b3 : M 4 0 = r 863 := hS.1.np
  have b5 : M 19 0 = r 864 := hS.1.nw
  have b6 : M 22 0 = r 865 := hS.1.nr
  have b9 : M 1 1 = r 867 := hS.1.cut
  have b10 : M 1 2 = r 868 := hS.1.grown
  have k4 := q_inns (k := 4) (b := 1) rfl hS.1 W.1 hN h8
  have k7 := q_countAll (k := 11) (b := 1) rfl hS.1 W.1
  rw [trkAll_n W.2.1 hN h8] at k7
  have k8 : f_X9_sum 17 16 16 M = some (r 866, M) := by
    have h1 : f_X9_sum 17 16 16 M = some (sumN 16 (M 17), M) := q_sum (c := 17) (n := 16) (L := 16) (by decide) (by decide)
    rw [h1, W.2.2.1]
    exact congrArg (fun t => some (t, M)) (sumN_congr (fun k hk => by
      have h2 : M 17 ((k : Int)).toNat = enc false (r (448 + (k : Int)).toNat) := hS.1.moves (p := (k : Int)) (by omega) (by omega)
      simpa [enc] using h2))
  have k11 : f_X9_sum 24 6 (M 22 0) M = some (r 869, M) := by
    rw [b6, hR, q_sum (c := 24) (n := 6) (L := R) hR6 (by decide), W.2.2.2.1]
    refine congrArg (fun t => some (t, M)) ((sumN_congr (fun k hk => ?_)).trans (sumN_tail hR6 (fun k hk hk6 => ?_)).symm)
    · have h2 : M 24 ((k : Int)).toNat = enc false (r ((726 + 5 * (k : Int)) + 1).toNat) := hS.1.reqs (p := (k : Int)) (by omega) (by omega)
      simpa [enc] using h2
    · exact (W.2.2.2.2.2 k (by omega) (by omega)).1
  have k12 : f_X9_sum 26 6 (M 22 0) M = some (r 870, M) := by
    rw [b6, hR, q_sum (c := 26) (n := 6) (L := R) hR6 (by decide), W.2.2.2.2.1]
    refine congrArg (fun t => some (t, M)) ((sumN_congr (fun k hk => ?_)).trans (sumN_tail hR6 (fun k hk hk6 => ?_)).symm)
    · have h2 : M 26 ((k : Int)).toNat = enc false (r ((726 + 5 * (k : Int)) + 3).toNat) := hS.1.cries (p := (k : Int)) (by omega) (by omega)
      simpa [enc] using h2
    · exact (W.2.2.2.2.2 k (by omega) (by omega)).2
  unfold f_X9_count cnV
  rw [if_pos hv1]
  by_cases e0 : v1 = 0
  · rw [if_pos e0, if_pos e0, b0]
  rw [if_neg e0, if_neg e0]
  by_cases e1 : v1 = 1
  · rw [if_pos e1, if_pos e1, q_season hS.1 W.1, zbS]
  rw [if_neg e1, if_neg e1]
  by_cases e2 : v1 = 2
  · rw [if_pos e2, if_pos e2, q_seasonLat hS.1 W.1, zbS]
  rw [if_neg e2, if_neg e2]
  by_cases e3 : v1 = 3
  · rw [if_pos e3, if_pos e3, b3]
  rw [if_neg e3, if_neg e3]
  by_cases e4 : v1 = 4
  · rw [if_pos e4, if_pos e4, k4, zbS]
  rw [if_neg e4, if_neg e4]
  by_cases e5 : v1 = 5
  · rw [if_pos e5, if_pos e5, b5]
  rw [if_neg e5, if_neg e5]
  by_cases e6 : v1 = 6
  · rw [if_pos e6, if_pos e6, b6]
  rw [if_neg e6, if_neg e6]
  by_cases e7 : v1 = 7
  · rw [if_pos e7, if_pos e7, k7, zbS]
  rw [if_neg e7, if_neg e7]
  by_cases e8 : v1 = 8
  · rw [if_pos e8, if_pos e8, k8, zbS]
  rw [if_neg e8, if_neg e8]
  by_cases e9 : v1 = 9
  · rw [if_pos e9, if_pos e9, b9]
  rw [if_neg e9, if_neg e9]
  by_cases e10 : v1 = 10
  · rw [if_pos e10, if_pos e10, b10]
  rw [if_neg e10, if_neg e10]
  by_cases e11 : v1 = 11
  · rw [if_pos e11, if_pos e11, k11, zbS]
  rw [if_neg e11, if_neg e11, if_pos (by omega), k12, zbS]
theorem t_count_no {M : Mem} : f_X9_count 15 M = some (-2, M) := by
  unfold f_X9_count
  rw [if_pos (by decide), if_neg (by decide), if_neg (by decide), if_neg (by decide), if_neg (by decide), if_neg (by decide), if_neg (by decide), if_neg (by decide), if_neg (by decide), if_neg (by decide), if_neg (by decide), if_neg (by decide), if_neg (by decide), if_neg (by decide), if_neg (by decide), if_neg (by decide)]

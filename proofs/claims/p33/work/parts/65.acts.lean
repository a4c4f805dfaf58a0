theorem innF_nn {r : Row} {N : Nat} (h8 : N ≤ 8) : 0 ≤ innF r N ∧ innF r N ≤ 8 := by
  refine ⟨sumN_nn (fun k _ => by split <;> omega), ?_⟩
  have h1 : sumN N (fun p : Nat => if r ((0 + 4 * (p : Int)) + 2).toNat = 1 then (1 : Int) else 0) ≤ sumN N (fun _ => 1) := sumN_le (fun k _ => by split <;> omega)
  have h2 : ∀ n : Nat, sumN n (fun _ => (1 : Int)) = n := fun n => by
    induction n with
    | zero => rfl
    | succ n ih => rw [sumN_succ, ih]; rfl
  rw [h2] at h1
  unfold innF
  omega
theorem a_setInn {v1 v2 : Int} (hv1 : inR v1) (hv2 : v2 = 0 ∨ v2 = 1) : Act 0 (f_X9_setInn v1 v2) := by
  intro B M r I hB
  have g1 := jP I hv1
  have hS := I.2.1.1
  have W := I.2.1.2.1
  have hn := WF1_n W.1
  have r2 : inR v2 := by rcases hv2 with h | h <;> rw [h] <;> decide
  by_cases c1 : 0 ≤ v1 ∧ v1 < r 863
  · have hp : 0 ≤ v1 ∧ v1 < 8 := by omega
    have hi := WF1_inn W.1 hp.1 hp.2
    have a2 : M 9 v1.toNat = enc false (r ((0 + 4 * v1) + 2).toNat) := hS.1.inn hp.1 hp.2
    simp only [enc, Bool.false_eq_true, if_false] at a2
    by_cases c3 : r ((0 + 4 * v1) + 2).toNat = v2
    · refine act_no I (by decide) (x := -5) (by decide) ?_
      unfold f_X9_setInn
      rw [g1, zbS, bitR, bit0, if_pos c1, if_pos hp, a2, if_pos (by omega), if_pos r2, if_pos c3]
    · obtain ⟨M1, s1, I1, T1, kc⟩ := q_store I
      have s0 : ST0 (wr M1 9 v1.toNat v2) 1 (up r ((0 + 4 * v1) + 2).toNat v2) := ST0.inn_w I1.2.1.1.1 hp.1 hp.2 rfl
      obtain ⟨M', i1, i2, i3⟩ := q_fp (k := 4) (b := 1) rfl hp s0
      have hw := inn_wf W c1 hv2
      have hno : ∀ j, 160 ≤ j ∨ (j < 32 ∧ j % 4 = 1) → fz (up r ((0 + 4 * v1) + 2).toNat v2) (32 + 16 * v1).toNat 0 16 j = r j := fun j h1 => by rw [fz_o (by omega), up_ne (by omega)]
      obtain ⟨R, hR⟩ : ∃ R, fz (up r ((0 + 4 * v1) + 2).toNat v2) (32 + 16 * v1).toNat 0 16 = R := ⟨_, rfl⟩
      rw [hR] at i2 hw hno
      obtain ⟨N, hN, h8⟩ := nn_of hw.1
      have i4 := q_inns (k := 4) (b := 1) rfl i2 hw.1 hN h8
      have K : ∀ y, y ≠ 9 → y ≠ 10 → M' y = M1 y := fun y h1 h2 => by rw [i3 y h2, wr_ne h1]
      have hb := innF_nn (r := R) h8
      refine act_do I1 T1 kc (x := innF R N) (M' := M') ?_ (by omega) (ST_w I1.2.1.1 i2 (K 7 (by decide) (by decide)) (fun i hi => hno _ (by omega))) (WF_B hw (by omega)) (WX_c W.1 (fun j hj => hno j (by omega)) I.2.1.2.2.2) (by rw [hno 862 (by omega)]; exact I.2.1.2.2.1) (fun y hy => K y (by omega) (by omega)) (by rw [hno 865 (by omega)]; exact Int.le_refl _) (by rw [hno 862 (by omega)]; omega)
      unfold f_X9_setInn
      rw [g1, zbS, bitR, bit0, if_pos c1, if_pos hp, a2, if_pos (by omega), if_pos r2, if_neg c3, s1, zbS, if_pos hv2, zltS, i1, zbS, i4, zbS]
  · refine act_no I (by decide) (x := -1) (by decide) ?_
    unfold f_X9_setInn
    rw [g1, zbS, bitR, bit0, if_neg c1]
theorem a_addPasture {v1 v2 v3 : Int} (hv1 : inR v1) (hv2 : inR v2) (hv3 : v3 = 0 ∨ v3 = 1) : Act 0 (f_X9_addPasture v1 v2 v3) := by
  intro B M r I hB
  have hS := I.2.1.1
  have W := I.2.1.2.1
  have hn := WF1_n W.1
  have a0 : M 4 0 = r 863 := hS.1.np
  by_cases c1 : 0 ≤ v1 ∧ v1 ≤ 90
  · by_cases c2 : 1 ≤ v2 ∧ v2 ≤ 16
    · by_cases c3 : r 863 < 8
      · obtain ⟨M1, s1, I1, T1, kc⟩ := q_store I
        have a1 : M1 4 0 = r 863 := I1.2.1.1.1.np
        have hb : 0 ≤ r 863 ∧ r 863 < 8 := by omega
        have hb1 : 1 ≤ r 863 ∧ r 863 < 8 := by omega
        have t0 := ST0.lat_w (v := v1) (w := v1) I1.2.1.1.1 hb.1 hb.2 rfl
        have t1 := ST0.room_w (v := v2) (w := v2) t0 hb.1 hb.2 rfl
        have t2 := ST0.inn_w (v := v3) (w := v3) t1 hb.1 hb.2 rfl
        have t3 : ST0 (wr (wr (wr (wr M1 5 (r 863).toNat v1) 6 (r 863).toNat v2) 9 (r 863).toNat v3) 4 0 (r 863 + 1)) 1 (addF r v1 v2 v3) := ST0.np_w t2 (r 863 + 1)
        have hw : WF B (addF r v1 v2 v3) := addF_wf W hb.2 c1 (by omega) (by omega)
        have hno : ∀ j, 32 ≤ j → j ≠ 863 → addF r v1 v2 v3 j = r j := fun j q1 q2 => addF_o hb1 (by omega) (by omega) (by omega) q2
        have K : Kp 1 28 M1 (wr (wr (wr (wr M1 5 (r 863).toNat v1) 6 (r 863).toNat v2) 9 (r 863).toNat v3) 4 0 (r 863 + 1)) := Kp_wr (Kp_wr (Kp_wr (Kp_wr Kp_id (by decide)) (by decide)) (by decide)) (by decide)
        refine act_do I1 T1 kc (x := r 863) (M' := wr (wr (wr (wr M1 5 (r 863).toNat v1) 6 (r 863).toNat v2) 9 (r 863).toNat v3) 4 0 (r 863 + 1)) ?_ (by omega) (ST_w I1.2.1.1 t3 (by rw [wr_ne (by decide), wr_ne (by decide), wr_ne (by decide), wr_ne (by decide)]) (fun i hi => hno _ (by omega) (by omega))) (WF_B hw (by omega)) (addF_wx W I.2.1.2.2.2 hb.2 (by omega)) (by rw [hno 862 (by omega) (by omega)]; exact I.2.1.2.2.1) (fun y hy => K y (by omega)) (by rw [hno 865 (by omega) (by omega)]; exact Int.le_refl _) (by rw [hno 862 (by omega) (by omega)]; omega)
        unfold f_X9_addPasture f_X2_found
        rw [q_in hv1 (by decide) (by decide), zbS, bitR, bit0, if_pos c1, q_in hv2 (by decide) (by decide), zbS, bitR, bit0, if_pos c2, a0, if_pos (by omega), if_pos c3, s1, zbS, zltS, a1, if_pos hb, zltS, zltS, if_pos hv3, zltS, zltS, zbS, wr_ne (show 4 ≠ 4 + 5 by decide), wr_ne (show 4 ≠ 4 + 2 by decide), wr_ne (show 4 ≠ 4 + 1 by decide), a1]
      · refine act_no I (by decide) (x := -3) (by decide) ?_
        unfold f_X9_addPasture
        rw [q_in hv1 (by decide) (by decide), zbS, bitR, bit0, if_pos c1, q_in hv2 (by decide) (by decide), zbS, bitR, bit0, if_pos c2, a0, if_pos (by omega), if_neg c3]
    · refine act_no I (by decide) (x := -2) (by decide) ?_
      unfold f_X9_addPasture f_X9_addPasture_b20
      rw [q_in hv1 (by decide) (by decide), zbS, bitR, bit0, if_pos c1, q_in hv2 (by decide) (by decide), zbS, bitR, bit0, if_neg c2]
  · refine act_no I (by decide) (x := -2) (by decide) ?_
    unfold f_X9_addPasture f_X9_addPasture_b20
    rw [q_in hv1 (by decide) (by decide), zbS, bitR, bit0, if_neg c1]
theorem a_addReader {v1 : Int} (hv1 : inR v1) : Act 0 (f_X9_addReader v1) := by
  intro B M r I hB
  have g1 := jP I hv1
  have hS := I.2.1.1
  have W := I.2.1.2.1
  have hn := WF1_n W.1
  have hr0 := WF1_nr W.1
  have a0 : M 22 0 = r 865 := hS.1.nr
  by_cases c1 : 0 ≤ v1 ∧ v1 < r 863
  · by_cases c3 : r 865 < 6
    · obtain ⟨M1, s1, I1, T1, kc⟩ := q_store I
      have hb : 0 ≤ r 865 ∧ r 865 < 6 := by omega
      obtain ⟨M', i1, i2, i3⟩ := q_join (k := 22) (b := 1) (p := v1) rfl I1.2.1.1.1 hb
      have hw : WF B (joiF r v1) := joiF_wf W hb.2 (by omega)
      have hno : ∀ j, j < 726 ∨ 871 ≤ j ∨ (852 ≤ j ∧ j < 865) → joiF r v1 j = r j := fun j q1 => joiF_o hb (by omega) (by omega) (by omega)
      have e5 : joiF r v1 865 = r 865 + 1 := by unfold joiF; rw [up_eq]
      have K : ∀ y, y < 22 ∨ 29 ≤ y → M' y = M1 y := fun y hy => i3 y (by omega) (by omega) (by omega)
      refine act_do I1 T1 kc (x := r 865) (M' := M') ?_ (by omega) (ST_w I1.2.1.1 i2 (K 7 (by omega)) (fun i hi => hno _ (by omega))) (WF_B hw (by omega)) (WX_c W.1 (fun j hj => hno j (by omega)) I.2.1.2.2.2) (by rw [hno 862 (by omega)]; exact I.2.1.2.2.1) (fun y hy => K y (by omega)) (by omega) (by rw [hno 862 (by omega)]; omega)
      unfold f_X9_addReader
      rw [g1, zbS, bitR, bit0, if_pos c1, a0, if_pos (by omega), if_pos c3, s1, zbS, i1, zbS]
    · refine act_no I (by decide) (x := -3) (by decide) ?_
      unfold f_X9_addReader
      rw [g1, zbS, bitR, bit0, if_pos c1, a0, if_pos (by omega), if_neg c3]
  · refine act_no I (by decide) (x := -1) (by decide) ?_
    unfold f_X9_addReader
    rw [g1, zbS, bitR, bit0, if_neg c1]
theorem a_post : Act 0 f_X9_post := by
  intro B M r I hB
  have hS := I.2.1.1
  have W := I.2.1.2.1
  obtain ⟨N, hN, h8⟩ := nn_of W.1
  have g1 := q_inns (k := 4) (b := 1) rfl hS.1 W.1 hN h8
  have hib := innF_nn (r := r) h8
  by_cases c1 : 1 ≤ innF r N
  · obtain ⟨M1, s1, I1, T1, kc⟩ := q_store I
    obtain ⟨M', i1, i2, i3⟩ := q_post I1.2.1.1 W hN h8
    refine act_do I1 T1 kc (x := innF r N) (M' := M') ?_ (by omega) i2 (WF_B (postF_wf W N h8) (by omega)) (postF_wx W I.2.1.2.2.2 N h8) (by rw [postF_o (by omega) N h8]; exact I.2.1.2.2.1) (fun y hy => i3 y (by omega)) (by rw [postF_o (by omega) N h8]; exact Int.le_refl _) (by rw [postF_o (by omega) N h8]; omega)
    unfold f_X9_post
    rw [g1, zbS, if_pos (by omega), if_pos c1, s1, zbS, i1, zbS]
  · refine act_no I (by decide) (x := -5) (by decide) ?_
    unfold f_X9_post
    rw [g1, zbS, if_pos (by omega), if_neg c1]
theorem a_move {v1 v2 : Int} (hv1 : inR v1) (hv2 : inR v2) : Act 0 (f_X9_move v1 v2) := by
  intro B M r I hB
  have hS := I.2.1.1
  have W := I.2.1.2.1
  have hn := WF1_n W.1
  have g2 := jP I hv2
  by_cases c1 : 0 ≤ v1 ∧ v1 < 16
  · by_cases c2 : 0 ≤ v2 ∧ v2 < r 863
    · have ha := WF1_at W.1 c1.1 c1.2
      have a1 : M 15 v1.toNat = enc false (r (416 + v1).toNat) := hS.1.at c1.1 c1.2
      simp only [enc, Bool.false_eq_true, if_false] at a1
      by_cases c3 : r (416 + v1).toNat = v2
      · refine act_no I (by decide) (x := -5) (by decide) ?_
        unfold f_X9_move
        rw [q_isShard hv1, zbS, bitR, bit0, if_pos c1, g2, zbS, bitR, bit0, if_pos c2, if_pos c1, zltS, a1, if_pos (by omega), if_pos hv2, if_pos c3]
      · have g3 := q_hasRoom (k := 4) (b := 1) rfl hS W.1 (p := v2) c2.1 (by omega)
        by_cases c4 : cntAt r v2 16 < r ((0 + 4 * v2) + 1).toNat
        · obtain ⟨M1, s1, I1, T1, kc⟩ := q_store I
          have hq8 : 0 ≤ v2 ∧ v2 < 8 := by omega
          have hpp : 0 ≤ r (416 + v1).toNat ∧ r (416 + v1).toNat < 8 := by omega
          obtain ⟨M', i1, i2, i3⟩ := q_drive I1.2.1.1 W.1 c1 hq8
          have hw : WF (B + 1) (goF r v1 v2) := ⟨goF_wf1 W.1 c1 (by omega), goF_wf2 W.1 W.2.1 c1 (by omega) (by omega), goF_wf3 W.1 W.2.2 c1 (by omega)⟩
          refine act_do I1 T1 kc (x := r (416 + v1).toNat) (M' := M') ?_ (by omega) i2 (WF_B hw (by omega)) (goF_wx W.1 W.2.1 I.2.1.2.2.2 c1 c2 (by omega) c4) (by rw [goF_o c1 hpp hq8 (by omega)]; exact I.2.1.2.2.1) (fun y hy => i3 y (by omega)) (by rw [goF_o c1 hpp hq8 (by omega)]; exact Int.le_refl _) (by rw [goF_o c1 hpp hq8 (by omega)]; omega)
          unfold f_X9_move
          rw [q_isShard hv1, zbS, bitR, bit0, if_pos c1, g2, zbS, bitR, bit0, if_pos c2, if_pos c1, zltS, a1, if_pos (by omega), if_pos hv2, if_neg c3, g3, zbS, bitR, bit0, if_pos c4, s1, zbS, i1, zbS]
        · refine act_no I (by decide) (x := -3) (by decide) ?_
          unfold f_X9_move
          rw [q_isShard hv1, zbS, bitR, bit0, if_pos c1, g2, zbS, bitR, bit0, if_pos c2, if_pos c1, zltS, a1, if_pos (by omega), if_pos hv2, if_neg c3, g3, zbS, bitR, bit0, if_neg c4]
    · refine act_no I (by decide) (x := -1) (by decide) ?_
      unfold f_X9_move f_X9_move_b15
      rw [q_isShard hv1, zbS, bitR, bit0, if_pos c1, g2, zbS, bitR, bit0, if_neg c2]
  · refine act_no I (by decide) (x := -1) (by decide) ?_
    unfold f_X9_move f_X9_move_b15
    rw [q_isShard hv1, zbS, bitR, bit0, if_neg c1]

/-! the acts, one by one -/
theorem jP {B : Int} {M : Mem} {r : Row} (I : Inv B M r) {v : Int} (hv : inR v) : f_X9_isPasture v M = some (if 0 ≤ v ∧ v < r 863 then 1 else 0, M) := by
  have hn := WF1_n I.2.1.2.1.1
  have hr : M 4 0 = r 863 := I.2.1.1.1.np
  have h1 := q_isPasture (M := M) hv (by rw [hr]; exact hn)
  rw [hr] at h1
  exact h1
theorem jR {B : Int} {M : Mem} {r : Row} (I : Inv B M r) {v : Int} (hv : inR v) : f_X9_isReader v M = some (if 0 ≤ v ∧ v < r 865 then 1 else 0, M) := by
  have hn := WF1_nr I.2.1.2.1.1
  have hr : M 22 0 = r 865 := I.2.1.1.1.nr
  have h1 := q_isReader (M := M) hv (by rw [hr]; exact hn)
  rw [hr] at h1
  exact h1
theorem act_put1 {f : Mem → Option (Int × Mem)} {B : Int} {M M1 M' : Mem} {r : Row} {x : Int} {j : Nat} {v : Int} (I1 : Inv B M1 r) (T1 : Top B M1 r) (kc : ∀ x, x < 88 ∨ 206 ≤ x → M1 x = M x) (hf : f M = some (x, M')) (hx : 0 ≤ x ∧ x ≤ 2147483647) (h0 : ST0 M' 1 (up r j v)) (hW : WF B (up r j v)) (hk : Kp 1 28 M1 M') (h6 : M' 7 = M1 7) (hj : (j < 160 ∨ 432 ≤ j) ∧ j ≠ 862 ∧ j ≠ 865) (hX : WX (up r j v)) : ∃ x M' r', f M = some (x, M') ∧ inR x ∧ Inv (B + 1000) M' r' ∧ (x < 0 → r' = r) ∧ (0 ≤ x → Top (B + 1000) M' r) ∧ r 865 ≤ r' 865 ∧ r' 862 ≤ r 862 + 0 ∧ ∀ y, y = 0 ∨ (59 ≤ y ∧ y < 88) → M' y = M y :=
  act_do I1 T1 kc hf hx (ST_w I1.2.1.1 h0 h6 (fun i hi => up_ne (by omega))) (WF_B hW (by omega)) hX (by rw [up_ne (by omega)]; exact I1.2.1.2.2.1) (fun y hy => hk y (by omega)) (by rw [up_ne (by omega)]; exact Int.le_refl _) (by rw [up_ne (by omega)]; omega)
theorem wx_put1 {B : Int} {M : Mem} {r : Row} (I : Inv B M r) {j : Nat} {v : Int} (hj : (j < 160 ∧ ¬ (j < 32 ∧ j % 4 = 1)) ∨ 432 ≤ j) : WX (up r j v) := WX_c I.2.1.2.1.1 (fun i hi => up_ne (by omega)) I.2.1.2.2.2
theorem a_setSeason {v1 v2 : Int} (hv1 : inR v1) (hv2 : inR v2) : Act 0 (f_X9_setSeason v1 v2) := by
  intro B M r I hB
  have hS := I.2.1.1
  have W := I.2.1.2.1
  by_cases c1 : 0 ≤ v1 ∧ v1 ≤ 3
  · by_cases c2 : 0 ≤ v2 ∧ v2 ≤ 90
    · have h4 : 0 ≤ v1 ∧ v1 < 4 := by omega
      have a0 : M 3 v1.toNat = enc false (r (852 + v1).toNat) := hS.1.lati h4.1 h4.2
      simp only [enc, Bool.false_eq_true, if_false] at a0
      have hb := WF1_sea W.1 h4.1 h4.2
      by_cases c3 : r (852 + v1).toNat = v2
      · refine act_no I (by decide) (x := -5) (by decide) ?_
        unfold f_X9_setSeason
        rw [q_in hv1 (by decide) (by decide), zbS, bitR, bit0, if_pos c1, q_in hv2 (by decide) (by decide), zbS, bitR, bit0, if_pos c2, if_pos h4, zltS, a0, if_pos (by omega), if_pos hv2, if_pos c3]
      · obtain ⟨M1, s1, I1, T1, kc⟩ := q_store I
        have hw : WF B (up r (852 + v1).toNat v2) := ⟨WF1_sea_w W.1 h4.1 h4.2 c2, WF2_c (by have := WF1_n W.1; omega) (fun j hj => up_ne (by omega)) W.2.1, WF3_c (WF1_nr W.1).1 (fun j j1 j2 j3 j4 => up_ne (by omega)) W.2.2⟩
        refine act_put1 I1 T1 kc (x := r (852 + v1).toNat) (M' := wr M1 3 v1.toNat v2) ?_ (by omega) (ST0.lati_w I1.2.1.1.1 h4.1 h4.2 rfl) hw (Kp_wr Kp_id (by decide)) (wr_ne (by decide)) (by omega) (wx_put1 I (by omega))
        unfold f_X9_setSeason
        rw [q_in hv1 (by decide) (by decide), zbS, bitR, bit0, if_pos c1, q_in hv2 (by decide) (by decide), zbS, bitR, bit0, if_pos c2, if_pos h4, zltS, a0, if_pos (by omega), if_pos hv2, if_neg c3, s1, zbS, zltS]
    · refine act_no I (by decide) (x := -2) (by decide) ?_
      unfold f_X9_setSeason f_X9_setSeason_b19
      rw [q_in hv1 (by decide) (by decide), zbS, bitR, bit0, if_pos c1, q_in hv2 (by decide) (by decide), zbS, bitR, bit0, if_neg c2]
  · refine act_no I (by decide) (x := -2) (by decide) ?_
    unfold f_X9_setSeason f_X9_setSeason_b19
    rw [q_in hv1 (by decide) (by decide), zbS, bitR, bit0, if_neg c1]
theorem a_driveWolf : Act 0 f_X9_driveWolf := by
  intro B M r I hB
  have hS := I.2.1.1
  have W := I.2.1.2.1
  have hw := WF1_nw W.1
  have a0 : M 19 0 = r 864 := hS.1.nw
  by_cases c1 : 1 ≤ r 864
  · obtain ⟨M1, s1, I1, T1, kc⟩ := q_store I
    have a1 : M1 19 0 = r 864 := I1.2.1.1.1.nw
    have hwf : WF B (up r 864 (r 864 - 1)) := ⟨WF1_up W.1 (by decide) (show 0 ≤ r 864 - 1 ∧ r 864 - 1 ≤ 3 by omega), WF2_c (by have := WF1_n W.1; omega) (fun j hj => up_ne (by omega)) W.2.1, WF3_c (WF1_nr W.1).1 (fun j j1 j2 j3 j4 => up_ne (by omega)) W.2.2⟩
    refine act_put1 I1 T1 kc (x := r 864 - 1) (M' := wr M1 19 0 (r 864 - 1)) ?_ (by omega) (ST0.nw_w I1.2.1.1.1 _) hwf (Kp_wr Kp_id (by decide)) (wr_ne (by decide)) (by decide) (wx_put1 I (by decide))
    unfold f_X9_driveWolf
    rw [a0, if_pos (by omega), if_pos c1, s1, zbS, zltS, a1, wr_eq, up_eq]
  · refine act_no I (by decide) (x := -5) (by decide) ?_
    unfold f_X9_driveWolf
    rw [a0, if_pos (by omega), if_neg c1]
theorem a_cut {v1 : Int} (hv : inR v1) : Act 0 (f_X9_cut v1) := by
  intro B M r I hB
  have hS := I.2.1.1
  have W := I.2.1.2.1
  have hw := WF1_nw W.1
  have hn := WF1_n W.1
  have a0 : M 19 0 = r 864 := hS.1.nw
  have g1 : f_X9_isWithin v1 0 (M 19 0 - 1) M = some (if 0 ≤ v1 ∧ v1 ≤ r 864 - 1 then 1 else 0, M) := by
    rw [a0]
    exact q_in hv (by decide) (by omega) M
  by_cases c1 : 0 ≤ v1 ∧ v1 ≤ r 864 - 1
  · have hv3 : 0 ≤ v1 ∧ v1 < 3 := by omega
    have hat := WF1_wat W.1 hv3.1 hv3.2
    have hp : 0 ≤ r (720 + 2 * v1).toNat ∧ r (720 + 2 * v1).toNat < 8 := by omega
    have hi := WF1_inn W.1 hp.1 hp.2
    have a1 : M 20 v1.toNat = enc false (r (720 + 2 * v1).toNat) := hS.1.wat hv3.1 hv3.2
    have a2 : M 9 (r (720 + 2 * v1).toNat).toNat = enc false (r ((0 + 4 * r (720 + 2 * v1).toNat) + 2).toNat) := hS.1.inn hp.1 hp.2
    simp only [enc, Bool.false_eq_true, if_false] at a1 a2
    have g3 := q_countIn (k := 11) (b := 1) rfl hS.1 hp (WF1_trk8 W.1 hp.1 hp.2)
    have htb := trkIn_b (r := r) (p := r (720 + 2 * v1).toNat) 16
    have g5 : f_X7_tracksInReach 1 v1 M = some (cutN r (r (720 + 2 * v1).toNat), M) := by
      unfold f_X7_tracksInReach f_X7_tracksInReach_b34 cutN
      rw [if_pos hv3, zltS, show 1 + 19 = 20 from rfl, a1, if_pos hp, show 1 + 8 = 9 from rfl, a2, if_pos (by omega)]
      by_cases e : r ((0 + 4 * r (720 + 2 * v1).toNat) + 2).toNat = 1
      · rw [if_neg (by omega), if_pos e]
      · rw [if_pos (by omega), if_neg e, show 1 + 10 = 11 from rfl, g3, zbS]
    have hcb : 0 ≤ cutN r (r (720 + 2 * v1).toNat) ∧ cutN r (r (720 + 2 * v1).toNat) ≤ 16 := by
      unfold cutN
      split <;> omega
    by_cases c2 : 1 ≤ cutN r (r (720 + 2 * v1).toNat)
    · obtain ⟨M1, s1, I1, T1, kc⟩ := q_store I
      obtain ⟨M', i1, i2, i3⟩ := q_letCut I1.2.1.1 W hv3
      refine act_do I1 T1 kc (x := cutN r (r (720 + 2 * v1).toNat)) (M' := M') ?_ (by omega) i2 (WF_B (cutF_wf W hp) (by omega)) (cutF_wx W I.2.1.2.2.2 hp) (by rw [cutF_o hp (by omega) (by omega)]; exact I.2.1.2.2.1) (fun y hy => i3 y (by omega)) (by rw [cutF_o hp (by omega) (by omega)]; exact Int.le_refl _) (by rw [cutF_o hp (by omega) (by omega)]; omega)
      unfold f_X9_cut
      rw [g1, zbS, bitR, bit0, if_pos c1, g5, zbS, if_pos (by omega), if_pos c2, s1, zbS, i1, zbS]
    · refine act_no I (by decide) (x := -5) (by decide) ?_
      unfold f_X9_cut
      rw [g1, zbS, bitR, bit0, if_pos c1, g5, zbS, if_pos (by omega), if_neg c2]
  · refine act_no I (by decide) (x := -1) (by decide) ?_
    unfold f_X9_cut
    rw [g1, zbS, bitR, bit0, if_neg c1]
theorem a_addWolf {v1 v2 : Int} (hv1 : inR v1) (hv2 : inR v2) : Act 0 (f_X9_addWolf v1 v2) := by
  intro B M r I hB
  have g1 := jP I hv1
  have hS := I.2.1.1
  have W := I.2.1.2.1
  have hn := WF1_n W.1
  have hw := WF1_nw W.1
  have a0 : M 19 0 = r 864 := hS.1.nw
  by_cases c1 : 0 ≤ v1 ∧ v1 < r 863
  · by_cases c2 : 1 ≤ v2 ∧ v2 ≤ 7
    · by_cases c3 : r 864 < 3
      · obtain ⟨M1, s1, I1, T1, kc⟩ := q_store I
        have a1 : M1 19 0 = r 864 := I1.2.1.1.1.nw
        have h3 : 0 ≤ r 864 ∧ r 864 < 3 := by omega
        have s0 := ST0.wat_w (v := v1) I1.2.1.1.1 h3.1 h3.2 rfl
        have s3 := ST0.wstr_w (v := v2) s0 h3.1 h3.2 rfl
        have s4 := ST0.nw_w s3 (r 864 + 1)
        have w0 : WF1 B (up r (720 + 2 * r 864).toNat v1) := WF1_wat_w W.1 h3.1 h3.2 (by omega)
        have w1 := WF1_wst_w w0 h3.1 h3.2 (v := v2) (by omega)
        have w2 : WF1 B (up (up (up r (720 + 2 * r 864).toNat v1) ((720 + 2 * r 864) + 1).toNat v2) 864 (r 864 + 1)) := WF1_up w1 (by decide) (show 0 ≤ r 864 + 1 ∧ r 864 + 1 ≤ 3 by omega)
        have hno : ∀ j, (j < 720 ∨ 726 ≤ j) → j ≠ 864 → (up (up (up r (720 + 2 * r 864).toNat v1) ((720 + 2 * r 864) + 1).toNat v2) 864 (r 864 + 1)) j = r j := fun j h1 h2 => by rw [up_ne h2, up_ne (by omega), up_ne (by omega)]
        have hwf : WF B (up (up (up r (720 + 2 * r 864).toNat v1) ((720 + 2 * r 864) + 1).toNat v2) 864 (r 864 + 1)) := ⟨w2, WF2_c (by omega) (fun j hj => hno j (by omega) (by omega)) W.2.1, WF3_c (WF1_nr W.1).1 (fun j j1 j2 j3 j4 => hno j (by omega) j4) W.2.2⟩
        have K : Kp 1 28 M1 (wr (wr (wr M1 20 (r 864).toNat v1) 21 (r 864).toNat v2) 19 0 (r 864 + 1)) := Kp_wr (Kp_wr (Kp_wr Kp_id (by decide)) (by decide)) (by decide)
        refine act_do I1 T1 kc (x := r 864) (M' := wr (wr (wr M1 20 (r 864).toNat v1) 21 (r 864).toNat v2) 19 0 (r 864 + 1)) ?_ (by omega) (ST_w I1.2.1.1 s4 (by rw [wr_ne (by decide), wr_ne (by decide), wr_ne (by decide)]) (fun i hi => hno _ (by omega) (by omega))) (WF_B hwf (by omega)) (WX_c W.1 (fun j hj => hno j (by omega) (by omega)) I.2.1.2.2.2) (by rw [hno 862 (by omega) (by omega)]; exact I.2.1.2.2.1) (fun y hy => K y (by omega)) (by rw [hno 865 (by omega) (by omega)]; exact Int.le_refl _) (by rw [hno 862 (by omega) (by omega)]; omega)
        unfold f_X9_addWolf f_X3_join
        rw [g1, zbS, bitR, bit0, if_pos c1, q_in hv2 (by decide) (by decide), zbS, bitR, bit0, if_pos c2, a0, if_pos (by omega), if_pos c3, s1, zbS, zltS, a1, if_pos h3, zltS, zltS, zltS, zbS, wr_ne (show 19 ≠ 19 + 2 by decide), wr_ne (show 19 ≠ 19 + 1 by decide), a1]
      · refine act_no I (by decide) (x := -3) (by decide) ?_
        unfold f_X9_addWolf
        rw [g1, zbS, bitR, bit0, if_pos c1, q_in hv2 (by decide) (by decide), zbS, bitR, bit0, if_pos c2, a0, if_pos (by omega), if_neg c3]
    · refine act_no I (by decide) (x := -2) (by decide) ?_
      unfold f_X9_addWolf
      rw [g1, zbS, bitR, bit0, if_pos c1, q_in hv2 (by decide) (by decide), zbS, bitR, bit0, if_neg c2]
  · refine act_no I (by decide) (x := -1) (by decide) ?_
    unfold f_X9_addWolf
    rw [g1, zbS, bitR, bit0, if_neg c1]
theorem a_set {v1 v2 : Int} (hv1 : inR v1) (hv2 : inR v2) : Act 0 (f_X9_set v1 v2) := by
  intro B M r I hB
  have hS := I.2.1.1
  have W := I.2.1.2.1
  by_cases c1 : 0 ≤ v1 ∧ v1 ≤ 5
  · have h6 : 0 ≤ v1 ∧ v1 < 6 := by omega
    have hz := zR_in v1.toNat (by omega)
    by_cases c2 : zR0 v1.toNat ≤ v2 ∧ v2 ≤ zR1 v1.toNat
    · have a0 : M 2 v1.toNat = enc false (r (856 + v1).toNat) := hS.1.num h6.1 h6.2
      simp only [enc, Bool.false_eq_true, if_false] at a0
      have hb : 0 ≤ r (856 + v1).toNat ∧ r (856 + v1).toNat ≤ 100 := by
        have hc : v1 = 0 ∨ v1 = 1 ∨ v1 = 2 ∨ v1 = 3 ∨ v1 = 4 ∨ v1 = 5 := by omega
        rcases hc with rfl | rfl | rfl | rfl | rfl | rfl
        · have h := WF1_len W.1; exact (show 0 ≤ r 856 ∧ r 856 ≤ 100 by omega)
        · have h := WF1_life W.1; exact (show 0 ≤ r 857 ∧ r 857 ≤ 100 by omega)
        · have h := WF1_marg W.1; exact (show 0 ≤ r 858 ∧ r 858 ≤ 100 by omega)
        · have h := WF1_drov W.1; exact (show 0 ≤ r 859 ∧ r 859 ≤ 100 by omega)
        · have h := WF1_pst W.1; exact (show 0 ≤ r 860 ∧ r 860 ≤ 100 by omega)
        · have h := WF1_warm W.1; exact (show 0 ≤ r 861 ∧ r 861 ≤ 100 by omega)
      by_cases c3 : r (856 + v1).toNat = v2
      · refine act_no I (by decide) (x := -5) (by decide) ?_
        unfold f_X9_set
        rw [q_in hv1 (by decide) (by decide), zbS, bitR, bit0, if_pos c1, if_pos h6, q_in hv2 hz.1 hz.2, zbS, bitR, bit0, if_pos c2, zltS, a0, if_pos (by omega), if_pos hv2, if_pos c3]
      · obtain ⟨M1, s1, I1, T1, kc⟩ := q_store I
        have hw : WF B (up r (856 + v1).toNat v2) := c_setrow W h6 c2
        refine act_put1 I1 T1 kc (x := r (856 + v1).toNat) (M' := wr M1 2 v1.toNat v2) ?_ (by omega) (ST0.num_w I1.2.1.1.1 h6.1 h6.2 rfl) hw (Kp_wr Kp_id (by decide)) (wr_ne (by decide)) (by omega) (wx_put1 I (by omega))
        unfold f_X9_set
        rw [q_in hv1 (by decide) (by decide), zbS, bitR, bit0, if_pos c1, if_pos h6, q_in hv2 hz.1 hz.2, zbS, bitR, bit0, if_pos c2, zltS, a0, if_pos (by omega), if_pos hv2, if_neg c3, s1, zbS, zltS]
    · refine act_no I (by decide) (x := -2) (by decide) ?_
      unfold f_X9_set
      rw [q_in hv1 (by decide) (by decide), zbS, bitR, bit0, if_pos c1, if_pos h6, q_in hv2 hz.1 hz.2, zbS, bitR, bit0, if_neg c2]
  · refine act_no I (by decide) (x := -2) (by decide) ?_
    unfold f_X9_set
    rw [q_in hv1 (by decide) (by decide), zbS, bitR, bit0, if_neg c1]
theorem a_setRoom {v1 v2 : Int} (hv1 : inR v1) (hv2 : inR v2) : Act 0 (f_X9_setRoom v1 v2) := by
  intro B M r I hB
  have g1 := jP I hv1
  have hS := I.2.1.1
  have W := I.2.1.2.1
  have hn := WF1_n W.1
  by_cases c1 : 0 ≤ v1 ∧ v1 < r 863
  · have hp : 0 ≤ v1 ∧ v1 < 8 := by omega
    have hb := WF1_room W.1 hp.1 hp.2
    have a1 : M 6 v1.toNat = enc false (r ((0 + 4 * v1) + 1).toNat) := hS.1.room hp.1 hp.2
    have a3 : M 7 v1.toNat = cntAt r v1 16 := hS.2 v1 hp.1 hp.2
    simp only [enc, Bool.false_eq_true, if_false] at a1
    have hc := cntAt_b r v1 16
    by_cases c2 : 1 ≤ v2 ∧ v2 ≤ 16
    · by_cases c4 : cntAt r v1 16 ≤ v2
      · by_cases c3 : r ((0 + 4 * v1) + 1).toNat = v2
        · refine act_no I (by decide) (x := -5) (by decide) ?_
          unfold f_X9_setRoom
          rw [g1, zbS, bitR, bit0, if_pos c1, q_in hv2 (by decide) (by decide), zbS, bitR, bit0, if_pos c2, if_pos hp, a3, if_pos (by omega), if_pos hv2, if_pos c4, zltS, a1, if_pos (by omega), if_pos c3]
        · obtain ⟨M1, s1, I1, T1, kc⟩ := q_store I
          have hw : WF B (up r ((0 + 4 * v1) + 1).toNat v2) := ⟨WF1_room_w W.1 hp.1 hp.2 (by omega), WF2_d (by have := WF1_n W.1; omega) (fun j hj => up_ne (by omega)) W.2.1, WF3_c (WF1_nr W.1).1 (fun j j1 j2 j3 j4 => up_ne (by omega)) W.2.2⟩
          have X := I.2.1.2.2.2
          have hX : WX (up r ((0 + 4 * v1) + 1).toNat v2) := by
            have hno : ∀ j, 160 ≤ j → up r ((0 + 4 * v1) + 1).toNat v2 j = r j := fun j hj => up_ne (by omega)
            refine ⟨fun y y0 y1 => ?_, fun p p0 p1 => ?_, fun p y p0 p1 y0 y1 => ?_⟩
            · have ha := WF1_at W.1 y0 y1
              rw [hno (416 + y).toNat (by omega), hno (160 + 16 * r (416 + y).toNat + y).toNat (by omega)]
              exact X.1 y y0 y1
            · rw [cntAt_c (fun i hi => hno _ (by omega))]
              by_cases e : p = v1
              · rw [e, up_eq]; exact c4
              · rw [up_ne (by omega)]; exact X.2.1 p p0 p1
            · have ht := WF1_trk W.1 p0 p1 y0 y1
              rw [hno (160 + 16 * p + y).toNat (by omega), hno (416 + y).toNat (by omega), hno (288 + 16 * p + y).toNat (by omega)]
              intro d1 d2
              rw [hno (160 + 16 * (r (160 + 16 * p + y).toNat - 1) + y).toNat (by omega), hno (288 + 16 * (r (160 + 16 * p + y).toNat - 1) + y).toNat (by omega)]
              exact X.2.2 p y p0 p1 y0 y1 d1 d2
          refine act_put1 I1 T1 kc (x := r ((0 + 4 * v1) + 1).toNat) (M' := wr M1 6 v1.toNat v2) ?_ (by omega) (ST0.room_w I1.2.1.1.1 hp.1 hp.2 rfl) hw (Kp_wr Kp_id (by decide)) (wr_ne (by decide)) (by omega) hX
          unfold f_X9_setRoom
          rw [g1, zbS, bitR, bit0, if_pos c1, q_in hv2 (by decide) (by decide), zbS, bitR, bit0, if_pos c2, if_pos hp, a3, if_pos (by omega), if_pos hv2, if_pos c4, zltS, a1, if_pos (by omega), if_neg c3, s1, zbS, zltS]
      · refine act_no I (by decide) (x := -4) (by decide) ?_
        unfold f_X9_setRoom
        rw [g1, zbS, bitR, bit0, if_pos c1, q_in hv2 (by decide) (by decide), zbS, bitR, bit0, if_pos c2, if_pos hp, a3, if_pos (by omega), if_pos hv2, if_neg c4]
    · refine act_no I (by decide) (x := -2) (by decide) ?_
      unfold f_X9_setRoom
      rw [g1, zbS, bitR, bit0, if_pos c1, q_in hv2 (by decide) (by decide), zbS, bitR, bit0, if_neg c2]
  · refine act_no I (by decide) (x := -1) (by decide) ?_
    unfold f_X9_setRoom
    rw [g1, zbS, bitR, bit0, if_neg c1]

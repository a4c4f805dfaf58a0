theorem c_restore : CallOK f_X9_restore f_X10_restore := by
  intro B M Q I hB
  obtain ⟨b1, b2⟩ := I.2.2.2.1
  rcases b2 with b2 | ⟨b2, -⟩
  · refine call_no I (x := -5) ?_ ?_
    · unfold f_X9_restore
      rw [b1, b2, if_pos (by decide), if_pos rfl]
    · unfold f_X10_restore
      rw [b2, if_pos (by decide), if_pos rfl]
  · obtain ⟨M1, Q1, s1, s2, I1, hr, kc, km⟩ := x_store I
    have e2 : Q1 215 2 = 1 := by rw [km.2 2 (by decide)]; exact b2
    rcases I1.2.2.2.1.2 with z | ⟨-, S⟩
    · rw [e2] at z; exact absurd z (by decide)
    obtain ⟨M', i1, i2, i3⟩ := q_copy (k := 1) (k1 := 59) S.1 S.2.1.1 (by decide)
    have j1 := p_copy (M := Q1) (x := 4355) (c := 0) (by decide) (by decide) (by decide)
    rw [show ((0 : Nat) : Int) = 0 from rfl, show ((4355 : Nat) : Int) = 4355 from rfl] at j1
    have row : ∀ j, j < 871 → cpR (Q1 216) 4355 0 871 j = seg (Q1 216) 4355 j := fun j hj => by
      unfold cpR seg
      rw [if_pos (by omega), Nat.sub_zero]
    have row2 : ∀ j, 871 ≤ j → cpR (Q1 216) 4355 0 871 j = Q1 216 j := fun j hj => by
      unfold cpR
      rw [if_neg (by omega)]
    have S2 : SW B M' 1 (cpR (Q1 216) 4355 0 871) := SW_row (⟨i2, S.2.1, S.2.2⟩ : SW B M' 1 _) row
    have hday : M' 1 0 = cpR (Q1 216) 4355 0 871 862 := S2.1.1.day
    refine ⟨cpR (Q1 216) 4355 0 871 862, M', ml Q1 216 (cpR (Q1 216) 4355 0 871), ?_, ?_, Inv2_op I1 (by omega) S2.1 (WF_B S2.2.1 (by omega)) S2.2.2 (ml_eq _ _ _) (fun j h1 _ => row2 j h1) (fun y hy => i3 y (by omega)) (by rw [i3 210 (by omega)]) (fun j _ => by rw [ml_ne (by decide)]) (ml_ne (by decide)), fun y hy => by rw [i3 y (by omega), kc y (by omega)], fun y hy => by rw [ml_ne (by omega), km.1 y (by omega) (by omega)]⟩
    · unfold f_X9_restore
      rw [b1, b2, if_pos (by decide), if_neg (by decide), s1, zbS, i1, zbS, hday]
    · unfold f_X10_restore
      rw [b2, if_pos (by decide), if_neg (by decide), s2, zbS, j1, zbS, ml_eq]
/-- a change of one place behind the store -/
theorem c_put1 {B : Int} {M1 Q1 M' : Mem} {j : Nat} {v : Int} (I1 : Inv2 B M1 Q1) (h0 : ST0 M' 1 (up (Q1 216) j v)) (hW : WF B (up (Q1 216) j v)) (hk : Kp 1 28 M1 M') (h6 : M' 7 = M1 7) (hj : j < 871 ∧ (j < 416 ∨ 432 ≤ j) ∧ j ≠ 862) : Inv2 (B + 1000) M' (wr Q1 216 j v) :=
  Inv2_op I1 (by omega) (ST_w I1.2.1.1 h0 h6 (fun i hi => up_ne (by omega))) (WF_B hW (by omega)) (by rw [up_ne (by omega)]; exact I1.2.1.2.2) (wr_eq _ _ _ _) (fun i h1 _ => up_ne (by omega)) (fun y hy => hk y (by omega)) (by rw [hk 210 (by omega)]) (fun i _ => by rw [wr_ne (by decide)]) (wr_ne (by decide))
theorem WF3_c {r r' : Row} (hn : 0 ≤ r 865) (h : ∀ j, 448 ≤ j → (j < 464 ∨ 726 ≤ j) → (j < 852 ∨ 862 ≤ j) → j ≠ 864 → r' j = r j) (W : WF3 r) : WF3 r' := by
  obtain ⟨t1, t2, t3, t4⟩ := W
  refine ⟨?_, ?_, ?_, fun i i0 i1 => ?_⟩
  · rw [h 866 (by omega) (by omega) (by omega) (by omega), t1]; exact sumN_congr (fun i hi => (h _ (by omega) (by omega) (by omega) (by omega)).symm)
  · rw [h 869 (by omega) (by omega) (by omega) (by omega), t2]; exact sumN_congr (fun i hi => (h _ (by omega) (by omega) (by omega) (by omega)).symm)
  · rw [h 870 (by omega) (by omega) (by omega) (by omega), t3]; exact sumN_congr (fun i hi => (h _ (by omega) (by omega) (by omega) (by omega)).symm)
  · rw [h 865 (by omega) (by omega) (by omega) (by omega)] at i0
    rw [h _ (by omega) (by omega) (by omega) (by omega), h _ (by omega) (by omega) (by omega) (by omega)]
    exact t4 i i0 i1
theorem c_setSeason {v1 v2 : Int} (hv1 : inR v1) (hv2 : inR v2) : CallOK (f_X9_setSeason v1 v2) (f_X10_setSeason v1 v2) := by
  intro B M Q I hB
  have hS := I.2.1.1
  have W := I.2.1.2.1
  by_cases c1 : 0 ≤ v1 ∧ v1 ≤ 3
  · by_cases c2 : 0 ≤ v2 ∧ v2 ≤ 90
    · have h4 : 0 ≤ v1 ∧ v1 < 4 := by omega
      have a0 : M 3 v1.toNat = enc false (Q 216 (852 + v1).toNat) := hS.1.lati h4.1 h4.2
      simp only [enc, Bool.false_eq_true, if_false] at a0
      have hb := WF1_sea W.1 h4.1 h4.2
      by_cases c3 : Q 216 (852 + v1).toNat = v2
      · refine call_no I (x := -5) ?_ ?_
        · unfold f_X9_setSeason
          rw [q_in hv1 (by decide) (by decide), zbS, bitR, bit0, if_pos c1, q_in hv2 (by decide) (by decide), zbS, bitR, bit0, if_pos c2, if_pos h4, zltS, a0, if_pos (by omega), if_pos hv2, if_pos c3]
        · unfold f_X10_setSeason f_X10_setSeason_b34 f_X10_put
          rw [p_in hv1 (by decide) (by decide), zbS, bitR, bit0, if_pos c1, p_in hv2 (by decide) (by decide), zbS, bitR, bit0, if_pos c2, if_pos (by omega), zltS, if_pos (by omega), if_pos hv2, if_pos c3, zbS]
      · obtain ⟨M1, Q1, s1, s2, I1, hr, kc, km⟩ := x_store I
        have W1 := I1.2.1.2.1
        have hw : WF B (up (Q1 216) (852 + v1).toNat v2) := ⟨WF1_sea_w W1.1 h4.1 h4.2 c2, WF2_c (by have := WF1_n W1.1; omega) (fun j hj => up_ne (by omega)) W1.2.1, WF3_c (WF1_nr W1.1).1 (fun j j1 j2 j3 j4 => up_ne (by omega)) W1.2.2⟩
        refine ⟨Q 216 (852 + v1).toNat, wr M1 3 v1.toNat v2, wr Q1 216 (852 + v1).toNat v2, ?_, ?_, c_put1 I1 (ST0.lati_w I1.2.1.1.1 h4.1 h4.2 rfl) hw (Kp_wr Kp_id (by decide)) (wr_ne (by decide)) (by omega), fun y hy => by rw [wr_ne (by omega), kc y (by omega)], fun y hy => by rw [wr_ne (by omega), km.1 y (by omega) (by omega)]⟩
        · unfold f_X9_setSeason
          rw [q_in hv1 (by decide) (by decide), zbS, bitR, bit0, if_pos c1, q_in hv2 (by decide) (by decide), zbS, bitR, bit0, if_pos c2, if_pos h4, zltS, a0, if_pos (by omega), if_pos hv2, if_neg c3, s1, zbS, zltS]
        · unfold f_X10_setSeason f_X10_setSeason_b34 f_X10_put
          rw [p_in hv1 (by decide) (by decide), zbS, bitR, bit0, if_pos c1, p_in hv2 (by decide) (by decide), zbS, bitR, bit0, if_pos c2, if_pos (by omega), zltS, if_pos (by omega), if_pos hv2, if_neg c3, s2, zbS, zltS, zbS]
    · refine call_no I (x := -2) ?_ ?_
      · unfold f_X9_setSeason f_X9_setSeason_b19
        rw [q_in hv1 (by decide) (by decide), zbS, bitR, bit0, if_pos c1, q_in hv2 (by decide) (by decide), zbS, bitR, bit0, if_neg c2]
      · unfold f_X10_setSeason f_X10_setSeason_b32 f_X10_setSeason_b34
        rw [p_in hv1 (by decide) (by decide), zbS, bitR, bit0, if_pos c1, p_in hv2 (by decide) (by decide), zbS, bitR, bit0, if_neg c2]
  · refine call_no I (x := -2) ?_ ?_
    · unfold f_X9_setSeason f_X9_setSeason_b19
      rw [q_in hv1 (by decide) (by decide), zbS, bitR, bit0, if_neg c1]
    · unfold f_X10_setSeason f_X10_setSeason_b32 f_X10_setSeason_b34
      rw [p_in hv1 (by decide) (by decide), zbS, bitR, bit0, if_neg c1]

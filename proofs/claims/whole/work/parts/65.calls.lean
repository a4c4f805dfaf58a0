theorem Inv2_op {B B' : Int} {M Q M' Q' : Mem} {r' : Row} (I : Inv2 B M Q) (hB : B ≤ B') (hS : ST M' 1 r') (hW : WF B' r') (hd : r' 862 ≤ 9999) (hQ : Q' 216 = r') (hr : ∀ j, 871 ≤ j → j < 5226 → r' j = Q 216 j) (hM : ∀ x, x = 0 ∨ (59 ≤ x ∧ x < 206) ∨ x = 214 → M' x = M x) (h210 : M' 210 0 = M 210 0) (q1 : ∀ j, j = 1 ∨ j = 2 ∨ j = 4 → Q' 215 j = Q 215 j) (h217 : Q' 217 = Q 217) : Inv2 B' M' Q' := by
  obtain ⟨hB0, S1, ⟨h, o, a1, a2, a3, a4, a5, a6⟩, ⟨b1, b2⟩, X⟩ := I
  refine ⟨by omega, by rw [hQ]; exact ⟨hS, hW, hd⟩, ⟨h, o, by rw [hM 88 (by omega)]; exact a1, by rw [hM 88 (by omega)]; exact a2, a3, a4, by rw [q1 1 (by omega)]; exact a5, fun k hk => ?_⟩, ⟨by rw [hM 0 (by omega), q1 2 (by omega)]; exact b1, ?_⟩, XI_k X h210 (hM 214 (by omega)) (q1 4 (by omega)) h217⟩
  · refine SW_row (SW_to (a6 k hk) hB (fun x h1 h2 => hM x (by omega))) (fun j hj => ?_)
    unfold seg
    rw [hQ]
    exact hr _ (by omega) (by omega)
  · rw [q1 2 (by omega)]
    rcases b2 with b2 | ⟨b2, b3⟩
    · exact Or.inl b2
    · refine Or.inr ⟨b2, SW_row (SW_to b3 hB (fun x h1 h2 => hM x (by omega))) (fun j hj => ?_)⟩
      unfold seg
      rw [hQ]
      exact hr _ (by omega) (by omega)
theorem Inv2_B {B B' : Int} {M Q : Mem} (I : Inv2 B M Q) (hB : B ≤ B') : Inv2 B' M Q :=
  Inv2_op I hB I.2.1.1 (WF_B I.2.1.2.1 hB) I.2.1.2.2 rfl (fun _ _ _ => rfl) (fun _ _ => rfl) rfl (fun _ _ => rfl) rfl
/-- a call that both sides answer alike -/
def CallOK (f g : Mem → Option (Int × Mem)) : Prop := ∀ (B : Int) (M Q : Mem), Inv2 B M Q → B ≤ 2147480000 → ∃ x M' Q', f M = some (x, M') ∧ g Q = some (x, Q') ∧ Inv2 (B + 1000) M' Q' ∧ (∀ y, 215 ≤ y → M' y = M y) ∧ ∀ y, y < 215 → Q' y = Q y
theorem call_no {f g : Mem → Option (Int × Mem)} {B : Int} {M Q : Mem} (I : Inv2 B M Q) {x : Int} (hf : f M = some (x, M)) (hg : g Q = some (x, Q)) : ∃ x M' Q', f M = some (x, M') ∧ g Q = some (x, Q') ∧ Inv2 (B + 1000) M' Q' ∧ (∀ y, 215 ≤ y → M' y = M y) ∧ ∀ y, y < 215 → Q' y = Q y :=
  ⟨x, M, Q, hf, hg, Inv2_B I (by omega), fun _ _ => rfl, fun _ _ => rfl⟩
theorem c_pass {v1 : Int} (hv : inR v1) : CallOK (f_X9_pass v1) (f_X10_pass v1) := by
  intro B M Q I hB
  have hS := I.2.1.1
  have W := I.2.1.2.1
  have hd := I.2.1.2.2
  have hday : M 1 0 = Q 216 862 := hS.1.day
  have hb := WF1_day W.1
  by_cases c1 : 1 ≤ v1 ∧ v1 ≤ 60
  · by_cases c2 : Q 216 862 + v1 ≤ 9999
    · obtain ⟨M1, Q1, s1, s2, I1, hr, kc, km⟩ := x_store I
      have e862 := hr 862 (by decide)
      obtain ⟨x, M', r', i1, i2, i3, i4, i5, i6, i7⟩ := x_pass (v1 := v1) c1.2 v1.toNat 0 100000 B (Q1 216 866) 0 M1 Q1 (Q1 216) (by omega) (by omega) I1.2.1.1 rfl I1.2.1.2.1 (by omega) (by omega)
      rw [show ((0 : Nat) : Int) = 0 from rfl] at i1 i2
      refine ⟨x, M', ml Q1 216 r', ?_, ?_, ?_, fun y hy => by rw [i5 y (by omega), kc y (by omega)], fun y hy => by rw [ml_ne (by omega), km.1 y (by omega) (by omega)]⟩
      · unfold f_X9_pass
        rw [q_in hv (by decide) (by decide), zbS, bitR, bit0, if_pos c1, hday, if_pos (by omega), if_pos c2, s1, zbS]
        exact i1
      · unfold f_X10_pass
        rw [p_in hv (by decide) (by decide), zbS, bitR, bit0, if_pos c1, if_pos (by omega), if_pos c2, s2, zbS, zltS]
        exact i2
      · exact Inv2_op I1 (by omega) i3 (WF_B i4 (by omega)) (by rw [i7]; omega) (ml_eq _ _ _) (fun j h1 _ => i6 j h1) (fun y hy => i5 y (by omega)) (by rw [i5 210 (by omega)]) (fun j _ => by rw [ml_ne (by decide)]) (ml_ne (by decide))
    · refine call_no I (x := -4) ?_ ?_
      · unfold f_X9_pass
        rw [q_in hv (by decide) (by decide), zbS, bitR, bit0, if_pos c1, hday, if_pos (by omega), if_neg c2]
      · unfold f_X10_pass
        rw [p_in hv (by decide) (by decide), zbS, bitR, bit0, if_pos c1, if_pos (by omega), if_neg c2]
  · refine call_no I (x := -2) ?_ ?_
    · unfold f_X9_pass
      rw [q_in hv (by decide) (by decide), zbS, bitR, bit0, if_neg c1]
    · unfold f_X10_pass
      rw [p_in hv (by decide) (by decide), zbS, bitR, bit0, if_neg c1]
theorem nn_of {B : Int} {r : Row} (W : WF1 B r) : ∃ N : Nat, r 863 = N ∧ N ≤ 8 := ⟨(r 863).toNat, by have := WF1_n W; omega, by have := WF1_n W; omega⟩
theorem c_post : CallOK f_X9_post f_X10_post := by
  intro B M Q I hB
  have hS := I.2.1.1
  have W := I.2.1.2.1
  obtain ⟨N, hN, h8⟩ := nn_of W.1
  have g1 := q_inns (k := 4) (b := 1) rfl hS.1 W.1 hN h8
  have g2 := p_inns W.1 hN h8
  have hib : 0 ≤ innF (Q 216) N ∧ innF (Q 216) N ≤ 8 := by
    refine ⟨sumN_nn (fun k _ => by split <;> omega), ?_⟩
    have h1 : sumN N (fun p : Nat => if Q 216 ((0 + 4 * (p : Int)) + 2).toNat = 1 then (1 : Int) else 0) ≤ sumN N (fun _ => 1) := sumN_le (fun k _ => by split <;> omega)
    have h2 : ∀ n : Nat, sumN n (fun _ => (1 : Int)) = n := fun n => by
      induction n with
      | zero => rfl
      | succ n ih => rw [sumN_succ, ih]; rfl
    rw [h2] at h1
    unfold innF
    omega
  by_cases c1 : 1 ≤ innF (Q 216) N
  · obtain ⟨M1, Q1, s1, s2, I1, hr, kc, km⟩ := x_store I
    have hN1 : Q1 216 863 = N := by rw [hr 863 (by decide), hN]
    obtain ⟨M', i1, i2, i3⟩ := q_post I1.2.1.1 I1.2.1.2.1 hN1 h8
    have j1 := p_post I1.2.1.2.1 hN1 h8
    refine ⟨innF (Q 216) N, M', ml Q1 216 (postF (Q1 216) N), ?_, ?_, ?_, fun y hy => by rw [i3 y (by omega), kc y (by omega)], fun y hy => by rw [ml_ne (by omega), km.1 y (by omega) (by omega)]⟩
    · unfold f_X9_post
      rw [g1, zbS, if_pos (by omega), if_pos c1, s1, zbS, i1, zbS]
    · unfold f_X10_post
      rw [g2, zbS, if_pos (by omega), if_neg (by omega), s2, zbS, j1, zbS]
    · exact Inv2_op I1 (by omega) i2 (WF_B (postF_wf I1.2.1.2.1 N h8) (by omega)) (by rw [postF_o (by omega) N h8]; exact I1.2.1.2.2) (ml_eq _ _ _) (fun j h1 _ => postF_o (by omega) N h8) (fun y hy => i3 y (by omega)) (by rw [i3 210 (by omega)]) (fun j _ => by rw [ml_ne (by decide)]) (ml_ne (by decide))
  · refine call_no I (x := -5) ?_ ?_
    · unfold f_X9_post
      rw [g1, zbS, if_pos (by omega), if_neg c1]
    · unfold f_X10_post
      rw [g2, zbS, if_pos (by omega), if_pos (by omega)]
theorem c_move {v1 v2 : Int} (hv1 : inR v1) (hv2 : inR v2) : CallOK (f_X9_move v1 v2) (f_X10_move v1 v2) := by
  intro B M Q I hB
  have hS := I.2.1.1
  have W := I.2.1.2.1
  have hn := WF1_n W.1
  have hnp : M 4 0 = Q 216 863 := hS.1.np
  have g2 : f_X9_isPasture v2 M = some (if 0 ≤ v2 ∧ v2 < Q 216 863 then 1 else 0, M) := by
    have := q_isPasture (M := M) hv2 (by rw [hnp]; exact hn)
    rw [hnp] at this
    exact this

  by_cases c1 : 0 ≤ v1 ∧ v1 < 16
  · by_cases c2 : 0 ≤ v2 ∧ v2 < Q 216 863
    · have ha := WF1_at W.1 c1.1 c1.2
      have a1 : M 15 v1.toNat = enc false (Q 216 (416 + v1).toNat) := hS.1.at c1.1 c1.2
      simp only [enc, Bool.false_eq_true, if_false] at a1
      by_cases c3 : Q 216 (416 + v1).toNat = v2
      · refine call_no I (x := -5) ?_ ?_
        · unfold f_X9_move
          rw [q_isShard hv1, zbS, bitR, bit0, if_pos c1, g2, zbS, bitR, bit0, if_pos c2, if_pos c1, zltS, a1, if_pos (by omega), if_pos hv2, if_pos c3]
        · unfold f_X10_move
          rw [p_isShard hv1, zbS, bitR, bit0, if_pos c1, p_isPasture hv2 hn, zbS, bitR, bit0, if_pos c2, if_pos (by omega), zltS, if_pos (by omega), if_pos hv2, if_pos c3]
      · have g3 := q_hasRoom (k := 4) (b := 1) rfl hS W.1 (p := v2) c2.1 (by omega)
        have g4 := p_shardsIn W.1 (p := v2) hv2
        have hrm := WF1_room W.1 (p := v2) c2.1 (by omega)
        have hct := cntAt_b (Q 216) v2 16
        have g5 : f_X10_roomOf v2 Q = some (Q 216 ((0 + 4 * v2) + 1).toNat, Q) := by
          unfold f_X10_roomOf
          rw [if_pos (by omega)]
        by_cases c4 : cntAt (Q 216) v2 16 < Q 216 ((0 + 4 * v2) + 1).toNat
        · obtain ⟨M1, Q1, s1, s2, I1, hr, kc, km⟩ := x_store I
          have W1 := I1.2.1.2.1
          have hn1 : Q1 216 863 = Q 216 863 := hr 863 (by decide)
          have ha1 : Q1 216 (416 + v1).toNat = Q 216 (416 + v1).toNat := hr _ (by omega)
          have hq8 : 0 ≤ v2 ∧ v2 < 8 := by omega
          have hpp : 0 ≤ Q1 216 (416 + v1).toNat ∧ Q1 216 (416 + v1).toNat < 8 := by omega
          obtain ⟨M', i1, i2, i3⟩ := q_drive I1.2.1.1 W1.1 c1 hq8
          have j1 := p_go W1.1 c1 hq8
          refine ⟨Q 216 (416 + v1).toNat, M', ml Q1 216 (goF (Q1 216) v1 v2), ?_, ?_, ?_, fun y hy => by rw [i3 y (by omega), kc y (by omega)], fun y hy => by rw [ml_ne (by omega), km.1 y (by omega) (by omega)]⟩
          · unfold f_X9_move
            rw [q_isShard hv1, zbS, bitR, bit0, if_pos c1, g2, zbS, bitR, bit0, if_pos c2, if_pos c1, zltS, a1, if_pos (by omega), if_pos hv2, if_neg c3, g3, zbS, bitR, bit0, if_pos c4, s1, zbS, i1, zbS]
          · unfold f_X10_move
            rw [p_isShard hv1, zbS, bitR, bit0, if_pos c1, p_isPasture hv2 hn, zbS, bitR, bit0, if_pos c2, if_pos (by omega), zltS, if_pos (by omega), if_pos hv2, if_neg c3, g4, zbS, g5, zbS, if_pos (by omega), if_pos (by omega), if_pos c4, s2, zbS, j1, zbS]
          · have hw : WF (B + 1) (goF (Q1 216) v1 v2) := ⟨goF_wf1 W1.1 c1 (by omega), goF_wf2 W1.1 W1.2.1 c1 (by omega) (by omega), goF_wf3 W1.1 W1.2.2 c1 (by omega)⟩
            exact Inv2_op I1 (by omega) i2 (WF_B hw (by omega)) (by rw [goF_o c1 hpp hq8 (by omega)]; exact I1.2.1.2.2) (ml_eq _ _ _) (fun j h1 _ => goF_o c1 hpp hq8 (by omega)) (fun y hy => i3 y (by omega)) (by rw [i3 210 (by omega)]) (fun j _ => by rw [ml_ne (by decide)]) (ml_ne (by decide))
        · refine call_no I (x := -3) ?_ ?_
          · unfold f_X9_move
            rw [q_isShard hv1, zbS, bitR, bit0, if_pos c1, g2, zbS, bitR, bit0, if_pos c2, if_pos c1, zltS, a1, if_pos (by omega), if_pos hv2, if_neg c3, g3, zbS, bitR, bit0, if_neg c4]
          · unfold f_X10_move
            rw [p_isShard hv1, zbS, bitR, bit0, if_pos c1, p_isPasture hv2 hn, zbS, bitR, bit0, if_pos c2, if_pos (by omega), zltS, if_pos (by omega), if_pos hv2, if_neg c3, g4, zbS, g5, zbS, if_pos (by omega), if_pos (by omega), if_neg c4]
    · refine call_no I (x := -1) ?_ ?_
      · unfold f_X9_move f_X9_move_b15
        rw [q_isShard hv1, zbS, bitR, bit0, if_pos c1, g2, zbS, bitR, bit0, if_neg c2]
      · unfold f_X10_move f_X10_move_b15
        rw [p_isShard hv1, zbS, bitR, bit0, if_pos c1, p_isPasture hv2 hn, zbS, bitR, bit0, if_neg c2]
  · refine call_no I (x := -1) ?_ ?_
    · unfold f_X9_move f_X9_move_b15
      rw [q_isShard hv1, zbS, bitR, bit0, if_neg c1]
    · unfold f_X10_move f_X10_move_b15
      rw [p_isShard hv1, zbS, bitR, bit0, if_neg c1]

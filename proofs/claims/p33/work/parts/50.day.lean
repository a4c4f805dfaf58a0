/-- a day up to the drive; the posting; the whole day -/
def dayR (N Nw : Nat) (r : Row) : Row := growF (roamF (coolF r 16) Nw) N
def dayP (N : Nat) (r : Row) : Row := if (r 862 + 1).tmod (r 860) = 0 then postF r N else r
def nxt (r : Row) : Row := up r 862 (r 862 + 1)
def dayF (o : Nat → Int) (N Nw : Nat) (r : Row) : Row := nxt (dayP N (drvF o N (dayR N Nw r) 16).1)
def dayC (o : Nat → Int) (N Nw : Nat) (r : Row) : Int := (drvF o N (dayR N Nw r) 16).2
theorem coolF_h {r : Row} {j : Nat} (hj : j < 432 ∨ 448 ≤ j) : coolF r 16 j = r j := coolF_o (by decide) hj
theorem dayR_ok {B : Int} {r : Row} (W : WF B r) {N Nw : Nat} (h8 : N ≤ 8) (h3 : Nw ≤ 3) : WF B (dayR N Nw r) ∧ (∀ j, j < 160 ∨ (288 ≤ j ∧ j < 432) ∨ (448 ≤ j ∧ j < 720) ∨ 726 ≤ j → j ≠ 867 → j ≠ 868 → dayR N Nw r j = r j) ∧ ∀ j, 432 ≤ j → j < 448 → dayR N Nw r j = coolF r 16 j := by
  have W1 := coolF_wf W
  have W2 := roamF_wf W1 Nw h3
  refine ⟨growF_wf W2 N h8, fun j hj h1 h2 => ?_, fun j h1 h2 => ?_⟩
  · unfold dayR
    rw [growF_o (by omega) h2 N h8, roamF_o W1 (by omega) h1 Nw h3, coolF_h (by omega)]
  · unfold dayR
    rw [growF_o (by omega) (by omega) N h8, roamF_o W1 (by omega) (by omega) Nw h3]
theorem dayP_wf {B : Int} {r : Row} (W : WF B r) {N : Nat} (h8 : N ≤ 8) : WF B (dayP N r) := by
  unfold dayP
  split
  · exact postF_wf W N h8
  · exact W
theorem dayP_o {r : Row} {N : Nat} (h8 : N ≤ 8) {j : Nat} (hj : j < 32 ∨ 160 ≤ j) : dayP N r j = r j := by
  unfold dayP
  split
  · exact postF_o hj N h8
  · rfl
theorem nxt_wf {B : Int} {r : Row} (W : WF B r) (hd : r 862 < 10100) : WF B (nxt r) := by
  have h1 := WF1_day W.1
  have hn := WF1_n W.1
  have hr := WF1_nr W.1
  obtain ⟨⟨u1, u2, u3, rk, u4⟩, ⟨t1, t2, t3, t4⟩⟩ := W.2
  unfold nxt
  refine ⟨WF1_up W.1 (by decide) (show 0 ≤ r 862 + 1 ∧ r 862 + 1 ≤ 10100 by omega), ⟨fun x y p0 p1 y0 y1 => ?_, fun x y p0 p1 y0 y1 => ?_, fun x y p0 p1 y0 y1 => ?_, ⟨rk, fun x y p0 p1 y0 y1 => ?_⟩⟩, ?_, ?_, ?_, fun i i0 i1 => ?_⟩
  · rw [up_ne (by omega), up_ne (by omega), up_eq]
    intro hz
    have := u1 x y p0 p1 y0 y1 hz
    omega
  · rw [up_ne (by omega), up_ne (by omega)]; exact u2 x y p0 p1 y0 y1
  · rw [up_ne (by omega)] at p0
    rw [up_ne (by omega), up_ne (by omega)]; exact u3 x y p0 p1 y0 y1
  · rw [up_ne (by omega)]; exact u4 x y p0 p1 y0 y1
  · rw [up_ne (by omega), t1]; exact sumN_congr (fun i hi => (up_ne (by omega)).symm)
  · rw [up_ne (by omega), t2]; exact sumN_congr (fun i hi => (up_ne (by omega)).symm)
  · rw [up_ne (by omega), t3]; exact sumN_congr (fun i hi => (up_ne (by omega)).symm)
  · rw [up_ne (by omega)] at i0
    rw [up_ne (by omega), up_ne (by omega)]; exact t4 i i0 i1
theorem Srt_day {B : Int} {r : Row} (W : WF B r) {N Nw : Nat} (h8 : N ≤ 8) (h3 : Nw ≤ 3) {o : Nat → Int} : Srt (dayR N Nw r) o 16 ↔ Srt (coolF r 16) o 16 :=
  ⟨fun h => Srt_c (by decide) h (fun j a1 a2 => ((dayR_ok W h8 h3).2.2 j a1 a2).symm), fun h => Srt_c (by decide) h (fun j a1 a2 => (dayR_ok W h8 h3).2.2 j a1 a2)⟩
theorem dayF_ok {B : Int} {o : Nat → Int} {r : Row} (W : WF B r) {N Nw : Nat} (hN : r 863 = N) (h3 : Nw ≤ 3) (ho : Srt (coolF r 16) o 16) (hd : r 862 < 10100) : WF (B + 16) (dayF o N Nw r) ∧ (∀ j, j < 32 ∨ (464 ≤ j ∧ j < 720) ∨ 726 ≤ j → j ≠ 862 → j ≠ 866 → j ≠ 867 → j ≠ 868 → dayF o N Nw r j = r j) ∧ dayF o N Nw r 862 = r 862 + 1 ∧ dayF o N Nw r 866 = r 866 + dayC o N Nw r ∧ 0 ≤ dayC o N Nw r ∧ dayC o N Nw r ≤ 16 := by
  have hn := WF1_n W.1
  have h8 : N ≤ 8 := by omega
  obtain ⟨k1, k2, k3⟩ := dayR_ok W h8 h3
  have hN2 : dayR N Nw r 863 = N := by rw [k2 863 (by omega) (by omega) (by omega), hN]
  obtain ⟨g1, g2, g3, g4, g5⟩ := drvF_ok (o := o) k1 hN2 ho.1 16 (by decide)
  have e1 : (drvF o N (dayR N Nw r) 16).1 862 = r 862 := by rw [g2 862 (by omega) (by omega), k2 862 (by omega) (by omega) (by omega)]
  refine ⟨nxt_wf (dayP_wf g1 h8) (by rw [dayP_o h8 (by omega), e1]; exact hd), fun j hj h1 h2 h4 h5 => ?_, ?_, ?_, g4, g5⟩
  · unfold dayF nxt
    rw [up_ne h1, dayP_o h8 (by omega), g2 j (by omega) h2, k2 j (by omega) h4 h5]
  · unfold dayF nxt
    rw [up_eq, dayP_o h8 (by omega), e1]
  · unfold dayF nxt dayC
    rw [up_ne (by omega), dayP_o h8 (by omega), g3, k2 866 (by omega) (by omega) (by omega)]
theorem ST_nxt {M : Mem} {b : Nat} {r : Row} {v : Int} (h : ST M b r) (hv : v = r 862 + 1) : ST (wr M b 0 v) b (nxt r) := by
  subst hv
  refine ⟨ST0.day_w h.1 _, fun p p0 p1 => ?_⟩
  rw [wr_ne (by omega), h.2 p p0 p1]
  exact (cntAt_c (fun i hi => up_ne (by omega))).symm
theorem q_postDay {B : Int} {b : Nat} {M : Mem} {r : Row} (hS : ST M b r) (W : WF B r) {N : Nat} (hN : r 863 = N) : ∃ M', f_X7_letInnsPostOnTheirDay b M = some (0, M') ∧ ST M' b (dayP N r) ∧ Kp b 28 M M' := by
  have hn := WF1_n W.1
  have hday := WF1_day W.1
  have hpst := WF1_pst W.1
  have a1 : M (b + 1) 4 = enc false (r 860) := hS.1.num (p := 4) (by omega) (by omega)
  have a2 : M b 0 = r 862 := hS.1.day
  simp only [enc, Bool.false_eq_true, if_false] at a1
  have ht := Int.tmod_nonneg (b := r 860) (show 0 ≤ r 862 + 1 by omega)
  have ht2 := Int.tmod_lt_of_pos (r 862 + 1) (show 0 < r 860 by omega)
  unfold f_X7_letInnsPostOnTheirDay f_X7_letInnsPostOnTheirDay_b26 dayP
  rw [zltS, a1, a2, if_pos (by omega), if_neg (by omega), if_pos (by omega), if_pos (by omega), if_pos (by omega)]
  by_cases c : (r 862 + 1).tmod (r 860) = 0
  · rw [if_pos c, if_pos c]
    obtain ⟨M', i1, i2, i3⟩ := q_post hS W hN (by omega)
    rw [i1, zbS]
    exact ⟨M', rfl, i2, i3⟩
  · rw [if_neg c, if_neg c]
    exact ⟨M, rfl, hS, Kp_id⟩
theorem q_day {B : Int} {b : Nat} {M : Mem} {r : Row} (hS : ST M b r) (W : WF B r) {N Nw : Nat} (hN : r 863 = N) (hW : r 864 = Nw) : ∃ o M', Srt (coolF r 16) o 16 ∧ f_X7_passDay b M = some (dayC o N Nw r, M') ∧ ST M' b (dayF o N Nw r) ∧ Kp b 29 M M' := by
  have hn := WF1_n W.1
  have hw := WF1_nw W.1
  have W1 := coolF_wf W
  have W2 := roamF_wf W1 Nw (by omega)
  obtain ⟨k1, k2, k3⟩ := dayR_ok W (N := N) (Nw := Nw) (by omega) (by omega)
  have hN2 : dayR N Nw r 863 = N := by rw [k2 863 (by omega) (by omega) (by omega), hN]
  obtain ⟨M1, a1, a2, a3⟩ := q_cool hS W.1
  obtain ⟨M2, b1, b2, b3⟩ := q_roam a2 W1 (N := Nw) (by rw [coolF_h (by omega), hW]) (by omega)
  obtain ⟨M3, c1, c2, c3⟩ := q_grow b2 W2 (N := N) (by rw [roamF_o W1 (by omega) (by omega) Nw (by omega), coolF_h (by omega), hN]) (by omega)
  obtain ⟨o, M4, d0, d1, d2, d3⟩ := q_herd (N := N) c2 k1 hN2
  obtain ⟨g1, g2, g3, g4, g5⟩ := drvF_ok (o := o) k1 hN2 d0.1 16 (by decide)
  obtain ⟨M5, e1, e2, e3⟩ := q_postDay (N := N) d2 g1 (by rw [show (drvF o N (growF (roamF (coolF r 16) Nw) N) 16).1 863 = _ from g2 863 (by omega) (by omega), hN2])
  have ho := (Srt_day W (N := N) (Nw := Nw) (by omega) (by omega)).mp d0
  refine ⟨o, wr M5 b 0 (M5 b 0 + 1), ho, ?_, ?_, ?_⟩
  · unfold f_X7_passDay
    rw [a1, zbS, b1, zbS, c1, zbS, d1, zbS, e1, zbS, zltS]
    rfl
  · have h6 : M5 b 0 = _ := e2.1.day
    exact ST_nxt e2 (by rw [h6]; rfl)
  · exact Kp_wr (Kp_tr (Kp_tr (Kp_tr (Kp_tr (Kp_mo a3 (by decide)) (Kp_mo b3 (by decide))) (Kp_mo c3 (by decide))) d3) (Kp_mo e3 (by decide))) (by omega)

def tailF (g : Row) (i ho cr : Int) : Row := up (up (up (up (up (up g ((726 + 5 * i) + 1).toNat (g ((726 + 5 * i) + 1).toNat + 1)) ((726 + 5 * i) + 2).toNat (g ((726 + 5 * i) + 2).toNat + ho)) ((726 + 5 * i) + 3).toNat (g ((726 + 5 * i) + 3).toNat + cr)) ((726 + 5 * i) + 4).toNat (imax (g ((726 + 5 * i) + 4).toNat) ho)) 869 (g 869 + 1)) 870 (g 870 + cr)
theorem tail_eq {r g : Row} {i h ho cr : Int} {S N : Nat} (hi : 0 ≤ i ∧ i < 6) (hh : 0 ≤ h ∧ h < 16) (hN : N ≤ 8) (hg : g = snt (up (up r (432 + h).toNat (imin (r (432 + h).toNat + r 861) 9999)) (756 + 16 * i + h).toNat (r (416 + h).toNat)) S N) : tailF g i ho cr = rchF r i h ho cr S N := by
  have gv : ∀ j, 32 ≤ j → j ≠ (432 + h).toNat → j ≠ (756 + 16 * i + h).toNat → g j = r j := fun j h1 h2 h3 => by rw [hg, snt_o hN (Or.inl h1), up_ne h3, up_ne h2]
  have g1 := gv ((726 + 5 * i) + 1).toNat (by omega) (by omega) (by omega)
  have g2 := gv ((726 + 5 * i) + 2).toNat (by omega) (by omega) (by omega)
  have g3 := gv ((726 + 5 * i) + 3).toNat (by omega) (by omega) (by omega)
  have g4 := gv ((726 + 5 * i) + 4).toNat (by omega) (by omega) (by omega)
  have g5 := gv 869 (by omega) (by omega) (by omega)
  have g6 := gv 870 (by omega) (by omega) (by omega)
  have k1 : noteF r i h ho cr (432 + h).toNat = r (432 + h).toNat := noteF_o hi hh (by omega)
  have k2 : noteF r i h ho cr 861 = r 861 := noteF_o hi hh (by omega)
  have k3 : warmF (noteF r i h ho cr) h 869 = r 869 := by unfold warmF; rw [up_ne (by omega)]; exact noteF_o hi hh (by omega)
  have k4 : warmF (noteF r i h ho cr) h 870 = r 870 := by unfold warmF; rw [up_ne (by omega)]; exact noteF_o hi hh (by omega)
  funext j
  by_cases hj : j < 32
  · unfold tailF
    rw [up_ne (by omega), up_ne (by omega), up_ne (by omega), up_ne (by omega), up_ne (by omega), up_ne (by omega), hg]
    have k5 : sumsF (warmF (noteF r i h ho cr) h) cr j = r j := by
      unfold sumsF warmF
      rw [up_ne (by omega), up_ne (by omega), up_ne (by omega)]
      exact noteF_o hi hh (by omega)
    have k6 : (up (up r (432 + h).toNat (imin (r (432 + h).toNat + r 861) 9999)) (756 + 16 * i + h).toNat (r (416 + h).toNat)) j = r j := by rw [up_ne (by omega), up_ne (by omega)]
    unfold rchF snt
    rw [k5, k6]
  · have e : rchF r i h ho cr S N j = sumsF (warmF (noteF r i h ho cr) h) cr j := snt_o hN (Or.inl (by omega))
    have e2 : g j = (up (up r (432 + h).toNat (imin (r (432 + h).toNat + r 861) 9999)) (756 + 16 * i + h).toNat (r (416 + h).toNat)) j := by rw [hg]; exact snt_o hN (Or.inl (by omega))
    rw [e]
    unfold tailF sumsF
    rw [g1, g2, g3, g4, g5, g6, k3, k4]
    unfold warmF
    rw [k1, k2]
    unfold noteF
    by_cases c1 : j = 870
    · rw [c1, up_eq, up_eq]
    rw [up_ne c1, up_ne c1]
    by_cases c2 : j = 869
    · rw [c2, up_eq, up_eq]
    rw [up_ne c2, up_ne c2]
    by_cases c3 : j = ((726 + 5 * i) + 4).toNat
    · rw [up_ne (show j ≠ (432 + h).toNat by omega), up_ne (show j ≠ (756 + 16 * i + h).toNat by omega), c3, up_eq, up_eq]
    rw [up_ne c3]
    by_cases c4 : j = ((726 + 5 * i) + 3).toNat
    · rw [up_ne (show j ≠ (432 + h).toNat by omega), up_ne (show j ≠ (756 + 16 * i + h).toNat by omega), up_ne c3, c4, up_eq, up_eq]
    rw [up_ne c4]
    by_cases c5 : j = ((726 + 5 * i) + 2).toNat
    · rw [up_ne (show j ≠ (432 + h).toNat by omega), up_ne (show j ≠ (756 + 16 * i + h).toNat by omega), up_ne c3, up_ne c4, c5, up_eq, up_eq]
    rw [up_ne c5]
    by_cases c6 : j = ((726 + 5 * i) + 1).toNat
    · rw [up_ne (show j ≠ (432 + h).toNat by omega), up_ne (show j ≠ (756 + 16 * i + h).toNat by omega), up_ne c3, up_ne c4, up_ne c5, c6, up_eq, up_eq]
    rw [up_ne c6, e2]
    by_cases c7 : j = (432 + h).toNat
    · rw [up_ne (show j ≠ (756 + 16 * i + h).toNat by omega), c7, up_eq, up_eq]
    rw [up_ne c7]
    by_cases c8 : j = (756 + 16 * i + h).toNat
    · rw [c8, up_eq, up_eq]
    rw [up_ne c8, up_ne c8, up_ne c7, up_ne c3, up_ne c4, up_ne c5, up_ne c6]
theorem p_tail {B : Int} {M : Mem} {g : Row} (hM : M 216 = g) (W : WF1 B g) {i ho cr : Int} (hi : 0 ≤ i ∧ i < 6) (h7 : M 215 7 = ho) (h11 : M 215 11 = cr) (hho : 0 ≤ ho ∧ ho ≤ 200) (hcr : cr = 0 ∨ cr = 1) {F : Nat} {v : Int} (hv : g 863 = v) : f_X10_reachFor_b86 (F + 1) i v M = some (ho, ml M 216 (tailF g i ho cr)) := by
  have hn := WF1_n W
  have hm := WF1_most W hi.1 hi.2
  have n4 : ∀ x y z : Int, (up (up (up g ((726 + 5 * i) + 1).toNat x) ((726 + 5 * i) + 2).toNat y) ((726 + 5 * i) + 3).toNat z) ((726 + 5 * i) + 4).toNat = g ((726 + 5 * i) + 4).toNat := fun x y z => by rw [up_ne (by omega), up_ne (by omega), up_ne (by omega)]
  have n3 : ∀ x y : Int, (up (up g ((726 + 5 * i) + 1).toNat x) ((726 + 5 * i) + 2).toNat y) ((726 + 5 * i) + 3).toNat = g ((726 + 5 * i) + 3).toNat := fun x y => by rw [up_ne (by omega), up_ne (by omega)]
  have n2 : ∀ x : Int, (up g ((726 + 5 * i) + 1).toNat x) ((726 + 5 * i) + 2).toNat = g ((726 + 5 * i) + 2).toNat := fun x => by rw [up_ne (by omega)]
  have n9 : ∀ x y z w : Int, (up (up (up (up g ((726 + 5 * i) + 1).toNat x) ((726 + 5 * i) + 2).toNat y) ((726 + 5 * i) + 3).toNat z) ((726 + 5 * i) + 4).toNat w) 869 = g 869 := fun x y z w => by rw [up_ne (by omega), up_ne (by omega), up_ne (by omega), up_ne (by omega)]
  have n0 : ∀ x y z w u : Int, (up (up (up (up (up g ((726 + 5 * i) + 1).toNat x) ((726 + 5 * i) + 2).toNat y) ((726 + 5 * i) + 3).toNat z) ((726 + 5 * i) + 4).toNat w) 869 u) 870 = g 870 := fun x y z w u => by rw [up_ne (by omega), up_ne (by omega), up_ne (by omega), up_ne (by omega), up_ne (by omega)]
  have q : ∀ f : Row, ml M 216 f 215 = M 215 := fun f => ml_ne (by decide)
  unfold f_X10_reachFor_b86
  rw [if_pos (by omega), hM, if_pos (by omega), if_pos (by omega), zltS, if_pos (by omega), zltS, if_pos (by omega), zltS, if_pos (by omega)]
  rw [wr_as M, hM, ml_eq, n2, q, h7]
  rw [wr_as (ml M 216 _), ml_eq, ml_ml, q, h11, if_pos (by omega), ml_eq, n3]
  have fin : ∀ t4 : Int, t4 = cr → f_X10_reachFor_b198 (726 + 5 * i) t4 (g ((726 + 5 * i) + 3).toNat) ((726 + 5 * i) + 3) (ml M 216 (up (up g ((726 + 5 * i) + 1).toNat (g ((726 + 5 * i) + 1).toNat + 1)) ((726 + 5 * i) + 2).toNat (g ((726 + 5 * i) + 2).toNat + ho))) = some (ho, ml M 216 (tailF g i ho cr)) := by
    intro t4 ht
    have hmost : ∀ x : Int, x = imax (g ((726 + 5 * i) + 4).toNat) ho → f_X10_reachFor_b240 x ((726 + 5 * i) + 4) (ml M 216 (up (up (up g ((726 + 5 * i) + 1).toNat (g ((726 + 5 * i) + 1).toNat + 1)) ((726 + 5 * i) + 2).toNat (g ((726 + 5 * i) + 2).toNat + ho)) ((726 + 5 * i) + 3).toNat (g ((726 + 5 * i) + 3).toNat + cr))) = some (ho, ml M 216 (tailF g i ho cr)) := by
      intro x hx
      unfold f_X10_reachFor_b240 f_X10_reachFor_b274
      rw [if_pos (by omega), zltS, zltS, wr_as (ml M 216 _), ml_eq, ml_ml, ml_eq, n9, wr_as (ml M 216 _), ml_eq, ml_ml, q, h11, if_pos (by omega), ml_eq, n0]
      rcases hcr with c | c
      · rw [if_pos c, if_pos (by decide), zltS, wr_as (ml M 216 _), ml_eq, ml_ml, q, h7, hx]
        unfold tailF
        rw [c]
        rfl
      · rw [if_neg (by omega), if_pos (by decide), zltS, wr_as (ml M 216 _), ml_eq, ml_ml, q, h7, hx]
        unfold tailF
        rw [c]
        rfl
    unfold f_X10_reachFor_b198
    rw [if_pos (by omega), zltS, if_pos (by omega), wr_as (ml M 216 _), ml_eq, ml_ml, q, h7, if_pos (by omega), ml_eq, n4, if_pos (by omega), ht]
    by_cases c : ho ≤ g ((726 + 5 * i) + 4).toNat
    · rw [if_pos c]
      exact hmost _ (by unfold imax; split <;> omega)
    · rw [if_neg c]
      exact hmost _ (by unfold imax; rw [if_pos (by omega)])
  rcases hcr with c | c
  · rw [if_pos c]; exact fin 0 c.symm
  · rw [if_neg (by omega)]; exact fin 1 c.symm
set_option maxRecDepth 20000 in
theorem p_sent_l {B : Int} {g : Row} (W : WF1 B g) {S N : Nat} (hS : S < 256) (hN : g 863 = N) (h8 : N ≤ 8) {i ho cr : Int} (hi : 0 ≤ i ∧ i < 6) (hho : 0 ≤ ho ∧ ho ≤ 200) (hcr : cr = 0 ∨ cr = 1) : ∀ (d v F : Nat) (M : Mem), v + d = N → d < F → M 216 = snt g S v → M 215 10 = S → M 215 7 = ho → M 215 11 = cr → f_X10_reachFor_b86 F i v M = some (ho, ml M 216 (tailF (snt g S N) i ho cr)) := by
  intro d
  induction d with
  | zero =>
    intro v F M h1 h2 hM h10 h7 h11
    obtain ⟨F, rfl⟩ : ∃ k, F = k + 1 := ⟨F - 1, by omega⟩
    obtain rfl : v = N := by omega
    exact p_tail hM (snt_wf1 W v h8) hi h7 h11 hho hcr (by rw [snt_o h8 (by omega)]; exact hN)
  | succ d ih =>
    intro v F M h1 h2 hM h10 h7 h11
    obtain ⟨F, rfl⟩ : ∃ k, F = k + 1 := ⟨F - 1, by omega⟩
    have hv : 0 ≤ (v : Int) ∧ (v : Int) < 8 := by omega
    have ht := tb_b S v
    have e863 : M 216 863 = N := by rw [hM, snt_o (by omega) (by omega), hN]
    have stp : ∀ t4 : Int, t4 = tb S v → f_X10_reachFor_b130 (f_X10_reachFor_b86 F) i v t4 (M 216 ((0 + 4 * (v : Int)) + 3).toNat) ((0 + 4 * (v : Int)) + 3) M = some (ho, ml M 216 (tailF (snt g S N) i ho cr)) := by
      intro t4 e
      unfold f_X10_reachFor_b130
      rw [if_pos (by omega), zltS]
      have h3 := ih (v + 1) F (wr M 216 ((0 + 4 * (v : Int)) + 3).toNat (M 216 ((0 + 4 * (v : Int)) + 3).toNat + t4)) (by omega) (by omega) (by rw [wr_eq, hM, snt_s, e]) (by rw [wr_ne (by decide)]; exact h10) (by rw [wr_ne (by decide)]; exact h7) (by rw [wr_ne (by decide)]; exact h11)
      push_cast at h3
      rw [h3, wr_as, ml_ml]
    unfold f_X10_reachFor_b86
    rw [if_pos (by omega), if_pos (by omega), if_neg (by omega), if_pos (by omega), h10, p_has hS hv, zbS, show (v : Int).toNat = v from rfl, if_pos (by omega)]
    by_cases c : tb S v = 0
    · rw [if_pos c]; exact stp 0 c.symm
    · rw [if_neg c]; exact stp 1 (by omega)
/-- what else of the memory a served request changes -/
def Ks (M M' : Mem) : Prop := ∀ x, x = 0 ∨ (29 ≤ x ∧ x < 206) ∨ 210 ≤ x → M' x = M x
def Kr (Q Q' : Mem) : Prop := (∀ x, x ≠ 215 → x ≠ 216 → x ≠ 218 → Q' x = Q x) ∧ ∀ j, j < 6 ∨ 12 ≤ j → Q' 215 j = Q 215 j
theorem x_serve {B : Int} {M Q : Mem} {r : Row} (hS : ST M 1 r) (W : WF B r) {i key v3 : Int} (hi : 0 ≤ i ∧ i < r 865) (hk : 0 ≤ key ∧ key < 256) (hv : v3 = -1 ∨ (0 ≤ v3 ∧ v3 ≤ 9999)) (hQ : Q 216 = if v3 = -1 then r else up r (464 + key).toNat v3) : ∃ x M' Q' r', f_X9_serve i key v3 M = some (x, M') ∧ f_X10_reachFor i key Q = some (x, Q') ∧ ST M' 1 r' ∧ WF B r' ∧ Q' 216 = r' ∧ Ks M M' ∧ Kr Q Q' ∧ (∀ j, 871 ≤ j → r' j = r j) ∧ r' 862 = r 862 ∧ r' 863 = r 863 ∧ r' 865 = r 865 ∧ 0 ≤ x ∧ x ≤ 200 := by
  have hnr := WF1_nr W.1
  have hn := WF1_n W.1
  have hi6 : 0 ≤ i ∧ i < 6 := by omega
  have hx2 : key.tdiv 16 = key / 16 := Int.tdiv_eq_ediv_of_nonneg hk.1
  have hh : 0 ≤ key.tdiv 16 ∧ key.tdiv 16 < 16 := by omega
  obtain ⟨N, hN⟩ : ∃ N : Nat, r 863 = N := ⟨(r 863).toNat, by omega⟩
  have h8 : N ≤ 8 := by omega
  -- the model's row
  obtain ⟨r2, hr2⟩ : ∃ r2 : Row, r2 = if v3 = -1 then r else up r (464 + key).toNat v3 := ⟨_, rfl⟩
  rw [← hr2] at hQ
  have hE : ∀ j, j < 464 ∨ 720 ≤ j → r2 j = r j := by
    intro j hj
    rw [hr2]
    split
    · rfl
    · exact up_ne (by omega)
  have W2 : WF B r2 := by
    refine ⟨?_, WF2_c (by omega) (fun j hj => hE j (by omega)) W.2.1, ?_⟩
    · rw [hr2]
      split
      · exact W.1
      · exact WF1_vals_w W.1 hk.1 hk.2
    · obtain ⟨t1, t2, t3, t4⟩ := W.2.2
      refine ⟨?_, ?_, ?_, fun x x0 x1 => ?_⟩
      · rw [hE _ (by omega), t1]; exact sumN_congr (fun x hx => (hE _ (by omega)).symm)
      · rw [hE _ (by omega), t2]; exact sumN_congr (fun x hx => (hE _ (by omega)).symm)
      · rw [hE _ (by omega), t3]; exact sumN_congr (fun x hx => (hE _ (by omega)).symm)
      · rw [hE _ (by omega)] at x0
        rw [hE _ (by omega), hE _ (by omega)]; exact t4 x x0 x1
  obtain ⟨M1, Q1, A, S, k, f1, f2, hR, f4, f5⟩ := x_find W W2 hE hS hQ hi6 hh
  obtain ⟨⟨z1, z1'⟩, ⟨z2, z2'⟩, ⟨z3, z3'⟩, -, ⟨z5, -, z5'⟩, z6, z7, -, -⟩ := hR
  have hQ1 : Q1 216 = r2 := by rw [f5.1 216 (by decide) (by decide), hQ]
  -- the class notes
  have hS1 : ST M1 1 r := ST_kp hS f4 (by decide)
  obtain ⟨M2, b1, b2, b3⟩ := q_note hS1 W.1 hi6 hh (ho := M1 206 0) (cr := M1 206 4) rfl rfl z7 z6
  have W3 := noteF_wf1 (cr := M1 206 4) W.1 hi6 hh z7
  obtain ⟨M3, c1, c2, c3⟩ := q_warm b2 W3 hh
  have c4 : ST M3 1 (sumsF (warmF (noteF r i (key.tdiv 16) (M1 206 0) (M1 206 4)) (key.tdiv 16)) (M1 206 4)) := by
    unfold sumsF
    exact ⟨ST0_up (ST0_up c2.1 (by decide +kernel)) (by decide +kernel), fun p p0 p1 => by rw [c2.2 p p0 p1]; exact (cntAt_c (fun x hx => by rw [up_ne (by omega), up_ne (by omega)])).symm⟩
  obtain ⟨M4, d1, d2, d3⟩ := q_sent_l (r := sumsF (warmF (noteF r i (key.tdiv 16) (M1 206 0) (M1 206 4)) (key.tdiv 16)) (M1 206 4)) (S := S) (N := N) (by
    unfold sumsF warmF
    rw [up_ne (by omega), up_ne (by omega), up_ne (by omega), noteF_o hi6 hh (by omega), hN]) h8 N 0 100000 M3 (by omega) (by omega) (by rw [snt_0]; exact c4) (fun x hx => by rw [c3 209 (by omega), b3 209 (by omega)]; exact z3' x hx)
  have a0 : M1 15 (key.tdiv 16).toNat = enc false (r (416 + key.tdiv 16).toNat) := hS1.1.at hh.1 hh.2
  simp only [enc, Bool.false_eq_true, if_false] at a0
  have hnote : f_X7_noteRequest 1 i (key.tdiv 16) M1 = some (0, M4) := by
    unfold f_X7_noteRequest
    rw [if_pos hh, show 1 + 14 = 15 from rfl, show 1 + 21 = 22 from rfl, a0, b1, zbS, show 1 + 13 = 14 from rfl, show 1 + 1 = 2 from rfl, c1, zbS]
    exact d1
  have kM : Kp 1 28 M1 M4 := Kp_tr (Kp_tr b3 c3) d3
  have e206 : M4 206 0 = M1 206 0 := by rw [kM 206 (by omega)]
  -- the model notes
  have hg := WF1_heat W2.1 hh.1 hh.2
  have hwm := WF1_warm W2.1
  have hat := WF1_at W2.1 hh.1 hh.2
  have Wg : WF1 B (up (up r2 (432 + key.tdiv 16).toNat (imin (r2 (432 + key.tdiv 16).toNat + r2 861) 9999)) (756 + 16 * i + key.tdiv 16).toNat (r2 (416 + key.tdiv 16).toNat)) := by
    have w1 : WF1 B (up r2 (432 + key.tdiv 16).toNat (imin (r2 (432 + key.tdiv 16).toNat + r2 861) 9999)) := WF1_heat_w W2.1 hh.1 hh.2 (by unfold imin; split <;> omega)
    exact WF1_mem_w w1 hi6.1 hi6.2 hh.1 hh.2 (by rw [up_ne (by omega)]; exact hat)
  have hmodel : f_X10_reachFor i key Q = some (M1 206 0, ml Q1 216 (rchF r2 i (key.tdiv 16) (M1 206 0) (M1 206 4) S N)) := by
    have hb57 : ∀ t : Int, t = imin (r2 (432 + key.tdiv 16).toNat + r2 861) 9999 → f_X10_reachFor_b57 i (key.tdiv 16) t (432 + key.tdiv 16) Q1 = some (M1 206 0, ml Q1 216 (rchF r2 i (key.tdiv 16) (M1 206 0) (M1 206 4) S N)) := by
      intro t ht
      have e1 : (756 + 16 * i + key.tdiv 16) = (756 + 16 * i) + key.tdiv 16 := rfl
      unfold f_X10_reachFor_b57
      rw [if_pos (by omega), zltS, if_pos (by omega), if_pos (by omega), zltS, wr_as Q1, ml_eq, hQ1, up_ne (show (416 + key.tdiv 16).toNat ≠ (432 + key.tdiv 16).toNat by omega), wr_as (ml Q1 216 _), ml_eq, ml_ml, ht]
      have h3 := p_sent_l Wg (S := S) (N := N) z1' (by rw [up_ne (by omega), up_ne (by omega), hE 863 (by omega), hN]) h8 (i := i) (ho := M1 206 0) (cr := M1 206 4) hi6 z7 z6 N 0 100000 (ml Q1 216 (up (up r2 (432 + key.tdiv 16).toNat (imin (r2 (432 + key.tdiv 16).toNat + r2 861) 9999)) (756 + 16 * i + key.tdiv 16).toNat (r2 (416 + key.tdiv 16).toNat))) (by omega) (by omega) (by rw [ml_eq, snt_0]) (by rw [ml_ne (by decide), z2']) (by rw [ml_ne (by decide), z5]) (by rw [ml_ne (by decide), z5'])
      rw [show ((0 : Nat) : Int) = 0 from rfl] at h3
      rw [h3, ml_ml, tail_eq hi6 hh h8 rfl]
    unfold f_X10_reachFor
    rw [if_pos (by omega), zltS, f2, zbS, if_pos (by omega), zltS, hQ1, if_pos (by omega)]
    by_cases c : r2 (432 + key.tdiv 16).toNat + r2 861 ≤ 9999
    · rw [if_pos c]; exact hb57 _ (by unfold imin; rw [if_neg (by omega)])
    · rw [if_neg c]; exact hb57 _ (by unfold imin; rw [if_pos (by omega)])
  have Wr : WF B (rchF r2 i (key.tdiv 16) (M1 206 0) (M1 206 4) S N) := rchF_wf W2 (by rw [hE 865 (by omega)]; exact hi) hh z7 h8
  have ro : ∀ j, j = 862 ∨ j = 863 ∨ j = 865 ∨ 871 ≤ j → rchF r2 i (key.tdiv 16) (M1 206 0) (M1 206 4) S N j = r j := by
    intro j hj
    rw [rchF_o hi6 hh h8 (by omega)]
    exact hE j (by omega)
  have kall : Ks M M4 := fun x hx => by rw [kM x (by omega), f4 x (by omega)]
  have kq : Kr Q (ml Q1 216 (rchF r2 i (key.tdiv 16) (M1 206 0) (M1 206 4) S N)) := ⟨fun x h1 h2 h3 => by rw [ml_ne h2, f5.1 x h1 h3], fun j hj => by rw [ml_ne (by decide), f5.2 j hj]⟩
  by_cases cv : v3 = -1
  · rw [if_pos cv] at hr2
    rw [hr2] at hmodel Wr ro kq
    refine ⟨M1 206 0, M4, _, rchF r i (key.tdiv 16) (M1 206 0) (M1 206 4) S N, ?_, hmodel, d2, Wr, ml_eq _ _ _, kall, kq, fun j hj => ro j (by omega), ro 862 (by omega), ro 863 (by omega), ro 865 (by omega), z7.1, z7.2⟩
    unfold f_X9_serve f_X9_serve_b52
    rw [if_pos (by omega), zltS, f1, zbS, hnote, zbS, if_pos (by omega), if_pos cv, e206]
  · rw [if_neg cv] at hr2
    have er : rchF r2 i (key.tdiv 16) (M1 206 0) (M1 206 4) S N = up (rchF r i (key.tdiv 16) (M1 206 0) (M1 206 4) S N) (464 + key).toNat v3 := by
      have hno : ∀ j, j ≠ (464 + key).toNat → r2 j = r j := fun j hj => by rw [hr2, up_ne hj]
      have n1 : ∀ j, j ≠ (464 + key).toNat → noteF r2 i (key.tdiv 16) (M1 206 0) (M1 206 4) j = noteF r i (key.tdiv 16) (M1 206 0) (M1 206 4) j := by
        intro j hj
        unfold noteF
        rw [hno _ (by omega), hno _ (by omega), hno _ (by omega), hno _ (by omega), hno _ (by omega)]
        unfold up
        rw [hno j hj]
      have n2 : ∀ j, j ≠ (464 + key).toNat → warmF (noteF r2 i (key.tdiv 16) (M1 206 0) (M1 206 4)) (key.tdiv 16) j = warmF (noteF r i (key.tdiv 16) (M1 206 0) (M1 206 4)) (key.tdiv 16) j := by
        intro j hj
        unfold warmF
        rw [n1 _ (by omega), n1 861 (by omega)]
        unfold up
        rw [n1 j hj]
      have n3 : ∀ j, j ≠ (464 + key).toNat → sumsF (warmF (noteF r2 i (key.tdiv 16) (M1 206 0) (M1 206 4)) (key.tdiv 16)) (M1 206 4) j = sumsF (warmF (noteF r i (key.tdiv 16) (M1 206 0) (M1 206 4)) (key.tdiv 16)) (M1 206 4) j := by
        intro j hj
        unfold sumsF
        rw [n2 869 (by omega), n2 870 (by omega)]
        unfold up
        rw [n2 j hj]
      funext j
      by_cases e : j = (464 + key).toNat
      · rw [e, up_eq, rchF_o hi6 hh h8 (by omega), hr2, up_eq]
      · rw [up_ne e]
        unfold rchF snt
        rw [n3 j e]
    rw [er] at hmodel Wr ro kq
    refine ⟨M1 206 0, wr M4 18 key.toNat v3, _, _, ?_, hmodel, ?_, Wr, ml_eq _ _ _, fun x hx => by rw [wr_ne (by omega)]; exact kall x hx, kq, fun j hj => ro j (by omega), ro 862 (by omega), ro 863 (by omega), ro 865 (by omega), z7.1, z7.2⟩
    · unfold f_X9_serve f_X9_serve_b52
      rw [if_pos (by omega), zltS, f1, zbS, hnote, zbS, if_pos (by omega), if_neg cv, if_pos (by omega), zltS, wr_ne (by decide), e206]
    · exact ST_w d2 (ST0.vals_w d2.1 hk.1 hk.2 rfl) (wr_ne (by decide)) (fun x hx => up_ne (by omega))

theorem fz_mem {B : Int} {r : Row} (W : WF1 B r) {x v : Int} (hx : 0 ≤ x ∧ x < 6) (hv : 0 ≤ v ∧ v < r 863) : ∀ n : Nat, n ≤ 16 → WF1 B (fz r (756 + 16 * x).toNat v n) := by
  intro n
  induction n with
  | zero => intro _; rw [fz_0]; exact W
  | succ n ih =>
    intro h
    have h1 := ih (by omega)
    have h2 : fz r (756 + 16 * x).toNat v n 863 = r 863 := fz_o (by omega)
    have h3 : WF1 B (up (fz r (756 + 16 * x).toNat v n) (756 + 16 * x + (n : Int)).toNat v) := WF1_mem_w h1 hx.1 hx.2 (by omega) (by omega) (by rw [h2]; exact hv)
    rw [fz_s, show (756 + 16 * x).toNat + n = (756 + 16 * x + (n : Int)).toNat by omega]
    exact h3
/-- one reader more -/
def joiF (r : Row) (v : Int) : Row := up (fz (up r (726 + 5 * r 865).toNat v) (756 + 16 * r 865).toNat v 16) 865 (r 865 + 1)
theorem joiF_o {r : Row} (hn : 0 ≤ r 865 ∧ r 865 < 6) {v : Int} {j : Nat} (h1 : j ≠ (726 + 5 * r 865).toNat) (h2 : j < 756 ∨ 852 ≤ j) (h3 : j ≠ 865) : joiF r v j = r j := by
  unfold joiF
  rw [up_ne h3, fz_o (by omega), up_ne h1]
theorem joiF_wf {B : Int} {r : Row} (W : WF B r) (h6 : r 865 < 6) {v : Int} (hv : 0 ≤ v ∧ v < r 863) : WF B (joiF r v) := by
  have hr := WF1_nr W.1
  have hn := WF1_n W.1
  have w1 := WF1_home_w W.1 hr.1 h6 hv
  have w2 := fz_mem w1 (x := r 865) (v := v) ⟨hr.1, h6⟩ (by rw [up_ne (by omega)]; exact hv) 16 (by omega)
  have w3 : WF1 B (joiF r v) := WF1_up w2 (by decide) (show 0 ≤ r 865 + 1 ∧ r 865 + 1 ≤ 6 by omega)
  have e1 : joiF r v 865 = r 865 + 1 := up_eq _ _ _
  refine ⟨w3, WF2_c (by omega) (fun j hj => joiF_o ⟨hr.1, h6⟩ (by omega) (by omega) (by omega)) W.2.1, ?_⟩
  obtain ⟨t1, t2, t3, t4⟩ := W.2.2
  refine ⟨?_, ?_, ?_, fun i i0 i1 => ?_⟩
  · rw [joiF_o ⟨hr.1, h6⟩ (by omega) (by omega) (by omega), t1]; exact sumN_congr (fun i hi => (joiF_o ⟨hr.1, h6⟩ (by omega) (by omega) (by omega)).symm)
  · rw [joiF_o ⟨hr.1, h6⟩ (by omega) (by omega) (by omega), t2]; exact sumN_congr (fun i hi => (joiF_o ⟨hr.1, h6⟩ (by omega) (by omega) (by omega)).symm)
  · rw [joiF_o ⟨hr.1, h6⟩ (by omega) (by omega) (by omega), t3]; exact sumN_congr (fun i hi => (joiF_o ⟨hr.1, h6⟩ (by omega) (by omega) (by omega)).symm)
  · rw [e1] at i0
    rw [joiF_o ⟨hr.1, h6⟩ (by omega) (by omega) (by omega), joiF_o ⟨hr.1, h6⟩ (by omega) (by omega) (by omega)]
    exact t4 i (by omega) i1
set_option maxRecDepth 20000 in
theorem q_join_l {k b : Nat} {x p : Int} {r : Row} (hk : k = b + 21) (hx : 0 ≤ x ∧ x < 6) : ∀ (d v F : Nat) (M : Mem), v + d = 16 → d < F → ST0 M b (fz r (756 + 16 * x).toNat p v) → ∃ M', f_X4_join_b14 k F p x v M = some (x, wr M' k 0 (M' k 0 + 1)) ∧ ST0 M' b (fz r (756 + 16 * x).toNat p 16) ∧ ∀ y, y ≠ b + 27 → M' y = M y := by
  intro d
  induction d with
  | zero =>
    intro v F M h1 h2 hS
    obtain ⟨F, rfl⟩ : ∃ k, F = k + 1 := ⟨F - 1, by omega⟩
    obtain rfl : v = 16 := by omega
    refine ⟨M, ?_, hS, fun _ _ => rfl⟩
    unfold f_X4_join_b14
    rw [if_pos (by omega), if_pos (by omega), zltS]
  | succ d ih =>
    intro v F M h1 h2 hS
    obtain ⟨F, rfl⟩ : ∃ k, F = k + 1 := ⟨F - 1, by omega⟩
    have s1 : ST0 (wr M (b + 27) (x * 16 + (v : Int)).toNat p) b (up (fz r (756 + 16 * x).toNat p v) (756 + (x * 16 + (v : Int))).toNat p) := ST0.mem_w hS (by omega) (by omega) rfl
    rw [show (756 + (x * 16 + (v : Int))).toNat = (756 + 16 * x).toNat + v by omega, ← fz_s] at s1
    obtain ⟨M', i1, i2, i3⟩ := ih (v + 1) F _ (by omega) (by omega) s1
    refine ⟨M', ?_, i2, fun y hy => by rw [i3 y hy, wr_ne hy]⟩
    unfold f_X4_join_b14
    rw [if_pos (by omega), if_neg (by omega), q_cell, zbS, if_pos (by omega), zltS, show k + 6 = b + 27 by omega]
    exact i1
theorem q_join {k b : Nat} {p : Int} {r : Row} {M : Mem} (hk : k = b + 21) (hS : ST0 M b r) (hx : 0 ≤ r 865 ∧ r 865 < 6) : ∃ M', f_X4_join k p M = some (r 865, M') ∧ ST0 M' b (joiF r p) ∧ ∀ y, y ≠ b + 21 → y ≠ b + 22 → y ≠ b + 27 → M' y = M y := by
  have a0 : M (b + 21) 0 = r 865 := hS.nr
  have s0 : ST0 (wr M (b + 22) (r 865).toNat p) b (up r (726 + 5 * r 865).toNat p) := ST0.home_w hS hx.1 hx.2 rfl
  obtain ⟨M2, i1, i2, i3⟩ := q_join_l (k := b + 21) (p := p) (x := r 865) rfl hx 16 0 100000 _ rfl (by decide) (by rw [fz_0]; exact s0)
  have a2 : M2 (b + 21) 0 = r 865 := by rw [i3 (b + 21) (by omega), wr_ne (by omega)]; exact a0
  rw [a2] at i1
  refine ⟨wr M2 (b + 21) 0 (r 865 + 1), ?_, ST0.nr_w i2 _, fun y h1 h2 h3 => by rw [wr_ne h1, i3 y h3, wr_ne h2]⟩
  rw [hk]
  unfold f_X4_join
  rw [zltS, a0, if_pos hx, zltS, show b + 21 + 1 = b + 22 from rfl]
  exact i1
set_option maxRecDepth 20000 in
theorem p_join_l {x p : Int} {r : Row} (hx : 0 ≤ x ∧ x < 6) : ∀ (d v F : Nat) (Q : Mem), v + d = 16 → d < F → Q 216 = fz r (756 + 16 * x).toNat p v → f_X10_addReader_b54 F p x v Q = some (x, ml Q 216 (up (fz r (756 + 16 * x).toNat p 16) 865 (fz r (756 + 16 * x).toNat p 16 865 + 1))) := by
  intro d
  induction d with
  | zero =>
    intro v F Q h1 h2 hQ
    obtain ⟨F, rfl⟩ : ∃ k, F = k + 1 := ⟨F - 1, by omega⟩
    obtain rfl : v = 16 := by omega
    unfold f_X10_addReader_b54
    rw [if_pos (by omega), if_pos (by omega), zltS, wr_as, hQ]
  | succ d ih =>
    intro v F Q h1 h2 hQ
    obtain ⟨F, rfl⟩ : ∃ k, F = k + 1 := ⟨F - 1, by omega⟩
    have e : wr Q 216 ((756 + (16 * x)) + (v : Int)).toNat p = ml Q 216 (fz r (756 + 16 * x).toNat p (v + 1)) := by
      rw [wr_as, hQ, fz_s, show ((756 + (16 * x)) + (v : Int)).toNat = (756 + 16 * x).toNat + v by omega]
    have i1 := ih (v + 1) F (ml Q 216 (fz r (756 + 16 * x).toNat p (v + 1))) (by omega) (by omega) (ml_eq _ _ _)
    rw [ml_ml] at i1
    unfold f_X10_addReader_b54
    rw [if_pos (by omega), if_neg (by omega), if_pos (by omega), zltS, e]
    exact i1
theorem c_addReader {v1 : Int} (hv1 : inR v1) : CallOK (f_X9_addReader v1) (f_X10_addReader v1) := by
  intro B M Q I hB
  obtain ⟨g1, g2⟩ := isP I hv1
  have hS := I.2.1.1
  have W := I.2.1.2.1
  have hn := WF1_n W.1
  have hr0 := WF1_nr W.1
  have a0 : M 22 0 = Q 216 865 := hS.1.nr
  by_cases c1 : 0 ≤ v1 ∧ v1 < Q 216 863
  · by_cases c3 : Q 216 865 < 6
    · obtain ⟨M1, Q1, s1, s2, I1, hr, kc, km⟩ := x_store I
      have W1 := I1.2.1.2.1
      have e3 : Q1 216 863 = Q 216 863 := hr 863 (by decide)
      have e5 : Q1 216 865 = Q 216 865 := hr 865 (by decide)
      have hb : 0 ≤ Q1 216 865 ∧ Q1 216 865 < 6 := by omega
      obtain ⟨M', i1, i2, i3⟩ := q_join (k := 22) (b := 1) (p := v1) rfl I1.2.1.1.1 hb
      have hw : WF B (joiF (Q1 216) v1) := joiF_wf W1 hb.2 (by omega)
      have hno : ∀ j, j < 726 ∨ 871 ≤ j ∨ (852 ≤ j ∧ j < 865) → joiF (Q1 216) v1 j = Q1 216 j := fun j q1 => joiF_o hb (by omega) (by omega) (by omega)
      have K : ∀ y, y < 22 ∨ 29 ≤ y → M' y = M1 y := fun y hy => i3 y (by omega) (by omega) (by omega)
      have j1 := p_join_l (p := v1) (r := up (Q1 216) (726 + 5 * Q1 216 865).toNat v1) hb 16 0 100000 (ml Q1 216 (up (Q1 216) (726 + 5 * Q1 216 865).toNat v1)) rfl (by decide) (by rw [ml_eq, fz_0])
      rw [ml_ml, show fz (up (Q1 216) (726 + 5 * Q1 216 865).toNat v1) (756 + 16 * Q1 216 865).toNat v1 16 865 = Q1 216 865 by rw [fz_o (by omega), up_ne (by omega)]] at j1
      refine ⟨Q1 216 865, M', ml Q1 216 (joiF (Q1 216) v1), ?_, ?_, Inv2_op I1 (by omega) (ST_w I1.2.1.1 i2 (K 7 (by omega)) (fun i hi => hno _ (by omega))) (WF_B hw (by omega)) (by rw [hno 862 (by omega)]; exact I1.2.1.2.2) (ml_eq _ _ _) (fun j h1 _ => hno j (by omega)) (fun y hy => K y (by omega)) (by rw [K 210 (by omega)]) (fun j _ => by rw [ml_ne (by decide)]) (ml_ne (by decide)), fun y hy => by rw [K y (by omega), kc y (by omega)], fun y hy => by rw [ml_ne (by omega), km.1 y (by omega) (by omega)]⟩
      · unfold f_X9_addReader
        rw [g1, zbS, bitR, bit0, if_pos c1, a0, if_pos (by omega), if_pos c3, s1, zbS, i1, zbS]
      · unfold f_X10_addReader
        rw [g2, zbS, bitR, bit0, if_pos c1, if_pos (by omega), if_neg (by omega), s2, zbS, zltS, if_pos (by omega), zltS, wr_as]
        exact j1
    · refine call_no I (x := -3) ?_ ?_
      · unfold f_X9_addReader
        rw [g1, zbS, bitR, bit0, if_pos c1, a0, if_pos (by omega), if_neg c3]
      · unfold f_X10_addReader
        rw [g2, zbS, bitR, bit0, if_pos c1, if_pos (by omega), if_pos (by omega)]
  · refine call_no I (x := -1) ?_ ?_
    · unfold f_X9_addReader
      rw [g1, zbS, bitR, bit0, if_neg c1]
    · unfold f_X10_addReader
      rw [g2, zbS, bitR, bit0, if_neg c1]

/-- n places from a on hold v -/
def fz (r : Row) (a : Nat) (v : Int) (n : Nat) : Row := fun j => if a ≤ j ∧ j < a + n then v else r j
theorem fz_0 (r : Row) (a : Nat) (v : Int) : fz r a v 0 = r := by
  funext j
  unfold fz
  rw [if_neg (by omega)]
theorem fz_s (r : Row) (a : Nat) (v : Int) (n : Nat) : fz r a v (n + 1) = up (fz r a v n) (a + n) v := by
  funext j
  by_cases e : j = a + n
  · rw [e, up_eq]
    unfold fz
    rw [if_pos (by omega)]
  · rw [up_ne e]
    unfold fz
    by_cases q : a ≤ j ∧ j < a + n
    · rw [if_pos q, if_pos (by omega)]
    · rw [if_neg q, if_neg (by omega)]
theorem fz_o {r : Row} {a : Nat} {v : Int} {n j : Nat} (h : j < a ∨ a + n ≤ j) : fz r a v n j = r j := by
  unfold fz
  rw [if_neg (by omega)]
theorem fz_i {r : Row} {a : Nat} {v : Int} {n j : Nat} (h : a ≤ j ∧ j < a + n) : fz r a v n j = v := by
  unfold fz
  rw [if_pos h]
theorem fz_post {B : Int} {r : Row} (W : WF1 B r) {p : Int} (hp : 0 ≤ p ∧ p < 8) : ∀ n : Nat, n ≤ 16 → WF1 B (fz r (32 + 16 * p).toNat 0 n) := by
  intro n
  induction n with
  | zero => intro _; rw [fz_0]; exact W
  | succ n ih =>
    intro h
    have h1 := ih (by omega)
    have h2 := WF1_n h1
    have h3 : WF1 B (up (fz r (32 + 16 * p).toNat 0 n) (32 + 16 * p + (n : Int)).toNat 0) := WF1_post_w h1 hp.1 hp.2 (by omega) (by omega) (by omega)
    rw [fz_s, show (32 + 16 * p).toNat + n = (32 + 16 * p + (n : Int)).toNat by omega]
    exact h3
theorem inn_wf {B : Int} {r : Row} (W : WF B r) {p v : Int} (hp : 0 ≤ p ∧ p < r 863) (hv : v = 0 ∨ v = 1) : WF B (fz (up r ((0 + 4 * p) + 2).toNat v) (32 + 16 * p).toNat 0 16) := by
  have hn := WF1_n W.1
  have w1 : WF1 B (up r ((0 + 4 * p) + 2).toNat v) := WF1_inn_w W.1 hp.1 (by omega) (by omega)
  obtain ⟨u1, u2, u3, rk, u4⟩ := W.2.1
  have hno : ∀ j, j ≠ ((0 + 4 * p) + 2).toNat → (j < (32 + 16 * p).toNat ∨ (32 + 16 * p).toNat + 16 ≤ j) → fz (up r ((0 + 4 * p) + 2).toNat v) (32 + 16 * p).toNat 0 16 j = r j := fun j h1 h2 => by rw [fz_o h2, up_ne h1]
  refine ⟨fz_post w1 ⟨hp.1, by omega⟩ 16 (by omega), ⟨fun q y q0 q1 y0 y1 => ?_, fun q y q0 q1 y0 y1 => ?_, fun q y q0 q1 y0 y1 => ?_, ⟨rk, fun q y q0 q1 y0 y1 => ?_⟩⟩, WF3_trk (WF1_nr W.1).1 (fun j h1 _ _ => hno j (by omega) (by omega)) W.2.2⟩
  · rw [hno _ (by omega) (by omega), hno _ (by omega) (by omega), hno _ (by omega) (by omega)]
    exact u1 q y q0 q1 y0 y1
  · by_cases e : q = p
    · intro _
      rw [e]
      exact fz_i (by omega)
    · rw [hno _ (by omega) (by omega), hno _ (by omega) (by omega)]
      exact u2 q y q0 q1 y0 y1
  · rw [hno 863 (by omega) (by omega)] at q0
    rw [hno _ (by omega) (by omega), hno _ (by omega) (by omega)]
    exact u3 q y q0 q1 y0 y1
  · rw [hno _ (by omega) (by omega)]
    exact u4 q y q0 q1 y0 y1
set_option maxRecDepth 20000 in
theorem q_fp_l {k b : Nat} {p : Int} {r : Row} (hk : k = b + 3) (hp : 0 ≤ p ∧ p < 8) : ∀ (d v F : Nat) (M : Mem), v + d = 16 → d < F → ST0 M b (fz r (32 + 16 * p).toNat 0 v) → ∃ M', f_X2_forgetPosted_b2 k F p v M = some (0, M') ∧ ST0 M' b (fz r (32 + 16 * p).toNat 0 16) ∧ ∀ x, x ≠ b + 9 → M' x = M x := by
  intro d
  induction d with
  | zero =>
    intro v F M h1 h2 hS
    obtain ⟨F, rfl⟩ : ∃ k, F = k + 1 := ⟨F - 1, by omega⟩
    obtain rfl : v = 16 := by omega
    refine ⟨M, ?_, hS, fun _ _ => rfl⟩
    unfold f_X2_forgetPosted_b2
    rw [if_pos (by omega), if_pos (by omega)]
  | succ d ih =>
    intro v F M h1 h2 hS
    obtain ⟨F, rfl⟩ : ∃ k, F = k + 1 := ⟨F - 1, by omega⟩
    have s1 : ST0 (wr M (b + 9) (p * 16 + (v : Int)).toNat (-5)) b (up (fz r (32 + 16 * p).toNat 0 v) (32 + (p * 16 + (v : Int))).toNat 0) := ST0.post_w hS (by omega) (by omega) rfl
    rw [show (32 + (p * 16 + (v : Int))).toNat = (32 + 16 * p).toNat + v by omega, ← fz_s] at s1
    obtain ⟨M', i1, i2, i3⟩ := ih (v + 1) F _ (by omega) (by omega) s1
    refine ⟨M', ?_, i2, fun x hx => by rw [i3 x hx, wr_ne hx]⟩
    unfold f_X2_forgetPosted_b2
    rw [if_pos (by omega), if_neg (by omega), q_cell, zbS, if_pos (by omega), zltS, hk, show b + 3 + 6 = b + 9 from rfl, ← hk]
    exact i1
theorem q_fp {k b : Nat} {p : Int} {r : Row} {M : Mem} (hk : k = b + 3) (hp : 0 ≤ p ∧ p < 8) (hS : ST0 M b r) : ∃ M', f_X2_forgetPosted k p M = some (0, M') ∧ ST0 M' b (fz r (32 + 16 * p).toNat 0 16) ∧ ∀ x, x ≠ b + 9 → M' x = M x :=
  q_fp_l hk hp 16 0 100000 M rfl (by decide) (by rw [fz_0]; exact hS)
set_option maxRecDepth 20000 in
theorem p_fp_l {p : Int} {r : Row} (hp : 0 ≤ p ∧ p < 8) : ∀ (d v F : Nat) (Q : Mem), v + d = 16 → d < F → Q 216 = fz r (32 + 16 * p).toNat 0 v → f_X10_setInn_b49 F p v Q = zbnd (f_X10_inns (ml Q 216 (fz r (32 + 16 * p).toNat 0 16))) fun x M2 => some (x, M2) := by
  intro d
  induction d with
  | zero =>
    intro v F Q h1 h2 hQ
    obtain ⟨F, rfl⟩ : ∃ k, F = k + 1 := ⟨F - 1, by omega⟩
    obtain rfl : v = 16 := by omega
    rw [← hQ, ml_id]
    unfold f_X10_setInn_b49
    rw [if_pos (by omega), if_pos (by omega)]
  | succ d ih =>
    intro v F Q h1 h2 hQ
    obtain ⟨F, rfl⟩ : ∃ k, F = k + 1 := ⟨F - 1, by omega⟩
    have e : wr Q 216 ((32 + (16 * p)) + (v : Int)).toNat 0 = ml Q 216 (fz r (32 + 16 * p).toNat 0 (v + 1)) := by
      rw [wr_as, hQ, fz_s, show ((32 + (16 * p)) + (v : Int)).toNat = (32 + 16 * p).toNat + v by omega]
    have i1 := ih (v + 1) F (ml Q 216 (fz r (32 + 16 * p).toNat 0 (v + 1))) (by omega) (by omega) (ml_eq _ _ _)
    rw [ml_ml] at i1
    unfold f_X10_setInn_b49
    rw [if_pos (by omega), if_neg (by omega), if_pos (by omega), zltS, e]
    exact i1
theorem p_in46 {p v : Int} (hp : 0 ≤ p ∧ p < 8) (Q : Mem) : f_X10_setInn_b46 p v ((0 + (4 * p)) + 2) Q = zbnd (f_X10_inns (ml Q 216 (fz (up (Q 216) ((0 + 4 * p) + 2).toNat v) (32 + 16 * p).toNat 0 16))) fun x M2 => some (x, M2) := by
  have h1 := p_fp_l (r := up (Q 216) ((0 + 4 * p) + 2).toNat v) hp 16 0 100000 (ml Q 216 (up (Q 216) ((0 + 4 * p) + 2).toNat v)) rfl (by decide) (by rw [ml_eq, fz_0])
  rw [ml_ml] at h1
  unfold f_X10_setInn_b46
  rw [if_pos (by omega), zltS, wr_as]
  exact h1
theorem c_setInn {v1 v2 : Int} (hv1 : inR v1) (hv2 : v2 = 0 ∨ v2 = 1) : CallOK (f_X9_setInn v1 v2) (f_X10_setInn v1 v2) := by
  intro B M Q I hB
  obtain ⟨g1, g2⟩ := isP I hv1
  have hS := I.2.1.1
  have W := I.2.1.2.1
  have hn := WF1_n W.1
  have r2 : inR v2 := by rcases hv2 with h | h <;> rw [h] <;> decide
  by_cases c1 : 0 ≤ v1 ∧ v1 < Q 216 863
  · have hp : 0 ≤ v1 ∧ v1 < 8 := by omega
    have hi := WF1_inn W.1 hp.1 hp.2
    have a2 : M 9 v1.toNat = enc false (Q 216 ((0 + 4 * v1) + 2).toNat) := hS.1.inn hp.1 hp.2
    simp only [enc, Bool.false_eq_true, if_false] at a2
    have g5 : f_X10_hasInn v1 Q = some (Q 216 ((0 + 4 * v1) + 2).toNat, Q) := by
      rw [p_hasInn W.1 hp.1 hp.2]
      by_cases e : Q 216 ((0 + 4 * v1) + 2).toNat = 1
      · rw [if_pos e, e]
      · rw [if_neg e, show Q 216 ((0 + 4 * v1) + 2).toNat = 0 by omega]
    by_cases c3 : Q 216 ((0 + 4 * v1) + 2).toNat = v2
    · refine call_no I (x := -5) ?_ ?_
      · unfold f_X9_setInn
        rw [g1, zbS, bitR, bit0, if_pos c1, if_pos hp, a2, if_pos (by omega), if_pos r2, if_pos c3]
      · unfold f_X10_setInn
        rw [g2, zbS, bitR, bit0, if_pos c1, g5, zbS, if_pos (by omega), if_pos r2, if_pos c3]
    · obtain ⟨M1, Q1, s1, s2, I1, hr, kc, km⟩ := x_store I
      have W1 := I1.2.1.2.1
      have e3 : Q1 216 863 = Q 216 863 := hr 863 (by decide)
      have hp1 : 0 ≤ v1 ∧ v1 < Q1 216 863 := by omega
      have s0 : ST0 (wr M1 9 v1.toNat v2) 1 (up (Q1 216) ((0 + 4 * v1) + 2).toNat v2) := ST0.inn_w I1.2.1.1.1 hp.1 hp.2 rfl
      obtain ⟨M', i1, i2, i3⟩ := q_fp (k := 4) (b := 1) rfl hp s0
      have hw := inn_wf W1 hp1 hv2
      have hno : ∀ j, 160 ≤ j → fz (up (Q1 216) ((0 + 4 * v1) + 2).toNat v2) (32 + 16 * v1).toNat 0 16 j = Q1 216 j := fun j h1 => by rw [fz_o (by omega), up_ne (by omega)]
      have j5 := p_in46 (v := v2) hp Q1
      obtain ⟨R, hR⟩ : ∃ R, fz (up (Q1 216) ((0 + 4 * v1) + 2).toNat v2) (32 + 16 * v1).toNat 0 16 = R := ⟨_, rfl⟩
      rw [hR] at i2 hw hno j5
      obtain ⟨N, hN, h8⟩ := nn_of hw.1
      have i4 := q_inns (k := 4) (b := 1) rfl i2 hw.1 hN h8
      have j4 := p_inns (M := ml Q1 216 R) (by rw [ml_eq]; exact hw.1) (by rw [ml_eq]; exact hN) h8
      rw [ml_eq] at j4
      rw [j4, zbS] at j5
      have K : ∀ y, y ≠ 9 → y ≠ 10 → M' y = M1 y := fun y h1 h2 => by rw [i3 y h2, wr_ne h1]
      refine ⟨innF R N, M', ml Q1 216 R, ?_, ?_, Inv2_op I1 (by omega) (ST_w I1.2.1.1 i2 (K 7 (by decide) (by decide)) (fun i hi => hno _ (by omega))) (WF_B hw (by omega)) (by rw [hno 862 (by omega)]; exact I1.2.1.2.2) (ml_eq _ _ _) (fun j h1 _ => hno j (by omega)) (fun y hy => K y (by omega) (by omega)) (by rw [K 210 (by decide) (by decide)]) (fun j _ => by rw [ml_ne (by decide)]) (ml_ne (by decide)), fun y hy => by rw [K y (by omega) (by omega), kc y (by omega)], fun y hy => by rw [ml_ne (by omega), km.1 y (by omega) (by omega)]⟩
      · unfold f_X9_setInn
        rw [g1, zbS, bitR, bit0, if_pos c1, if_pos hp, a2, if_pos (by omega), if_pos r2, if_neg c3, s1, zbS, if_pos hv2, zltS, i1, zbS, i4, zbS]
      · unfold f_X10_setInn
        rw [g2, zbS, bitR, bit0, if_pos c1, g5, zbS, if_pos (by omega), if_pos r2, if_neg c3, s2, zbS]
        rcases hv2 with h | h
        · rw [h] at j5
          rw [if_pos h]
          exact j5
        · rw [h] at j5
          rw [if_neg (by omega)]
          exact j5
  · refine call_no I (x := -1) ?_ ?_
    · unfold f_X9_setInn
      rw [g1, zbS, bitR, bit0, if_neg c1]
    · unfold f_X10_setInn
      rw [g2, zbS, bitR, bit0, if_neg c1]

theorem zbS (v : Int) (M : Mem) (f : Int → Mem → Option (Int × Mem)) : zbnd (some (v, M)) f = f v M := rfl
theorem zltS {α β : Type} (x : α) (f : α → β) : zlt x f = f x := rfl
/-- tracks of pasture p grow over -/
def growP (r : Row) (p : Int) : Row := if r ((0 + 4 * p) + 2).toNat = 1 then r else up (rmv r p (r 862 - r 857) 16) 868 (r 868 + cntR r p (r 862 - r 857) 16)
theorem growP_wf {B : Int} {r : Row} (W : WF B r) {p : Int} (hp : 0 ≤ p ∧ p < 8) : WF B (growP r p) := by
  unfold growP
  split
  · exact W
  · exact wf_cnt (rmv_wf W hp) (Or.inr rfl)
theorem growP_o {r : Row} {p : Int} {j : Nat} (hp : 0 ≤ p ∧ p < 8) (hj : j < 160 ∨ 288 ≤ j) (h2 : j ≠ 868) : growP r p j = r j := by
  unfold growP
  split
  · rfl
  · rw [up_ne h2, rmv_o hp (by decide) hj]
def growF (r : Row) (n : Nat) : Row := match n with
  | 0 => r
  | k + 1 => growP (growF r k) (k : Int)
theorem growF_wf {B : Int} {r : Row} (W : WF B r) : ∀ n : Nat, n ≤ 8 → WF B (growF r n) := by
  intro n
  induction n with
  | zero => intro _; exact W
  | succ n ih => intro hn; exact growP_wf (ih (by omega)) (by omega)
theorem growF_o {r : Row} {j : Nat} (hj : j < 160 ∨ 288 ≤ j) (h2 : j ≠ 868) : ∀ n : Nat, n ≤ 8 → growF r n j = r j := by
  intro n
  induction n with
  | zero => intro _; rfl
  | succ n ih =>
    intro hn
    show growP (growF r n) (n : Int) j = r j
    rw [growP_o (by omega) hj h2, ih (by omega)]
set_option maxRecDepth 20000 in
theorem q_grow_l {B : Int} {b : Nat} {r : Row} (W : WF B r) {N : Nat} (hN : r 863 = N) (h8 : N ≤ 8) : ∀ (d v F : Nat) (M : Mem), v + d = N → d < F → ST M b (growF r v) → ∃ M', f_X7_letTracksGrowOver_b2 b F v M = some (0, M') ∧ ST M' b (growF r N) ∧ Kp b 28 M M' := by
  intro d
  induction d with
  | zero =>
    intro v F M h1 h2 hS
    obtain ⟨F, rfl⟩ : ∃ k, F = k + 1 := ⟨F - 1, by omega⟩
    obtain rfl : v = N := by omega
    have a3 := hS.1.np
    rw [growF_o (by omega) (by decide) v h8, hN] at a3
    unfold f_X7_letTracksGrowOver_b2
    rw [if_pos (by omega), if_pos (by omega), if_pos (by omega)]
    exact ⟨M, rfl, hS, Kp_id⟩
  | succ d ih =>
    intro v F M h1 h2 hS
    obtain ⟨F, rfl⟩ : ∃ k, F = k + 1 := ⟨F - 1, by omega⟩
    have a3 := hS.1.np
    rw [growF_o (by omega) (by decide) v (by omega), hN] at a3
    have W1 := growF_wf W v (by omega)
    have hp : 0 ≤ (v : Int) ∧ (v : Int) < 8 := by omega
    have b1 := WF1_inn W1.1 hp.1 hp.2
    have b2 := WF1_day W1.1
    have b3 := WF1_life W1.1
    have a1 := hS.1.inn hp.1 hp.2
    have a2 : M b 0 = growF r v 862 := hS.1.day
    have a4 : M (b + 1) 1 = enc false (growF r v 857) := hS.1.num (p := 1) (by omega) (by omega)
    simp only [enc, Bool.false_eq_true, if_false] at a1 a4
    unfold f_X7_letTracksGrowOver_b2 f_X7_letTracksGrowOver_b53
    simp only [a1, a2, a4]
    rw [if_pos (by omega), if_pos (by omega), if_neg (by omega), if_pos hp, if_pos (by omega)]
    by_cases hi : growF r v ((0 + 4 * (v : Int)) + 2).toNat = 1
    · rw [if_neg (by omega)]
      obtain ⟨M', i1, i2, i3⟩ := ih (v + 1) F M (by omega) (by omega) (by
        show ST M b (growP (growF r v) v)
        unfold growP
        rw [if_pos hi]
        exact hS)
      push_cast at i1
      exact ⟨M', i1, i2, i3⟩
    · rw [if_pos (by omega)]
      obtain ⟨M1, e1, e2, e3⟩ := q_rem (k := b + 10) rfl W1.1 hp (dd := growF r v 862 - growF r v 857) (by omega) (left_in W1 hp) hS
      rw [e1]
      simp only [zbnd, zlt]
      obtain ⟨M', i1, i2, i3⟩ := ih (v + 1) F (wr M1 b 2 (M b 2 + cntR (growF r v) v (growF r v 862 - growF r v 857) 16)) (by omega) (by omega) (by
        show ST _ b (growP (growF r v) v)
        have g1 : M b 2 = growF r v 868 := hS.1.grown
        unfold growP
        rw [if_neg hi, g1]
        refine ⟨ST0.grown_w e2.1 _, fun p p0 p1 => ?_⟩
        rw [wr_ne (by omega), e2.2 p p0 p1]
        exact (cntAt_c (fun i hi => up_ne (by omega))).symm)
      push_cast at i1
      exact ⟨M', i1, i2, Kp_tr (Kp_wr e3 (by omega)) i3⟩
theorem q_grow {B : Int} {b : Nat} {M : Mem} {r : Row} (hS : ST M b r) (W : WF B r) {N : Nat} (hN : r 863 = N) (h8 : N ≤ 8) : ∃ M', f_X7_letTracksGrowOver b M = some (0, M') ∧ ST M' b (growF r N) ∧ Kp b 28 M M' :=
  q_grow_l W hN h8 N 0 100000 M (by omega) (by omega) hS
/-- the inn of pasture p posts the first v shards' places -/
def pst (r : Row) (p : Int) (v : Nat) : Row := fun j => if 32 + 16 * p ≤ (j : Int) ∧ (j : Int) < 32 + 16 * p + v then r (416 + ((j : Int) - 32 - 16 * p)).toNat + 1 else r j
theorem pst_0 (r : Row) (p : Int) : pst r p 0 = r := by
  funext j
  unfold pst
  rw [if_neg (by omega)]
theorem pst_o {r : Row} {p : Int} {v j : Nat} (hp : 0 ≤ p ∧ p < 8) (hv : v ≤ 16) (hj : j < 32 ∨ 160 ≤ j) : pst r p v j = r j := by
  unfold pst
  rw [if_neg (by omega)]
theorem pst_s {r : Row} {p : Int} {v : Nat} (hp : 0 ≤ p ∧ p < 8) (hv : v < 16) : pst r p (v + 1) = up (pst r p v) (32 + 16 * p + (v : Int)).toNat (r (416 + (v : Int)).toNat + 1) := by
  funext j
  unfold pst
  by_cases e : j = (32 + 16 * p + (v : Int)).toNat
  · subst e
    rw [up_eq, if_pos (by omega)]
    congr 2
    omega
  · rw [up_ne e]
    by_cases e2 : 32 + 16 * p ≤ (j : Int) ∧ (j : Int) < 32 + 16 * p + v
    · rw [if_pos (by omega), if_pos e2]
    · rw [if_neg (by omega), if_neg e2]
theorem pst_wf1 {B : Int} {r : Row} (W : WF1 B r) {p : Int} (hp : 0 ≤ p ∧ p < 8) : ∀ v : Nat, v ≤ 16 → WF1 B (pst r p v) := by
  intro v
  induction v with
  | zero => intro _; rw [pst_0]; exact W
  | succ v ih =>
    intro hv
    have h1 := ih (by omega)
    have h2 := WF1_at W (h := (v : Int)) (by omega) (by omega)
    rw [pst_s hp (by omega)]
    exact WF1_post_w h1 hp.1 hp.2 (by omega) (by omega) (by rw [pst_o hp (by omega) (by omega)]; omega)
theorem pst_wf {B : Int} {r : Row} (W : WF B r) {p : Int} (hp : 0 ≤ p ∧ p < 8) (hi : r ((0 + 4 * p) + 2).toNat = 1) {v : Nat} (hv : v ≤ 16) : WF B (pst r p v) := by
  have hn := WF1_n W.1
  obtain ⟨u1, u2, u3, rk, u4⟩ := W.2.1
  refine ⟨pst_wf1 W.1 hp v hv, ⟨fun x y p0 p1 y0 y1 => ?_, fun x y p0 p1 y0 y1 => ?_, fun x y p0 p1 y0 y1 => ?_, ⟨rk, fun x y p0 p1 y0 y1 => ?_⟩⟩, WF3_trk (WF1_nr W.1).1 (fun j hj _ _ => pst_o hp hv (by omega)) W.2.2⟩
  · rw [pst_o hp hv (by omega), pst_o hp hv (by omega), pst_o hp hv (by omega)]
    exact u1 x y p0 p1 y0 y1
  · rw [pst_o hp hv (by omega)]
    intro hz
    by_cases e : x = p
    · subst e; omega
    · unfold pst
      rw [if_neg (by omega)]
      exact u2 x y p0 p1 y0 y1 hz
  · rw [pst_o hp hv (by omega)] at p0
    rw [pst_o hp hv (by omega), pst_o hp hv (by omega)]
    exact u3 x y p0 p1 y0 y1
  · rw [pst_o hp hv (by omega)]
    exact u4 x y p0 p1 y0 y1
def postP (r : Row) (p : Int) : Row := if r ((0 + 4 * p) + 2).toNat = 1 then pst r p 16 else r
theorem postP_wf {B : Int} {r : Row} (W : WF B r) {p : Int} (hp : 0 ≤ p ∧ p < 8) : WF B (postP r p) := by
  unfold postP
  split
  · exact pst_wf W hp (by assumption) (by decide)
  · exact W
theorem postP_o {r : Row} {p : Int} {j : Nat} (hp : 0 ≤ p ∧ p < 8) (hj : j < 32 ∨ 160 ≤ j) : postP r p j = r j := by
  unfold postP
  split
  · exact pst_o hp (by decide) hj
  · rfl
def postF (r : Row) (n : Nat) : Row := match n with
  | 0 => r
  | k + 1 => postP (postF r k) (k : Int)
theorem postF_wf {B : Int} {r : Row} (W : WF B r) : ∀ n : Nat, n ≤ 8 → WF B (postF r n) := by
  intro n
  induction n with
  | zero => intro _; exact W
  | succ n ih => intro hn; exact postP_wf (ih (by omega)) (by omega)
theorem postF_o {r : Row} {j : Nat} (hj : j < 32 ∨ 160 ≤ j) : ∀ n : Nat, n ≤ 8 → postF r n j = r j := by
  intro n
  induction n with
  | zero => intro _; rfl
  | succ n ih =>
    intro hn
    show postP (postF r n) (n : Int) j = r j
    rw [postP_o (by omega) hj, ih (by omega)]
theorem kap_9 {j p : Nat} {d : Bool} (hj : j < 871) (h : kap j = some (9, p, d)) : j = 32 + p ∧ p < 128 ∧ d = true := by
  have h1 : 32 + p = j := kap_lam hj h
  have h2 : p < 128 := by
    by_cases c : p < 128
    · exact c
    · exfalso
      rw [← h1] at h
      have h3 : ∀ x, x < 871 → (if 160 ≤ x then (kap x).all (fun q => decide (q.1 ≠ 9)) else true) = true := by decide +kernel
      have h4 := h3 (32 + p) (by omega)
      rw [if_pos (by omega), h] at h4
      simp at h4
  have h3 := (kp_post p h2).2
  rw [h1, h] at h3
  simp at h3
  exact ⟨h1.symm, h2, h3⟩
theorem ST_pst {M : Mem} {b : Nat} {r : Row} (hS : ST M b r) {B : Int} (W : WF1 B r) {p : Int} (hp : 0 ≤ p ∧ p < 8) : ST (cpM M (b + 14) 0 (b + 9) (p * 16 + 0) 16) b (pst r p 16) := by
  have ho : ∀ a, a ≠ b + 9 → cpM M (b + 14) 0 (b + 9) (p * 16 + 0) 16 a = M a := fun a ha => by unfold cpM; rw [if_neg ha]
  refine ⟨fun j hj o q d hk => ?_, fun x x0 x1 => ?_⟩
  · by_cases e : o = 9
    · subst e
      obtain ⟨e1, e2, rfl⟩ := kap_9 hj hk
      unfold cpM
      rw [if_pos rfl]
      unfold cpf pst
      by_cases c : (p * 16 + 0).toNat ≤ q ∧ q < (p * 16 + 0).toNat + (16 : Int).toNat
      · rw [if_pos c, if_pos (by omega)]
        have h5 := hS.1.at (p := (j : Int) - 32 - 16 * p) (by omega) (by omega)
        have h6 := WF1_at W (h := (j : Int) - 32 - 16 * p) (by omega) (by omega)
        rw [show (0 : Int).toNat + (q - (p * 16 + 0).toNat) = ((j : Int) - 32 - 16 * p).toNat by omega, h5]
        simp only [enc, Bool.false_eq_true, if_false, if_true]
        rw [if_neg (by omega)]
        omega
      · rw [if_neg c, if_neg (by omega)]
        exact hS.1 j hj _ _ _ hk
    · rw [ho _ (by omega), hS.1 j hj _ _ _ hk]
      unfold pst
      rw [if_neg]
      intro c
      have h7 := kp_post (j - 32) (by omega)
      rw [show 32 + (j - 32) = j by omega, hk] at h7
      simp at h7
      omega
  · rw [ho _ (by omega), hS.2 x x0 x1]
    exact (cntAt_c (fun i hi => pst_o hp (by decide) (by omega))).symm
set_option maxRecDepth 20000 in
theorem q_post_l {B : Int} {b : Nat} {r : Row} (W : WF B r) {N : Nat} (hN : r 863 = N) (h8 : N ≤ 8) : ∀ (d v F : Nat) (M : Mem), v + d = N → d < F → ST M b (postF r v) → ∃ M', f_X2_tellAll_b2 (b + 3) (b + 14) 16 F v M = some (0, M') ∧ ST M' b (postF r N) ∧ Kp b 28 M M' := by
  intro d
  induction d with
  | zero =>
    intro v F M h1 h2 hS
    obtain ⟨F, rfl⟩ : ∃ k, F = k + 1 := ⟨F - 1, by omega⟩
    obtain rfl : v = N := by omega
    have a3 := hS.1.np
    rw [postF_o (by omega) v h8, hN] at a3
    unfold f_X2_tellAll_b2
    rw [if_pos (by omega), if_pos (by omega), if_pos (by omega)]
    exact ⟨M, rfl, hS, Kp_id⟩
  | succ d ih =>
    intro v F M h1 h2 hS
    obtain ⟨F, rfl⟩ : ∃ k, F = k + 1 := ⟨F - 1, by omega⟩
    have a3 := hS.1.np
    rw [postF_o (by omega) v (by omega), hN] at a3
    have W1 := postF_wf W v (by omega)
    have hp : 0 ≤ (v : Int) ∧ (v : Int) < 8 := by omega
    have b1 := WF1_inn W1.1 hp.1 hp.2
    have a1 := hS.1.inn hp.1 hp.2
    simp only [enc, Bool.false_eq_true, if_false] at a1
    unfold f_X2_tellAll_b2 f_X2_tellAll_b35
    simp only [Nat.add_assoc, Nat.reduceAdd, a1, a3, q_cell, zbnd, zlt]
    rw [if_pos (by omega), if_pos (by omega), if_neg (by omega), if_pos hp, if_pos (by omega)]
    by_cases hi : postF r v ((0 + 4 * (v : Int)) + 2).toNat = 1
    · rw [if_neg (by omega), if_pos (by omega)]
      obtain ⟨M', i1, i2, i3⟩ := ih (v + 1) F (cpM M (b + 14) 0 (b + 9) ((v : Int) * 16 + 0) 16) (by omega) (by omega) (by
        show ST _ b (postP (postF r v) v)
        unfold postP
        rw [if_pos hi]
        exact ST_pst hS W1.1 hp)
      push_cast at i1
      refine ⟨M', i1, i2, Kp_tr (fun a ha => ?_) i3⟩
      unfold cpM
      rw [if_neg (by omega)]
    · rw [if_pos (by omega)]
      obtain ⟨M', i1, i2, i3⟩ := ih (v + 1) F M (by omega) (by omega) (by
        show ST _ b (postP (postF r v) v)
        unfold postP
        rw [if_neg hi]
        exact hS)
      push_cast at i1
      exact ⟨M', i1, i2, i3⟩
theorem q_post {B : Int} {b : Nat} {M : Mem} {r : Row} (hS : ST M b r) (W : WF B r) {N : Nat} (hN : r 863 = N) (h8 : N ≤ 8) : ∃ M', f_X7_letInnsPost b M = some (0, M') ∧ ST M' b (postF r N) ∧ Kp b 28 M M' := by
  obtain ⟨M', i1, i2, i3⟩ := q_post_l W hN h8 N 0 100000 M (by omega) (by omega) hS
  refine ⟨M', ?_, i2, i3⟩
  unfold f_X7_letInnsPost f_X2_tellAll
  rw [show ((0 : Nat) : Int) = 0 from rfl] at i1
  rw [i1]
  rfl

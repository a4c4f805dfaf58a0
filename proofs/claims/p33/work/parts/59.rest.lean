theorem ST_row {M : Mem} {b : Nat} {r r' : Row} (h : ST M b r) (hr : ∀ j, j < 871 → r' j = r j) : ST M b r' :=
  ⟨ST0_to h.1 (fun _ _ _ => rfl) hr, fun p p0 p1 => by rw [h.2 p p0 p1]; exact (cntAt_c (fun i hi => hr _ (by omega))).symm⟩
theorem WF_row {B : Int} {r r' : Row} (W : WF B r) (hr : ∀ j, j < 871 → r' j = r j) : WF B r' := by
  have hn := WF1_n W.1
  have hnr := WF1_nr W.1
  refine ⟨fun j hj => by rw [hr 863 (by decide), hr j hj]; exact W.1 j hj, WF2_c (by omega) (fun j hj => hr j (by omega)) W.2.1, ?_⟩
  obtain ⟨t1, t2, t3, t4⟩ := W.2.2
  refine ⟨?_, ?_, ?_, fun x x0 x1 => ?_⟩
  · rw [hr _ (by omega), t1]; exact sumN_congr (fun x hx => (hr _ (by omega)).symm)
  · rw [hr _ (by omega), t2]; exact sumN_congr (fun x hx => (hr _ (by omega)).symm)
  · rw [hr _ (by omega), t3]; exact sumN_congr (fun x hx => (hr _ (by omega)).symm)
  · rw [hr _ (by omega)] at x0
    rw [hr _ (by omega), hr _ (by omega)]; exact t4 x x0 x1
theorem WF_B {B B' : Int} {r : Row} (W : WF B r) (h : B ≤ B') : WF B' r := ⟨WF1_upB W.1 h, W.2⟩
theorem tmod4 (x y : Nat) : ((x : Int) + (y : Int)).tmod 4 = (((x + y) % 4 : Nat) : Int) := by
  rw [Int.tmod_eq_emod_of_nonneg (by omega)]
  omega

theorem nn_of {B : Int} {r : Row} (W : WF1 B r) : ∃ N : Nat, r 863 = N ∧ N ≤ 8 := ⟨(r 863).toNat, by have := WF1_n W; omega, by have := WF1_n W; omega⟩

theorem WF3_c {r r' : Row} (hn : 0 ≤ r 865) (h : ∀ j, 448 ≤ j → (j < 464 ∨ 726 ≤ j) → (j < 852 ∨ 862 ≤ j) → j ≠ 864 → r' j = r j) (W : WF3 r) : WF3 r' := by
  obtain ⟨t1, t2, t3, t4⟩ := W
  refine ⟨?_, ?_, ?_, fun i i0 i1 => ?_⟩
  · rw [h 866 (by omega) (by omega) (by omega) (by omega), t1]; exact sumN_congr (fun i hi => (h _ (by omega) (by omega) (by omega) (by omega)).symm)
  · rw [h 869 (by omega) (by omega) (by omega) (by omega), t2]; exact sumN_congr (fun i hi => (h _ (by omega) (by omega) (by omega) (by omega)).symm)
  · rw [h 870 (by omega) (by omega) (by omega) (by omega), t3]; exact sumN_congr (fun i hi => (h _ (by omega) (by omega) (by omega) (by omega)).symm)
  · rw [h 865 (by omega) (by omega) (by omega) (by omega)] at i0
    rw [h _ (by omega) (by omega) (by omega) (by omega), h _ (by omega) (by omega) (by omega) (by omega)]
    exact t4 i i0 i1

theorem zR_ok : ∀ j, j < 6 → 0 ≤ zR0 j ∧ zR1 j ≤ 100 := by decide
/-- the bounds of a setting, and what it may become -/
theorem c_setrow {B : Int} {r : Row} (W : WF B r) {v1 v2 : Int} (h1 : 0 ≤ v1 ∧ v1 < 6) (h2 : zR0 v1.toNat ≤ v2 ∧ v2 ≤ zR1 v1.toNat) : WF B (up r (856 + v1).toNat v2) := by
  refine ⟨WF1_up W.1 (by omega) ?_, WF2_c (by have := WF1_n W.1; omega) (fun j hj => up_ne (by omega)) W.2.1, WF3_c (WF1_nr W.1).1 (fun j j1 j2 j3 j4 => up_ne (by omega)) W.2.2⟩
  have hc : v1 = 0 ∨ v1 = 1 ∨ v1 = 2 ∨ v1 = 3 ∨ v1 = 4 ∨ v1 = 5 := by omega
  rcases hc with rfl | rfl | rfl | rfl | rfl | rfl
  · exact (show 1 ≤ v2 ∧ v2 ≤ 30 from h2)
  · exact (show 1 ≤ v2 ∧ v2 ≤ 60 from h2)
  · exact (show 1 ≤ v2 ∧ v2 ≤ 90 from h2)
  · exact (show 0 ≤ v2 ∧ v2 ≤ 16 from h2)
  · exact (show 1 ≤ v2 ∧ v2 ≤ 30 from h2)
  · exact (show 0 ≤ v2 ∧ v2 ≤ 100 from h2)

theorem zR_in : ∀ j, j < 6 → inR (zR0 j) ∧ inR (zR1 j) := by decide
theorem WF2_d {r r' : Row} (hn : 0 ≤ r 863) (h : ∀ j, (j < 416 ∧ (32 ≤ j ∨ j % 4 = 2)) ∨ j = 862 ∨ j = 863 → r' j = r j) (W : WF2 r) : WF2 r' := by
  obtain ⟨u1, u2, u3, rk, u4⟩ := W
  refine ⟨fun p y p0 p1 y0 y1 => ?_, fun p y p0 p1 y0 y1 => ?_, fun p y p0 p1 y0 y1 => ?_, ⟨rk, fun p y p0 p1 y0 y1 => ?_⟩⟩
  · rw [h _ (by omega), h _ (by omega), h _ (by omega)]; exact u1 p y p0 p1 y0 y1
  · rw [h _ (by omega), h _ (by omega)]; exact u2 p y p0 p1 y0 y1
  · rw [h _ (by omega)] at p0; rw [h _ (by omega), h _ (by omega)]; exact u3 p y p0 p1 y0 y1
  · rw [h _ (by omega)]; exact u4 p y p0 p1 y0 y1

/-- n places from a on hold v -/
def fz (r : Row) (a : Nat) (v : Int) (n : Nat) : Row := fun j => if a ≤ j ∧ j < a + n then v else r j
theorem fz_0 (r : Row) (a : Nat) (v : Int) : fz r a v 0 = r := by
  funext j
  unfold fz
  rw [if_neg (by omega)]
theorem fz_s (r : Row) (a : Nat) (v : Int) (n : Nat) : fz r a v (n + 1) = up (fz r a v n) (a + n) v := by
  funext j
  by_cases e : j = a + n
  · rw [e, up_eq]
    unfold fz
    rw [if_pos (by omega)]
  · rw [up_ne e]
    unfold fz
    by_cases q : a ≤ j ∧ j < a + n
    · rw [if_pos q, if_pos (by omega)]
    · rw [if_neg q, if_neg (by omega)]
theorem fz_o {r : Row} {a : Nat} {v : Int} {n j : Nat} (h : j < a ∨ a + n ≤ j) : fz r a v n j = r j := by
  unfold fz
  rw [if_neg (by omega)]
theorem fz_i {r : Row} {a : Nat} {v : Int} {n j : Nat} (h : a ≤ j ∧ j < a + n) : fz r a v n j = v := by
  unfold fz
  rw [if_pos h]
theorem fz_post {B : Int} {r : Row} (W : WF1 B r) {p : Int} (hp : 0 ≤ p ∧ p < 8) : ∀ n : Nat, n ≤ 16 → WF1 B (fz r (32 + 16 * p).toNat 0 n) := by
  intro n
  induction n with
  | zero => intro _; rw [fz_0]; exact W
  | succ n ih =>
    intro h
    have h1 := ih (by omega)
    have h2 := WF1_n h1
    have h3 : WF1 B (up (fz r (32 + 16 * p).toNat 0 n) (32 + 16 * p + (n : Int)).toNat 0) := WF1_post_w h1 hp.1 hp.2 (by omega) (by omega) (by omega)
    rw [fz_s, show (32 + 16 * p).toNat + n = (32 + 16 * p + (n : Int)).toNat by omega]
    exact h3
theorem inn_wf {B : Int} {r : Row} (W : WF B r) {p v : Int} (hp : 0 ≤ p ∧ p < r 863) (hv : v = 0 ∨ v = 1) : WF B (fz (up r ((0 + 4 * p) + 2).toNat v) (32 + 16 * p).toNat 0 16) := by
  have hn := WF1_n W.1
  have w1 : WF1 B (up r ((0 + 4 * p) + 2).toNat v) := WF1_inn_w W.1 hp.1 (by omega) (by omega)
  obtain ⟨u1, u2, u3, rk, u4⟩ := W.2.1
  have hno : ∀ j, j ≠ ((0 + 4 * p) + 2).toNat → (j < (32 + 16 * p).toNat ∨ (32 + 16 * p).toNat + 16 ≤ j) → fz (up r ((0 + 4 * p) + 2).toNat v) (32 + 16 * p).toNat 0 16 j = r j := fun j h1 h2 => by rw [fz_o h2, up_ne h1]
  refine ⟨fz_post w1 ⟨hp.1, by omega⟩ 16 (by omega), ⟨fun q y q0 q1 y0 y1 => ?_, fun q y q0 q1 y0 y1 => ?_, fun q y q0 q1 y0 y1 => ?_, ⟨rk, fun q y q0 q1 y0 y1 => ?_⟩⟩, WF3_trk (WF1_nr W.1).1 (fun j h1 _ _ => hno j (by omega) (by omega)) W.2.2⟩
  · rw [hno _ (by omega) (by omega), hno _ (by omega) (by omega), hno _ (by omega) (by omega)]
    exact u1 q y q0 q1 y0 y1
  · by_cases e : q = p
    · intro _
      rw [e]
      exact fz_i (by omega)
    · rw [hno _ (by omega) (by omega), hno _ (by omega) (by omega)]
      exact u2 q y q0 q1 y0 y1
  · rw [hno 863 (by omega) (by omega)] at q0
    rw [hno _ (by omega) (by omega), hno _ (by omega) (by omega)]
    exact u3 q y q0 q1 y0 y1
  · rw [hno _ (by omega) (by omega)]
    exact u4 q y q0 q1 y0 y1
set_option maxRecDepth 20000 in
theorem q_fp_l {k b : Nat} {p : Int} {r : Row} (hk : k = b + 3) (hp : 0 ≤ p ∧ p < 8) : ∀ (d v F : Nat) (M : Mem), v + d = 16 → d < F → ST0 M b (fz r (32 + 16 * p).toNat 0 v) → ∃ M', f_X2_forgetPosted_b2 k F p v M = some (0, M') ∧ ST0 M' b (fz r (32 + 16 * p).toNat 0 16) ∧ ∀ x, x ≠ b + 9 → M' x = M x := by
  intro d
  induction d with
  | zero =>
    intro v F M h1 h2 hS
    obtain ⟨F, rfl⟩ : ∃ k, F = k + 1 := ⟨F - 1, by omega⟩
    obtain rfl : v = 16 := by omega
    refine ⟨M, ?_, hS, fun _ _ => rfl⟩
    unfold f_X2_forgetPosted_b2
    rw [if_pos (by omega), if_pos (by omega)]
  | succ d ih =>
    intro v F M h1 h2 hS
    obtain ⟨F, rfl⟩ : ∃ k, F = k + 1 := ⟨F - 1, by omega⟩
    have s1 : ST0 (wr M (b + 9) (p * 16 + (v : Int)).toNat (-5)) b (up (fz r (32 + 16 * p).toNat 0 v) (32 + (p * 16 + (v : Int))).toNat 0) := ST0.post_w hS (by omega) (by omega) rfl
    rw [show (32 + (p * 16 + (v : Int))).toNat = (32 + 16 * p).toNat + v by omega, ← fz_s] at s1
    obtain ⟨M', i1, i2, i3⟩ := ih (v + 1) F _ (by omega) (by omega) s1
    refine ⟨M', ?_, i2, fun x hx => by rw [i3 x hx, wr_ne hx]⟩
    unfold f_X2_forgetPosted_b2
    rw [if_pos (by omega), if_neg (by omega), q_cell, zbS, if_pos (by omega), zltS, hk, show b + 3 + 6 = b + 9 from rfl, ← hk]
    exact i1
theorem q_fp {k b : Nat} {p : Int} {r : Row} {M : Mem} (hk : k = b + 3) (hp : 0 ≤ p ∧ p < 8) (hS : ST0 M b r) : ∃ M', f_X2_forgetPosted k p M = some (0, M') ∧ ST0 M' b (fz r (32 + 16 * p).toNat 0 16) ∧ ∀ x, x ≠ b + 9 → M' x = M x :=
  q_fp_l hk hp 16 0 100000 M rfl (by decide) (by rw [fz_0]; exact hS)

theorem WF3_e {r r' : Row} (h : ∀ j, (448 ≤ j ∧ j < 464) ∨ (726 ≤ j ∧ j < 756) ∨ j = 865 ∨ j = 866 ∨ j = 869 ∨ j = 870 → r' j = r j) (hn : 0 ≤ r 865) (W : WF3 r) : WF3 r' := by
  obtain ⟨t1, t2, t3, t4⟩ := W
  refine ⟨?_, ?_, ?_, fun i i0 i1 => ?_⟩
  · rw [h 866 (by omega), t1]; exact sumN_congr (fun i hi => (h _ (by omega)).symm)
  · rw [h 869 (by omega), t2]; exact sumN_congr (fun i hi => (h _ (by omega)).symm)
  · rw [h 870 (by omega), t3]; exact sumN_congr (fun i hi => (h _ (by omega)).symm)
  · rw [h 865 (by omega)] at i0
    rw [h _ (by omega), h _ (by omega)]
    exact t4 i i0 i1
theorem WF1_np_w {B : Int} {r : Row} (W : WF1 B r) (h : r 863 < 8) : WF1 B (up r 863 (r 863 + 1)) := by
  have hn := WF1_n W
  intro j hj
  rw [up_eq]
  by_cases e : j = 863
  · rw [e, up_eq]
    exact (show 1 ≤ r 863 + 1 ∧ r 863 + 1 ≤ 8 by omega)
  · rw [up_ne e]
    exact okV_mono (by omega) (Int.le_refl _) (W j hj)
/-- one pasture more -/
def addF (r : Row) (v1 v2 v3 : Int) : Row := up (up (up (up r (0 + 4 * r 863).toNat v1) ((0 + 4 * r 863) + 1).toNat v2) ((0 + 4 * r 863) + 2).toNat v3) 863 (r 863 + 1)
theorem addF_o {r : Row} (hn : 1 ≤ r 863 ∧ r 863 < 8) {v1 v2 v3 : Int} {j : Nat} (h1 : j ≠ (0 + 4 * r 863).toNat) (h2 : j ≠ ((0 + 4 * r 863) + 1).toNat) (h3 : j ≠ ((0 + 4 * r 863) + 2).toNat) (h4 : j ≠ 863) : addF r v1 v2 v3 j = r j := by
  unfold addF
  rw [up_ne h4, up_ne h3, up_ne h2, up_ne h1]
theorem addF_wf {B : Int} {r : Row} (W : WF B r) (h8 : r 863 < 8) {v1 v2 v3 : Int} (h1 : 0 ≤ v1 ∧ v1 ≤ 90) (h2 : 0 ≤ v2 ∧ v2 ≤ 16) (h3 : 0 ≤ v3 ∧ v3 ≤ 1) : WF B (addF r v1 v2 v3) := by
  have hn := WF1_n W.1
  have hb : 0 ≤ r 863 ∧ r 863 < 8 := by omega
  have w1 := WF1_lat_w W.1 hb.1 hb.2 h1
  have w2 := WF1_room_w w1 hb.1 hb.2 h2
  have w3 := WF1_inn_w w2 hb.1 hb.2 h3
  have e0 : (up (up (up r (0 + 4 * r 863).toNat v1) ((0 + 4 * r 863) + 1).toNat v2) ((0 + 4 * r 863) + 2).toNat v3) 863 = r 863 := by rw [up_ne (by omega), up_ne (by omega), up_ne (by omega)]
  have w4 := WF1_np_w w3 (by rw [e0]; exact h8)
  rw [e0] at w4
  have e1 : addF r v1 v2 v3 863 = r 863 + 1 := up_eq _ _ _
  have hno : ∀ j, 32 ≤ j → j ≠ 863 → addF r v1 v2 v3 j = r j := fun j q1 q2 => addF_o (by omega) (by omega) (by omega) (by omega) q2
  obtain ⟨u1, u2, u3, rk, u4⟩ := W.2.1
  refine ⟨w4, ⟨fun q y q0 q1 y0 y1 => ?_, fun q y q0 q1 y0 y1 => ?_, fun q y q0 q1 y0 y1 => ?_, ⟨rk, fun q y q0 q1 y0 y1 => ?_⟩⟩, WF3_e (fun j h => hno j (by omega) (by omega)) (WF1_nr W.1).1 W.2.2⟩
  · rw [hno _ (by omega) (by omega), hno _ (by omega) (by omega), hno _ (by omega) (by omega)]
    exact u1 q y q0 q1 y0 y1
  · rw [hno (32 + 16 * q + y).toNat (by omega) (by omega)]
    by_cases e : q = r 863
    · intro _
      exact u2 q y q0 q1 y0 y1 (u3 q y (by omega) q1 y0 y1).1
    · rw [addF_o (by omega) (by omega) (by omega) (by omega) (by omega)]
      exact u2 q y q0 q1 y0 y1
  · rw [e1] at q0
    rw [hno (160 + 16 * q + y).toNat (by omega) (by omega), addF_o (by omega) (by omega) (by omega) (by omega) (by omega)]
    exact u3 q y (by omega) q1 y0 y1
  · rw [hno _ (by omega) (by omega)]
    exact u4 q y q0 q1 y0 y1

theorem fz_mem {B : Int} {r : Row} (W : WF1 B r) {x v : Int} (hx : 0 ≤ x ∧ x < 6) (hv : 0 ≤ v ∧ v < r 863) : ∀ n : Nat, n ≤ 16 → WF1 B (fz r (756 + 16 * x).toNat v n) := by
  intro n
  induction n with
  | zero => intro _; rw [fz_0]; exact W
  | succ n ih =>
    intro h
    have h1 := ih (by omega)
    have h2 : fz r (756 + 16 * x).toNat v n 863 = r 863 := fz_o (by omega)
    have h3 : WF1 B (up (fz r (756 + 16 * x).toNat v n) (756 + 16 * x + (n : Int)).toNat v) := WF1_mem_w h1 hx.1 hx.2 (by omega) (by omega) (by rw [h2]; exact hv)
    rw [fz_s, show (756 + 16 * x).toNat + n = (756 + 16 * x + (n : Int)).toNat by omega]
    exact h3
/-- one reader more -/
def joiF (r : Row) (v : Int) : Row := up (fz (up r (726 + 5 * r 865).toNat v) (756 + 16 * r 865).toNat v 16) 865 (r 865 + 1)
theorem joiF_o {r : Row} (hn : 0 ≤ r 865 ∧ r 865 < 6) {v : Int} {j : Nat} (h1 : j ≠ (726 + 5 * r 865).toNat) (h2 : j < 756 ∨ 852 ≤ j) (h3 : j ≠ 865) : joiF r v j = r j := by
  unfold joiF
  rw [up_ne h3, fz_o (by omega), up_ne h1]
theorem joiF_wf {B : Int} {r : Row} (W : WF B r) (h6 : r 865 < 6) {v : Int} (hv : 0 ≤ v ∧ v < r 863) : WF B (joiF r v) := by
  have hr := WF1_nr W.1
  have hn := WF1_n W.1
  have w1 := WF1_home_w W.1 hr.1 h6 hv
  have w2 := fz_mem w1 (x := r 865) (v := v) ⟨hr.1, h6⟩ (by rw [up_ne (by omega)]; exact hv) 16 (by omega)
  have w3 : WF1 B (joiF r v) := WF1_up w2 (by decide) (show 0 ≤ r 865 + 1 ∧ r 865 + 1 ≤ 6 by omega)
  have e1 : joiF r v 865 = r 865 + 1 := up_eq _ _ _
  refine ⟨w3, WF2_c (by omega) (fun j hj => joiF_o ⟨hr.1, h6⟩ (by omega) (by omega) (by omega)) W.2.1, ?_⟩
  obtain ⟨t1, t2, t3, t4⟩ := W.2.2
  refine ⟨?_, ?_, ?_, fun i i0 i1 => ?_⟩
  · rw [joiF_o ⟨hr.1, h6⟩ (by omega) (by omega) (by omega), t1]; exact sumN_congr (fun i hi => (joiF_o ⟨hr.1, h6⟩ (by omega) (by omega) (by omega)).symm)
  · rw [joiF_o ⟨hr.1, h6⟩ (by omega) (by omega) (by omega), t2]; exact sumN_congr (fun i hi => (joiF_o ⟨hr.1, h6⟩ (by omega) (by omega) (by omega)).symm)
  · rw [joiF_o ⟨hr.1, h6⟩ (by omega) (by omega) (by omega), t3]; exact sumN_congr (fun i hi => (joiF_o ⟨hr.1, h6⟩ (by omega) (by omega) (by omega)).symm)
  · rw [e1] at i0
    rw [joiF_o ⟨hr.1, h6⟩ (by omega) (by omega) (by omega), joiF_o ⟨hr.1, h6⟩ (by omega) (by omega) (by omega)]
    exact t4 i (by omega) i1
set_option maxRecDepth 20000 in
theorem q_join_l {k b : Nat} {x p : Int} {r : Row} (hk : k = b + 21) (hx : 0 ≤ x ∧ x < 6) : ∀ (d v F : Nat) (M : Mem), v + d = 16 → d < F → ST0 M b (fz r (756 + 16 * x).toNat p v) → ∃ M', f_X4_join_b14 k F p x v M = some (x, wr M' k 0 (M' k 0 + 1)) ∧ ST0 M' b (fz r (756 + 16 * x).toNat p 16) ∧ ∀ y, y ≠ b + 27 → M' y = M y := by
  intro d
  induction d with
  | zero =>
    intro v F M h1 h2 hS
    obtain ⟨F, rfl⟩ : ∃ k, F = k + 1 := ⟨F - 1, by omega⟩
    obtain rfl : v = 16 := by omega
    refine ⟨M, ?_, hS, fun _ _ => rfl⟩
    unfold f_X4_join_b14
    rw [if_pos (by omega), if_pos (by omega), zltS]
  | succ d ih =>
    intro v F M h1 h2 hS
    obtain ⟨F, rfl⟩ : ∃ k, F = k + 1 := ⟨F - 1, by omega⟩
    have s1 : ST0 (wr M (b + 27) (x * 16 + (v : Int)).toNat p) b (up (fz r (756 + 16 * x).toNat p v) (756 + (x * 16 + (v : Int))).toNat p) := ST0.mem_w hS (by omega) (by omega) rfl
    rw [show (756 + (x * 16 + (v : Int))).toNat = (756 + 16 * x).toNat + v by omega, ← fz_s] at s1
    obtain ⟨M', i1, i2, i3⟩ := ih (v + 1) F _ (by omega) (by omega) s1
    refine ⟨M', ?_, i2, fun y hy => by rw [i3 y hy, wr_ne hy]⟩
    unfold f_X4_join_b14
    rw [if_pos (by omega), if_neg (by omega), q_cell, zbS, if_pos (by omega), zltS, show k + 6 = b + 27 by omega]
    exact i1
theorem q_join {k b : Nat} {p : Int} {r : Row} {M : Mem} (hk : k = b + 21) (hS : ST0 M b r) (hx : 0 ≤ r 865 ∧ r 865 < 6) : ∃ M', f_X4_join k p M = some (r 865, M') ∧ ST0 M' b (joiF r p) ∧ ∀ y, y ≠ b + 21 → y ≠ b + 22 → y ≠ b + 27 → M' y = M y := by
  have a0 : M (b + 21) 0 = r 865 := hS.nr
  have s0 : ST0 (wr M (b + 22) (r 865).toNat p) b (up r (726 + 5 * r 865).toNat p) := ST0.home_w hS hx.1 hx.2 rfl
  obtain ⟨M2, i1, i2, i3⟩ := q_join_l (k := b + 21) (p := p) (x := r 865) rfl hx 16 0 100000 _ rfl (by decide) (by rw [fz_0]; exact s0)
  have a2 : M2 (b + 21) 0 = r 865 := by rw [i3 (b + 21) (by omega), wr_ne (by omega)]; exact a0
  rw [a2] at i1
  refine ⟨wr M2 (b + 21) 0 (r 865 + 1), ?_, ST0.nr_w i2 _, fun y h1 h2 h3 => by rw [wr_ne h1, i3 y h3, wr_ne h2]⟩
  rw [hk]
  unfold f_X4_join
  rw [zltS, a0, if_pos hx, zltS, show b + 21 + 1 = b + 22 from rfl]
  exact i1


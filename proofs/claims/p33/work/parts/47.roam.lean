theorem rmv_wf {B : Int} {r : Row} (W : WF B r) {p d : Int} (hp : 0 ≤ p ∧ p < 8) : WF B (rmv r p d 16) :=
  ⟨rmv_wf1 W.1 hp 16 (by decide), rmv_wf2 (by have := WF1_n W.1; omega) W.2.1 hp (by decide), WF3_trk (WF1_nr W.1).1 (fun j hj _ _ => rmv_o hp (by decide) (by omega)) W.2.2⟩
theorem wf_cnt {B : Int} {r : Row} (W : WF B r) {j : Nat} {v : Int} (hj : j = 867 ∨ j = 868) : WF B (up r j v) := by
  refine ⟨?_, WF2_c (by have := WF1_n W.1; omega) (fun i hi => up_ne (by omega)) W.2.1, WF3_trk (WF1_nr W.1).1 (fun i h1 h2 h3 => up_ne (by omega)) W.2.2⟩
  rcases hj with rfl | rfl
  · exact WF1_867_w W.1
  · exact WF1_868_w W.1
theorem sumN_nn {n : Nat} {g : Nat → Int} (h : ∀ k, k < n → 0 ≤ g k) : 0 ≤ sumN n g := by
  induction n with
  | zero => exact Int.le_refl _
  | succ n ih =>
    rw [sumN_succ]
    have h1 := ih (fun k hk => h k (by omega))
    have h2 := h n (by omega)
    omega
theorem sumN_z {n : Nat} {g : Nat → Int} (h : ∀ k, k < n → 0 ≤ g k) (h0 : sumN n g ≤ 0) : ∀ k, k < n → g k = 0 := by
  induction n with
  | zero => intro k hk; omega
  | succ n ih =>
    rw [sumN_succ] at h0
    have h1 := sumN_nn (n := n) (g := g) (fun k hk => h k (by omega))
    have h2 := h n (by omega)
    intro k hk
    by_cases e : k = n
    · subst e; omega
    · exact ih (fun k hk => h k (by omega)) (by omega) k (by omega)
theorem cnt_day {r : Row} (W : WF2 r) {p : Int} (hp : 0 ≤ p ∧ p < 8) : cntR r p (r 862) 16 = trkIn r p 16 := by
  refine sumN_congr (fun h hh => ?_)
  by_cases c : 0 < r (160 + 16 * p + (h : Int)).toNat
  · rw [if_pos c, if_pos ⟨c, W.1 p h hp.1 hp.2 (by omega) (by omega) (by omega)⟩]
  · rw [if_neg c, if_neg (fun q => c q.1)]
theorem trkIn_b {r : Row} {p : Int} : ∀ n : Nat, 0 ≤ trkIn r p n ∧ trkIn r p n ≤ n := by
  intro n
  induction n with
  | zero => exact ⟨Int.le_refl _, Int.le_refl _⟩
  | succ n ih =>
    rw [trkIn_s]
    split <;> omega
theorem left_in {B : Int} {r : Row} (W : WF B r) {p : Int} (hp : 0 ≤ p ∧ p < 8) : ∀ y : Int, 0 ≤ y → y < 16 → 0 < r (160 + 16 * p + y).toNat → inR (r (288 + 16 * p + y).toNat) := by
  intro y y0 y1 h1
  have h2 := WF1_left W.1 hp.1 hp.2 y0 y1
  have h3 := W.2.1.1 p y hp.1 hp.2 y0 y1 (by omega)
  have h4 := WF1_day W.1
  omega
/-- a wolf cuts in pasture p -/
def cutF (r : Row) (p : Int) : Row := if r ((0 + 4 * p) + 2).toNat = 1 then r else up (rmv r p (r 862) 16) 867 (r 867 + trkIn r p 16)
def cutN (r : Row) (p : Int) : Int := if r ((0 + 4 * p) + 2).toNat = 1 then 0 else trkIn r p 16
theorem cutF_wf {B : Int} {r : Row} (W : WF B r) {p : Int} (hp : 0 ≤ p ∧ p < 8) : WF B (cutF r p) := by
  unfold cutF
  split
  · exact W
  · exact wf_cnt (rmv_wf W hp) (Or.inl rfl)
theorem cutF_o {r : Row} {p : Int} {j : Nat} (hp : 0 ≤ p ∧ p < 8) (hj : j < 160 ∨ 288 ≤ j) (h2 : j ≠ 867) : cutF r p j = r j := by
  unfold cutF
  split
  · rfl
  · rw [up_ne h2, rmv_o hp (by decide) hj]
theorem q_letCut {B : Int} {b : Nat} {M : Mem} {r : Row} (hS : ST M b r) (W : WF B r) {w : Int} (hw : 0 ≤ w ∧ w < 3) : ∃ M', f_X7_letWolfCut b w M = some (cutN r (r (720 + 2 * w).toNat), M') ∧ ST M' b (cutF r (r (720 + 2 * w).toNat)) ∧ Kp b 28 M M' := by
  have h1 := WF1_wat W.1 hw.1 hw.2
  have h2 := WF1_n W.1
  have hp : 0 ≤ r (720 + 2 * w).toNat ∧ r (720 + 2 * w).toNat < 8 := by omega
  have h3 := WF1_inn W.1 hp.1 hp.2
  have a1 := hS.1.wat hw.1 hw.2
  have a2 := hS.1.inn hp.1 hp.2
  have a3 : M b 0 = r 862 := hS.1.day
  have h4 := WF1_day W.1
  simp only [enc, Bool.false_eq_true, if_false] at a1 a2
  unfold f_X7_letWolfCut f_X7_letWolfCut_b38 cutN cutF
  simp only [zlt, a1, a2, a3]
  rw [if_pos hw, if_pos hp, if_pos (by omega)]
  have six : ∀ (N : Mem) (g : Row) (u t : Int), ST N b g → g 867 = u → ST (wr N b 1 (N b 1 + t)) b (up g 867 (u + t)) := by
    intro N g u t hN hu
    have e1 : N b 1 = g 867 := hN.1.cut
    rw [e1, hu]
    refine ⟨ST0.cut_w hN.1 _, fun p p0 p1 => ?_⟩
    rw [wr_ne (by omega), hN.2 p p0 p1]
    exact (cntAt_c (fun i hi => up_ne (by omega))).symm
  by_cases c : r ((0 + 4 * r (720 + 2 * w).toNat) + 2).toNat = 1
  · rw [if_neg (by omega), if_pos c, if_pos c]
    refine ⟨_, rfl, ?_, Kp_wr Kp_id (by omega)⟩
    have := six M r (r 867) 0 hS rfl
    rw [up_self (by omega)] at this
    exact this
  · rw [if_pos (by omega), if_neg c, if_neg c]
    obtain ⟨M', e1, e2, e3⟩ := q_rem (k := b + 10) rfl W.1 hp (show inR (r 862) by omega) (left_in W hp) hS
    rw [e1, cnt_day W.2.1 hp]
    exact ⟨_, rfl, six M' _ (r 867) _ e2 (rmv_o hp (by decide) (by omega)), Kp_wr e3 (by omega)⟩
/-- wolf w goes and cuts -/
def wgo (r : Row) (w : Int) : Row := up r (720 + 2 * w).toNat ((r (720 + 2 * w).toNat + r ((720 + 2 * w) + 1).toNat).tmod (r 863))
def wolfF (r : Row) (w : Int) : Row := cutF (wgo r w) ((wgo r w) (720 + 2 * w).toNat)
theorem wgo_b {B : Int} {r : Row} (W : WF1 B r) {w : Int} (hw : 0 ≤ w ∧ w < 3) : 0 ≤ (r (720 + 2 * w).toNat + r ((720 + 2 * w) + 1).toNat).tmod (r 863) ∧ (r (720 + 2 * w).toNat + r ((720 + 2 * w) + 1).toNat).tmod (r 863) < r 863 := by
  have h1 := WF1_wat W hw.1 hw.2
  have h2 := WF1_wst W hw.1 hw.2
  have h3 := WF1_n W
  rw [Int.tmod_eq_emod_of_nonneg (by omega)]
  exact ⟨Int.emod_nonneg _ (by omega), Int.emod_lt_of_pos _ (by omega)⟩
theorem wgo_wf {B : Int} {r : Row} (W : WF B r) {w : Int} (hw : 0 ≤ w ∧ w < 3) : WF B (wgo r w) :=
  ⟨WF1_wat_w W.1 hw.1 hw.2 (wgo_b W.1 hw), WF2_c (by have := WF1_n W.1; omega) (fun i hi => up_ne (by omega)) W.2.1, by
    obtain ⟨t1, t2, t3, t4⟩ := W.2.2
    have hn := WF1_nr W.1
    unfold wgo
    refine ⟨?_, ?_, ?_, fun i i0 i1 => ?_⟩
    · rw [up_ne (by omega), t1]; exact sumN_congr (fun i hi => (up_ne (by omega)).symm)
    · rw [up_ne (by omega), t2]; exact sumN_congr (fun i hi => (up_ne (by omega)).symm)
    · rw [up_ne (by omega), t3]; exact sumN_congr (fun i hi => (up_ne (by omega)).symm)
    · rw [up_ne (by omega)] at i0
      rw [up_ne (by omega), up_ne (by omega)]
      exact t4 i i0 i1⟩
theorem wolfF_at {B : Int} {r : Row} (W : WF B r) {w : Int} (hw : 0 ≤ w ∧ w < 3) : 0 ≤ (wgo r w) (720 + 2 * w).toNat ∧ (wgo r w) (720 + 2 * w).toNat < 8 := by
  have h1 := WF1_wat (wgo_wf W hw).1 hw.1 hw.2
  have h2 := WF1_n (wgo_wf W hw).1
  omega
theorem wolfF_wf {B : Int} {r : Row} (W : WF B r) {w : Int} (hw : 0 ≤ w ∧ w < 3) : WF B (wolfF r w) := cutF_wf (wgo_wf W hw) (wolfF_at W hw)
theorem wolfF_o {B : Int} {r : Row} (W : WF B r) {w : Int} (hw : 0 ≤ w ∧ w < 3) {j : Nat} (hj : j < 160 ∨ (288 ≤ j ∧ j < 720) ∨ 726 ≤ j) (h2 : j ≠ 867) : wolfF r w j = r j := by
  unfold wolfF
  rw [cutF_o (wolfF_at W hw) (by omega) h2]
  unfold wgo
  rw [up_ne (by omega)]
def roamF (r : Row) (n : Nat) : Row := match n with
  | 0 => r
  | k + 1 => wolfF (roamF r k) (k : Int)
theorem roamF_wf {B : Int} {r : Row} (W : WF B r) : ∀ n : Nat, n ≤ 3 → WF B (roamF r n) := by
  intro n
  induction n with
  | zero => intro _; exact W
  | succ n ih => intro hn; exact wolfF_wf (ih (by omega)) (by omega)
theorem roamF_o {B : Int} {r : Row} (W : WF B r) {j : Nat} (hj : j < 160 ∨ (288 ≤ j ∧ j < 720) ∨ 726 ≤ j) (h2 : j ≠ 867) : ∀ n : Nat, n ≤ 3 → roamF r n j = r j := by
  intro n
  induction n with
  | zero => intro _; rfl
  | succ n ih =>
    intro hn
    show wolfF (roamF r n) (n : Int) j = r j
    rw [wolfF_o (roamF_wf W n (by omega)) (by omega) hj h2, ih (by omega)]
theorem q_adv {B : Int} {b : Nat} {M : Mem} {r : Row} (hS : ST M b r) (W : WF B r) {w : Int} (hw : 0 ≤ w ∧ w < 3) : ∃ M', f_X3_advance (b + 18) w (M (b + 3) 0) M = some (0, M') ∧ ST M' b (wgo r w) ∧ Kp b 28 M M' := by
  have b1 := WF1_wat W.1 hw.1 hw.2
  have b2 := WF1_wst W.1 hw.1 hw.2
  have b3 := WF1_n W.1
  have a1 := hS.1.wat hw.1 hw.2
  have a2 := hS.1.wstr hw.1 hw.2
  have a3 := hS.1.np
  simp only [enc, Bool.false_eq_true, if_false] at a1 a2
  unfold f_X3_advance f_X3_advance_b25
  simp only [zlt, Nat.add_assoc, Nat.reduceAdd, a1, a2, a3]
  rw [if_pos (by omega), if_neg (by omega), if_pos hw, if_pos (by omega), if_pos (by omega)]
  refine ⟨_, rfl, ⟨ST0.wat_w hS.1 hw.1 hw.2 rfl, fun p p0 p1 => ?_⟩, Kp_wr Kp_id (by omega)⟩
  rw [wr_ne (by omega), hS.2 p p0 p1]
  exact (cntAt_c (fun i hi => up_ne (by omega))).symm
set_option maxRecDepth 20000 in
theorem q_roam_l {B : Int} {b : Nat} {r : Row} (W : WF B r) {N : Nat} (hN : r 864 = N) (h8 : N ≤ 3) : ∀ (d v F : Nat) (M : Mem), v + d = N → d < F → ST M b (roamF r v) → ∃ M', f_X7_letWolvesGo_b2 b F v M = some (0, M') ∧ ST M' b (roamF r N) ∧ Kp b 28 M M' := by
  intro d
  induction d with
  | zero =>
    intro v F M h1 h2 hS
    obtain ⟨F, rfl⟩ : ∃ k, F = k + 1 := ⟨F - 1, by omega⟩
    obtain rfl : v = N := by omega
    have a3 := hS.1.nw
    rw [roamF_o W (by omega) (by decide) v h8, hN] at a3
    unfold f_X7_letWolvesGo_b2
    rw [if_pos (by omega), if_pos (by omega), if_pos (by omega)]
    exact ⟨M, rfl, hS, Kp_id⟩
  | succ d ih =>
    intro v F M h1 h2 hS
    obtain ⟨F, rfl⟩ : ∃ k, F = k + 1 := ⟨F - 1, by omega⟩
    have a3 := hS.1.nw
    rw [roamF_o W (by omega) (by decide) v (by omega), hN] at a3
    have W1 := roamF_wf W v (by omega)
    have hw : 0 ≤ (v : Int) ∧ (v : Int) < 3 := by omega
    unfold f_X7_letWolvesGo_b2
    rw [if_pos (by omega), if_pos (by omega), if_neg (by omega)]
    obtain ⟨M1, e1, e2, e3⟩ := q_adv hS W1 hw
    rw [e1]
    simp only [zbnd]
    obtain ⟨M2, g1, g2, g3⟩ := q_letCut e2 (wgo_wf W1 hw) hw
    rw [g1]
    obtain ⟨M', i1, i2, i3⟩ := ih (v + 1) F M2 (by omega) (by omega) g2
    push_cast at i1
    exact ⟨M', i1, i2, Kp_tr (Kp_tr e3 g3) i3⟩
theorem q_roam {B : Int} {b : Nat} {M : Mem} {r : Row} (hS : ST M b r) (W : WF B r) {N : Nat} (hN : r 864 = N) (h8 : N ≤ 3) : ∃ M', f_X7_letWolvesGo b M = some (0, M') ∧ ST M' b (roamF r N) ∧ Kp b 28 M M' :=
  q_roam_l W hN h8 N 0 100000 M (by omega) (by omega) hS

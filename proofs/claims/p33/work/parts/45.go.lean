/-! changes: the row functions, what both sides do with them -/
def Kp (b n : Nat) (M M' : Mem) : Prop := ∀ a, a < b ∨ b + n ≤ a → M' a = M a
theorem Kp_id {b n : Nat} {M : Mem} : Kp b n M M := fun _ _ => rfl
theorem Kp_tr {b n : Nat} {M M1 M2 : Mem} (h1 : Kp b n M M1) (h2 : Kp b n M1 M2) : Kp b n M M2 := fun a ha => by rw [h2 a ha, h1 a ha]
theorem Kp_wr {b n k i : Nat} {v : Int} {M M1 : Mem} (h : Kp b n M M1) (hk : b ≤ k ∧ k < b + n) : Kp b n M (wr M1 k i v) := fun a ha => by rw [wr_ne (by omega), h a ha]
theorem Kp_mo {b n m : Nat} {M M1 : Mem} (h : Kp b n M M1) (hn : n ≤ m) : Kp b m M M1 := fun a ha => h a (by omega)
theorem up_self {r : Row} {i : Nat} {v : Int} (h : r i = v) : up r i v = r := by
  funext j
  by_cases e : j = i
  · subst e; rw [up_eq, h]
  · rw [up_ne e]
theorem sumN_upd {n k : Nat} {g g' : Nat → Int} (hk : k < n) (h : ∀ i, i < n → i ≠ k → g' i = g i) : sumN n g' = sumN n g + g' k - g k := by
  induction n with
  | zero => omega
  | succ n ih =>
    rw [sumN_succ, sumN_succ]
    by_cases e : k = n
    · subst e
      rw [sumN_congr (fun i hi => h i (by omega) (by omega))]
      omega
    · rw [ih (by omega) (fun i hi => h i (by omega)), h n (by omega) (fun q => e q.symm)]
      omega
theorem ST0_six {M : Mem} {b i : Nat} {v : Int} {r : Row} (h : ST0 M b r) : ST0 (wr M (b + 6) i v) b r :=
  ST0_to h (fun o _ ho => wr_ne (by omega)) (fun _ _ => rfl)
theorem ST_kp {M M' : Mem} {b n c : Nat} {r : Row} (h : ST M b r) (hK : Kp c n M M') (hd : b + 29 ≤ c ∨ c + n ≤ b) : ST M' b r :=
  ⟨ST0_to h.1 (fun o ho _ => hK _ (by omega)) (fun _ _ => rfl), fun p p0 p1 => by rw [hK _ (by omega)]; exact h.2 p p0 p1⟩
theorem cntAt_c {r r' : Row} {x : Int} (h : ∀ i : Nat, i < 16 → r' (416 + (i : Int)).toNat = r (416 + (i : Int)).toNat) : cntAt r' x 16 = cntAt r x 16 := by
  unfold cntAt
  exact sumN_congr (fun i hi => by rw [h i hi])
theorem cntAt_up {r : Row} {h q x : Int} (h0 : 0 ≤ h) (h1 : h < 16) : cntAt (up r (416 + h).toNat q) x 16 = cntAt r x 16 + (if q = x then 1 else 0) - (if r (416 + h).toNat = x then 1 else 0) := by
  unfold cntAt
  rw [sumN_upd (k := h.toNat) (g := fun i : Nat => if r (416 + (i : Int)).toNat = x then 1 else 0) (by omega) (fun i _ hne => by rw [up_ne (by omega)])]
  have e : (416 + ((h.toNat : Nat) : Int)).toNat = (416 + h).toNat := by omega
  rw [e, up_eq]
theorem WF1_post_w {B : Int} {r : Row} (W : WF1 B r) {p : Int} (p0 : 0 ≤ p) (p1 : p < 8) {h : Int} (h0 : 0 ≤ h) (h1 : h < 16) {v : Int} (hv : 0 ≤ v ∧ v ≤ r 863) : WF1 B (up r (32 + 16 * p + h).toNat v) := by
  refine WF1_up W (by omega) ?_
  unfold okV
  rw [if_neg (by omega), if_pos (by omega)]
  exact hv
theorem WF1_trk_w {B : Int} {r : Row} (W : WF1 B r) {p : Int} (p0 : 0 ≤ p) (p1 : p < 8) {h : Int} (h0 : 0 ≤ h) (h1 : h < 16) {v : Int} (hv : 0 ≤ v ∧ v ≤ r 863) : WF1 B (up r (160 + 16 * p + h).toNat v) := by
  refine WF1_up W (by omega) ?_
  unfold okV
  rw [if_neg (by omega), if_neg (by omega), if_pos (by omega)]
  exact hv
theorem WF1_left_w {B : Int} {r : Row} (W : WF1 B r) {p : Int} (p0 : 0 ≤ p) (p1 : p < 8) {h : Int} (h0 : 0 ≤ h) (h1 : h < 16) {v : Int} (hv : 0 ≤ v) : WF1 B (up r (288 + 16 * p + h).toNat v) := by
  refine WF1_up W (by omega) ?_
  unfold okV
  rw [if_neg (by omega), if_neg (by omega), if_neg (by omega), if_pos (by omega)]
  exact hv
theorem WF1_at_w {B : Int} {r : Row} (W : WF1 B r) {h : Int} (h0 : 0 ≤ h) (h1 : h < 16) {v : Int} (hv : 0 ≤ v ∧ v < r 863) : WF1 B (up r (416 + h).toNat v) := by
  refine WF1_up W (by omega) ?_
  unfold okV
  rw [if_neg (by omega), if_neg (by omega), if_neg (by omega), if_neg (by omega), if_pos (by omega)]
  exact hv
theorem WF1_heat_w {B : Int} {r : Row} (W : WF1 B r) {h : Int} (h0 : 0 ≤ h) (h1 : h < 16) {v : Int} (hv : 0 ≤ v ∧ v ≤ 9999) : WF1 B (up r (432 + h).toNat v) := by
  refine WF1_up W (by omega) ?_
  unfold okV
  rw [if_neg (by omega), if_neg (by omega), if_neg (by omega), if_neg (by omega), if_neg (by omega), if_pos (by omega)]
  exact hv
theorem WF1_mov_w {B : Int} {r : Row} (W : WF1 B r) {h : Int} (h0 : 0 ≤ h) (h1 : h < 16) {v : Int} (hv : 0 ≤ v ∧ v ≤ B) : WF1 B (up r (448 + h).toNat v) := by
  refine WF1_up W (by omega) ?_
  unfold okV
  rw [if_neg (by omega), if_neg (by omega), if_neg (by omega), if_neg (by omega), if_neg (by omega), if_neg (by omega), if_pos (by omega)]
  exact hv
theorem WF1_wat_w {B : Int} {r : Row} (W : WF1 B r) {w : Int} (w0 : 0 ≤ w) (w1 : w < 3) {v : Int} (hv : 0 ≤ v ∧ v < r 863) : WF1 B (up r (720 + 2 * w).toNat v) := by
  refine WF1_up W (by omega) ?_
  unfold okV
  rw [if_neg (by omega), if_neg (by omega), if_neg (by omega), if_neg (by omega), if_neg (by omega), if_neg (by omega), if_neg (by omega), if_neg (by omega), if_pos (by omega), if_pos (by omega)]
  exact hv
theorem WF1_wst_w {B : Int} {r : Row} (W : WF1 B r) {w : Int} (w0 : 0 ≤ w) (w1 : w < 3) {v : Int} (hv : 0 ≤ v ∧ v ≤ 7) : WF1 B (up r ((720 + 2 * w) + 1).toNat v) := by
  refine WF1_up W (by omega) ?_
  unfold okV
  rw [if_neg (by omega), if_neg (by omega), if_neg (by omega), if_neg (by omega), if_neg (by omega), if_neg (by omega), if_neg (by omega), if_neg (by omega), if_pos (by omega), if_neg (by omega)]
  exact hv
theorem WF1_home_w {B : Int} {r : Row} (W : WF1 B r) {i : Int} (i0 : 0 ≤ i) (i1 : i < 6) {v : Int} (hv : 0 ≤ v ∧ v < r 863) : WF1 B (up r (726 + 5 * i).toNat v) := by
  refine WF1_up W (by omega) ?_
  unfold okV
  rw [if_neg (by omega), if_neg (by omega), if_neg (by omega), if_neg (by omega), if_neg (by omega), if_neg (by omega), if_neg (by omega), if_neg (by omega), if_neg (by omega), if_pos (by omega), if_pos (by omega)]
  exact hv
theorem WF1_most_w {B : Int} {r : Row} (W : WF1 B r) {i : Int} (i0 : 0 ≤ i) (i1 : i < 6) {v : Int} (hv : 0 ≤ v ∧ v ≤ 200) : WF1 B (up r ((726 + 5 * i) + 4).toNat v) := by
  refine WF1_up W (by omega) ?_
  unfold okV
  rw [if_neg (by omega), if_neg (by omega), if_neg (by omega), if_neg (by omega), if_neg (by omega), if_neg (by omega), if_neg (by omega), if_neg (by omega), if_neg (by omega), if_pos (by omega), if_neg (by omega), if_pos (by omega)]
  exact hv
theorem WF1_mem_w {B : Int} {r : Row} (W : WF1 B r) {i : Int} (i0 : 0 ≤ i) (i1 : i < 6) {h : Int} (h0 : 0 ≤ h) (h1 : h < 16) {v : Int} (hv : 0 ≤ v ∧ v < r 863) : WF1 B (up r (756 + 16 * i + h).toNat v) := by
  refine WF1_up W (by omega) ?_
  unfold okV
  rw [if_neg (by omega), if_neg (by omega), if_neg (by omega), if_neg (by omega), if_neg (by omega), if_neg (by omega), if_neg (by omega), if_neg (by omega), if_neg (by omega), if_neg (by omega), if_pos (by omega)]
  exact hv
theorem WF1_sea_w {B : Int} {r : Row} (W : WF1 B r) {s : Int} (s0 : 0 ≤ s) (s1 : s < 4) {v : Int} (hv : 0 ≤ v ∧ v ≤ 90) : WF1 B (up r (852 + s).toNat v) := by
  refine WF1_up W (by omega) ?_
  unfold okV
  rw [if_neg (by omega), if_neg (by omega), if_neg (by omega), if_neg (by omega), if_neg (by omega), if_neg (by omega), if_neg (by omega), if_neg (by omega), if_neg (by omega), if_neg (by omega), if_neg (by omega), if_pos (by omega)]
  exact hv
theorem WF1_lat_w {B : Int} {r : Row} (W : WF1 B r) {p : Int} (p0 : 0 ≤ p) (p1 : p < 8) {v : Int} (hv : 0 ≤ v ∧ v ≤ 90) : WF1 B (up r (0 + 4 * p).toNat v) := by
  refine WF1_up W (by omega) ?_
  unfold okV
  rw [if_pos (by omega), if_pos (by omega)]
  exact hv
theorem WF1_room_w {B : Int} {r : Row} (W : WF1 B r) {p : Int} (p0 : 0 ≤ p) (p1 : p < 8) {v : Int} (hv : 0 ≤ v ∧ v ≤ 16) : WF1 B (up r ((0 + 4 * p) + 1).toNat v) := by
  refine WF1_up W (by omega) ?_
  unfold okV
  rw [if_pos (by omega), if_neg (by omega), if_pos (by omega)]
  exact hv
theorem WF1_inn_w {B : Int} {r : Row} (W : WF1 B r) {p : Int} (p0 : 0 ≤ p) (p1 : p < 8) {v : Int} (hv : 0 ≤ v ∧ v ≤ 1) : WF1 B (up r ((0 + 4 * p) + 2).toNat v) := by
  refine WF1_up W (by omega) ?_
  unfold okV
  rw [if_pos (by omega), if_neg (by omega), if_neg (by omega), if_pos (by omega)]
  exact hv
theorem WF1_vals_w {B : Int} {r : Row} (W : WF1 B r) {k : Int} (k0 : 0 ≤ k) (k1 : k < 256) {v : Int} : WF1 B (up r (464 + k).toNat v) := by
  refine WF1_up W (by omega) ?_
  unfold okV
  rw [if_neg (by omega), if_neg (by omega), if_neg (by omega), if_neg (by omega), if_neg (by omega), if_neg (by omega), if_neg (by omega), if_pos (by omega)]
  trivial
theorem WF1_sent_w {B : Int} {r : Row} (W : WF1 B r) {p : Int} (p0 : 0 ≤ p) (p1 : p < 8) {v : Int} : WF1 B (up r ((0 + 4 * p) + 3).toNat v) := by
  refine WF1_up W (by omega) ?_
  unfold okV
  rw [if_pos (by omega), if_neg (by omega), if_neg (by omega), if_neg (by omega)]
  trivial
theorem WF1_reqs_w {B : Int} {r : Row} (W : WF1 B r) {i : Int} (i0 : 0 ≤ i) (i1 : i < 6) {v : Int} : WF1 B (up r ((726 + 5 * i) + 1).toNat v) := by
  refine WF1_up W (by omega) ?_
  unfold okV
  rw [if_neg (by omega), if_neg (by omega), if_neg (by omega), if_neg (by omega), if_neg (by omega), if_neg (by omega), if_neg (by omega), if_neg (by omega), if_neg (by omega), if_pos (by omega), if_neg (by omega), if_neg (by omega)]
  trivial
theorem WF1_hops_w {B : Int} {r : Row} (W : WF1 B r) {i : Int} (i0 : 0 ≤ i) (i1 : i < 6) {v : Int} : WF1 B (up r ((726 + 5 * i) + 2).toNat v) := by
  refine WF1_up W (by omega) ?_
  unfold okV
  rw [if_neg (by omega), if_neg (by omega), if_neg (by omega), if_neg (by omega), if_neg (by omega), if_neg (by omega), if_neg (by omega), if_neg (by omega), if_neg (by omega), if_pos (by omega), if_neg (by omega), if_neg (by omega)]
  trivial
theorem WF1_cries_w {B : Int} {r : Row} (W : WF1 B r) {i : Int} (i0 : 0 ≤ i) (i1 : i < 6) {v : Int} : WF1 B (up r ((726 + 5 * i) + 3).toNat v) := by
  refine WF1_up W (by omega) ?_
  unfold okV
  rw [if_neg (by omega), if_neg (by omega), if_neg (by omega), if_neg (by omega), if_neg (by omega), if_neg (by omega), if_neg (by omega), if_neg (by omega), if_neg (by omega), if_pos (by omega), if_neg (by omega), if_neg (by omega)]
  trivial
theorem WF1_866_w {B v : Int} {r : Row} (W : WF1 B r) : WF1 B (up r 866 v) := WF1_up W (by decide) trivial
theorem WF1_867_w {B v : Int} {r : Row} (W : WF1 B r) : WF1 B (up r 867 v) := WF1_up W (by decide) trivial
theorem WF1_868_w {B v : Int} {r : Row} (W : WF1 B r) : WF1 B (up r 868 v) := WF1_up W (by decide) trivial
theorem WF1_869_w {B v : Int} {r : Row} (W : WF1 B r) : WF1 B (up r 869 v) := WF1_up W (by decide) trivial
theorem WF1_870_w {B v : Int} {r : Row} (W : WF1 B r) : WF1 B (up r 870 v) := WF1_up W (by decide) trivial
def goF (r : Row) (h q : Int) : Row :=
  up (up (up (up (up (up r (160 + 16 * r (416 + h).toNat + h).toNat (q + 1)) (288 + 16 * r (416 + h).toNat + h).toNat (r 862)) (160 + 16 * q + h).toNat 0) (416 + h).toNat q) (448 + h).toNat (r (448 + h).toNat + 1)) 866 (r 866 + 1)
theorem q_drive {B : Int} {b : Nat} {M : Mem} {r : Row} (hS : ST M b r) (W : WF1 B r) {h q : Int} (hh : 0 ≤ h ∧ h < 16) (hq : 0 ≤ q ∧ q < 8) : ∃ M', f_X7_drive b h q M = some (0, M') ∧ ST M' b (goF r h q) ∧ Kp b 28 M M' := by
  have h1 := WF1_at W hh.1 hh.2
  have h2 := WF1_n W
  have a1 := hS.1.at hh.1 hh.2
  have a2 := hS.1.moves hh.1 hh.2
  have a3 : M b 0 = r 862 := hS.1.day
  simp only [enc, Bool.false_eq_true, if_false] at a1 a2
  unfold f_X7_drive f_X8_leave
  simp only [zlt, zbnd, q_cell, a1, a3]
  rw [if_pos (by omega), if_pos (by omega), if_pos (by omega), if_pos (by omega)]
  dsimp only
  rw [if_pos (by omega), if_pos (by omega)]
  refine ⟨_, rfl, ⟨?_, ?_⟩, ?_⟩
  · unfold goF
    refine ST0_six (ST0_six (ST0_up (ST0.moves_w (ST0.at_w ?_ hh.1 hh.2 rfl) hh.1 hh.2 ?_) (by decide +kernel)))
    · have c1 := ST0.lead_w (p := r (416 + h).toNat * 16 + h) (v := q + 1) (w := q) hS.1 (by omega) (by omega) (by simp only [enc, if_true]; rw [if_neg (by omega)]; omega)
      rw [show (160 + (r (416 + h).toNat * 16 + h)).toNat = (160 + 16 * r (416 + h).toNat + h).toNat by omega] at c1
      have c2 := ST0.left_w (p := r (416 + h).toNat * 16 + h) (v := r 862) (w := r 862) c1 (by omega) (by omega) rfl
      rw [show (288 + (r (416 + h).toNat * 16 + h)).toNat = (288 + 16 * r (416 + h).toNat + h).toNat by omega] at c2
      have c3 := ST0.lead_w (p := q * 16 + h) (v := 0) (w := -5) c2 (by omega) (by omega) rfl
      rw [show (160 + (q * 16 + h)).toNat = (160 + 16 * q + h).toNat by omega] at c3
      exact c3
    · simp only [Nat.add_assoc, Nat.reduceAdd]
      rw [wr_ne (by omega), wr_ne (by omega), wr_ne (by omega), wr_ne (by omega), a2]
      rfl
  · intro p p0 p1
    have hc : cntAt (goF r h q) p 16 = cntAt r p 16 + (if q = p then 1 else 0) - (if r (416 + h).toNat = p then 1 else 0) := by
      have e : (fun i : Nat => (416 + (i : Int)).toNat) = fun i : Nat => 416 + i := by funext i; omega
      rw [← cntAt_up hh.1 hh.2]
      refine cntAt_c (fun i hi => ?_)
      unfold goF
      by_cases ei : (416 + (i : Int)).toNat = (416 + h).toNat
      · rw [ei, up_ne (by omega), up_ne (by omega), up_eq, up_eq]
      · rw [up_ne (by omega), up_ne (by omega), up_ne ei, up_ne (by omega), up_ne (by omega), up_ne (by omega), up_ne ei]
    have a4 := hS.2 p p0 p1
    rw [hc, ← a4]
    simp only [Nat.add_assoc, Nat.reduceAdd]
    by_cases e1 : p = q
    · subst e1
      rw [wr_eq, up_eq, wr_eq]
      by_cases e2 : p = r (416 + h).toNat
      · rw [← e2, up_eq, wr_ne (by omega), wr_ne (by omega), wr_ne (by omega), wr_ne (by omega), wr_ne (by omega), if_pos rfl]
        omega
      · rw [up_ne (by omega), wr_ne (by omega), wr_ne (by omega), wr_ne (by omega), wr_ne (by omega), wr_ne (by omega), if_pos rfl, if_neg (fun z => e2 z.symm)]
        omega
    · rw [wr_eq, up_ne (by omega), wr_eq, if_neg (fun z => e1 z.symm)]
      by_cases e2 : p = r (416 + h).toNat
      · rw [← e2, up_eq, wr_ne (by omega), wr_ne (by omega), wr_ne (by omega), wr_ne (by omega), wr_ne (by omega), if_pos rfl]
        omega
      · rw [up_ne (by omega), wr_ne (by omega), wr_ne (by omega), wr_ne (by omega), wr_ne (by omega), wr_ne (by omega), if_neg (fun z => e2 z.symm)]
        omega
  · exact Kp_wr (Kp_wr (Kp_wr (Kp_wr (Kp_wr (Kp_wr (Kp_wr Kp_id (by omega)) (by omega)) (by omega)) (by omega)) (by omega)) (by omega)) (by omega)
theorem goF_o {r : Row} {h q : Int} {j : Nat} (hh : 0 ≤ h ∧ h < 16) (h1 : 0 ≤ r (416 + h).toNat ∧ r (416 + h).toNat < 8) (hq : 0 ≤ q ∧ q < 8) (hj : ¬ (160 ≤ j ∧ j < 432) ∧ j ≠ (448 + h).toNat ∧ j ≠ 866) : goF r h q j = r j := by
  unfold goF
  rw [up_ne (by omega), up_ne (by omega), up_ne (by omega), up_ne (by omega), up_ne (by omega), up_ne (by omega)]
theorem goF_at {r : Row} {h q y : Int} (hh : 0 ≤ h ∧ h < 16) (h1 : 0 ≤ r (416 + h).toNat ∧ r (416 + h).toNat < 8) (hq : 0 ≤ q ∧ q < 8) (hy : 0 ≤ y ∧ y < 16) : goF r h q (416 + y).toNat = if y = h then q else r (416 + y).toNat := by
  unfold goF
  rw [up_ne (by omega), up_ne (by omega)]
  by_cases e : y = h
  · subst e; rw [up_eq, if_pos rfl]
  · rw [up_ne (by omega), up_ne (by omega), up_ne (by omega), up_ne (by omega), if_neg e]
theorem goF_trk {r : Row} {h q x y : Int} (hh : 0 ≤ h ∧ h < 16) (h1 : 0 ≤ r (416 + h).toNat ∧ r (416 + h).toNat < 8) (hq : 0 ≤ q ∧ q < 8) (hx : 0 ≤ x ∧ x < 8) (hy : 0 ≤ y ∧ y < 16) : goF r h q (160 + 16 * x + y).toNat = if y = h ∧ x = q then 0 else if y = h ∧ x = r (416 + h).toNat then q + 1 else r (160 + 16 * x + y).toNat := by
  unfold goF
  rw [up_ne (by omega), up_ne (by omega), up_ne (by omega)]
  by_cases e : y = h ∧ x = q
  · rw [e.1, e.2, up_eq, if_pos ⟨rfl, rfl⟩]
  · rw [up_ne (by omega), up_ne (by omega), if_neg e]
    by_cases e2 : y = h ∧ x = r (416 + h).toNat
    · rw [if_pos e2, show (160 + 16 * x + y).toNat = (160 + 16 * r (416 + h).toNat + h).toNat by rw [← e2.2, e2.1], up_eq]
    · rw [if_neg e2, up_ne (by omega)]
theorem goF_left {r : Row} {h q x y : Int} (hh : 0 ≤ h ∧ h < 16) (h1 : 0 ≤ r (416 + h).toNat ∧ r (416 + h).toNat < 8) (hq : 0 ≤ q ∧ q < 8) (hx : 0 ≤ x ∧ x < 8) (hy : 0 ≤ y ∧ y < 16) : goF r h q (288 + 16 * x + y).toNat = if y = h ∧ x = r (416 + h).toNat then r 862 else r (288 + 16 * x + y).toNat := by
  unfold goF
  rw [up_ne (by omega), up_ne (by omega), up_ne (by omega), up_ne (by omega)]
  by_cases e2 : y = h ∧ x = r (416 + h).toNat
  · rw [if_pos e2, show (288 + 16 * x + y).toNat = (288 + 16 * r (416 + h).toNat + h).toNat by rw [← e2.2, e2.1], up_eq]
  · rw [if_neg e2, up_ne (by omega), up_ne (by omega)]
theorem goF_wf1 {B : Int} {r : Row} (W : WF1 B r) {h q : Int} (hh : 0 ≤ h ∧ h < 16) (hq : 0 ≤ q ∧ q < r 863) : WF1 (B + 1) (goF r h q) := by
  have h1 := WF1_at W hh.1 hh.2
  have h2 := WF1_n W
  have h3 := WF1_mov W hh.1 hh.2
  have W0 := WF1_upB W (B' := B + 1) (by omega)
  have W1 := WF1_trk_w W0 (p := r (416 + h).toNat) (by omega) (by omega) hh.1 hh.2 (v := q + 1) (by omega)
  have W2 := WF1_left_w W1 (p := r (416 + h).toNat) (by omega) (by omega) hh.1 hh.2 (v := r 862) (WF1_day W).1
  have n2 : (up (up r (160 + 16 * r (416 + h).toNat + h).toNat (q + 1)) (288 + 16 * r (416 + h).toNat + h).toNat (r 862)) 863 = r 863 := by rw [up_ne (by omega), up_ne (by omega)]
  have W3 := WF1_trk_w W2 (p := q) (by omega) (by omega) hh.1 hh.2 (v := 0) (by rw [n2]; omega)
  have W4 := WF1_at_w W3 hh.1 hh.2 (v := q) (by rw [up_ne (by omega), n2]; omega)
  have W5 := WF1_mov_w W4 hh.1 hh.2 (v := r (448 + h).toNat + 1) (by omega)
  exact WF1_866_w W5
theorem goF_wf2 {B : Int} {r : Row} (W : WF1 B r) (W2 : WF2 r) {h q : Int} (hh : 0 ≤ h ∧ h < 16) (hq : 0 ≤ q ∧ q < r 863) (hne : q ≠ r (416 + h).toNat) : WF2 (goF r h q) := by
  have h1 := WF1_at W hh.1 hh.2
  have h2 := WF1_n W
  have hp : 0 ≤ r (416 + h).toNat ∧ r (416 + h).toNat < 8 := by omega
  have hq8 : 0 ≤ q ∧ q < 8 := by omega
  obtain ⟨u1, u2, u3, rk, u4⟩ := W2
  have d1 : goF r h q 862 = r 862 := goF_o hh hp hq8 (by omega)
  have d2 : goF r h q 863 = r 863 := goF_o hh hp hq8 (by omega)
  refine ⟨fun p y p0 p1 y0 y1 => ?_, fun p y p0 p1 y0 y1 => ?_, fun p y p0 p1 y0 y1 => ?_, ⟨fun y x => if y = h ∧ x = q then rk h 0 + rk h 1 + rk h 2 + rk h 3 + rk h 4 + rk h 5 + rk h 6 + rk h 7 + 1 else rk y x, fun p y p0 p1 y0 y1 => ?_⟩⟩
  · rw [goF_trk hh hp hq8 ⟨p0, p1⟩ ⟨y0, y1⟩, goF_left hh hp hq8 ⟨p0, p1⟩ ⟨y0, y1⟩, d1]
    intro hz
    by_cases e : y = h ∧ p = q
    · rw [if_pos e] at hz; exact absurd rfl hz
    · rw [if_neg e] at hz
      by_cases e2 : y = h ∧ p = r (416 + h).toNat
      · rw [if_pos e2]; omega
      · rw [if_neg e2] at hz ⊢
        exact u1 p y p0 p1 y0 y1 hz
  · rw [goF_o hh hp hq8 (by omega), goF_o hh hp hq8 (by omega)]
    exact u2 p y p0 p1 y0 y1
  · rw [d2] at p0
    rw [goF_o hh hp hq8 (by omega), goF_trk hh hp hq8 ⟨by omega, p1⟩ ⟨y0, y1⟩, if_neg (by omega), if_neg (by omega)]
    exact u3 p y p0 p1 y0 y1
  · rw [goF_trk hh hp hq8 ⟨p0, p1⟩ ⟨y0, y1⟩]
    intro hz
    have hM : ∀ x : Int, 0 ≤ x → x < 8 → rk h x < rk h 0 + rk h 1 + rk h 2 + rk h 3 + rk h 4 + rk h 5 + rk h 6 + rk h 7 + 1 := by
      intro x x0 x1
      have : x = 0 ∨ x = 1 ∨ x = 2 ∨ x = 3 ∨ x = 4 ∨ x = 5 ∨ x = 6 ∨ x = 7 := by omega
      rcases this with rfl | rfl | rfl | rfl | rfl | rfl | rfl | rfl <;> omega
    dsimp only
    by_cases e : y = h ∧ p = q
    · rw [if_pos e] at hz; exact absurd rfl hz
    · rw [if_neg e] at hz ⊢
      rw [if_neg e]
      by_cases e2 : y = h ∧ p = r (416 + h).toNat
      · rw [if_pos e2, if_pos ⟨e2.1, by omega⟩, e2.1]
        exact hM p p0 p1
      · rw [if_neg e2] at hz ⊢
        have h5 := u4 p y p0 p1 y0 y1 hz
        by_cases e3 : y = h ∧ r (160 + 16 * p + y).toNat - 1 = q
        · rw [if_pos e3, e3.1]
          exact hM p p0 p1
        · rw [if_neg e3]
          exact h5
theorem goF_wf3 {B : Int} {r : Row} (W : WF1 B r) (W3 : WF3 r) {h q : Int} (hh : 0 ≤ h ∧ h < 16) (hq : 0 ≤ q ∧ q < r 863) : WF3 (goF r h q) := by
  have h1 := WF1_at W hh.1 hh.2
  have h2 := WF1_n W
  have hp : 0 ≤ r (416 + h).toNat ∧ r (416 + h).toNat < 8 := by omega
  have hq8 : 0 ≤ q ∧ q < 8 := by omega
  obtain ⟨u1, u2, u3, u4⟩ := W3
  refine ⟨?_, ?_, ?_, fun i i0 i1 => ?_⟩
  · rw [sumN_upd (k := h.toNat) (g := fun y : Nat => r (448 + (y : Int)).toNat) (by omega) (fun i _ hne => goF_o hh hp hq8 (by omega))]
    have e : (448 + ((h.toNat : Nat) : Int)).toNat = (448 + h).toNat := by omega
    rw [e, ← u1]
    unfold goF
    rw [up_eq, up_ne (by omega), up_eq]
    omega
  · rw [goF_o hh hp hq8 (by omega), u2]
    exact sumN_congr (fun i hi => (goF_o hh hp hq8 (by omega)).symm)
  · rw [goF_o hh hp hq8 (by omega), u3]
    exact sumN_congr (fun i hi => (goF_o hh hp hq8 (by omega)).symm)
  · have hnr := WF1_nr W
    rw [goF_o hh hp hq8 (by omega)] at i0
    rw [goF_o hh hp hq8 (by omega), goF_o hh hp hq8 (by omega)]
    exact u4 i i0 i1

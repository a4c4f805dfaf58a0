/-- the heats of the first v shards, a day later -/
def coolF (r : Row) (v : Nat) : Row := fun j => if 432 ≤ j ∧ j < 432 + v then (r j * 3).tdiv 4 else r j
theorem coolF_0 (r : Row) : coolF r 0 = r := by
  funext j
  unfold coolF
  rw [if_neg (by omega)]
theorem coolF_s (r : Row) (v : Nat) : coolF r (v + 1) = up (coolF r v) (432 + (v : Int)).toNat ((coolF r v (432 + (v : Int)).toNat * 3).tdiv 4) := by
  funext j
  unfold coolF
  by_cases e : j = (432 + (v : Int)).toNat
  · subst e
    rw [up_eq, if_pos (by omega), if_neg (by omega)]
  · rw [up_ne e]
    by_cases e2 : 432 ≤ j ∧ j < 432 + v
    · rw [if_pos (by omega), if_pos e2]
    · rw [if_neg (by omega), if_neg e2]
theorem coolF_o {r : Row} {v j : Nat} (hv : v ≤ 16) (hj : j < 432 ∨ 448 ≤ j) : coolF r v j = r j := by
  unfold coolF
  rw [if_neg (by omega)]
theorem cool_b {x : Int} (h : 0 ≤ x ∧ x ≤ 9999) : 0 ≤ (x * 3).tdiv 4 ∧ (x * 3).tdiv 4 ≤ 9999 := by
  rw [Int.tdiv_eq_ediv_of_nonneg (by omega)]
  omega
theorem coolF_wf1 {B : Int} {r : Row} (W : WF1 B r) : ∀ v : Nat, v ≤ 16 → WF1 B (coolF r v) := by
  intro v
  induction v with
  | zero => intro _; rw [coolF_0]; exact W
  | succ v ih =>
    intro hv
    have h1 := ih (by omega)
    rw [coolF_s]
    exact WF1_heat_w h1 (by omega) (by omega) (cool_b (WF1_heat h1 (by omega) (by omega)))
/-- rows that differ in the heats alone -/
theorem WF23_heat {r r' : Row} (hn : 0 ≤ r 863 ∧ 0 ≤ r 865) (h : ∀ j, j < 432 ∨ 448 ≤ j → r' j = r j) (W : WF2 r ∧ WF3 r) : WF2 r' ∧ WF3 r' := by
  obtain ⟨⟨u1, u2, u3, rk, u4⟩, ⟨t1, t2, t3, t4⟩⟩ := W
  refine ⟨⟨fun p y p0 p1 y0 y1 => ?_, fun p y p0 p1 y0 y1 => ?_, fun p y p0 p1 y0 y1 => ?_, ⟨rk, fun p y p0 p1 y0 y1 => ?_⟩⟩, ?_, ?_, ?_, fun i i0 i1 => ?_⟩
  · rw [h _ (by omega), h _ (by omega), h _ (by omega)]; exact u1 p y p0 p1 y0 y1
  · rw [h _ (by omega), h _ (by omega)]; exact u2 p y p0 p1 y0 y1
  · rw [h _ (by omega)] at p0; rw [h _ (by omega), h _ (by omega)]; exact u3 p y p0 p1 y0 y1
  · rw [h _ (by omega)]; exact u4 p y p0 p1 y0 y1
  · rw [h _ (by omega), t1]; exact sumN_congr (fun i hi => (h _ (by omega)).symm)
  · rw [h _ (by omega), t2]; exact sumN_congr (fun i hi => (h _ (by omega)).symm)
  · rw [h _ (by omega), t3]; exact sumN_congr (fun i hi => (h _ (by omega)).symm)
  · rw [h _ (by omega)] at i0; rw [h _ (by omega), h _ (by omega)]; exact t4 i i0 i1
theorem coolF_wf {B : Int} {r : Row} (W : WF B r) : WF B (coolF r 16) :=
  ⟨coolF_wf1 W.1 16 (by decide), WF23_heat ⟨by have := WF1_n W.1; omega, (WF1_nr W.1).1⟩ (fun j hj => coolF_o (by decide) hj) W.2⟩
set_option maxRecDepth 20000 in
theorem q_cool_l {B : Int} {b : Nat} {r : Row} (W : WF1 B r) : ∀ (d v F : Nat) (M : Mem), v + d = 16 → d < F → ST M b (coolF r v) → ∃ M', f_X0_cool_b2 (b + 13) F v M = some (0, M') ∧ ST M' b (coolF r 16) ∧ Kp b 28 M M' := by
  intro d
  induction d with
  | zero =>
    intro v F M h1 h2 hS
    obtain ⟨F, rfl⟩ : ∃ k, F = k + 1 := ⟨F - 1, by omega⟩
    obtain rfl : v = 16 := by omega
    unfold f_X0_cool_b2
    rw [if_pos (by omega), if_pos (by omega)]
    exact ⟨M, rfl, hS, Kp_id⟩
  | succ d ih =>
    intro v F M h1 h2 hS
    obtain ⟨F, rfl⟩ : ∃ k, F = k + 1 := ⟨F - 1, by omega⟩
    have W1 := coolF_wf1 W v (by omega)
    have hb := WF1_heat W1 (h := (v : Int)) (by omega) (by omega)
    have h5 := hS.1.heat (p := (v : Int)) (by omega) (by omega)
    simp only [enc, Bool.false_eq_true, if_false] at h5
    unfold f_X0_cool_b2
    simp only [Nat.add_assoc, Nat.reduceAdd]
    rw [h5, if_pos (by omega), if_neg (by omega), if_pos (by omega), if_pos (by omega)]
    simp only [zlt]
    have hS' : ST (wr M (b + 15) (v : Int).toNat ((coolF r v (432 + (v : Int)).toNat * 3).tdiv 4)) b (coolF r (v + 1)) := by
      rw [coolF_s]
      refine ⟨ST0.heat_w hS.1 (by omega) (by omega) rfl, fun p p0 p1 => ?_⟩
      rw [wr_ne (by omega), hS.2 p p0 p1]
      exact (cntAt_c (fun i hi => up_ne (by omega))).symm
    obtain ⟨M', e1, e2, e3⟩ := ih (v + 1) F _ (by omega) (by omega) hS'
    push_cast at e1
    exact ⟨M', e1, e2, Kp_tr (Kp_wr Kp_id (by omega)) e3⟩
theorem q_cool {B : Int} {b : Nat} {M : Mem} {r : Row} (hS : ST M b r) (W : WF1 B r) : ∃ M', f_X0_cool (b + 13) M = some (0, M') ∧ ST M' b (coolF r 16) ∧ Kp b 28 M M' :=
  q_cool_l W 16 0 100000 M rfl (by decide) (by rw [coolF_0]; exact hS)
/-- pasture p without its tracks of the first v shards left on day d or before -/
def rmv (r : Row) (p d : Int) (v : Nat) : Row := fun j => if 160 + 16 * p ≤ (j : Int) ∧ (j : Int) < 160 + 16 * p + v ∧ r (j + 128) ≤ d then 0 else r j
theorem rmv_0 (r : Row) (p d : Int) : rmv r p d 0 = r := by
  funext j
  unfold rmv
  rw [if_neg (by omega)]
theorem rmv_hi {r : Row} {p d : Int} {v j : Nat} (h : (j : Int) < 160 + 16 * p ∨ 160 + 16 * p + v ≤ (j : Int)) : rmv r p d v j = r j := by
  unfold rmv
  rw [if_neg (by omega)]
theorem rmv_o {r : Row} {p d : Int} {v j : Nat} (hp : 0 ≤ p ∧ p < 8) (hv : v ≤ 16) (hj : j < 160 ∨ 288 ≤ j) : rmv r p d v j = r j := rmv_hi (by omega)
theorem rmv_s {r : Row} {p d : Int} {v : Nat} (hp : 0 ≤ p ∧ p < 8) (hv : v < 16) (h0 : 0 ≤ r (160 + 16 * p + (v : Int)).toNat) : rmv r p d (v + 1) = if 0 < r (160 + 16 * p + (v : Int)).toNat ∧ r (288 + 16 * p + (v : Int)).toNat ≤ d then up (rmv r p d v) (160 + 16 * p + (v : Int)).toNat 0 else rmv r p d v := by
  have e3 : (160 + 16 * p + (v : Int)).toNat + 128 = (288 + 16 * p + (v : Int)).toNat := by omega
  funext j
  by_cases e : j = (160 + 16 * p + (v : Int)).toNat
  · subst e
    by_cases c : 0 < r (160 + 16 * p + (v : Int)).toNat ∧ r (288 + 16 * p + (v : Int)).toNat ≤ d
    · rw [if_pos c, up_eq]
      unfold rmv
      rw [if_pos ⟨by omega, by omega, by rw [e3]; exact c.2⟩]
    · rw [if_neg c]
      unfold rmv
      rw [e3, if_neg (show ¬ (160 + 16 * p ≤ (((160 + 16 * p + (v : Int)).toNat : Nat) : Int) ∧ (((160 + 16 * p + (v : Int)).toNat : Nat) : Int) < 160 + 16 * p + (v : Int) ∧ r (288 + 16 * p + (v : Int)).toNat ≤ d) by omega)]
      split
      · omega
      · rfl
  · have e2 : rmv r p d (v + 1) j = rmv r p d v j := by
      unfold rmv
      by_cases c : 160 + 16 * p ≤ (j : Int) ∧ (j : Int) < 160 + 16 * p + (v : Int) ∧ r (j + 128) ≤ d
      · rw [if_pos c, if_pos ⟨c.1, by omega, c.2.2⟩]
      · rw [if_neg c, if_neg (fun q => c ⟨q.1, by omega, q.2.2⟩)]
    rw [e2]
    split
    · rw [up_ne e]
    · rfl
def cntR (r : Row) (p d : Int) (n : Nat) : Int := sumN n fun h => if 0 < r (160 + 16 * p + (h : Int)).toNat ∧ r (288 + 16 * p + (h : Int)).toNat ≤ d then 1 else 0
theorem cntR_s (r : Row) (p d : Int) (n : Nat) : cntR r p d (n + 1) = cntR r p d n + (if 0 < r (160 + 16 * p + (n : Int)).toNat ∧ r (288 + 16 * p + (n : Int)).toNat ≤ d then 1 else 0) := rfl
theorem rmv_trk {r : Row} {p d x y : Int} {v : Nat} (hp : 0 ≤ p ∧ p < 8) (hx : 0 ≤ x ∧ x < 8) (hy : 0 ≤ y ∧ y < 16) : rmv r p d v (160 + 16 * x + y).toNat = 0 ∨ rmv r p d v (160 + 16 * x + y).toNat = r (160 + 16 * x + y).toNat := by
  unfold rmv
  split
  · exact Or.inl rfl
  · exact Or.inr rfl
theorem rmv_wf1 {B : Int} {r : Row} (W : WF1 B r) {p d : Int} (hp : 0 ≤ p ∧ p < 8) : ∀ v : Nat, v ≤ 16 → WF1 B (rmv r p d v) := by
  intro v
  induction v with
  | zero => intro _; rw [rmv_0]; exact W
  | succ v ih =>
    intro hv
    have h1 := ih (by omega)
    have h2 := WF1_n h1
    rw [rmv_s hp (by omega) (WF1_trk W hp.1 hp.2 (h := (v : Int)) (by omega) (by omega)).1]
    split
    · exact WF1_trk_w h1 hp.1 hp.2 (by omega) (by omega) (by omega)
    · exact h1
theorem rmv_wf2 {r : Row} (hn : 0 ≤ r 863) (W : WF2 r) {p d : Int} (hp : 0 ≤ p ∧ p < 8) {v : Nat} (hv : v ≤ 16) : WF2 (rmv r p d v) := by
  obtain ⟨u1, u2, u3, rk, u4⟩ := W
  refine ⟨fun x y p0 p1 y0 y1 => ?_, fun x y p0 p1 y0 y1 => ?_, fun x y p0 p1 y0 y1 => ?_, ⟨rk, fun x y p0 p1 y0 y1 => ?_⟩⟩
  · intro hz
    rw [rmv_o (j := (288 + 16 * x + y).toNat) hp hv (by omega), rmv_o (j := 862) hp hv (by omega)]
    rcases rmv_trk (r := r) (d := d) (v := v) hp ⟨p0, p1⟩ ⟨y0, y1⟩ with e | e
    · exact absurd e hz
    · exact u1 x y p0 p1 y0 y1 (by rw [← e]; exact hz)
  · rw [rmv_o hp hv (by omega), rmv_o hp hv (by omega)]
    exact u2 x y p0 p1 y0 y1
  · rw [rmv_o hp hv (by omega)] at p0
    rw [rmv_o hp hv (by omega)]
    have h5 := u3 x y p0 p1 y0 y1
    refine ⟨h5.1, ?_⟩
    unfold rmv
    split
    · rfl
    · exact h5.2
  · intro hz
    have e : rmv r p d v (160 + 16 * x + y).toNat = r (160 + 16 * x + y).toNat := by
      rcases rmv_trk (r := r) (d := d) (v := v) hp ⟨p0, p1⟩ ⟨y0, y1⟩ with e | e
      · exact absurd e hz
      · exact e
    rw [e] at hz ⊢
    exact u4 x y p0 p1 y0 y1 hz
theorem WF3_trk {r r' : Row} (hn : 0 ≤ r 865) (h : ∀ j, 448 ≤ j → j ≠ 867 → j ≠ 868 → r' j = r j) (W : WF3 r) : WF3 r' := by
  obtain ⟨t1, t2, t3, t4⟩ := W
  refine ⟨?_, ?_, ?_, fun i i0 i1 => ?_⟩
  · rw [h 866 (by omega) (by omega) (by omega), t1]; exact sumN_congr (fun i hi => (h _ (by omega) (by omega) (by omega)).symm)
  · rw [h 869 (by omega) (by omega) (by omega), t2]; exact sumN_congr (fun i hi => (h _ (by omega) (by omega) (by omega)).symm)
  · rw [h 870 (by omega) (by omega) (by omega), t3]; exact sumN_congr (fun i hi => (h _ (by omega) (by omega) (by omega)).symm)
  · rw [h 865 (by omega) (by omega) (by omega)] at i0
    rw [h _ (by omega) (by omega) (by omega), h _ (by omega) (by omega) (by omega)]
    exact t4 i i0 i1
theorem WF2_c {r r' : Row} (hn : 0 ≤ r 863) (h : ∀ j, j < 416 ∨ j = 862 ∨ j = 863 → r' j = r j) (W : WF2 r) : WF2 r' := by
  obtain ⟨u1, u2, u3, rk, u4⟩ := W
  refine ⟨fun p y p0 p1 y0 y1 => ?_, fun p y p0 p1 y0 y1 => ?_, fun p y p0 p1 y0 y1 => ?_, ⟨rk, fun p y p0 p1 y0 y1 => ?_⟩⟩
  · rw [h _ (by omega), h _ (by omega), h _ (by omega)]; exact u1 p y p0 p1 y0 y1
  · rw [h _ (by omega), h _ (by omega)]; exact u2 p y p0 p1 y0 y1
  · rw [h _ (by omega)] at p0; rw [h _ (by omega), h _ (by omega)]; exact u3 p y p0 p1 y0 y1
  · rw [h _ (by omega)]; exact u4 p y p0 p1 y0 y1
set_option maxRecDepth 20000 in
theorem q_rem_l {B : Int} {k b : Nat} (hk : k = b + 10) {r : Row} (W : WF1 B r) {p : Int} (hp : 0 ≤ p ∧ p < 8) {dd : Int} (hd : inR dd) (hl : ∀ y : Int, 0 ≤ y → y < 16 → 0 < r (160 + 16 * p + y).toNat → inR (r (288 + 16 * p + y).toNat)) : ∀ (d v F : Nat) (M : Mem), v + d = 16 → d < F → ST M b (rmv r p dd v) → ∃ M', f_X8_removeLeftUntil_b5 k F dd p (cntR r p dd v) v M = some (cntR r p dd 16, M') ∧ ST M' b (rmv r p dd 16) ∧ Kp b 28 M M' := by
  subst hk
  intro d
  induction d with
  | zero =>
    intro v F M h1 h2 hS
    obtain ⟨F, rfl⟩ : ∃ k, F = k + 1 := ⟨F - 1, by omega⟩
    obtain rfl : v = 16 := by omega
    unfold f_X8_removeLeftUntil_b5
    rw [if_pos (by omega), if_pos (by omega)]
    exact ⟨M, rfl, hS, Kp_id⟩
  | succ d ih =>
    intro v F M h1 h2 hS
    obtain ⟨F, rfl⟩ : ∃ k, F = k + 1 := ⟨F - 1, by omega⟩
    have W1 := rmv_wf1 W (d := dd) hp v (by omega)
    have hb := WF1_trk8 W hp.1 hp.2 (v : Int) (by omega) (by omega)
    have ht : rmv r p dd v (160 + 16 * p + (v : Int)).toNat = r (160 + 16 * p + (v : Int)).toNat := rmv_hi (by omega)
    have hle : rmv r p dd v (288 + 16 * p + (v : Int)).toNat = r (288 + 16 * p + (v : Int)).toNat := rmv_hi (by omega)
    have hs := rmv_s (d := dd) hp (show v < 16 by omega) hb.1
    have hl1 := hl (v : Int) (by omega) (by omega)
    have h5 := hS.1.left (p := p * 16 + (v : Int)) (by omega) (by omega)
    simp only [enc, Bool.false_eq_true, if_false] at h5
    rw [show (288 + (p * 16 + (v : Int))).toNat = (288 + 16 * p + (v : Int)).toNat by omega, hle] at h5
    unfold f_X8_removeLeftUntil_b5
    rw [if_pos (by omega), if_neg (by omega), q_isAt rfl hS.1 hp (by omega) (by rw [ht]; exact hb), ht]
    simp only [zbnd, f_X8_removeLeftUntil_b53, bitR, bit0, q_cell, zlt, Nat.add_assoc, Nat.reduceAdd]
    simp only [h5]
    by_cases c1 : 0 < r (160 + 16 * p + (v : Int)).toNat
    · rw [if_pos c1, if_pos (by omega), if_pos (hl1 c1), if_pos hd]
      by_cases c2 : r (288 + 16 * p + (v : Int)).toNat ≤ dd
      · rw [if_pos ⟨c1, c2⟩] at hs
        rw [if_neg (by omega), if_pos (by omega)]
        have hc : cntR r p dd (v + 1) = cntR r p dd v + 1 := by rw [cntR_s, if_pos ⟨c1, c2⟩]
        have hS' : ST (wr M (b + 11) (p * 16 + (v : Int)).toNat (-5)) b (rmv r p dd (v + 1)) := by
          rw [hs]
          have c3 := ST0.lead_w (p := p * 16 + (v : Int)) (v := 0) (w := -5) hS.1 (by omega) (by omega) rfl
          rw [show (160 + (p * 16 + (v : Int))).toNat = (160 + 16 * p + (v : Int)).toNat by omega] at c3
          refine ⟨c3, fun x x0 x1 => ?_⟩
          rw [wr_ne (by omega), hS.2 x x0 x1]
          exact (cntAt_c (fun i hi => up_ne (by omega))).symm
        obtain ⟨M', e1, e2, e3⟩ := ih (v + 1) F _ (by omega) (by omega) hS'
        rw [hc] at e1
        push_cast at e1
        exact ⟨M', e1, e2, Kp_tr (Kp_wr Kp_id (by omega)) e3⟩
      · rw [if_neg (fun q => c2 q.2)] at hs
        rw [if_pos (by omega)]
        have hc : cntR r p dd (v + 1) = cntR r p dd v := by rw [cntR_s, if_neg (fun q => c2 q.2)]; omega
        obtain ⟨M', e1, e2, e3⟩ := ih (v + 1) F M (by omega) (by omega) (by rw [hs]; exact hS)
        rw [hc] at e1
        push_cast at e1
        exact ⟨M', e1, e2, e3⟩
    · rw [if_neg (fun q => c1 q.1)] at hs
      rw [if_neg c1]
      have hc : cntR r p dd (v + 1) = cntR r p dd v := by rw [cntR_s, if_neg (fun q => c1 q.1)]; omega
      obtain ⟨M', e1, e2, e3⟩ := ih (v + 1) F M (by omega) (by omega) (by rw [hs]; exact hS)
      rw [hc] at e1
      push_cast at e1
      exact ⟨M', e1, e2, e3⟩
theorem q_rem {B : Int} {k b : Nat} (hk : k = b + 10) {r : Row} (W : WF1 B r) {p : Int} (hp : 0 ≤ p ∧ p < 8) {dd : Int} (hd : inR dd) (hl : ∀ y : Int, 0 ≤ y → y < 16 → 0 < r (160 + 16 * p + y).toNat → inR (r (288 + 16 * p + y).toNat)) {M : Mem} (hS : ST M b r) : ∃ M', f_X8_removeLeftUntil k dd p M = some (cntR r p dd 16, M') ∧ ST M' b (rmv r p dd 16) ∧ Kp b 28 M M' :=
  q_rem_l hk W hp hd hl 16 0 100000 M rfl (by decide) (by rw [rmv_0]; exact hS)

theorem ST_w {M M' : Mem} {b : Nat} {r r' : Row} (hS : ST M b r) (h0 : ST0 M' b r') (h6 : M' (b + 6) = M (b + 6)) (hat : ∀ i : Nat, i < 16 → r' (416 + (i : Int)).toNat = r (416 + (i : Int)).toNat) : ST M' b r' :=
  ⟨h0, fun p p0 p1 => by rw [h6, hS.2 p p0 p1, cntAt_c hat]⟩
/-- the marked inns are sent to -/
def snt (r : Row) (S v : Nat) : Row := fun j => if j < 4 * v ∧ j % 4 = 3 then r j + tb S (j / 4) else r j
theorem snt_0 (r : Row) (S : Nat) : snt r S 0 = r := by
  funext j
  unfold snt
  rw [if_neg (by omega)]
theorem snt_s (r : Row) (S v : Nat) : snt r S (v + 1) = up (snt r S v) ((0 + 4 * (v : Int)) + 3).toNat (snt r S v ((0 + 4 * (v : Int)) + 3).toNat + tb S v) := by
  funext j
  by_cases e : j = ((0 + 4 * (v : Int)) + 3).toNat
  · subst e
    rw [up_eq]
    unfold snt
    rw [if_pos (by omega), if_neg (by omega), show ((0 + 4 * (v : Int)) + 3).toNat / 4 = v by omega]
  · rw [up_ne e]
    unfold snt
    by_cases c : j < 4 * v ∧ j % 4 = 3
    · rw [if_pos (by omega), if_pos c]
    · rw [if_neg (by omega), if_neg c]
theorem snt_o {r : Row} {S v j : Nat} (hv : v ≤ 8) (hj : 32 ≤ j ∨ j % 4 ≠ 3) : snt r S v j = r j := by
  unfold snt
  rw [if_neg (by omega)]
/-- what is noted of a reader's request -/
def noteF (r : Row) (i h ho cr : Int) : Row :=
  up (up (up (up (up r ((726 + 5 * i) + 1).toNat (r ((726 + 5 * i) + 1).toNat + 1)) ((726 + 5 * i) + 2).toNat (r ((726 + 5 * i) + 2).toNat + ho)) ((726 + 5 * i) + 3).toNat (r ((726 + 5 * i) + 3).toNat + cr)) ((726 + 5 * i) + 4).toNat (imax (r ((726 + 5 * i) + 4).toNat) ho)) (756 + 16 * i + h).toNat (r (416 + h).toNat)
def warmF (r : Row) (h : Int) : Row := up r (432 + h).toNat (imin (r (432 + h).toNat + r 861) 9999)
def sumsF (r : Row) (cr : Int) : Row := up (up r 869 (r 869 + 1)) 870 (r 870 + cr)
def rchF (r : Row) (i h ho cr : Int) (S N : Nat) : Row := snt (sumsF (warmF (noteF r i h ho cr) h) cr) S N
theorem q_note {B : Int} {M : Mem} {r : Row} (hS : ST M 1 r) (W : WF1 B r) {i h ho cr : Int} (hi : 0 ≤ i ∧ i < 6) (hh : 0 ≤ h ∧ h < 16) (h0 : M 206 0 = ho) (h4 : M 206 4 = cr) (hho : 0 ≤ ho ∧ ho ≤ 200) (hcr : cr = 0 ∨ cr = 1) : ∃ M', f_X4_note 22 i h (r (416 + h).toNat) M = some (0, M') ∧ ST M' 1 (noteF r i h ho cr) ∧ Kp 1 28 M M' := by
  have hb := WF1_most W hi.1 hi.2
  have a1 := hS.1.reqs hi.1 hi.2
  have a2 := hS.1.hops hi.1 hi.2
  have a3 := hS.1.cries hi.1 hi.2
  have a4 := hS.1.most hi.1 hi.2
  simp only [enc, Bool.false_eq_true, if_false, Nat.reduceAdd] at a1 a2 a3 a4
  have s1 := ST0.reqs_w (v := r ((726 + 5 * i) + 1).toNat + 1) hS.1 hi.1 hi.2 rfl
  have s2 := ST0.hops_w (v := r ((726 + 5 * i) + 2).toNat + ho) s1 hi.1 hi.2 rfl
  have s3 := ST0.cries_w (v := r ((726 + 5 * i) + 3).toNat + cr) s2 hi.1 hi.2 rfl
  have s4 := ST0.most_w (v := imax (r ((726 + 5 * i) + 4).toNat) ho) s3 hi.1 hi.2 rfl
  have s5 := ST0.mem_w (p := i * 16 + h) (v := r (416 + h).toNat) s4 (by omega) (by omega) rfl
  rw [show (756 + (i * 16 + h)).toNat = (756 + 16 * i + h).toNat by omega] at s5
  simp only [enc, Bool.false_eq_true, if_false, Nat.reduceAdd] at s5
  unfold f_X4_note f_X4_note_b42
  have e0 : ∀ x, wr M 24 i.toNat x 25 i.toNat = r ((726 + 5 * i) + 2).toNat := fun x => by rw [wr_ne (by decide), a2]
  have e1 : ∀ x, wr M 24 i.toNat x 206 0 = ho := fun x => by rw [wr_ne (by decide), h0]
  have e2 : ∀ x y, wr (wr M 24 i.toNat x) 25 i.toNat y 206 4 = cr := fun x y => by rw [wr_ne (by decide), wr_ne (by decide), h4]
  rw [if_pos hi, zltS, show 22 + 2 = 24 from rfl, a1, zltS, show 22 + 3 = 25 from rfl, e0, e1, e2, if_pos (by omega)]
  by_cases c : cr = 0
  · rw [if_pos c, if_pos hi]
    have f1 : ∀ x y, wr (wr M 24 i.toNat x) 25 i.toNat y 27 i.toNat = r ((726 + 5 * i) + 4).toNat := fun x y => by rw [wr_ne (by decide), wr_ne (by decide), a4]
    have f2 : ∀ x y, wr (wr M 24 i.toNat x) 25 i.toNat y 206 0 = ho := fun x y => by rw [wr_ne (by decide), wr_ne (by decide), h0]
    rw [show 22 + 5 = 27 from rfl, f1, f2, if_pos (by omega), if_pos (by omega), zltS, q_cell, zbS, if_pos (by omega), zltS]
    refine ⟨_, rfl, ?_, Kp_wr (Kp_wr (Kp_wr (Kp_wr Kp_id (by omega)) (by omega)) (by omega)) (by omega)⟩
    refine ST_w hS ?_ (by rw [wr_ne (by decide), wr_ne (by decide), wr_ne (by decide), wr_ne (by decide)]) (fun x hx => by unfold noteF; rw [up_ne (by omega), up_ne (by omega), up_ne (by omega), up_ne (by omega), up_ne (by omega)])
    have e9 : ∀ x y, wr (wr M 24 i.toNat x) 25 i.toNat y = wr (wr (wr M 24 i.toNat x) 25 i.toNat y) 26 i.toNat (r ((726 + 5 * i) + 3).toNat + cr) := fun x y => by
      rw [wr_as _ 26, wr_ne (show 26 ≠ 25 by decide), wr_ne (show 26 ≠ 24 by decide), up_self (by rw [a3, c]; omega)]
      have : (wr (wr M 24 i.toNat x) 25 i.toNat y) 26 = M 26 := by rw [wr_ne (by decide), wr_ne (by decide)]
      rw [← this, ml_id]
    rw [e9]
    exact s5
  · rw [if_neg c, zltS, if_pos hi]
    have f0 : ∀ x y, wr (wr M 24 i.toNat x) 25 i.toNat y 26 i.toNat = r ((726 + 5 * i) + 3).toNat := fun x y => by rw [wr_ne (by decide), wr_ne (by decide), a3]
    have f1 : ∀ x y z, wr (wr (wr M 24 i.toNat x) 25 i.toNat y) 26 i.toNat z 27 i.toNat = r ((726 + 5 * i) + 4).toNat := fun x y z => by rw [wr_ne (by decide), wr_ne (by decide), wr_ne (by decide), a4]
    have f2 : ∀ x y z, wr (wr (wr M 24 i.toNat x) 25 i.toNat y) 26 i.toNat z 206 0 = ho := fun x y z => by rw [wr_ne (by decide), wr_ne (by decide), wr_ne (by decide), h0]
    rw [show 22 + 5 = 27 from rfl, show 22 + 4 = 26 from rfl, f0, f1, f2, if_pos (by omega), if_pos (by omega), zltS, q_cell, zbS, if_pos (by omega), zltS]
    refine ⟨_, rfl, ?_, Kp_wr (Kp_wr (Kp_wr (Kp_wr (Kp_wr Kp_id (by omega)) (by omega)) (by omega)) (by omega)) (by omega)⟩
    refine ST_w hS ?_ (by rw [wr_ne (by decide), wr_ne (by decide), wr_ne (by decide), wr_ne (by decide), wr_ne (by decide)]) (fun x hx => by unfold noteF; rw [up_ne (by omega), up_ne (by omega), up_ne (by omega), up_ne (by omega), up_ne (by omega)])
    rw [show r ((726 + 5 * i) + 3).toNat + 1 = r ((726 + 5 * i) + 3).toNat + cr by omega]
    exact s5
theorem q_warm {B : Int} {M : Mem} {r : Row} (hS : ST M 1 r) (W : WF1 B r) {h : Int} (hh : 0 ≤ h ∧ h < 16) : ∃ M', f_X0_warm 14 h (M 2 5) M = some (0, M') ∧ ST M' 1 (warmF r h) ∧ Kp 1 28 M M' := by
  have hb := WF1_heat W hh.1 hh.2
  have hw := WF1_warm W
  have a1 := hS.1.heat hh.1 hh.2
  have a2 : M 2 5 = enc false (r 861) := hS.1.num (p := 5) (by omega) (by omega)
  simp only [enc, Bool.false_eq_true, if_false, Nat.reduceAdd] at a1 a2
  unfold f_X0_warm
  rw [if_pos hh, show 14 + 2 = 16 from rfl, a1, a2, if_pos (by omega), zltS]
  refine ⟨_, rfl, ?_, Kp_wr Kp_id (by omega)⟩
  exact ST_w hS (ST0.heat_w hS.1 hh.1 hh.2 rfl) (wr_ne (by decide)) (fun x hx => up_ne (by omega))
set_option maxRecDepth 20000 in
theorem q_sent_l {r : Row} {S N : Nat} (hN : r 863 = N) (h8 : N ≤ 8) : ∀ (d v F : Nat) (M : Mem), v + d = N → d < F → ST M 1 (snt r S v) → (∀ x, x < 8 → M 209 x = tb S x) → ∃ M', f_X7_noteRequest_b36 1 F v M = some (0, M') ∧ ST M' 1 (snt r S N) ∧ Kp 1 28 M M' := by
  intro d
  induction d with
  | zero =>
    intro v F M h1 h2 hS h9
    obtain ⟨F, rfl⟩ : ∃ k, F = k + 1 := ⟨F - 1, by omega⟩
    obtain rfl : v = N := by omega
    have a1 := hS.1.np
    rw [snt_o (by omega) (by omega), hN] at a1
    unfold f_X7_noteRequest_b36
    rw [if_pos (by omega), if_pos (by omega), if_pos (by omega)]
    exact ⟨M, rfl, hS, Kp_id⟩
  | succ d ih =>
    intro v F M h1 h2 hS h9
    obtain ⟨F, rfl⟩ : ∃ k, F = k + 1 := ⟨F - 1, by omega⟩
    have a1 := hS.1.np
    rw [snt_o (by omega) (by omega), hN] at a1
    have hv : 0 ≤ (v : Int) ∧ (v : Int) < 8 := by omega
    have a2 := hS.1.sent hv.1 hv.2
    simp only [enc, Bool.false_eq_true, if_false, Nat.reduceAdd] at a2
    have a3 : M 209 (v : Int).toNat = tb S v := h9 v (by omega)
    have ht := tb_b S v
    unfold f_X7_noteRequest_b36 f_X7_noteRequest_b72
    rw [if_pos (by omega), if_pos (by omega), if_neg (by omega), if_pos hv, a3, if_pos (by omega), show 1 + 7 = 8 from rfl, a2]
    by_cases c : tb S v = 0
    · rw [if_pos c]
      obtain ⟨M', i1, i2, i3⟩ := ih (v + 1) F M (by omega) (by omega) (by rw [snt_s, up_self (by omega)]; exact hS) h9
      push_cast at i1
      exact ⟨M', i1, i2, i3⟩
    · rw [if_neg c, zltS]
      obtain ⟨M', i1, i2, i3⟩ := ih (v + 1) F (wr M 8 (v : Int).toNat (snt r S v ((0 + 4 * (v : Int)) + 3).toNat + 1)) (by omega) (by omega) (by
        rw [snt_s, show tb S v = 1 by omega]
        exact ST_w hS (ST0.sent_w hS.1 hv.1 hv.2 rfl) (wr_ne (by decide)) (fun x hx => up_ne (by omega))) (fun x hx => by rw [wr_ne (by decide)]; exact h9 x hx)
      push_cast at i1
      exact ⟨M', i1, i2, Kp_tr (Kp_wr Kp_id (by omega)) i3⟩
theorem noteF_wf1 {B : Int} {r : Row} (W : WF1 B r) {i h ho cr : Int} (hi : 0 ≤ i ∧ i < 6) (hh : 0 ≤ h ∧ h < 16) (hho : 0 ≤ ho ∧ ho ≤ 200) : WF1 B (noteF r i h ho cr) := by
  have hat := WF1_at W hh.1 hh.2
  have hm := WF1_most W hi.1 hi.2
  have W1 := WF1_reqs_w W hi.1 hi.2 (v := r ((726 + 5 * i) + 1).toNat + 1)
  have W2 := WF1_hops_w W1 hi.1 hi.2 (v := r ((726 + 5 * i) + 2).toNat + ho)
  have W3 := WF1_cries_w W2 hi.1 hi.2 (v := r ((726 + 5 * i) + 3).toNat + cr)
  have W4 := WF1_most_w W3 hi.1 hi.2 (v := imax (r ((726 + 5 * i) + 4).toNat) ho) (by unfold imax; split <;> omega)
  exact WF1_mem_w W4 hi.1 hi.2 hh.1 hh.2 (by rw [up_ne (by omega), up_ne (by omega), up_ne (by omega), up_ne (by omega)]; exact hat)
theorem warmF_wf1 {B : Int} {r : Row} (W : WF1 B r) {h : Int} (hh : 0 ≤ h ∧ h < 16) : WF1 B (warmF r h) := by
  have h1 := WF1_heat W hh.1 hh.2
  have h2 := WF1_warm W
  exact WF1_heat_w W hh.1 hh.2 (by unfold imin; split <;> omega)
theorem snt_wf1 {B : Int} {r : Row} (W : WF1 B r) {S : Nat} : ∀ v : Nat, v ≤ 8 → WF1 B (snt r S v) := by
  intro v
  induction v with
  | zero => intro _; rw [snt_0]; exact W
  | succ v ih => intro hv; rw [snt_s]; exact WF1_sent_w (ih (by omega)) (by omega) (by omega)
theorem noteF_o {r : Row} {i h ho cr : Int} {j : Nat} (hi : 0 ≤ i ∧ i < 6) (hh : 0 ≤ h ∧ h < 16) (hj : j < 727 ∨ 852 ≤ j) : noteF r i h ho cr j = r j := by
  unfold noteF
  rw [up_ne (by omega), up_ne (by omega), up_ne (by omega), up_ne (by omega), up_ne (by omega)]
theorem rchF_o {r : Row} {i h ho cr : Int} {S N j : Nat} (hi : 0 ≤ i ∧ i < 6) (hh : 0 ≤ h ∧ h < 16) (hN : N ≤ 8) (hj : (32 ≤ j ∨ j % 4 ≠ 3) ∧ j ≠ (432 + h).toNat ∧ (j < 727 ∨ 852 ≤ j) ∧ j ≠ 869 ∧ j ≠ 870) : rchF r i h ho cr S N j = r j := by
  unfold rchF
  rw [snt_o hN hj.1]
  unfold sumsF warmF
  rw [up_ne hj.2.2.2.2, up_ne hj.2.2.2.1, up_ne hj.2.1, noteF_o hi hh hj.2.2.1]
theorem rchF_wf {B : Int} {r : Row} (W : WF B r) {i h ho cr : Int} {S N : Nat} (hi : 0 ≤ i ∧ i < r 865) (hh : 0 ≤ h ∧ h < 16) (hho : 0 ≤ ho ∧ ho ≤ 200) (hN : N ≤ 8) : WF B (rchF r i h ho cr S N) := by
  have hnr := WF1_nr W.1
  have hn := WF1_n W.1
  have hi6 : 0 ≤ i ∧ i < 6 := by omega
  have o : ∀ j, ((32 ≤ j ∨ j % 4 ≠ 3) ∧ j ≠ (432 + h).toNat ∧ (j < 727 ∨ 852 ≤ j) ∧ j ≠ 869 ∧ j ≠ 870) → rchF r i h ho cr S N j = r j := fun j hj => rchF_o hi6 hh hN hj
  obtain ⟨⟨u1, u2, u3, rk, u4⟩, ⟨t1, t2, t3, t4⟩⟩ := W.2
  have val : ∀ x : Int, 0 ≤ x → x < 6 → ∀ y : Int, 1 ≤ y → y ≤ 3 → rchF r i h ho cr S N ((726 + 5 * x) + y).toNat = if x = i then (if y = 1 then r ((726 + 5 * i) + 1).toNat + 1 else if y = 2 then r ((726 + 5 * i) + 2).toNat + ho else r ((726 + 5 * i) + 3).toNat + cr) else r ((726 + 5 * x) + y).toNat := by
    intro x x0 x1 y y1 y3
    unfold rchF
    rw [snt_o hN (by omega)]
    unfold sumsF warmF
    rw [up_ne (by omega), up_ne (by omega), up_ne (by omega)]
    unfold noteF
    rw [up_ne (by omega), up_ne (by omega)]
    by_cases e : x = i
    · rw [if_pos e, e]
      by_cases c1 : y = 1
      · rw [c1, up_ne (by omega), up_ne (by omega), up_eq, if_pos rfl]
      · rw [if_neg c1]
        by_cases c2 : y = 2
        · rw [c2, up_ne (by omega), up_eq, if_pos rfl]
        · rw [if_neg c2, show y = 3 by omega, up_eq]
    · rw [if_neg e, up_ne (by omega), up_ne (by omega), up_ne (by omega)]
  refine ⟨?_, ⟨fun x y p0 p1 y0 y1 => ?_, fun x y p0 p1 y0 y1 => ?_, fun x y p0 p1 y0 y1 => ?_, ⟨rk, fun x y p0 p1 y0 y1 => ?_⟩⟩, ?_, ?_, ?_, fun x x0 x1 => ?_⟩
  · exact snt_wf1 (WF1_870_w (WF1_869_w (warmF_wf1 (noteF_wf1 W.1 hi6 hh hho) hh))) N hN
  · rw [o _ (by omega), o _ (by omega), o _ (by omega)]; exact u1 x y p0 p1 y0 y1
  · rw [o _ (by omega), o _ (by omega)]; exact u2 x y p0 p1 y0 y1
  · rw [o _ (by omega)] at p0
    rw [o _ (by omega), o _ (by omega)]; exact u3 x y p0 p1 y0 y1
  · rw [o _ (by omega)]; exact u4 x y p0 p1 y0 y1
  · rw [o _ (by omega), t1]; exact sumN_congr (fun x hx => (o _ (by omega)).symm)
  · have e1 : rchF r i h ho cr S N 869 = r 869 + 1 := by
      unfold rchF
      rw [snt_o hN (by omega)]
      unfold sumsF warmF
      rw [up_ne (by omega), up_eq, up_ne (by omega), noteF_o hi6 hh (by omega)]
    rw [e1, t2, sumN_upd (k := i.toNat) (g := fun x : Nat => r ((726 + 5 * (x : Int)) + 1).toNat) (g' := fun x : Nat => rchF r i h ho cr S N ((726 + 5 * (x : Int)) + 1).toNat) (by omega) (fun x hx hne => by rw [val x (by omega) (by omega) 1 (by decide) (by decide), if_neg (by omega)])]
    have e2 : ((i.toNat : Nat) : Int) = i := by omega
    rw [e2, val i hi6.1 hi6.2 1 (by decide) (by decide), if_pos rfl, if_pos rfl]
    omega
  · have e1 : rchF r i h ho cr S N 870 = r 870 + cr := by
      unfold rchF
      rw [snt_o hN (by omega)]
      unfold sumsF warmF
      rw [up_eq, up_ne (by omega), noteF_o hi6 hh (by omega)]
    rw [e1, t3, sumN_upd (k := i.toNat) (g := fun x : Nat => r ((726 + 5 * (x : Int)) + 3).toNat) (g' := fun x : Nat => rchF r i h ho cr S N ((726 + 5 * (x : Int)) + 3).toNat) (by omega) (fun x hx hne => by rw [val x (by omega) (by omega) 3 (by decide) (by decide), if_neg (by omega)])]
    have e2 : ((i.toNat : Nat) : Int) = i := by omega
    rw [e2, val i hi6.1 hi6.2 3 (by decide) (by decide), if_pos rfl, if_neg (by decide), if_neg (by decide)]
    omega
  · rw [o _ (by omega)] at x0
    rw [val x (by omega) (by omega) 1 (by decide) (by decide), val x (by omega) (by omega) 3 (by decide) (by decide), if_neg (by omega), if_neg (by omega)]
    exact t4 x x0 x1

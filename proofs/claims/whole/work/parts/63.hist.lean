/-! what holds between the class's memory M and the model's Q behind every call -/
def seg (r : Row) (x : Nat) : Row := fun j => r (x + j)
theorem ST_row {M : Mem} {b : Nat} {r r' : Row} (h : ST M b r) (hr : ∀ j, j < 871 → r' j = r j) : ST M b r' :=
  ⟨ST0_to h.1 (fun _ _ _ => rfl) hr, fun p p0 p1 => by rw [h.2 p p0 p1]; exact (cntAt_c (fun i hi => hr _ (by omega))).symm⟩
theorem WF_row {B : Int} {r r' : Row} (W : WF B r) (hr : ∀ j, j < 871 → r' j = r j) : WF B r' := by
  have hn := WF1_n W.1
  have hnr := WF1_nr W.1
  refine ⟨fun j hj => by rw [hr 863 (by decide), hr j hj]; exact W.1 j hj, WF2_c (by omega) (fun j hj => hr j (by omega)) W.2.1, ?_⟩
  obtain ⟨t1, t2, t3, t4⟩ := W.2.2
  refine ⟨?_, ?_, ?_, fun x x0 x1 => ?_⟩
  · rw [hr _ (by omega), t1]; exact sumN_congr (fun x hx => (hr _ (by omega)).symm)
  · rw [hr _ (by omega), t2]; exact sumN_congr (fun x hx => (hr _ (by omega)).symm)
  · rw [hr _ (by omega), t3]; exact sumN_congr (fun x hx => (hr _ (by omega)).symm)
  · rw [hr _ (by omega)] at x0
    rw [hr _ (by omega), hr _ (by omega)]; exact t4 x x0 x1
theorem WF_B {B B' : Int} {r : Row} (W : WF B r) (h : B ≤ B') : WF B' r := ⟨WF1_upB W.1 h, W.2⟩
/-- a state of the class and its row -/
def SW (B : Int) (M : Mem) (b : Nat) (r : Row) : Prop := ST M b r ∧ WF B r ∧ r 862 ≤ 9999
theorem SW_row {B : Int} {M : Mem} {b : Nat} {r r' : Row} (h : SW B M b r) (hr : ∀ j, j < 871 → r' j = r j) : SW B M b r' := ⟨ST_row h.1 hr, WF_row h.2.1 hr, by rw [hr 862 (by decide)]; exact h.2.2⟩
theorem SW_to {B B' : Int} {M M' : Mem} {b : Nat} {r : Row} (h : SW B M b r) (hB : B ≤ B') (hM : ∀ x, b ≤ x → x < b + 28 → M' x = M x) : SW B' M' b r :=
  ⟨⟨ST0_to h.1.1 (fun o ho _ => hM _ (by omega) (by omega)) (fun _ _ => rfl), fun p p0 p1 => by rw [hM _ (by omega) (by omega)]; exact h.1.2 p p0 p1⟩, WF_B h.2.1 hB, h.2.2⟩
def HI (B : Int) (M Q : Mem) (h o : Nat) : Prop := M 88 0 = h ∧ M 88 1 = o ∧ h ≤ 4 ∧ o < 4 ∧ Q 215 1 = h ∧ ∀ k, k < h → SW B M (90 + 29 * ((o + k) % 4)) (seg (Q 216) (871 * (k + 1)))
def SI (B : Int) (M Q : Mem) : Prop := M 0 6 = Q 215 2 ∧ (Q 215 2 = 0 ∨ (Q 215 2 = 1 ∧ SW B M 59 (seg (Q 216) 4355)))
def XI (M Q : Mem) : Prop := ∃ n c, TX M n c ∧ TQ Q n c
def Inv2 (B : Int) (M Q : Mem) : Prop := 0 ≤ B ∧ SW B M 1 (Q 216) ∧ (∃ h o, HI B M Q h o) ∧ SI B M Q ∧ XI M Q
/-- the model lays its row down before a change -/
theorem p_rec4 {Q : Mem} {r : Row} (hQ : Q 216 = r) (h1 : Q 215 1 = 4) : ∃ r', f_X10_record Q = some (0, wr (ml (wr Q 215 1 3) 216 r') 215 1 4) ∧ (∀ j, j < 871 → r' j = r j) ∧ (∀ j, 4355 ≤ j → r' j = r j) ∧ (∀ j, 871 ≤ j → j < 3484 → r' j = r (j + 871)) ∧ ∀ j, 3484 ≤ j → j < 4355 → r' j = r (j - 3484) := by
  refine ⟨cpR (cpR (cpR (cpR r 1742 871 871) 2613 1742 871) 3484 2613 871) 0 3484 871, ?_, fun j hj => ?_, fun j hj => ?_, fun j hj hj2 => ?_, fun j hj hj2 => ?_⟩
  · have c1 := p_copy (M := Q) (x := 1742) (c := 871) (by decide) (by decide) (by decide)
    rw [hQ] at c1
    have c2 := p_copy (M := ml Q 216 (cpR r 1742 871 871)) (x := 2613) (c := 1742) (by decide) (by decide) (by decide)
    rw [ml_eq, ml_ml] at c2
    have c3 := p_copy (M := ml Q 216 (cpR (cpR r 1742 871 871) 2613 1742 871)) (x := 3484) (c := 2613) (by decide) (by decide) (by decide)
    rw [ml_eq, ml_ml] at c3
    have c4 := p_copy (M := wr (ml Q 216 (cpR (cpR (cpR r 1742 871 871) 2613 1742 871) 3484 2613 871)) 215 1 3) (x := 0) (c := 3484) (by decide) (by decide) (by decide)
    have e4 : wr (ml Q 216 (cpR (cpR (cpR r 1742 871 871) 2613 1742 871) 3484 2613 871)) 215 1 3 216 = cpR (cpR (cpR r 1742 871 871) 2613 1742 871) 3484 2613 871 := by rw [wr_ne (by decide), ml_eq]
    rw [e4] at c4
    have step : ∀ F : Nat, f_X10_record_b10 (F + 4) 1 Q = f_X10_record_b49 (wr (ml Q 216 (cpR (cpR (cpR r 1742 871 871) 2613 1742 871) 3484 2613 871)) 215 1 3) := by
      intro F
      unfold f_X10_record_b10
      rw [if_pos (by decide), if_neg (by decide), show (871 : Int) + 871 * 1 = ((1742 : Nat) : Int) from rfl, show (871 : Int) * 1 = ((871 : Nat) : Int) from rfl, c1, zbS]
      unfold f_X10_record_b10
      rw [if_pos (by decide), if_neg (by decide), show (871 : Int) + 871 * (1 + 1) = ((2613 : Nat) : Int) from rfl, show (871 : Int) * (1 + 1) = ((1742 : Nat) : Int) from rfl, c2, zbS]
      unfold f_X10_record_b10
      rw [if_pos (by decide), if_neg (by decide), show (871 : Int) + 871 * (1 + 1 + 1) = ((3484 : Nat) : Int) from rfl, show (871 : Int) * (1 + 1 + 1) = ((2613 : Nat) : Int) from rfl, c3, zbS]
      unfold f_X10_record_b10
      rw [if_pos (by decide), if_pos (by decide), zltS, ml_ne (show 215 ≠ 216 by decide), h1]
      rfl
    unfold f_X10_record
    rw [h1, if_pos (by decide), if_pos rfl, show (100000 : Nat) = 99996 + 4 from rfl, step]
    unfold f_X10_record_b49
    have e5 : wr (ml Q 216 (cpR (cpR (cpR r 1742 871 871) 2613 1742 871) 3484 2613 871)) 215 1 3 215 1 = 3 := by rw [wr_eq, up_eq]
    rw [e5, show (871 : Int) + 871 * 3 = ((3484 : Nat) : Int) from rfl, show (0 : Int) = ((0 : Nat) : Int) from rfl, c4, zbS, zltS, ml_ne (show 215 ≠ 216 by decide), e5]
    have hfin : wr (ml (wr (ml Q 216 (cpR (cpR (cpR r 1742 871 871) 2613 1742 871) 3484 2613 871)) 215 1 3) 216 (cpR (cpR (cpR (cpR r 1742 871 871) 2613 1742 871) 3484 2613 871) 0 3484 871)) 215 1 (3 + 1) = wr (ml (wr Q 215 1 3) 216 (cpR (cpR (cpR (cpR r 1742 871 871) 2613 1742 871) 3484 2613 871) 0 3484 871)) 215 1 4 := by
      funext x
      by_cases e : x = 216
      · rw [e, wr_ne (by decide), wr_ne (by decide), ml_eq, ml_eq]
      · by_cases e2 : x = 215
        · rw [e2, wr_eq, wr_eq, ml_ne (by decide), ml_ne (by decide), wr_eq, wr_eq, ml_ne (by decide)]
          rfl
        · rw [wr_ne e2, wr_ne e2, ml_ne e, ml_ne e, wr_ne e2, wr_ne e2, ml_ne e]
    rw [hfin]
  · unfold cpR
    rw [if_neg (by omega), if_neg (by omega), if_neg (by omega), if_neg (by omega)]
  · unfold cpR
    rw [if_neg (by omega), if_neg (by omega), if_neg (by omega), if_neg (by omega)]
  · by_cases s1 : j < 1742
    · unfold cpR
      rw [if_neg (by omega), if_neg (by omega), if_neg (by omega), if_pos (by omega), show 1742 + (j - 871) = j + 871 by omega]
    · by_cases s2 : j < 2613
      · unfold cpR
        rw [if_neg (by omega), if_neg (by omega), if_pos (by omega), if_neg (by omega), show 2613 + (j - 1742) = j + 871 by omega]
      · unfold cpR
        rw [if_neg (by omega), if_pos (by omega), if_neg (by omega), if_neg (by omega), show 3484 + (j - 2613) = j + 871 by omega]
  · unfold cpR
    rw [if_pos (by omega), if_neg (by omega), if_neg (by omega), if_neg (by omega), show 0 + (j - 3484) = j - 3484 by omega]
theorem p_rec {Q : Mem} {r : Row} (hQ : Q 216 = r) {h : Nat} (h1 : Q 215 1 = h) (h4 : h < 4) : ∃ r', f_X10_record Q = some (0, wr (ml Q 216 r') 215 1 ((h : Int) + 1)) ∧ (∀ j, j < 871 * (h + 1) → r' j = r j) ∧ (∀ j, 871 * (h + 1) + 871 ≤ j → r' j = r j) ∧ ∀ j, j < 871 → r' (871 * (h + 1) + j) = r j := by
  refine ⟨cpR r 0 (871 * (h + 1)) 871, ?_, fun j hj => ?_, fun j hj => ?_, fun j hj => ?_⟩
  · have c1 := p_copy (M := Q) (x := 0) (c := 871 * (h + 1)) (by decide) (by omega) (by omega)
    rw [hQ] at c1
    unfold f_X10_record f_X10_record_b49
    rw [h1, if_pos (by omega), if_neg (by omega), show (871 : Int) + 871 * (h : Int) = ((871 * (h + 1) : Nat) : Int) by omega, show (0 : Int) = ((0 : Nat) : Int) from rfl, c1, zbS, zltS, ml_ne (show 215 ≠ 216 by decide), h1]
  · unfold cpR
    rw [if_neg (by omega)]
  · unfold cpR
    rw [if_neg (by omega)]
  · unfold cpR
    rw [if_pos (by omega), show 0 + (871 * (h + 1) + j - 871 * (h + 1)) = j by omega]

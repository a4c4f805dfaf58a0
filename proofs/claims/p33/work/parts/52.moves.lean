/-- the places of a row that a herd's days look at -/
abbrev Hp (j : Nat) : Prop := j < 32 ∨ (416 ≤ j ∧ j < 464) ∨ (852 ≤ j ∧ j < 864)
theorem disF_c {B : Int} {r r' : Row} (W : WF1 B r) (h : ∀ j, Hp j → r' j = r j) {p : Int} (hp : 0 ≤ p ∧ p < 8) : disF r' p = disF r p := by
  unfold disF
  rw [slatF_c ⟨B, W⟩ (fun j a1 a2 => h j (by omega)), h _ (by omega)]
theorem lokF_c {B : Int} {r r' : Row} (W : WF1 B r) (h : ∀ j, Hp j → r' j = r j) {y : Int} (hy : 0 ≤ y ∧ y < 16) : ∀ n : Nat, n ≤ 8 → lokF r' y n = lokF r y n := by
  intro n
  induction n with
  | zero => intro _; rfl
  | succ n ih =>
    intro hn
    have h1 := lok_ok (r := r) (h := y) n
    rw [lokF_s, lokF_s, ih (by omega), h _ (show Hp (416 + y).toNat by omega), h _ (show Hp ((0 + 4 * (n : Int)) + 1).toNat by omega), cntAt_c (r := r) (fun i hi => h _ (by omega)), disF_c W h (p := (n : Int)) (by omega)]
    by_cases c : lokF r y n = -5
    · rw [c]
      simp
    · rw [disF_c W h (p := lokF r y n) (by omega)]
theorem goF_c {r r' : Row} (h : ∀ j, Hp j → r' j = r j) {y q : Int} (hy : 0 ≤ y ∧ y < 16) (hq : 0 ≤ q ∧ q < 8) (ha : 0 ≤ r (416 + y).toNat ∧ r (416 + y).toNat < 8) : ∀ j, Hp j → goF r' y q j = goF r y q j := by
  intro j hj
  have h1 := h (416 + y).toNat (by omega)
  have h2 := h (448 + y).toNat (by omega)
  unfold goF
  rw [h1]
  by_cases e1 : j = (448 + y).toNat
  · subst e1
    rw [up_ne (by omega), up_eq, up_ne (by omega), up_eq, h2]
  · rw [up_ne (show j ≠ 866 by omega), up_ne e1, up_ne (show j ≠ 866 by omega), up_ne e1]
    by_cases e2 : j = (416 + y).toNat
    · subst e2
      rw [up_eq, up_eq]
    · rw [up_ne e2, up_ne (by omega), up_ne (by omega), up_ne (by omega), up_ne e2, up_ne (by omega), up_ne (by omega), up_ne (by omega)]
      exact h j hj
theorem drvF_c {B B' : Int} {o : Nat → Int} {N : Nat} {r r' : Row} (W : WF B r) (W' : WF B' r') (hN : r 863 = N) (ho : ∀ i, i < 16 → 0 ≤ o i ∧ o i < 16) (h : ∀ j, Hp j → r' j = r j) : ∀ n : Nat, n ≤ 16 → (drvF o N r' n).2 = (drvF o N r n).2 ∧ ∀ j, Hp j → (drvF o N r' n).1 j = (drvF o N r n).1 j := by
  have hN' : r' 863 = N := by rw [h 863 (by omega), hN]
  have hn8 := WF1_n W.1
  intro n
  induction n with
  | zero => intro _; exact ⟨rfl, h⟩
  | succ n ih =>
    intro hn
    obtain ⟨i1, i2⟩ := ih (by omega)
    obtain ⟨k1, k2, -⟩ := drvF_ok W hN ho n (by omega)
    have hb := ho n (by omega)
    have ha := WF1_at k1.1 hb.1 hb.2
    have hnn : (drvF o N r n).1 863 = N := by rw [k2 863 (by omega) (by omega), hN]
    have hl := lok_ok (r := (drvF o N r n).1) (h := o n) N
    show (drvS o N n (drvF o N r' n)).2 = (drvS o N n (drvF o N r n)).2 ∧ ∀ j, Hp j → (drvS o N n (drvF o N r' n)).1 j = (drvS o N n (drvF o N r n)).1 j
    have e1 : lokF (drvF o N r' n).1 (o n) N = lokF (drvF o N r n).1 (o n) N := lokF_c k1.1 i2 hb N (by omega)
    have e2 : (drvF o N r' n).1 859 = (drvF o N r n).1 859 := i2 859 (by omega)
    have e3 : (drvF o N r' n).1 858 = (drvF o N r n).1 858 := i2 858 (by omega)
    have e4 : (drvF o N r' n).1 (416 + o n).toNat = (drvF o N r n).1 (416 + o n).toNat := i2 _ (by omega)
    have e5 : disF (drvF o N r' n).1 ((drvF o N r n).1 (416 + o n).toNat) = disF (drvF o N r n).1 ((drvF o N r n).1 (416 + o n).toNat) := disF_c k1.1 i2 (by omega)
    unfold drvS
    rw [e1, e2, e3, e4, e5, i1]
    by_cases c1 : (drvF o N r n).1 859 ≤ (drvF o N r n).2
    · rw [if_pos c1, if_pos c1]; exact ⟨i1, i2⟩
    rw [if_neg c1, if_neg c1]
    by_cases c2 : lokF (drvF o N r n).1 (o n) N = -5
    · rw [if_pos c2, if_pos c2]; exact ⟨i1, i2⟩
    have hl2 : 0 ≤ lokF (drvF o N r n).1 (o n) N ∧ lokF (drvF o N r n).1 (o n) N < 8 := by omega
    rw [if_neg c2, if_neg c2, disF_c k1.1 i2 hl2]
    by_cases c3 : disF (drvF o N r n).1 ((drvF o N r n).1 (416 + o n).toNat) - disF (drvF o N r n).1 (lokF (drvF o N r n).1 (o n) N) < (drvF o N r n).1 858
    · rw [if_pos c3, if_pos c3]; exact ⟨i1, i2⟩
    rw [if_neg c3, if_neg c3]
    exact ⟨rfl, goF_c i2 hb hl2 (by omega)⟩
/-- a day of the herd alone -/
def hdF (o : Nat → Int) (N : Nat) (r : Row) : Row := nxt (drvF o N (coolF r 16) 16).1
theorem q_hday {B : Int} {b N : Nat} {M : Mem} {r : Row} (hS : ST M b r) (W : WF B r) (hN : r 863 = N) : ∃ o M', Srt (coolF r 16) o 16 ∧ f_X7_passDayOfHerd b M = some (0, M') ∧ ST M' b (hdF o N r) ∧ Kp b 29 M M' := by
  obtain ⟨M1, a1, a2, a3⟩ := q_cool hS W.1
  obtain ⟨o, M4, d0, d1, d2, d3⟩ := q_herd (N := N) a2 (coolF_wf W) (by rw [coolF_h (by omega), hN])
  refine ⟨o, wr M4 b 0 (M4 b 0 + 1), d0, ?_, ?_, Kp_wr (Kp_tr (Kp_mo a3 (by decide)) d3) (by omega)⟩
  · unfold f_X7_passDayOfHerd
    rw [a1, zbS, d1, zbS, zltS]
  · have h6 : M4 b 0 = _ := d2.1.day
    exact ST_nxt d2 (by rw [h6])
theorem hdF_ok {B : Int} {o : Nat → Int} {r : Row} (W : WF B r) {N : Nat} (hN : r 863 = N) (ho : Srt (coolF r 16) o 16) (hd : r 862 < 10100) : WF (B + 16) (hdF o N r) ∧ hdF o N r 863 = r 863 ∧ hdF o N r 862 = r 862 + 1 := by
  have hN2 : coolF r 16 863 = N := by rw [coolF_h (by omega), hN]
  obtain ⟨g1, g2, g3, g4, g5⟩ := drvF_ok (o := o) (coolF_wf W) hN2 ho.1 16 (by decide)
  have e1 : (drvF o N (coolF r 16) 16).1 862 = r 862 := by rw [g2 862 (by omega) (by omega), coolF_h (by omega)]
  refine ⟨nxt_wf g1 (by rw [e1]; exact hd), ?_, ?_⟩
  · unfold hdF nxt
    rw [up_ne (by omega), g2 863 (by omega) (by omega), coolF_h (by omega)]
  · unfold hdF nxt
    rw [up_eq, e1]
theorem day_c {B B' : Int} {o : Nat → Int} {N Nw : Nat} {r s : Row} (W : WF B r) (W' : WF B' s) (hN : r 863 = N) (h3 : Nw ≤ 3) (ho : Srt (coolF r 16) o 16) (h : ∀ j, Hp j → s j = r j) : ∀ j, Hp j → hdF o N s j = dayF o N Nw r j := by
  have hn := WF1_n W.1
  obtain ⟨k1, k2, k3⟩ := dayR_ok W (N := N) (Nw := Nw) (by omega) h3
  have h1 : ∀ j, Hp j → coolF s 16 j = dayR N Nw r j := by
    intro j hj
    by_cases c : 432 ≤ j ∧ j < 448
    · rw [k3 j c.1 c.2]
      unfold coolF
      rw [h j hj]
    · rw [coolF_h (by omega), k2 j (by omega) (by omega) (by omega)]
      exact h j hj
  have h2 := drvF_c (o := o) (N := N) k1 (coolF_wf W') (by rw [k2 863 (by omega) (by omega) (by omega), hN]) ho.1 h1 16 (by decide)
  intro j hj
  unfold hdF dayF nxt
  by_cases c : j = 862
  · rw [c, up_eq, up_eq, dayP_o (by omega) (by omega), h2.2 862 (by omega)]
  · rw [up_ne c, up_ne c, h2.2 j hj]
    by_cases c2 : j < 32 ∨ 160 ≤ j
    · rw [dayP_o (by omega) c2]
    · omega

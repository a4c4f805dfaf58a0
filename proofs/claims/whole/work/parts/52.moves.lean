/-- the places of a row that a herd's days look at -/
abbrev Hp (j : Nat) : Prop := j < 32 ∨ (416 ≤ j ∧ j < 464) ∨ (852 ≤ j ∧ j < 864)
theorem disF_c {B : Int} {r r' : Row} (W : WF1 B r) (h : ∀ j, Hp j → r' j = r j) {p : Int} (hp : 0 ≤ p ∧ p < 8) : disF r' p = disF r p := by
  unfold disF
  rw [slatF_c ⟨B, W⟩ (fun j a1 a2 => h j (by omega)), h _ (by omega)]
theorem lokF_c {B : Int} {r r' : Row} (W : WF1 B r) (h : ∀ j, Hp j → r' j = r j) {y : Int} (hy : 0 ≤ y ∧ y < 16) : ∀ n : Nat, n ≤ 8 → lokF r' y n = lokF r y n := by
  intro n
  induction n with
  | zero => intro _; rfl
  | succ n ih =>
    intro hn
    have h1 := lok_ok (r := r) (h := y) n
    rw [lokF_s, lokF_s, ih (by omega), h _ (show Hp (416 + y).toNat by omega), h _ (show Hp ((0 + 4 * (n : Int)) + 1).toNat by omega), cntAt_c (r := r) (fun i hi => h _ (by omega)), disF_c W h (p := (n : Int)) (by omega)]
    by_cases c : lokF r y n = -5
    · rw [c]
      simp
    · rw [disF_c W h (p := lokF r y n) (by omega)]
theorem goF_c {r r' : Row} (h : ∀ j, Hp j → r' j = r j) {y q : Int} (hy : 0 ≤ y ∧ y < 16) (hq : 0 ≤ q ∧ q < 8) (ha : 0 ≤ r (416 + y).toNat ∧ r (416 + y).toNat < 8) : ∀ j, Hp j → goF r' y q j = goF r y q j := by
  intro j hj
  have h1 := h (416 + y).toNat (by omega)
  have h2 := h (448 + y).toNat (by omega)
  unfold goF
  rw [h1]
  by_cases e1 : j = (448 + y).toNat
  · subst e1
    rw [up_ne (by omega), up_eq, up_ne (by omega), up_eq, h2]
  · rw [up_ne (show j ≠ 866 by omega), up_ne e1, up_ne (show j ≠ 866 by omega), up_ne e1]
    by_cases e2 : j = (416 + y).toNat
    · subst e2
      rw [up_eq, up_eq]
    · rw [up_ne e2, up_ne (by omega), up_ne (by omega), up_ne (by omega), up_ne e2, up_ne (by omega), up_ne (by omega), up_ne (by omega)]
      exact h j hj
theorem drvF_c {B B' : Int} {o : Nat → Int} {N : Nat} {r r' : Row} (W : WF B r) (W' : WF B' r') (hN : r 863 = N) (ho : ∀ i, i < 16 → 0 ≤ o i ∧ o i < 16) (h : ∀ j, Hp j → r' j = r j) : ∀ n : Nat, n ≤ 16 → (drvF o N r' n).2 = (drvF o N r n).2 ∧ ∀ j, Hp j → (drvF o N r' n).1 j = (drvF o N r n).1 j := by
  have hN' : r' 863 = N := by rw [h 863 (by omega), hN]
  have hn8 := WF1_n W.1
  intro n
  induction n with
  | zero => intro _; exact ⟨rfl, h⟩
  | succ n ih =>
    intro hn
    obtain ⟨i1, i2⟩ := ih (by omega)
    obtain ⟨k1, k2, -⟩ := drvF_ok W hN ho n (by omega)
    have hb := ho n (by omega)
    have ha := WF1_at k1.1 hb.1 hb.2
    have hnn : (drvF o N r n).1 863 = N := by rw [k2 863 (by omega) (by omega), hN]
    have hl := lok_ok (r := (drvF o N r n).1) (h := o n) N
    show (drvS o N n (drvF o N r' n)).2 = (drvS o N n (drvF o N r n)).2 ∧ ∀ j, Hp j → (drvS o N n (drvF o N r' n)).1 j = (drvS o N n (drvF o N r n)).1 j
    have e1 : lokF (drvF o N r' n).1 (o n) N = lokF (drvF o N r n).1 (o n) N := lokF_c k1.1 i2 hb N (by omega)
    have e2 : (drvF o N r' n).1 859 = (drvF o N r n).1 859 := i2 859 (by omega)
    have e3 : (drvF o N r' n).1 858 = (drvF o N r n).1 858 := i2 858 (by omega)
    have e4 : (drvF o N r' n).1 (416 + o n).toNat = (drvF o N r n).1 (416 + o n).toNat := i2 _ (by omega)
    have e5 : disF (drvF o N r' n).1 ((drvF o N r n).1 (416 + o n).toNat) = disF (drvF o N r n).1 ((drvF o N r n).1 (416 + o n).toNat) := disF_c k1.1 i2 (by omega)
    unfold drvS
    rw [e1, e2, e3, e4, e5, i1]
    by_cases c1 : (drvF o N r n).1 859 ≤ (drvF o N r n).2
    · rw [if_pos c1, if_pos c1]; exact ⟨i1, i2⟩
    rw [if_neg c1, if_neg c1]
    by_cases c2 : lokF (drvF o N r n).1 (o n) N = -5
    · rw [if_pos c2, if_pos c2]; exact ⟨i1, i2⟩
    have hl2 : 0 ≤ lokF (drvF o N r n).1 (o n) N ∧ lokF (drvF o N r n).1 (o n) N < 8 := by omega
    rw [if_neg c2, if_neg c2, disF_c k1.1 i2 hl2]
    by_cases c3 : disF (drvF o N r n).1 ((drvF o N r n).1 (416 + o n).toNat) - disF (drvF o N r n).1 (lokF (drvF o N r n).1 (o n) N) < (drvF o N r n).1 858
    · rw [if_pos c3, if_pos c3]; exact ⟨i1, i2⟩
    rw [if_neg c3, if_neg c3]
    exact ⟨rfl, goF_c i2 hb hl2 (by omega)⟩
/-- a day of the herd alone -/
def hdF (o : Nat → Int) (N : Nat) (r : Row) : Row := nxt (drvF o N (coolF r 16) 16).1
theorem q_hday {B : Int} {b N : Nat} {M : Mem} {r : Row} (hS : ST M b r) (W : WF B r) (hN : r 863 = N) : ∃ o M', Srt (coolF r 16) o 16 ∧ f_X7_passDayOfHerd b M = some (0, M') ∧ ST M' b (hdF o N r) ∧ Kp b 29 M M' := by
  obtain ⟨M1, a1, a2, a3⟩ := q_cool hS W.1
  obtain ⟨o, M4, d0, d1, d2, d3⟩ := q_herd (N := N) a2 (coolF_wf W) (by rw [coolF_h (by omega), hN])
  refine ⟨o, wr M4 b 0 (M4 b 0 + 1), d0, ?_, ?_, Kp_wr (Kp_tr (Kp_mo a3 (by decide)) d3) (by omega)⟩
  · unfold f_X7_passDayOfHerd
    rw [a1, zbS, d1, zbS, zltS]
  · have h6 : M4 b 0 = _ := d2.1.day
    exact ST_nxt d2 (by rw [h6])
theorem hdF_ok {B : Int} {o : Nat → Int} {r : Row} (W : WF B r) {N : Nat} (hN : r 863 = N) (ho : Srt (coolF r 16) o 16) (hd : r 862 < 10100) : WF (B + 16) (hdF o N r) ∧ hdF o N r 863 = r 863 ∧ hdF o N r 862 = r 862 + 1 := by
  have hN2 : coolF r 16 863 = N := by rw [coolF_h (by omega), hN]
  obtain ⟨g1, g2, g3, g4, g5⟩ := drvF_ok (o := o) (coolF_wf W) hN2 ho.1 16 (by decide)
  have e1 : (drvF o N (coolF r 16) 16).1 862 = r 862 := by rw [g2 862 (by omega) (by omega), coolF_h (by omega)]
  refine ⟨nxt_wf g1 (by rw [e1]; exact hd), ?_, ?_⟩
  · unfold hdF nxt
    rw [up_ne (by omega), g2 863 (by omega) (by omega), coolF_h (by omega)]
  · unfold hdF nxt
    rw [up_eq, e1]
theorem day_c {B B' : Int} {o : Nat → Int} {N Nw : Nat} {r s : Row} (W : WF B r) (W' : WF B' s) (hN : r 863 = N) (h3 : Nw ≤ 3) (ho : Srt (coolF r 16) o 16) (h : ∀ j, Hp j → s j = r j) : ∀ j, Hp j → hdF o N s j = dayF o N Nw r j := by
  have hn := WF1_n W.1
  obtain ⟨k1, k2, k3⟩ := dayR_ok W (N := N) (Nw := Nw) (by omega) h3
  have h1 : ∀ j, Hp j → coolF s 16 j = dayR N Nw r j := by
    intro j hj
    by_cases c : 432 ≤ j ∧ j < 448
    · rw [k3 j c.1 c.2]
      unfold coolF
      rw [h j hj]
    · rw [coolF_h (by omega), k2 j (by omega) (by omega) (by omega)]
      exact h j hj
  have h2 := drvF_c (o := o) (N := N) k1 (coolF_wf W') (by rw [k2 863 (by omega) (by omega) (by omega), hN]) ho.1 h1 16 (by decide)
  intro j hj
  unfold hdF dayF nxt
  by_cases c : j = 862
  · rw [c, up_eq, up_eq, dayP_o (by omega) (by omega), h2.2 862 (by omega)]
  · rw [up_ne c, up_ne c, h2.2 j hj]
    by_cases c2 : j < 32 ∨ 160 ≤ j
    · rw [dayP_o (by omega) c2]
    · omega
theorem p_mend {v1 v2 v3 : Int} {Q : Mem} {r : Row} (hQ : Q 216 = r) (hv : 0 ≤ v1 ∧ v1 < 16) (h2 : inR v2) (h3 : inR (r (448 + v1).toNat)) : f_X10_movesIn_b60 v1 v2 v3 Q = some (if r (448 + v1).toNat = v2 then -5 else v3, ml Q 216 (cpR r 5226 0 871)) := by
  have hc := p_copy (M := Q) (x := 5226) (c := 0) (by decide) (by decide) (by decide)
  rw [hQ, show ((5226 : Nat) : Int) = 5226 from rfl, show ((0 : Nat) : Int) = 0 from rfl] at hc
  unfold f_X10_movesIn_b60 f_X10_movesIn_b79 f_X10_movesIn_b100
  rw [if_pos (by omega), hQ, if_pos h3, if_pos h2, hc, zbS, zbS]
  by_cases c : r (448 + v1).toNat = v2
  · rw [if_pos c, if_pos c]; rfl
  · rw [if_neg c, if_neg c]; rfl
set_option maxRecDepth 20000 in
theorem x_moves {v1 v2 : Int} (hv : 0 ≤ v1 ∧ v1 < 16) (h2v : inR v2) : ∀ (d k F : Nat) (B : Int) (M Q : Mem) (r s : Row), k + d = 60 → d < F → ST M 30 s → WF B s → Q 216 = r → WF B r → (∀ j, Hp j → s j = r j) → r 862 + d ≤ 10100 → B + 16 * d ≤ 2147483647 → r (448 + v1).toNat = v2 → ∃ x M' r', f_X9_movesIn_b35 F v1 v2 ((k : Int) + 1) M = some (x, M') ∧ f_X10_movesIn_b30 F v1 v2 k Q = some (x, ml Q 216 (cpR r' 5226 0 871)) ∧ Kp 30 29 M M' ∧ ∀ j, 871 ≤ j → r' j = r j := by
  intro d
  induction d with
  | zero =>
    intro k F B M Q r s h1 h2 hS Ws hQ W hH hd hB hm
    obtain ⟨F, rfl⟩ : ∃ k, F = k + 1 := ⟨F - 1, by omega⟩
    have hb := WF1_mov W.1 hv.1 hv.2
    refine ⟨-5, M, r, ?_, ?_, Kp_id, fun _ _ => rfl⟩
    · unfold f_X9_movesIn_b35
      rw [if_pos (by omega), if_pos (by omega)]
    · unfold f_X10_movesIn_b30
      rw [if_pos (by omega), if_pos (by omega), p_mend hQ hv h2v (by omega), if_pos hm]
  | succ d ih =>
    intro k F B M Q r s h1 h2 hS Ws hQ W hH hd hB hm
    obtain ⟨F, rfl⟩ : ∃ k, F = k + 1 := ⟨F - 1, by omega⟩
    have hb := WF1_mov W.1 hv.1 hv.2
    have hn := WF1_n W.1
    have hw := WF1_nw W.1
    obtain ⟨N, hN⟩ : ∃ N : Nat, r 863 = N := ⟨(r 863).toNat, by omega⟩
    obtain ⟨Nw, hW⟩ : ∃ N : Nat, r 864 = N := ⟨(r 864).toNat, by omega⟩
    have hNs : s 863 = N := by rw [hH 863 (by omega), hN]
    obtain ⟨o, M1, e1, e2, e3, e4⟩ := q_hday hS Ws hNs
    have ho : Srt (coolF r 16) o 16 := Srt_c (by decide) e1 (fun j a1 a2 => by unfold coolF; rw [hH j (by omega)])
    obtain ⟨k1, k2, k3, k4, k5, k6⟩ := dayF_ok W hN (Nw := Nw) (by omega) ho (by omega)
    obtain ⟨s1, s2, s3⟩ := hdF_ok Ws hNs e1 (by rw [hH 862 (by omega)]; omega)
    have hH1 := day_c (Nw := Nw) W Ws hN (by omega) ho hH
    have hp := p_day (M := Q) (B := B) (o := o) (N := N) (Nw := Nw) (by rw [hQ]; exact W) (by rw [hQ]; exact hN) (by rw [hQ]; exact hW) (by rw [hQ]; exact ho) (by rw [hQ]; omega)
    rw [hQ] at hp
    have hb1 := WF1_mov k1.1 hv.1 hv.2
    have a1 : M1 46 v1.toNat = enc false (hdF o N s (448 + v1).toNat) := e3.1.moves hv.1 hv.2
    simp only [enc, Bool.false_eq_true, if_false] at a1
    rw [hH1 _ (by omega)] at a1
    have hk8 : ∀ j, 871 ≤ j → dayF o N Nw r j = r j := fun j hj => k2 j (by omega) (by omega) (by omega) (by omega) (by omega)
    have hx : f_X10_movesIn_b30 (F + 1) v1 v2 k Q = f_X10_movesIn_b30 F v1 v2 ((k : Int) + 1) (ml Q 216 (dayF o N Nw r)) := by
      conv => lhs; unfold f_X10_movesIn_b30
      rw [if_pos (by omega), if_neg (by omega), if_pos (by omega), hQ, if_pos (by omega), if_pos h2v, if_pos hm, hp, zbS]
    by_cases c : dayF o N Nw r (448 + v1).toNat = v2
    · obtain ⟨x, M', r', i1, i2, i3, i4⟩ := ih (k + 1) F (B + 16) M1 (ml Q 216 (dayF o N Nw r)) (dayF o N Nw r) (hdF o N s) (by omega) (by omega) e3 s1 (ml_eq _ _ _) k1 hH1 (by omega) (by omega) c
      push_cast at i1 i2
      rw [ml_ml] at i2
      refine ⟨x, M', r', ?_, ?_, Kp_tr e4 i3, fun j hj => by rw [i4 j hj, hk8 j hj]⟩
      · unfold f_X9_movesIn_b35
        rw [if_pos (by omega), if_neg (by omega), e2, zbS, if_pos hv, a1, if_pos (by omega), if_pos h2v, if_pos c]
        exact i1
      · rw [hx]; exact i2
    · refine ⟨(k : Int) + 1, M1, dayF o N Nw r, ?_, ?_, e4, hk8⟩
      · unfold f_X9_movesIn_b35
        rw [if_pos (by omega), if_neg (by omega), e2, zbS, if_pos hv, a1, if_pos (by omega), if_pos h2v, if_neg c]
      · rw [hx]
        obtain ⟨F, rfl⟩ : ∃ k, F = k + 1 := ⟨F - 1, by omega⟩
        have hm2 := p_mend (v3 := (k : Int) + 1) (Q := ml Q 216 (dayF o N Nw r)) (ml_eq _ _ _) hv h2v (by omega)
        rw [if_neg c, ml_ml] at hm2
        unfold f_X10_movesIn_b30
        rw [if_pos (by omega)]
        by_cases c2 : 60 ≤ (k : Int) + 1
        · rw [if_pos c2]; exact hm2
        · rw [if_neg c2, if_pos (by omega), ml_eq, if_pos (by omega), if_pos h2v, if_neg c]
          exact hm2
/-- movesIn of a shard that is there -/
theorem x_movesIn {v1 : Int} (hv : 0 ≤ v1 ∧ v1 < 16) {B : Int} {M Q : Mem} {r : Row} (hS : ST M 1 r) (W : WF B r) (hQ : Q 216 = r) (hd : r 862 ≤ 10000) (hB : 0 ≤ B ∧ B + 960 ≤ 2147483647) : ∃ x M' r', f_X9_movesIn v1 M = some (x, M') ∧ f_X10_movesIn v1 Q = some (x, ml Q 216 r') ∧ Kp 30 29 M M' ∧ (∀ j, j < 871 → r' j = r j) ∧ ∀ j, 871 ≤ j → j < 5226 → r' j = r j := by
  have hvr : inR v1 := by omega
  have hb := WF1_mov W.1 hv.1 hv.2
  obtain ⟨M1, c1, c2, c3⟩ := q_copy (k := 30) (k1 := 1) hS W.1 (by decide)
  have hc := p_copy (M := Q) (x := 0) (c := 5226) (by decide) (by decide) (by decide)
  rw [hQ, show ((5226 : Nat) : Int) = 5226 from rfl, show ((0 : Nat) : Int) = 0 from rfl] at hc
  have hlow : ∀ j, j < 5226 → cpR r 0 5226 871 j = r j := fun j hj => by unfold cpR; rw [if_neg (by omega)]
  have a1 : M1 46 v1.toNat = enc false (r (448 + v1).toNat) := c2.1.moves hv.1 hv.2
  simp only [enc, Bool.false_eq_true, if_false] at a1
  have W' : WF B (cpR r 0 5226 871) := by
    have e863 := hlow 863 (by decide)
    refine ⟨fun j hj => by rw [e863, hlow j (by omega)]; exact W.1 j hj, WF2_c (by have := WF1_n W.1; omega) (fun j hj => hlow j (by omega)) W.2.1, ?_⟩
    obtain ⟨t1, t2, t3, t4⟩ := W.2.2
    have hn := WF1_nr W.1
    refine ⟨?_, ?_, ?_, fun i i0 i1 => ?_⟩
    · rw [hlow _ (by omega), t1]; exact sumN_congr (fun i hi => (hlow _ (by omega)).symm)
    · rw [hlow _ (by omega), t2]; exact sumN_congr (fun i hi => (hlow _ (by omega)).symm)
    · rw [hlow _ (by omega), t3]; exact sumN_congr (fun i hi => (hlow _ (by omega)).symm)
    · rw [hlow _ (by omega)] at i0
      rw [hlow _ (by omega), hlow _ (by omega)]; exact t4 i i0 i1
  obtain ⟨x, M', r', i1, i2, i3, i4⟩ := x_moves (v1 := v1) (v2 := r (448 + v1).toNat) hv (by omega) 60 0 100000 B M1 (ml Q 216 (cpR r 0 5226 871)) (cpR r 0 5226 871) r (by decide) (by decide) c2 W (ml_eq _ _ _) W' (fun j hj => (hlow j (by omega)).symm) (by rw [hlow _ (by decide)]; omega) (by omega) (hlow _ (by omega))
  rw [show (((0 : Nat) : Int)) = 0 from rfl] at i1 i2
  refine ⟨x, M', cpR r' 5226 0 871, ?_, ?_, Kp_tr (Kp_mo c3 (by decide)) i3, fun j hj => ?_, fun j hj hj2 => ?_⟩
  · unfold f_X9_movesIn
    rw [show f_X9_isShard v1 M = _ from q_isShard hvr, zbS, bitR, bit0, if_pos hv, c1, zbS, if_pos hv, zltS, a1]
    exact i1
  · unfold f_X10_movesIn
    rw [show f_X10_isShard v1 Q = _ from p_isShard hvr, zbS, bitR, bit0, if_pos hv, hc, zbS, if_pos (by omega), zltS, ml_eq, hlow _ (by omega)]
    rw [ml_ml] at i2
    exact i2
  · unfold cpR
    rw [if_pos (by omega), i4 _ (by omega)]
    unfold cpR
    rw [if_pos (by omega), show 0 + (5226 + (j - 0) - 5226) = j by omega]
  · unfold cpR
    rw [if_neg (by omega), i4 _ hj]
    exact hlow j hj2
